/-! ===== rings: the reference's codes ===== -/
theorem nI_div {x y : Nat} (hx : x < 2147483648) (hy : y < 2147483648) : nI x / nI y = nI (x / y) := by
  have hq : x / y ≤ x := Nat.div_le_self x y
  apply Int32.toInt_inj.mp
  rw [Int32.toInt_div, nI_toInt hx, nI_toInt hy, nI_toInt (by omega), show ((x : Int).tdiv (y : Int)) = ((x / y : Nat) : Int) from (Int.ofNat_tdiv x y).symm]
  have h0 : (0 : Int) ≤ ((x / y : Nat) : Int) := Int.natCast_nonneg _
  exact Int.bmod_eq_of_le (by omega) (by omega)
theorem nI_mod {x y : Nat} (hx : x < 2147483648) (hy : y < 2147483648) : nI x - nI x / nI y * nI y = nI (x % y) := by
  rw [nI_div hx hy, nI_mul, nI_sub (Nat.div_mul_le_self x y)]
  congr 1
  have := Nat.div_add_mod x y
  rw [Nat.mul_comm] at this
  omega
/-- place j of a code's row, of L places, with n people -/
def digC (n L c j : Nat) : Nat := c / n ^ (L - 1 - j) % n
section CD
variable {i : Nat → Nat → Int32} {l : Nat → Nat → Int64} {a : Nat → Nat → Int32} {n L c : Nat}
theorem lay_loop (hn1 : 1 ≤ n) (hn : n ≤ 6) (hL : L ≤ 6) (hc : c < 100000) : ∀ (fu m : Nat) (a : Nat → Nat → Int32), m ≤ L → m < fu → a 137 1 = nI n → (∀ j, m ≤ j → j < L → a 141 j = nI (digC n L c j)) → ∃ a1, f_Mo_layRing_b7 fu (mkH i l a) 136 (nI L) (nI (c / n ^ (L - m))) (nI m - 1) = f_Mo_layRing_b44 FU (mkH i l a1) 136 (nI L) 1 0 ∧ (∀ b, b ≠ 141 → a1 b = a b) ∧ ∀ j, j < L → a1 141 j = nI (digC n L c j) := by
  intro fu
  induction fu with
  | zero => intro m _ _ h; omega
  | succ fu ih =>
    intro m a hm hf h7 hA
    show ∃ a1, f_Mo_layRing_b7_k (f_Mo_layRing_b7 fu) _ _ _ _ _ = _ ∧ _
    unfold f_Mo_layRing_b7_k
    cases m with
    | zero => exact ⟨a, by rw [if_pos (by decide)], fun _ _ => rfl, fun j hj => hA j (by omega) hj⟩
    | succ m =>
      have hd : c / n ^ (L - (m + 1)) ≤ c := Nat.div_le_self _ _
      have e : nI (m + 1) - 1 = nI m := nI_sub (a := m + 1) (b := 1) (by omega)
      have hn0 : ¬ nI n = 0 := by
        rw [show (0 : Int32) = nI 0 from rfl, nI_eq' (by omega) (by omega)]
        omega
      rw [e, if_neg (by rw [nI_lt0 (by omega)]; exact id), r_136_6, o_136, Mo_many_ok, cP_s, h7]
      unfold dI
      rw [if_neg hn0, nI_mod (by omega) (by omega), s_141 (by omega), o_136, Mo_many_ok, cP_s, vu_n (by omega), h7, if_neg hn0, nI_div (by omega) (by omega), lt_e, nI_m1, Nat.div_div_eq_div_mul, ← Nat.pow_succ, show (L - (m + 1)).succ = L - m by omega]
      obtain ⟨a1, f1, e1, z1⟩ := ih m (va_up a 141 (upd (a 141) m (nI (c / n ^ (L - (m + 1)) % n)))) (by omega) (by omega) ((congrFun (vu_n (by omega)) 1).trans h7) (fun j h1 h2 => by
        rw [vu_s]
        by_cases ej : j = m
        · rw [ej, ud_s]
          unfold digC
          rw [show L - 1 - m = L - (m + 1) by omega]
        · rw [ud_n ej]
          exact hA j (by omega) h2)
      exact ⟨a1, f1, fun b hb => (e1 b hb).trans (vu_n hb), z1⟩
end CD
