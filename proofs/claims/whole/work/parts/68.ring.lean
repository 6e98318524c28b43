/-! ===== rings: codes and rows ===== -/
def encC (n : Nat) (r : Nat → Nat) : Nat → Nat
  | 0 => 0
  | L + 1 => encC n r L * n + r L
theorem encC_lt {n : Nat} {r : Nat → Nat} : ∀ L, (∀ j, j < L → r j < n) → encC n r L < n ^ L
  | 0, _ => by
    rw [Nat.pow_zero]
    exact Nat.one_pos
  | L + 1, h => by
    have I := encC_lt L (fun j hj => h j (by omega))
    have J := h L (by omega)
    have K : (encC n r L + 1) * n ≤ n ^ L * n := Nat.mul_le_mul_right n I
    rw [Nat.add_mul, Nat.one_mul] at K
    rw [Nat.pow_succ]
    show encC n r L * n + r L < _
    omega
theorem digC_s {n L c j : Nat} (hj : j < L) : digC n (L + 1) c j = digC n L (c / n) j := by
  unfold digC
  rw [Nat.div_div_eq_div_mul, Nat.mul_comm n, ← Nat.pow_succ, show (L - 1 - j).succ = L + 1 - 1 - j by omega]
theorem digC_l {n L c : Nat} : digC n (L + 1) c L = c % n := by
  unfold digC
  rw [show L + 1 - 1 - L = 0 by omega, Nat.pow_zero, Nat.div_one]
theorem digC_enc {n : Nat} {r : Nat → Nat} : ∀ L, (∀ j, j < L → r j < n) → ∀ j, j < L → digC n L (encC n r L) j = r j
  | 0, _ => fun j hj => by omega
  | L + 1, h => fun j hj => by
    have J := h L (by omega)
    by_cases e : j = L
    · subst e
      rw [digC_l]
      show (encC n r j * n + r j) % n = _
      rw [Nat.mul_comm, Nat.mul_add_mod, Nat.mod_eq_of_lt J]
    · rw [digC_s (by omega), show encC n r (L + 1) / n = encC n r L by
        show (encC n r L * n + r L) / n = _
        rw [Nat.mul_comm, Nat.mul_add_div (by omega), Nat.div_eq_of_lt J, Nat.add_zero]]
      exact digC_enc L (fun j hj => h j (by omega)) j (by omega)
theorem code_lt {n : Nat} (hn : 1 ≤ n) : ∀ (L c c' : Nat), c < c' → c' < n ^ L → ∃ k, k < L ∧ (∀ j, j < k → digC n L c j = digC n L c' j) ∧ digC n L c k < digC n L c' k
  | 0, c, c', h, h' => by
    rw [Nat.pow_zero] at h'
    omega
  | L + 1, c, c', h, h' => by
    have hq : c' / n < n ^ L := by
      rw [Nat.pow_succ] at h'
      exact Nat.div_lt_of_lt_mul (by rw [Nat.mul_comm]; exact h')
    have hle : c / n ≤ c' / n := Nat.div_le_div_right (by omega)
    by_cases e : c / n = c' / n
    · refine ⟨L, by omega, fun j hj => by rw [digC_s hj, digC_s hj, e], ?_⟩
      rw [digC_l, digC_l]
      have e1 := Nat.div_add_mod c n
      have e2 := Nat.div_add_mod c' n
      rw [e] at e1
      omega
    · obtain ⟨k, hk, h1, h2⟩ := code_lt hn L (c / n) (c' / n) (by omega) hq
      exact ⟨k, by omega, fun j hj => by rw [digC_s (by omega), digC_s (by omega)]; exact h1 j hj, by rw [digC_s hk, digC_s hk]; exact h2⟩
theorem RingP.c {D : Nat → Nat → Nat} {n L : Nat} {r r' : Nat → Nat} (h : ∀ j, j < L → r j = r' j) (hr : RingP D n L r) : RingP D n L r' := by
  refine ⟨fun j hj => ?_, fun j hj e he => ?_, fun j hj => ?_, fun j hj => ?_⟩
  · rw [← h j hj]; exact hr.1 j hj
  · rw [← h j hj, ← h e (by omega)]; exact hr.2.1 j hj e he
  · rw [← h j hj, ← h 0 (by omega)]; exact hr.2.2.1 j hj
  · rw [← h j hj, ← h _ (Nat.mod_lt _ (by omega))]; exact hr.2.2.2 j hj
theorem pow_b {n L : Nat} (hn : n ≤ 6) (hL : L ≤ 6) : n ^ L ≤ 46656 := by
  have : n ^ L ≤ 6 ^ L := Nat.pow_le_pow_left hn L
  have h2 : 6 ^ L ≤ 6 ^ 6 := Nat.pow_le_pow_right (by omega) hL
  have h3 : (6 : Nat) ^ 6 = 46656 := by decide
  omega
section RC
variable {i : Nat → Nat → Int32} {l : Nat → Nat → Int64} {a : Nat → Nat → Int32} {v : Nat → Int32} {n nf nn np dy L : Nat}
theorem Mo_b36 (hN : Now i a v n nf nn np dy) (hL2 : 1 ≤ L) (hL : L ≤ 6) (K : Hp → Nat → Int32 → Int32 → Option Hp) {i1 : Nat → Nat → Int32} (h0 : i1 136 7 = 0) : ∀ (fu c : Nat) (a1 : Nat → Nat → Int32), a1 137 = v → c ≤ n ^ L → n ^ L - c < fu → (∀ c', c' < c → ¬ RingP (owN v nf dy) n L (digC n L c')) → ∃ a2, (∀ b, b ≠ 141 → a2 b = a1 b) ∧ ((∃ cc, cc < n ^ L ∧ RingP (owN v nf dy) n L (digC n L cc) ∧ (∀ c', c' < cc → ¬ RingP (owN v nf dy) n L (digC n L c')) ∧ (∀ j, j < L → a2 141 j = nI (digC n L cc j)) ∧ f_Mo_findRing_b36 K fu (mkH i1 l a1) 136 (nI (n ^ L)) (nI L) (nI c) = K (mkH (up2 i1 136 7 (nI L)) l a2) 136 (nI (n ^ L)) (nI (L + 1))) ∨ ((∀ c', c' < n ^ L → ¬ RingP (owN v nf dy) n L (digC n L c')) ∧ f_Mo_findRing_b36 K fu (mkH i1 l a1) 136 (nI (n ^ L)) (nI L) (nI c) = K (mkH i1 l a2) 136 (nI (n ^ L)) (nI (L + 1)))) := by
  have hn := hN.1.2.1
  have hb := pow_b hn.2.2 hL
  intro fu
  induction fu with
  | zero => intro c _ _ _ h; omega
  | succ fu ih =>
    intro c a1 h7 hc hf hF
    show ∃ a2, _ ∧ ((∃ cc, _ ∧ _ ∧ _ ∧ _ ∧ f_Mo_findRing_b36_k K (f_Mo_findRing_b36 K fu) _ _ _ _ _ = _) ∨ (_ ∧ f_Mo_findRing_b36_k K (f_Mo_findRing_b36 K fu) _ _ _ _ _ = _))
    unfold f_Mo_findRing_b36_k f_Mo_findRing_b72
    by_cases h : c = n ^ L
    · subst h
      exact ⟨a1, fun _ _ => rfl, Or.inr ⟨hF, by rw [ifn_y (by omega) (by omega) (by omega), nI_s1]⟩⟩
    · obtain ⟨a2, e1, z1, g⟩ := layRing_ok (i1 := i1) (l := l) (a1 := a1) hN h7 hL (c := c) (by omega)
      rw [ifn_n (by omega) (by omega) (by omega), g_136_7, h0, if_pos rfl, O_136]
      rcases g with ⟨q, f1⟩ | ⟨q, f1⟩
      · rw [f1, cH_s, if_neg n10]
        refine ⟨a2, e1, Or.inl ⟨c, by omega, q, hF, z1, ?_⟩⟩
        unfold f_Mo_findRing_b63
        rw [p_136_7]
        cases fu with
        | zero => omega
        | succ fu =>
          show f_Mo_findRing_b36_k K (f_Mo_findRing_b36 K fu) _ _ _ _ _ = _
          unfold f_Mo_findRing_b36_k f_Mo_findRing_b72
          have hL0 : ¬ nI L = 0 := by
            rw [show (0 : Int32) = nI 0 from rfl, nI_eq' (by omega) (by omega)]
            omega
          rw [g_136_7, up2_s, if_neg hL0, nI_s1, nI_s1, ite_self]
      · rw [f1, cH_s, if_pos rfl]
        unfold f_Mo_findRing_b63
        rw [p_136_7, up2_id h0, nI_s1]
        obtain ⟨a3, e3, g3⟩ := ih (c + 1) a2 ((e1 137 (by omega)).trans h7) (by omega) (by omega) (fun c' hc' => by
          by_cases ec : c' = c
          · rw [ec]; exact q
          · exact hF c' (by omega))
        exact ⟨a3, fun b hb => (e3 b hb).trans (e1 b hb), g3⟩
theorem Mo_b12 (hN : Now i a v n nf nn np dy) {i1 : Nat → Nat → Int32} (h0 : i1 136 7 = 0) : ∀ (fu M : Nat) (a1 : Nat → Nat → Int32), a1 137 = v → 2 ≤ M → M ≤ n + 1 → n + 1 - M < fu → (∀ M', 2 ≤ M' → M' < M → ∀ r', ¬ RingP (owN v nf dy) n M' r') → ∃ a2 x, f_Mo_findRing_b12 fu (mkH i1 l a1) 136 (nI (n ^ (M - 1))) (nI M) = some (mkH (up2 i1 136 7 x) l a2) ∧ (∀ b, b ≠ 141 → a2 b = a1 b) ∧ RingRes (owN v nf dy) n x (a2 141) := by
  have hn := hN.1.2.1
  intro fu
  induction fu with
  | zero => intro M _ _ _ _ h; omega
  | succ fu ih =>
    intro M a1 h7 hM hMn hf hF
    show ∃ a2 x, f_Mo_findRing_b12_k (f_Mo_findRing_b12 fu) _ _ _ _ = _ ∧ _
    unfold f_Mo_findRing_b12_k f_Mo_findRing_b78
    by_cases h : n < M
    · refine ⟨a1, 0, ?_, fun _ _ => rfl, Or.inr ⟨rfl, fun M' h1 h2 => hF M' h1 (by omega)⟩⟩
      rw [o_136, Mo_many_ok, cP_s, h7, hn.1, if_pos (by rw [nI_lt' (by omega) (by omega)]; exact h), up2_id h0]
    · have E : nI (n ^ (M - 1)) * nI n = nI (n ^ M) := by rw [nI_mul, ← Nat.pow_succ, show (M - 1).succ = M by omega]
      rw [o_136, Mo_many_ok, cP_s, h7, hn.1, if_neg (by rw [nI_lt' (by omega) (by omega)]; exact h), g_136_7, h0, if_pos rfl, o_136, cP_s, lt_e, E]
      obtain ⟨a2, e2, g⟩ := Mo_b36 (l := l) hN (show 1 ≤ M by omega) (by omega) (f_Mo_findRing_b12 fu) h0 FU 0 a1 h7 (Nat.zero_le _) (FU_lt (by have := pow_b hn.2.2 (show M ≤ 6 by omega); omega)) (fun c' h => by omega)
      rcases g with ⟨cc, q1, q2, q3, q4, q5⟩ | ⟨q1, q5⟩
      · refine ⟨a2, nI M, q5.trans ?_, e2, Or.inl ⟨M, digC n M cc, hM, by omega, rfl, q2, q4, hF, fun r' hr' => ?_⟩⟩
        · cases fu with
          | zero => omega
          | succ fu =>
            show f_Mo_findRing_b12_k (f_Mo_findRing_b12 fu) _ _ _ _ = _
            unfold f_Mo_findRing_b12_k f_Mo_findRing_b78
            have hM0 : ¬ nI M = 0 := by
              rw [show (0 : Int32) = nI 0 from rfl, nI_eq' (by omega) (by omega)]
              omega
            rw [o_136, Mo_many_ok, cP_s, g_136_7, up2_s, if_neg hM0, ite_self]
        · have d1 := digC_enc M hr'.1
          have d2 := encC_lt M hr'.1
          have d3 : RingP (owN v nf dy) n M (digC n M (encC n r' M)) := hr'.c fun j hj => (d1 j hj).symm
          have L1 : lexN (digC n M cc) (digC n M (encC n r' M)) M := by
            rcases Nat.lt_trichotomy cc (encC n r' M) with e | e | e
            · exact Or.inr (code_lt (by omega) M _ _ e d2)
            · rw [← e]
              exact Or.inl fun _ _ => rfl
            · exact absurd d3 (q3 _ e)
          rcases L1 with L1 | ⟨k, k1, k2, k3⟩
          · exact Or.inl fun j hj => (L1 j hj).trans (d1 j hj)
          · exact Or.inr ⟨k, k1, fun j hj => (k2 j hj).trans (d1 j (by omega)), by rw [← d1 k k1]; exact k3⟩
      · obtain ⟨a3, x, k1, k2, k3⟩ := ih (M + 1) a2 ((e2 137 (by omega)).trans h7) (by omega) (by omega) (by omega) (fun M' h1 h2 r' hr' => by
          by_cases e : M' = M
          · subst e
            exact q1 _ (encC_lt M' hr'.1) (hr'.c fun j hj => (digC_enc M' hr'.1 j hj).symm)
          · exact hF M' h1 (by omega) r' hr')
        rw [show M + 1 - 1 = M by omega] at k1
        exact ⟨a3, x, q5.trans k1, fun b hb => (k2 b hb).trans (e2 b hb), k3⟩
theorem Mo_find_ok (hN : Now i a v n nf nn np dy) {i1 a1 : Nat → Nat → Int32} (h7 : a1 137 = v) : ∃ a2 x, f_Mo_findRing (mkH i1 l a1) 136 = some (mkH (up2 i1 136 7 x) l a2) ∧ (∀ b, b ≠ 141 → a2 b = a1 b) ∧ RingRes (owN v nf dy) n x (a2 141) := by
  have hn := hN.1.2.1
  obtain ⟨a2, x, k1, k2, k3⟩ := Mo_b12 (l := l) (i1 := up2 i1 136 7 0) hN up2_s FU 2 a1 h7 (by omega) (by omega) (FU_lt (by omega)) (fun M' h1 h2 => by omega)
  refine ⟨a2, x, ?_, k2, k3⟩
  rw [up2_u, show n ^ (2 - 1) = n from Nat.pow_one n] at k1
  unfold f_Mo_findRing
  rw [p_136_7, o_136, Mo_many_ok, cP_s, h7, hn.1]
  exact k1
end RC
