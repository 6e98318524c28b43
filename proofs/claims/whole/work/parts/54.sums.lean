/-! ===== worth as a number; the debts added up; calls: goesOff, owes, net ===== -/
def uN (v : Nat → Int32) (f d : Nat) : Nat := (valF (fv v) f (nI d)).toNatClampNeg
def sumTo (g : Nat → Nat) : Nat → Nat
  | 0 => 0
  | j + 1 => sumTo g j + g j
theorem sumTo_c {g g' : Nat → Nat} : ∀ n, (∀ j, j < n → g j = g' j) → sumTo g n = sumTo g' n
  | 0, _ => rfl
  | n + 1, h => by
    unfold sumTo
    rw [sumTo_c n (fun j hj => h j (by omega)), h n (by omega)]
theorem Now.e {i a i1 a1 : Nat → Nat → Int32} {v : Nat → Int32} {n nf nn np dy : Nat} (h : Now i a v n nf nn np dy) (hE : Eq2 (fun b => 2 ≤ b ∧ b ≤ 12) i a i1 a1) : Now i1 a1 v n nf nn np dy := by
  obtain ⟨h1, ⟨b1, b2, b3, b4, b5, b6⟩, h3, ⟨d1, d2, d3, d4, d5⟩⟩ := h
  refine ⟨h1, ⟨by rw [(hE 2 (by omega)).1]; exact b1, by rw [(hE 3 (by omega)).1]; exact b2, by rw [(hE 5 (by omega)).1]; exact b3, by rw [(hE 7 (by omega)).1]; exact b4, by rw [(hE 9 (by omega)).1]; exact b5, by rw [(hE 11 (by omega)).1]; exact b6⟩, h3, ⟨by rw [(hE 4 (by omega)).2]; exact d1, by rw [(hE 6 (by omega)).2]; exact d2, by rw [(hE 8 (by omega)).2]; exact d3, by rw [(hE 10 (by omega)).2]; exact d4, by rw [(hE 12 (by omega)).2]; exact d5⟩⟩
section SM
variable {i : Nat → Nat → Int32} {l : Nat → Nat → Int64} {a : Nat → Nat → Int32} {v : Nat → Int32} {n nf nn np dy : Nat}
theorem uN_ok (hN : Now i a v n nf nn np dy) {f d : Nat} (hf : f < nf) (hd : d ≤ 99) : valF (fv v) f (nI d) = nI (uN v f d) ∧ uN v f d ≤ 49 := by
  obtain ⟨u, hu, e⟩ := val_n hN.sw.1 hf hd
  unfold uN
  rw [e, nI_cl (by omega)]
  exact ⟨rfl, hu⟩
theorem vOn (hN : Now i a v n nf nn np dy) {f d : Nat} (hf : f < nf) (hd : d ≤ 99) : f_St_valueOn (mkH i l a) 2 (nI f) (nI d) = some (nI (uN v f d)) := by
  rw [St_valueOn_ok hN.sw.2.1 hf, ← (uN_ok hN hf hd).1]
  congr 1
  exact valF_c (fun k hk => hN.2.2.2.2.1 _ (by omega))
theorem vNw (hN : Now i a v n nf nn np dy) {f : Nat} (hf : f < nf) : f_St_valueNow (mkH i l a) 2 (nI f) = some (nI (uN v f dy)) := by
  rw [St_valueNow_ok hN.sw.2.1 hf, hN.2.1.1, ← (uN_ok hN hf hN.1.1.2).1]
  congr 1
  exact valF_c (fun k hk => hN.2.2.2.2.1 _ (by omega))
theorem mOn (hN : Now i a v n nf nn np dy) {f d : Nat} (hf : f < nf) (hd : d ≤ 99) {i1 : Nat → Nat → Int32} {l1 : Nat → Nat → Int64} {a1 : Nat → Nat → Int32} (h : a1 137 = v) : f_Mo_valueOf (mkH i1 l1 a1) 136 (nI f) (nI d) = some (nI (uN v f d)) := by
  rw [Mo_valueOf_ok (n := n) (nf := nf) (nn := nn) (np := np) (dy := dy) (by rw [h]; exact hN.sw.1) hf hd, h, (uN_ok hN hf hd).1]
theorem mNw (hN : Now i a v n nf nn np dy) {f : Nat} (hf : f < nf) {i1 : Nat → Nat → Int32} {l1 : Nat → Nat → Int64} {a1 : Nat → Nat → Int32} (h : a1 137 = v) : f_Mo_valueNow (mkH i1 l1 a1) 136 (nI f) = some (nI (uN v f dy)) := by
  rw [Mo_valueNow_ok (n := n) (nf := nf) (nn := nn) (np := np) (dy := dy) (by rw [h]; exact hN.sw.1) hf, h, (uN_ok hN hf hN.1.1.2).1]
theorem ifn_y {α : Type} {k j : Nat} {x y : α} (hk : k < 2147483648) (hj : j < 2147483648) (h : k ≤ j) : (if nI k ≤ nI j then x else y) = x := if_pos (by rw [nI_le' hk hj]; exact h)
theorem ifn_n {α : Type} {k j : Nat} {x y : α} (hk : k < 2147483648) (hj : j < 2147483648) (h : ¬ k ≤ j) : (if nI k ≤ nI j then x else y) = y := if_neg (by rw [nI_le' hk hj]; exact h)
theorem goes_Fa (hN : Now i a v n nf nn np dy) {d : Nat} (hd : d ≤ 99) : ∀ (fu j : Nat), j ≤ nf → nf - j < fu → f_Fa_goesOff_b19 fu (mkH i l a) 0 (nI d) (nI (sumTo (fun f => uN v f dy - uN v f d) j)) (nI j) = some (nI (sumTo (fun f => uN v f dy - uN v f d) nf), mkH i l a) := by
  have b3 := hN.2.1.2.2.1
  have a3 := hN.1.2.2.1.2
  intro fu
  induction fu with
  | zero => intro j _ h; omega
  | succ fu ih =>
    intro j hj hn
    show f_Fa_goesOff_b19_k (f_Fa_goesOff_b19 fu) _ _ _ _ _ = _
    unfold f_Fa_goesOff_b19_k
    by_cases h : j = nf
    · subst h
      rw [r_0_3, r_2_1, g_5_2, b3, ifn_y (by omega) (by omega) (by omega)]
    · have e1 := uN_ok hN (show j < nf by omega) hN.1.1.2
      have e2 := uN_ok hN (show j < nf by omega) hd
      rw [r_0_3, r_2_1, g_5_2, b3, ifn_n (by omega) (by omega) (by omega), r_0_3, o_2, vNw hN (by omega), cP_s, r_0_3, o_2, vOn hN (by omega) hd, cP_s, lt_e, mx_sub (by omega) (by omega), nI_add, nI_1]
      exact ih (j + 1) (by omega) (by omega)
theorem goes_Mo (hN : Now i a v n nf nn np dy) {d : Nat} (hd : d ≤ 99) {i1 : Nat → Nat → Int32} {a1 : Nat → Nat → Int32} (h7 : a1 137 = v) : ∀ (fu j : Nat), j ≤ nf → nf - j < fu → f_Mo_goesOff_b27 fu (mkH i1 l a1) 136 (nI d) (nI (sumTo (fun f => uN v f dy - uN v f d) j)) (nI j) = some (nI (sumTo (fun f => uN v f dy - uN v f d) nf), mkH i1 l a1) := by
  have a3 := hN.1.2.2.1
  intro fu
  induction fu with
  | zero => intro j _ h; omega
  | succ fu ih =>
    intro j hj hn
    show f_Mo_goesOff_b27_k (f_Mo_goesOff_b27 fu) _ _ _ _ _ = _
    unfold f_Mo_goesOff_b27_k
    by_cases h : j = nf
    · subst h
      rw [r_136_0, b_137 (x := 158) (m := 158) rfl (by omega), h7, a3.1, ifn_y (by omega) (by omega) (by omega)]
    · have e1 := uN_ok hN (show j < nf by omega) hN.1.1.2
      have e2 := uN_ok hN (show j < nf by omega) hd
      rw [r_136_0, b_137 (x := 158) (m := 158) rfl (by omega), h7, a3.1, ifn_n (by omega) (by omega) (by omega), o_136, mNw hN (by omega) h7, cP_s, o_136, mOn hN (by omega) hd h7, cP_s, Mo_nb0, cP_s, lt_e, mx_sub (by omega) (by omega), nI_add, nI_1]
      exact ih (j + 1) (by omega) (by omega)
theorem call_goesOff (H : Inv i l a) (d : Int32) : Call (fun G => f_Fa_goesOff G 0 d) (fun G => f_Mo_goesOff G 136 d) i l a := by
  obtain ⟨n, nf, nn, np, dy, hN⟩ := now_of H; obtain ⟨⟨a1, a2, a3, a4, a5⟩, ⟨b1, b2, b3, b4, b5, b6⟩, ⟨c1, c2, c3, c4, c5⟩, ⟨d1, d2, d3, d4, d5⟩⟩ := id hN
  rcases ck_wi d (lo := dy) (hi := 99) (c := i 2 5) (d := 99) (c' := (a 137 0).toInt64) (d' := 99) b1 rfl (by rw [a1.1]) rfl a1.2 (by omega) with ⟨F4, M4⟩ | ⟨d, hd1, hd, rfl, F4, M4⟩
  · (refine call_bad (r := -2) H ?_ (fun i1 => ?_); (unfold f_Fa_goesOff f_Fa_isDayToCome; simp only [r_0_3, r_2_0, r_2_1, r_2_2, r_2_3, r_2_4, g_2_5, o_0, o_2, o_3, o_5, o_7, o_9, o_11, O_0, O_2, O_3, O_5, O_7, O_9, O_11, r_0_8, p_124_0, cP_s, cH_s, n10, if_true, if_false, zR_0, zR_1, lt_e, cH_id, F4]); (unfold f_Mo_goesOff; simp only [r_136_0, o_136, O_136, r_136_3, cP_s, cH_s, n10, if_true, if_false, zR_0, zR_1, lt_e, Mo_many_ok, Mo_day_ok, cH_id, M4]))
  · refine call_ask (r := nI (sumTo (fun f => uN (a 137) f dy - uN (a 137) f d) nf)) H ?_ ?_
    · unfold f_Fa_goesOff f_Fa_isDayToCome
      simp only [r_0_3, r_2_0, r_2_1, r_2_2, r_2_3, r_2_4, g_2_5, o_0, o_2, o_3, o_5, o_7, o_9, o_11, O_0, O_2, O_3, O_5, O_7, O_9, O_11, r_0_8, p_124_0, cP_s, cH_s, n10, if_true, if_false, zR_0, zR_1, lt_e, F4]
      exact goes_Fa hN hd FU 0 (by omega) (FU_lt (by omega))
    · unfold f_Mo_goesOff
      simp only [r_136_0, o_136, O_136, r_136_3, cP_s, cH_s, n10, if_true, if_false, zR_0, zR_1, lt_e, Mo_many_ok, Mo_day_ok, M4]
      exact goes_Mo hN hd rfl FU 0 (by omega) (FU_lt (by omega))
end SM
