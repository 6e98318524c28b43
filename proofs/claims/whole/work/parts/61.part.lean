/-! ===== calls: part; the least favour of one for another ===== -/
def lst (v : Nat → Int32) (dy : Nat) (p q : Int32) : Nat → Int32
  | 0 => -1
  | j + 1 => if v (14 + (j * 7 + 1)) = p ∧ v (14 + (j * 7 + 2)) = q ∧ 0 < uN v j dy then (if lst v dy p q j = -1 then nI j else if uN v (lst v dy p q j).toNatClampNeg dy ≤ uN v j dy then lst v dy p q j else nI j) else lst v dy p q j
theorem lst_is (v : Nat → Int32) (dy : Nat) (p q : Int32) : ∀ j, lst v dy p q j = -1 ∨ ∃ g, g < j ∧ lst v dy p q j = nI g
  | 0 => Or.inl rfl
  | j + 1 => by
    have I := lst_is v dy p q j
    have up : lst v dy p q j = -1 ∨ ∃ g, g < j + 1 ∧ lst v dy p q j = nI g := by
      rcases I with h | ⟨g, h1, h2⟩
      · exact Or.inl h
      · exact Or.inr ⟨g, by omega, h2⟩
    show (if v (14 + (j * 7 + 1)) = p ∧ v (14 + (j * 7 + 2)) = q ∧ 0 < uN v j dy then (if lst v dy p q j = -1 then nI j else if uN v (lst v dy p q j).toNatClampNeg dy ≤ uN v j dy then lst v dy p q j else nI j) else lst v dy p q j) = -1 ∨ ∃ g, g < j + 1 ∧ (if v (14 + (j * 7 + 1)) = p ∧ v (14 + (j * 7 + 2)) = q ∧ 0 < uN v j dy then (if lst v dy p q j = -1 then nI j else if uN v (lst v dy p q j).toNatClampNeg dy ≤ uN v j dy then lst v dy p q j else nI j) else lst v dy p q j) = nI g
    split
    · split
      · exact Or.inr ⟨j, by omega, rfl⟩
      · split
        · exact up
        · exact Or.inr ⟨j, by omega, rfl⟩
    · exact up
section PT
variable {i : Nat → Nat → Int32} {l : Nat → Nat → Int64} {a : Nat → Nat → Int32} {v : Nat → Int32} {n nf nn np dy : Nat}
theorem cheap_loop (hN : Now i a v n nf nn np dy) (p q : Int32) : ∀ (fu j : Nat), j ≤ nf → nf - j < fu → f_St_cheapest_b5 (mkH i l a) fu 2 p q (lst v dy p q j) (nI j) = some (lst v dy p q nf) := by
  obtain ⟨⟨a1, a2, a3, a4, a5⟩, ⟨b1, b2, b3, b4, b5, b6⟩, ⟨c1, c2, c3, c4, c5⟩, ⟨d1, d2, d3, d4, d5⟩⟩ := id hN
  intro fu
  induction fu with
  | zero => intro j _ h; omega
  | succ fu ih =>
    intro j hj hfu
    show f_St_cheapest_b5_k _ (f_St_cheapest_b5 _ fu) _ _ _ _ _ = _
    unfold f_St_cheapest_b5_k f_St_cheapest_b58 f_St_cheapest_b59 f_St_cheapest_b85 f_St_cheapest_b88
    by_cases h : j = nf
    · subst h
      rw [r_2_1, g_5_2, b3, ifn_y (by omega) (by omega) (by omega)]
    · have hjn : j < nf := by omega
      have I := ih (j + 1) (by omega) (by omega)
      have S : lst v dy p q (j + 1) = if v (14 + (j * 7 + 1)) = p ∧ v (14 + (j * 7 + 2)) = q ∧ 0 < uN v j dy then (if lst v dy p q j = -1 then nI j else if uN v (lst v dy p q j).toNatClampNeg dy ≤ uN v j dy then lst v dy p q j else nI j) else lst v dy p q j := rfl
      have uj := (uN_ok hN hjn hN.1.1.2).2
      rw [r_2_1, g_5_2, b3, ifn_n (by omega) (by omega) (by omega), r_2_1, o_5, c_at (t := 5) (m := 12) (w := 7) (c := 1) (k := 1) (by decide) rfl b3 a3.2 hjn (by omega), cP_s, show a (5 + 1) (j * 7 + 1) = v (14 + (j * 7 + 1)) from d2 _ (by omega), nI_1]
      simp only [r_2_1, o_5, o_2, c_at (t := 5) (m := 12) (w := 7) (c := 2) (k := 2) (by decide) rfl b3 a3.2 hjn (show 2 < 7 by omega), cP_s, show a (5 + 1) (j * 7 + 2) = v (14 + (j * 7 + 2)) from d2 _ (by omega), vNw hN hjn, u0 uj, if_true, n10, if_false]
      by_cases e1 : v (14 + (j * 7 + 1)) = p
      · rw [if_pos e1]
        by_cases e2 : v (14 + (j * 7 + 2)) = q
        · rw [if_pos e2]
          by_cases e3 : uN v j dy = 0
          · rw [if_neg (fun x => by omega)] at S
            rw [if_pos e3, ← S]
            exact I
          · rw [if_pos ⟨e1, e2, by omega⟩] at S
            rw [if_neg e3]
            rcases lst_is v dy p q j with e4 | ⟨g, hg, e4⟩
            · rw [if_pos e4] at S
              rw [if_pos e4, ← S]
              exact I
            · have hn1 : ¬ lst v dy p q j = -1 := by
                rw [e4, nI_neg1 (by omega)]
                exact id
              rw [if_neg hn1, e4, nI_cl (by omega)] at S
              have ug := (uN_ok hN (show g < nf by omega) hN.1.1.2).2
              rw [if_neg hn1, e4, vNw hN (by omega), cP_s]
              by_cases e5 : uN v g dy ≤ uN v j dy
              · rw [if_pos e5] at S
                rw [ifn_y (by omega) (by omega) e5, ← S]
                exact I
              · rw [if_neg e5] at S
                rw [ifn_n (by omega) (by omega) e5, ← S]
                exact I
        · rw [if_neg (fun x => e2 x.2.1)] at S
          rw [if_neg e2, ← S]
          exact I
      · rw [if_neg (fun x => e1 x.1)] at S
        rw [if_neg e1, ← S]
        exact I
theorem least_loop (hN : Now i a v n nf nn np dy) {i1 a1 : Nat → Nat → Int32} (h7 : a1 137 = v) (p q : Int32) : ∀ (fu j : Nat), j ≤ nf → nf - j < fu → f_Mo_leastOf_b5 (mkH i1 l a1) fu 136 p q (lst v dy p q j) (nI j) = some (lst v dy p q nf) := by
  have a3 := hN.1.2.2.1
  intro fu
  induction fu with
  | zero => intro j _ h; omega
  | succ fu ih =>
    intro j hj hfu
    show f_Mo_leastOf_b5_k _ (f_Mo_leastOf_b5 _ fu) _ _ _ _ _ = _
    unfold f_Mo_leastOf_b5_k f_Mo_leastOf_b53 f_Mo_leastOf_b54 f_Mo_leastOf_b80 f_Mo_leastOf_b85 f_Mo_leastOf_b86
    by_cases h : j = nf
    · subst h
      rw [r_136_0, b_137 (x := 158) (m := 158) rfl (by omega), h7, a3.1, ifn_y (by omega) (by omega) (by omega)]
    · have hjn : j < nf := by omega
      have I := ih (j + 1) (by omega) (by omega)
      have S : lst v dy p q (j + 1) = if v (14 + (j * 7 + 1)) = p ∧ v (14 + (j * 7 + 2)) = q ∧ 0 < uN v j dy then (if lst v dy p q j = -1 then nI j else if uN v (lst v dy p q j).toNatClampNeg dy ≤ uN v j dy then lst v dy p q j else nI j) else lst v dy p q j := rfl
      have uj := (uN_ok hN hjn hN.1.1.2).2
      rw [r_136_0, b_137 (x := 158) (m := 158) rfl (by omega), h7, a3.1, ifn_n (by omega) (by omega) (by omega), o_136, told_1 (c := 1) (k := 1) h7 rfl (by omega) (by omega) rfl, cP_s, nI_1]
      have T2 : f_Mo_told0 (mkH i1 l a1) 136 (nI j) 2 = some (v (14 + (j * 7 + 2))) := told_1 (c := 2) (k := 2) h7 rfl (by omega) (by omega) rfl
      have VJ : f_Mo_valueNow (mkH i1 l a1) 136 (nI j) = some (nI (uN v j dy)) := mNw hN hjn h7
      simp only [o_136, T2, cP_s, VJ, u0 uj, if_true, n10, if_false]
      by_cases e1 : v (14 + (j * 7 + 1)) = p
      · rw [if_pos e1]
        by_cases e2 : v (14 + (j * 7 + 2)) = q
        · rw [if_pos e2]
          by_cases e3 : uN v j dy = 0
          · rw [if_neg (fun x => by omega)] at S
            rw [if_pos e3, ← S]
            exact I
          · rw [if_pos ⟨e1, e2, by omega⟩] at S
            rw [if_neg e3]
            rcases lst_is v dy p q j with e4 | ⟨g, hg, e4⟩
            · rw [if_pos e4] at S
              rw [if_pos e4, ← S]
              exact I
            · have hn1 : ¬ lst v dy p q j = -1 := by
                rw [e4, nI_neg1 (by omega)]
                exact id
              rw [if_neg hn1, e4, nI_cl (by omega)] at S
              have ug := (uN_ok hN (show g < nf by omega) hN.1.1.2).2
              rw [if_neg hn1, e4, mNw hN (by omega) h7, cP_s]
              by_cases e5 : uN v g dy ≤ uN v j dy
              · rw [if_pos e5] at S
                rw [ifn_y (by omega) (by omega) e5, ← S]
                exact I
              · rw [if_neg e5] at S
                rw [ifn_n (by omega) (by omega) e5, ← S]
                exact I
        · rw [if_neg (fun x => e2 x.2.1)] at S
          rw [if_neg e2, ← S]
          exact I
      · rw [if_neg (fun x => e1 x.1)] at S
        rw [if_neg e1, ← S]
        exact I
theorem cheap_ok (hN : Now i a v n nf nn np dy) (p q : Int32) : f_St_cheapest (mkH i l a) 2 p q = some (lst v dy p q nf) := cheap_loop hN p q FU 0 (by omega) (FU_lt (by have := hN.1.2.2.1.2; omega))
theorem least_ok (hN : Now i a v n nf nn np dy) {i1 a1 : Nat → Nat → Int32} (h7 : a1 137 = v) (p q : Int32) : f_Mo_leastOf (mkH i1 l a1) 136 p q = some (lst v dy p q nf) := least_loop hN h7 p q FU 0 (by omega) (FU_lt (by have := hN.1.2.2.1.2; omega))
theorem call_part (H : Inv i l a) (q : Int32) : Call (fun G => f_Fa_part G 0 q) (fun G => f_Mo_part G 136 q) i l a := by
  obtain ⟨q1, q2⟩ := H.2.2.2.2.2.2.2.1
  by_cases e0 : q = 0
  · subst e0
    refine call_ask (r := l 135 0) H ?_ ?_
    · unfold f_Fa_part f_Fa_part_b38
      rw [show f_Fa_isWithin (mkH i l a) 0 0 1 = some 1 from Fa_wi_in (p := 0) (x := 0) (y := 1) (lo := 0) (hi := 1) rfl rfl (by omega) (by omega) (by omega), cP_s, if_neg n10, if_pos rfl, r_0_9, l_135_0]
    · unfold f_Mo_part f_Mo_part_b30
      rw [if_pos rfl, l_136_4, q1]
  by_cases e1 : q = 1
  · subst e1
    refine call_ask (r := l 135 1) H ?_ ?_
    · unfold f_Fa_part f_Fa_part_b38
      rw [show f_Fa_isWithin (mkH i l a) 1 0 1 = some 1 from Fa_wi_in (p := 1) (x := 0) (y := 1) (lo := 0) (hi := 1) rfl rfl (by omega) (by omega) (by omega), cP_s, if_neg n10, if_neg n10, r_0_9, l_135_1]
    · unfold f_Mo_part f_Mo_part_b30
      rw [if_neg n10, if_pos rfl, l_136_5, q2]
  rcases rng2 q (lo := 0) (hi := 1) (by omega) (by omega) with ⟨m, h1, h2, rfl⟩ | h
  · have : m = 0 ∨ m = 1 := by omega
    rcases this with rfl | rfl
    · exact absurd rfl e0
    · exact absurd rfl e1
  · refine ⟨(-2 : Int32).toInt64, up2 i 0 10 (i 0 10 + 1), l, a, up2 i 0 10 (i 0 10 + 1), l, va_up a 140 (upd (a 140) 0 (a 140 0 + 1)), ?_, ?_, inv_ref (Or.inl ⟨rfl, rfl⟩) H⟩
    · show f_Fa_part _ 0 _ = _
      unfold f_Fa_part
      rw [Fa_wi_out (x := 0) (y := 1) h, cP_s, if_pos rfl, O_0, Fa_bad_ok, cH_s]
    · show f_Mo_part _ 136 _ = _
      unfold f_Mo_part f_Mo_part_b30
      rw [if_neg e0, if_neg e1, O_136, Mo_bad_ok, cH_s]
end PT
