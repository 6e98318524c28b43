/-! ===== plans: the reference's search ===== -/
def mI (i : Nat → Nat → Int32) (m w : Int32) : Nat → Nat → Int32 := up2 (up2 i 136 12 m) 136 13 w
theorem mI_u {i : Nat → Nat → Int32} {m w m' w' : Int32} : up2 (up2 (mI i m w) 136 12 m') 136 13 w' = mI i m' w' := by
  unfold mI
  rw [up2_ck (b := 136) (k := 13) (k' := 12) (by omega), up2_u, up2_u]
theorem mI_12 {i : Nat → Nat → Int32} {m w : Int32} : mI i m w 136 12 = m := (up2_n (by omega)).trans up2_s
theorem mI_13 {i : Nat → Nat → Int32} {m w : Int32} : mI i m w 136 13 = w := up2_s
theorem mI_n {i : Nat → Nat → Int32} {m w : Int32} {b k : Nat} (h : ¬ (b = 136 ∧ (k = 12 ∨ k = 13))) : mI i m w b k = i b k := by
  unfold mI
  rw [up2_n (by omega), up2_n (by omega)]
theorem nI_p (m : Nat) : nI (m + 1) - 1 = nI m := nI_sub (a := m + 1) (b := 1) (by omega)
section RM
variable {i : Nat → Nat → Int32} {l : Nat → Nat → Int64} {a i1 a1 : Nat → Nat → Int32} {v : Nat → Int32} {n nf nn np dy : Nat}
theorem mval (hN : Now i a v n nf nn np dy) (h7 : a1 137 = v) {k f : Nat} (hk : k < nn) (hf : f < nf) : f_Mo_valueOf (mkH i1 l a1) 136 (nI f) (v (98 + (k * 4 + 3))) = some (nI (wthN v k f)) := by
  obtain ⟨p, t, s, d, -, -, -, ⟨e, hd⟩⟩ := hN.2.2.1.2.2.1 k hk
  have := mOn (l1 := l) (i1 := i1) hN hf hd h7
  unfold wthN
  rw [e]
  exact this
theorem may_ok (hN : Now i a v n nf nn np dy) (h7 : a1 137 = v) {k f : Nat} (hk : k < nn) (hf : f < nf) : (mayN v k f ∧ f_Mo_mayMeet (mkH i1 l a1) 136 (nI k) (nI f) = some 1) ∨ (¬ mayN v k f ∧ f_Mo_mayMeet (mkH i1 l a1) 136 (nI k) (nI f) = some 0) := by
  have hnf := hN.1.2.2.1.2
  have hnn := hN.1.2.2.2.1.2
  have W := wth_ok hN hk hf
  unfold f_Mo_mayMeet f_Mo_mayMeet_b34 f_Mo_mayMeet_b35 f_Mo_mayMeet_b64 f_Mo_mayMeet_b65 mayN
  rw [o_136, told_1 (c := 2) (k := 2) h7 rfl (by omega) (by omega) rfl, cP_s, o_136, need_1 (x := 0) (c := 0) h7 rfl (by omega) (by omega), cP_s, if_pos rfl, if_neg n10]
  by_cases e1 : v (14 + (f * 7 + 2)) = v (98 + (k * 4 + 0))
  · rw [if_pos e1, o_136, told_1 (c := 3) (k := 3) h7 rfl (by omega) (by omega) rfl, cP_s, o_136, need_1 (x := 1) (c := 1) h7 rfl (by omega) (by omega), cP_s]
    by_cases e2 : v (14 + (f * 7 + 3)) = v (98 + (k * 4 + 1))
    · rw [if_pos e2, o_136, need_1 (x := 3) (c := 3) h7 rfl (by omega) (by omega), cP_s, o_136, mval hN h7 hk hf, cP_s, o_136, need_1 (x := 2) (c := 2) h7 rfl (by omega) (by omega), cP_s, W.1]
      by_cases e3 : nI (wthN v k f) < v (98 + (k * 4 + 2))
      · rw [if_pos e3]
        exact Or.inr ⟨fun x => Int32.not_lt.mpr x.2.2 e3, rfl⟩
      · rw [if_neg e3]
        exact Or.inl ⟨⟨e1, e2, Int32.not_lt.mp e3⟩, rfl⟩
    · rw [if_neg e2]
      exact Or.inr ⟨fun x => e2 x.2.1, rfl⟩
  · rw [if_neg e1]
    exact Or.inr ⟨fun x => e1 x.1, rfl⟩
theorem fits_loop (hN : Now i a v n nf nn np dy) (h7 : a1 137 = v) {c : Nat → Nat} {k : Nat} (hk : k < nn) (hA : ∀ j, j ≤ k → a1 144 j = nI (c j) ∧ c j ≤ nf) (hf : c k < nf) (hm : mayN v k (c k)) : ∀ (fu j : Nat), j ≤ k → k - j < fu → (∀ e, e < j → c e ≠ c k) → (okN v nf c k ∧ f_Mo_fits_b50 (mkH i1 l a1) fu 136 (nI k) (nI (c k)) (v (98 + (k * 4 + 3))) (nI (wthN v k (c k) + sumN v nf c k j)) (nI j) = some 1) ∨ (¬ okN v nf c k ∧ f_Mo_fits_b50 (mkH i1 l a1) fu 136 (nI k) (nI (c k)) (v (98 + (k * 4 + 3))) (nI (wthN v k (c k) + sumN v nf c k j)) (nI j) = some 0) := by
  have hnf := hN.1.2.2.1
  have hnn := hN.1.2.2.2.1.2
  intro fu
  induction fu with
  | zero => intro j _ h; omega
  | succ fu ih =>
    intro j hj hfu hF
    show (_ ∧ f_Mo_fits_b50_k _ (f_Mo_fits_b50 _ fu) _ _ _ _ _ _ = _) ∨ (_ ∧ f_Mo_fits_b50_k _ (f_Mo_fits_b50 _ fu) _ _ _ _ _ _ = _)
    unfold f_Mo_fits_b50_k f_Mo_fits_b125 f_Mo_fits_b154
    by_cases h : j = k
    · subst h
      obtain ⟨b, e, hb, hn⟩ := by_n hN.sw.1 hf
      rw [ifn_y (by omega) (by omega) (by omega), r_136_0, o_136, told_1 (c := 1) (k := 1) h7 rfl (by omega) (by omega) e, cP_s, b_137 (x := 2 + nI b) (m := 2 + b) (nI_add 2 b) (by omega), h7]
      have O : okN v nf c j ↔ nI (wthN v j (c j) + sumN v nf c j j) ≤ v (2 + b) := by
        unfold okN
        rw [e, nI_cl (by omega), Nat.add_comm (sumN v nf c j j)]
        constructor
        · rintro (x | x)
          · omega
          · exact x.2.2.2
        · exact fun x => Or.inr ⟨hf, hm, hF, x⟩
      by_cases e3 : v (2 + b) < nI (wthN v j (c j) + sumN v nf c j j)
      · rw [if_pos e3]
        exact Or.inr ⟨fun x => Int32.not_lt.mpr (O.mp x) e3, rfl⟩
      · rw [if_neg e3]
        exact Or.inl ⟨O.mpr (Int32.not_lt.mp e3), rfl⟩
    · have hjk : j < k := by omega
      have cj := hA j hj
      rw [ifn_n (by omega) (by omega) (by omega), r_136_10, a_144 (by omega), cj.1, nI_s1]
      by_cases e1 : c j = c k
      · rw [if_pos (by rw [e1])]
        refine Or.inr ⟨fun x => ?_, rfl⟩
        rcases x with x | x
        · omega
        · exact x.2.2.1 j hjk e1
      · have hF' : ∀ e, e < j + 1 → c e ≠ c k := fun e he => by
          by_cases ee : e = j
          · rw [ee]; exact e1
          · exact hF e (by omega)
        have I := ih (j + 1) (by omega) (by omega) hF'
        have SN : sumN v nf c k (j + 1) = sumN v nf c k j + if c j < nf ∧ v (98 + (j * 4 + 3)) = v (98 + (k * 4 + 3)) ∧ v (14 + (c j * 7 + 1)) = v (14 + (c k * 7 + 1)) then wthN v j (c j) else 0 := rfl
        rw [if_neg (by rw [nI_eq' (by omega) (by omega)]; exact e1), r_136_0, b_137 (x := 158) (m := 158) rfl (by omega), h7, hnf.1]
        have NO : ¬ (c j < nf ∧ v (98 + (j * 4 + 3)) = v (98 + (k * 4 + 3)) ∧ v (14 + (c j * 7 + 1)) = v (14 + (c k * 7 + 1))) → sumN v nf c k (j + 1) = sumN v nf c k j := fun x => by rw [SN, if_neg x]; rfl
        by_cases e2 : nf ≤ c j
        · rw [ifn_y (by omega) (by omega) e2]
          rw [NO (fun x => by omega)] at I
          exact I
        · rw [ifn_n (by omega) (by omega) e2, o_136, need_1 (x := 3) (c := 3) h7 rfl (by omega) (by omega), cP_s]
          by_cases e3 : v (98 + (j * 4 + 3)) = v (98 + (k * 4 + 3))
          · rw [if_pos e3, o_136, told_1 (c := 1) (k := 1) h7 rfl (by omega) (by omega) rfl, cP_s, o_136, told_1 (f := c k) (c := 1) (k := 1) h7 rfl (by omega) (by omega) rfl, cP_s]
            by_cases e4 : v (14 + (c j * 7 + 1)) = v (14 + (c k * 7 + 1))
            · rw [if_pos ⟨by omega, e3, e4⟩] at SN
              rw [SN, ← Nat.add_assoc (wthN v k (c k))] at I
              rw [if_pos e4, o_136, ← e3, mval hN h7 (show j < nn by omega) (show c j < nf by omega), cP_s, lt_e, nI_add, e3]
              exact I
            · rw [NO (fun x => e4 x.2.2)] at I
              rw [if_neg e4]
              exact I
          · rw [NO (fun x => e3 x.2.1)] at I
            rw [if_neg e3]
            exact I
theorem fits_ok (hN : Now i a v n nf nn np dy) (h7 : a1 137 = v) {c : Nat → Nat} {k : Nat} (hk : k < nn) (hA : ∀ j, j ≤ k → a1 144 j = nI (c j) ∧ c j ≤ nf) : (okN v nf c k ∧ f_Mo_fits (mkH i1 l a1) 136 (nI k) = some 1) ∨ (¬ okN v nf c k ∧ f_Mo_fits (mkH i1 l a1) 136 (nI k) = some 0) := by
  have hnf := hN.1.2.2.1
  have hnn := hN.1.2.2.2.1.2
  have ck := hA k (Nat.le_refl _)
  unfold f_Mo_fits
  rw [r_136_10, a_144 (by omega), ck.1, r_136_0, b_137 (x := 158) (m := 158) rfl (by omega), h7, hnf.1]
  by_cases e : c k = nf
  · rw [if_pos (by rw [e])]
    exact Or.inl ⟨Or.inl e, rfl⟩
  · have hf : c k < nf := by omega
    rw [if_neg (by rw [nI_eq' (by omega) (by omega)]; exact e), o_136]
    rcases may_ok (l := l) (i1 := i1) hN h7 hk hf with ⟨hm, f1⟩ | ⟨hm, f1⟩
    · rw [f1, cP_s, if_neg n10, o_136, need_1 (x := 3) (c := 3) h7 rfl (by omega) (by omega), cP_s, o_136, mval hN h7 hk hf, cP_s]
      exact fits_loop hN h7 hk hA hf hm FU 0 (by omega) (FU_lt (by omega)) (fun e he => by omega)
    · rw [f1, cP_s, if_pos rfl]
      refine Or.inr ⟨fun x => ?_, rfl⟩
      rcases x with x | x
      · exact e x
      · exact hm x.2.1
theorem look_cpy : ∀ (fu j : Nat) (a1 : Nat → Nat → Int32), j ≤ 5 → 5 - j < fu → (∀ e, e < j → a1 145 e = a1 144 e) → ∃ g, f_Mo_look_b99 fu (mkH i1 l a1) 136 (nI j) = some (mkH i1 l (va_up a1 145 g)) ∧ ∀ e, e < 5 → g e = a1 144 e := by
  intro fu
  induction fu with
  | zero => intro j _ _ h; omega
  | succ fu ih =>
    intro j a1 hj hf hE
    show ∃ g, f_Mo_look_b99_k (f_Mo_look_b99 fu) _ _ _ = _ ∧ _
    unfold f_Mo_look_b99_k f_Mo_look_b122
    by_cases h : j = 5
    · subst h
      exact ⟨a1 145, by rw [if_pos (by decide), vu_id (f := a1) (b := 145) rfl], hE⟩
    · rw [if_neg (c := (5 : Int32) ≤ nI j) (show ¬ nI 5 ≤ nI j by rw [nI_le' (by omega) (by omega)]; omega), r_136_11, r_136_10, a_144 (by omega), s_145 (by omega), nI_s1]
      obtain ⟨g, g1, g2⟩ := ih (j + 1) (va_up a1 145 (upd (a1 145) j (a1 144 j))) (by omega) (by omega) (fun e he => by
        rw [vu_s, vu_n (by omega)]
        by_cases ee : e = j
        · rw [ee, ud_s]
        · rw [ud_n ee]
          exact hE e (by omega))
      rw [vu_u] at g1
      exact ⟨g, g1, fun e he => (g2 e he).trans (by rw [vu_n (by omega)])⟩
theorem look_loop (hN : Now i a v n nf nn np dy) (h7 : a1 137 = v) {m w : Int32} {c : Nat → Nat} (hA : ∀ j, j < nn → a1 144 j = nI (c j) ∧ c j ≤ nf) : ∀ (fu j : Nat), j ≤ nn → nn - j < fu → ∃ g, ((m < nI (cntN nf c nn) ∨ (m = nI (cntN nf c nn) ∧ nI (spnN v nf c nn) < w)) ∧ f_Mo_look_b6 fu (mkH (mI i1 m w) l a1) 136 (nI (cntN nf c j)) (nI (spnN v nf c j)) (nI j) = some (mkH (mI i1 (nI (cntN nf c nn)) (nI (spnN v nf c nn))) l (va_up a1 145 g)) ∧ ∀ e, e < 5 → g e = a1 144 e) ∨ ((nI (cntN nf c nn) < m ∨ (nI (cntN nf c nn) = m ∧ w ≤ nI (spnN v nf c nn))) ∧ f_Mo_look_b6 fu (mkH (mI i1 m w) l a1) 136 (nI (cntN nf c j)) (nI (spnN v nf c j)) (nI j) = some (mkH (mI i1 m w) l a1)) := by
  have hnf := hN.1.2.2.1
  have hnn := hN.1.2.2.2.1
  intro fu
  induction fu with
  | zero => intro j _ h; omega
  | succ fu ih =>
    intro j hj hf
    show ∃ g, (_ ∧ f_Mo_look_b6_k (f_Mo_look_b6 fu) _ _ _ _ _ = _ ∧ _) ∨ (_ ∧ f_Mo_look_b6_k (f_Mo_look_b6 fu) _ _ _ _ _ = _)
    unfold f_Mo_look_b6_k f_Mo_look_b57 f_Mo_look_b87 f_Mo_look_b122
    by_cases h : j = nn
    · subst h
      obtain ⟨g, g1, g2⟩ := look_cpy (l := l) (i1 := mI i1 (nI (cntN nf c j)) (nI (spnN v nf c j))) FU 0 a1 (by omega) (FU_lt (by omega)) (fun e he => by omega)
      refine ⟨g, ?_⟩
      have G1 : f_Mo_look_b99 FU (mkH (mI i1 (nI (cntN nf c j)) (nI (spnN v nf c j))) l a1) 136 0 = some (mkH (mI i1 (nI (cntN nf c j)) (nI (spnN v nf c j))) l (va_up a1 145 g)) := g1
      simp only [r_136_0, b_137 (i := mI i1 m w) (l := l) (a := a1) (x := 159) (m := 159) rfl (show 159 < 484 by omega), h7, hnn.1, g_136_12, g_136_13, p_136_12, p_136_13, mI_12, mI_13, mI_u, G1]
      rw [ifn_y (by omega) (by omega) (by omega)]
      by_cases e1 : m < nI (cntN nf c j)
      · rw [if_pos e1]
        exact Or.inl ⟨Or.inl e1, rfl, g2⟩
      · rw [if_neg e1]
        by_cases e2 : nI (cntN nf c j) = m
        · rw [if_pos e2]
          by_cases e3 : w ≤ nI (spnN v nf c j)
          · rw [if_pos e3]
            exact Or.inr ⟨Or.inr ⟨e2, e3⟩, rfl⟩
          · rw [if_neg e3]
            exact Or.inl ⟨Or.inr ⟨e2.symm, Int32.not_le.mp e3⟩, rfl, g2⟩
        · rw [if_neg e2]
          refine Or.inr ⟨Or.inl ?_, rfl⟩
          have e4 := Int32.not_lt.mp e1
          exact Int32.lt_of_le_of_ne e4 e2
    · have cj := hA j (by omega)
      have I := ih (j + 1) (by omega) (by omega)
      have C : cntN nf c (j + 1) = cntN nf c j + if c j < nf then 1 else 0 := rfl
      have P : spnN v nf c (j + 1) = spnN v nf c j + if c j < nf then wthN v j (c j) else 0 := rfl
      rw [r_136_0, b_137 (x := 159) (m := 159) rfl (by omega), h7, hnn.1, ifn_n (by omega) (by omega) (by omega), r_136_10, a_144 (by omega), cj.1, r_136_0, b_137 (x := 158) (m := 158) rfl (by omega), h7, hnf.1, nI_s1]
      by_cases e : nf ≤ c j
      · rw [if_neg (by omega)] at C P
        rw [show cntN nf c (j + 1) = cntN nf c j from C, show spnN v nf c (j + 1) = spnN v nf c j from P] at I
        rw [ifn_y (by omega) (by omega) e]
        exact I
      · rw [if_pos (by omega)] at C P
        rw [C, P] at I
        rw [ifn_n (by omega) (by omega) e, r_136_10, a_144 (by omega), cj.1, o_136, need_1 (x := 3) (c := 3) h7 rfl (by omega) (by omega), cP_s, o_136, mval hN h7 (show j < nn by omega) (show c j < nf by omega), cP_s, lt_e, nI_add, nI_s1]
        exact I
/-- steps that are left -/
def stW (nf : Nat) : Nat → Nat
  | 0 => 0
  | d + 1 => (nf + 1) * (1 + stW nf d) + 1
def rmS (nf nn : Nat) (p : Nat → Nat) (k : Nat) : Nat := sumTo (fun j => (nf - p j) * (1 + stW nf (nn - (j + 1))) + 1) k
def rmN (nf nn : Nat) (p : Nat → Nat) (k x : Nat) : Nat := (nf + 1 - x) * (1 + stW nf (nn - (k + 1))) + 1 + rmS nf nn p k
theorem rm_1 {nf nn k x : Nat} {p : Nat → Nat} (hx : x ≤ nf) : rmN nf nn p k (x + 1) < rmN nf nn p k x := by
  unfold rmN
  rw [show nf + 1 - x = (nf + 1 - (x + 1)) + 1 by omega, Nat.add_mul]
  omega
theorem rm_2 {nf nn k x : Nat} {p : Nat → Nat} (hx : x ≤ nf) (hk : k + 1 < nn) : rmN nf nn (stp p k x) (k + 1) 0 < rmN nf nn p k x := by
  unfold rmN rmS
  show _ + (sumTo (fun j => (nf - stp p k x j) * (1 + stW nf (nn - (j + 1))) + 1) k + ((nf - stp p k x k) * (1 + stW nf (nn - (k + 1))) + 1)) < _
  rw [sumTo_c (g := fun j => (nf - stp p k x j) * (1 + stW nf (nn - (j + 1))) + 1) (g' := fun j => (nf - p j) * (1 + stW nf (nn - (j + 1))) + 1) k (fun j hj => by rw [stp_n (by omega)]), stp_s, show nf + 1 - x = (nf - x) + 1 by omega, Nat.add_mul (nf - x)]
  have e : stW nf (nn - (k + 1)) = (nf + 1) * (1 + stW nf (nn - (k + 1 + 1))) + 1 := by
    rw [show nn - (k + 1) = nn - (k + 1 + 1) + 1 by omega]
    rfl
  rw [Nat.sub_zero]
  omega
theorem rm_3 {nf nn k : Nat} {p : Nat → Nat} (hp : p k ≤ nf) : rmN nf nn p k (p k + 1) < rmN nf nn p (k + 1) (nf + 1) := by
  unfold rmN rmS
  show _ < _ + (sumTo (fun j => (nf - p j) * (1 + stW nf (nn - (j + 1))) + 1) k + ((nf - p k) * (1 + stW nf (nn - (k + 1))) + 1))
  rw [show nf + 1 - (nf + 1) = 0 by omega, Nat.zero_mul, show nf + 1 - (p k + 1) = nf - p k by omega]
  omega
theorem stW_b {nf : Nat} (h : nf ≤ 12) : ∀ d, stW nf d ≤ stW 12 d
  | 0 => Nat.le_refl _
  | d + 1 => by
    have I := stW_b h d
    have : (nf + 1) * (1 + stW nf d) ≤ (12 + 1) * (1 + stW 12 d) := Nat.mul_le_mul (by omega) (by omega)
    show (nf + 1) * (1 + stW nf d) + 1 ≤ (12 + 1) * (1 + stW 12 d) + 1
    omega
theorem stW_4 : ∀ d, d < 5 → stW 12 d ≤ 40000 := by decide
theorem met_loop (hN : Now i a v n nf nn np dy) : ∀ (fu k x : Nat) (p : Nat → Nat) (m w : Int32) (a1 : Nat → Nat → Int32), k < nn → x ≤ nf + 1 → (∀ j, j < k → p j ≤ nf ∧ okN v nf p j) → rmN nf nn p k x < fu → a1 137 = v → (∀ j, j < k → a1 144 j = nI (p j)) → a1 144 k = nI x - 1 → Bst v nf nn nI (bef k p x) m w (a1 145) → ∃ a2 m2 w2, f_Mo_findMet_b38 fu (mkH (mI i1 m w) l a1) 136 (nI nn) (nI k) = some (mkH (mI i1 m2 w2) l a2) ∧ (∀ b, b ≠ 144 → b ≠ 145 → a2 b = a1 b) ∧ ∃ c, bestN v nf nn c ∧ m2 = nI (cntN nf c nn) ∧ w2 = nI (spnN v nf c nn) ∧ ∀ j, j < nn → a2 145 j = nI (c j) := by
  have hnf := hN.1.2.2.1
  have hnn := hN.1.2.2.2.1
  have hw : ∀ k f, k < nn → f < nf → wthN v k f ≤ 49 := fun k f hk hf => (wth_ok hN hk hf).2
  intro fu
  induction fu with
  | zero => intro k x p m w a1 _ _ _ h; omega
  | succ fu ih =>
    intro k x p m w a1 hk hx hp hf h7 hA hAk hB
    show ∃ a2 m2 w2, f_Mo_findMet_b38_k (f_Mo_findMet_b38 fu) _ _ _ _ = _ ∧ _
    unfold f_Mo_findMet_b38_k
    have E3 : ∀ b, b ≠ 144 → va_up a1 144 (upd (a1 144) k (nI x)) b = a1 b := fun b hb => vu_n hb
    rw [if_neg (by rw [nI_lt0 (by omega)]; exact id), r_136_10, a_144 (by omega), hAk, Int32.sub_add_cancel, s_144 (by omega), r_136_10, a_144 (by omega), r_136_0, b_137 (x := 158) (m := 158) rfl (by omega), E3 137 (by omega), h7, hnf.1, vu_s, ud_s]
    by_cases hxf : x ≤ nf
    · have A3 : ∀ j, j ≤ k → va_up a1 144 (upd (a1 144) k (nI x)) 144 j = nI (stp p k x j) ∧ stp p k x j ≤ nf := fun j hj => by
        rw [vu_s]
        by_cases e : j = k
        · rw [e, ud_s, stp_s]
          exact ⟨rfl, hxf⟩
        · rw [ud_n e, stp_n e]
          exact ⟨hA j (by omega), (hp j (by omega)).1⟩
      have A4 : ∀ j, j < k → va_up a1 144 (upd (a1 144) k (nI x)) 144 j = nI (p j) := fun j hj => by
        rw [vu_s, ud_n (by omega)]
        exact hA j hj
      have A5 : va_up a1 144 (upd (a1 144) k (nI x)) 144 k = nI (x + 1) - 1 := by
        rw [vu_s, ud_s, nI_p]
      have h73 : va_up a1 144 (upd (a1 144) k (nI x)) 137 = v := (E3 137 (by omega)).trans h7
      have R1 := rm_1 (nn := nn) (k := k) (p := p) hxf
      rw [ifn_y (by omega) (by omega) hxf, o_136]
      have PRE : ∀ c' : Nat → Nat, (∀ e, e < k → c' e = p e) ∧ c' k = x → ∀ e, e ≤ k → c' e = stp p k x e := fun c' h e he => by
        by_cases ee : e = k
        · rw [ee, stp_s]; exact h.2
        · rw [stp_n ee]; exact h.1 e (by omega)
      rcases fits_ok (l := l) (i1 := mI i1 m w) (a1 := va_up a1 144 (upd (a1 144) k (nI x))) hN h73 hk A3 with ⟨hO, f1⟩ | ⟨hO, f1⟩
      · rw [f1, cP_s, if_neg n10]
        have hp' : ∀ j, j < k + 1 → stp p k x j ≤ nf ∧ okN v nf (stp p k x) j := fun j hj => by
          by_cases e : j = k
          · rw [e]
            exact ⟨by rw [stp_s]; exact hxf, hO⟩
          · exact ⟨by rw [stp_n e]; exact (hp j (by omega)).1, okN_c (fun e' he => (stp_n (by omega)).symm) (hp j (by omega)).2⟩
        by_cases e : k + 1 = nn
        · rw [if_pos (by rw [← e, nI_p]), o_136]
          have hok : okA v nf nn (stp p k x) := fun j hj => (hp' j (by omega)).2
          have LX : ∀ c, bef k p x c → lexN c (stp p k x) nn := fun c hc => by
            have := bef_up.mpr hc
            rw [e] at this
            exact bef_lex this
          have EQ : ∀ c' : Nat → Nat, (bef k p x c' ∨ ∀ e, e < nn → c' e = stp p k x e) ↔ bef k p (x + 1) c' := fun c' => by
            rw [bef_s]
            constructor
            · rintro (h | h)
              · exact Or.inl h
              · exact Or.inr ⟨fun e' he => (h e' (by omega)).trans (stp_n (by omega)), (h k hk).trans stp_s⟩
            · rintro (h | h)
              · exact Or.inl h
              · exact Or.inr fun e' he => PRE c' h e' (by omega)
          obtain ⟨g, G⟩ := look_loop (l := l) (i1 := i1) (m := m) (w := w) (a1 := va_up a1 144 (upd (a1 144) k (nI x))) hN h73 (fun j hj => A3 j (by omega)) FU 0 (by omega) (FU_lt (by omega))
          rcases G with ⟨q, f2, g2⟩ | ⟨q, f2⟩
          · have f2' : f_Mo_look (mkH (mI i1 m w) l (va_up a1 144 (upd (a1 144) k (nI x)))) 136 = _ := f2
            rw [f2', cP_s]
            have B2 := hB.new (row' := g) hw hnn.2 hok (fun j hj => (g2 j (by omega)).trans (A3 j (by omega)).1) q
            obtain ⟨a2, m2, w2, k1, k2, k3⟩ := ih k (x + 1) p _ _ (va_up (va_up a1 144 (upd (a1 144) k (nI x))) 145 g) hk (by omega) hp (by omega) ((vu_n (by omega)).trans h73) (fun j hj => by rw [vu_n (by omega)]; exact A4 j hj) (by rw [vu_n (by omega)]; exact A5) (by rw [vu_s]; exact B2.mono fun c' _ => EQ c')
            exact ⟨a2, m2, w2, k1, fun b h1 h2 => (k2 b h1 h2).trans ((vu_n h2).trans (E3 b h1)), k3⟩
          · have f2' : f_Mo_look (mkH (mI i1 m w) l (va_up a1 144 (upd (a1 144) k (nI x)))) 136 = _ := f2
            rw [f2', cP_s]
            have B2 := hB.skip (T := fun c' => ∀ e, e < nn → c' e = stp p k x e) hw hnn.2 (fun c' hc' _ => by rw [cntN_c nn hc', spnN_c nn hc']; exact q) (fun c c' hc hc' => by
              rcases LX c hc with h | ⟨j, j1, j2, j3⟩
              · exact Or.inl fun e' he => (h e' he).trans (hc' e' he).symm
              · exact Or.inr ⟨j, j1, fun e' he => (j2 e' he).trans (hc' e' (by omega)).symm, by rw [hc' j j1]; exact j3⟩)
            obtain ⟨a2, m2, w2, k1, k2, k3⟩ := ih k (x + 1) p m w (va_up a1 144 (upd (a1 144) k (nI x))) hk (by omega) hp (by omega) h73 A4 A5 (by rw [E3 145 (by omega)]; exact B2.mono fun c' _ => EQ c')
            exact ⟨a2, m2, w2, k1, fun b h1 h2 => (k2 b h1 h2).trans (E3 b h1), k3⟩
        · rw [if_neg (by rw [show nI nn - 1 = nI (nn - 1) from nI_sub (a := nn) (b := 1) (by omega), nI_eq' (by omega) (by omega)]; omega), r_136_10, nI_s1, s_144 (by omega)]
          have R2 := rm_2 (p := p) hxf (show k + 1 < nn by omega)
          obtain ⟨a2, m2, w2, k1, k2, k3⟩ := ih (k + 1) 0 (stp p k x) m w (va_up (va_up a1 144 (upd (a1 144) k (nI x))) 144 (upd (va_up a1 144 (upd (a1 144) k (nI x)) 144) (k + 1) (-1))) (by omega) (by omega) hp' (by omega) ((vu_n (by omega)).trans h73) (fun j hj => by
            rw [vu_s, ud_n (by omega)]
            exact (A3 j (by omega)).1) (by rw [vu_s, ud_s]; decide) (by rw [vu_n (by omega), E3 145 (by omega)]; exact hB.mono fun c' _ => bef_up.symm)
          exact ⟨a2, m2, w2, k1, fun b h1 h2 => (k2 b h1 h2).trans ((vu_n h1).trans (E3 b h1)), k3⟩
      · rw [f1, cP_s, if_pos rfl]
        obtain ⟨a2, m2, w2, k1, k2, k3⟩ := ih k (x + 1) p m w (va_up a1 144 (upd (a1 144) k (nI x))) hk (by omega) hp (by omega) h73 A4 A5 (by
          rw [E3 145 (by omega)]
          refine hB.mono fun c' ho => ?_
          rw [bef_s]
          constructor
          · exact Or.inl
          · rintro (h | h)
            · exact h
            · exact absurd (okN_c (PRE c' h) (ho k hk)) hO)
        exact ⟨a2, m2, w2, k1, fun b h1 h2 => (k2 b h1 h2).trans (E3 b h1), k3⟩
    · have ex : x = nf + 1 := by omega
      subst ex
      rw [ifn_n (by omega) (by omega) hxf, nI_m1]
      cases k with
      | zero =>
        obtain ⟨c, c1, c2, c3, c4⟩ := hB.fin (fun c hc => Or.inr ⟨fun e he => by omega, by have := okA_le hc hk; omega⟩)
        have hfu : 0 < fu := by
          unfold rmN at hf
          omega
        obtain ⟨f', rfl⟩ : ∃ f', fu = f' + 1 := ⟨fu - 1, by omega⟩
        refine ⟨_, m, w, ?_, fun b h1 h2 => E3 b h1, c, c1, c2, c3, fun j hj => ?_⟩
        · show f_Mo_findMet_b38_k (f_Mo_findMet_b38 f') _ _ _ _ = _
          unfold f_Mo_findMet_b38_k
          rw [if_pos (by decide)]
        · rw [E3 145 (by omega)]
          exact c4 j hj
      | succ k =>
        have pk := hp k (by omega)
        have R3 := rm_3 (nn := nn) pk.1
        rw [show nI (k + 1) - 1 = nI k from nI_sub (a := k + 1) (b := 1) (by omega)]
        obtain ⟨a2, m2, w2, k1, k2, k3⟩ := ih k (p k + 1) p m w (va_up a1 144 (upd (a1 144) (k + 1) (nI (nf + 1)))) (by omega) (by omega) (fun j hj => hp j (by omega)) (by omega) ((E3 137 (by omega)).trans h7) (fun j hj => by rw [vu_s, ud_n (by omega)]; exact hA j (by omega)) (by
          rw [vu_s, ud_n (by omega), hA k (by omega), show nI (p k + 1) - 1 = nI (p k) from nI_sub (a := p k + 1) (b := 1) (by omega)]) (by
          rw [E3 145 (by omega)]
          exact hB.mono fun c' ho => bef_d (okA_le ho hk))
        exact ⟨a2, m2, w2, k1, fun b h1 h2 => (k2 b h1 h2).trans (E3 b h1), k3⟩
theorem findMet_ok (hN : Now i a v n nf nn np dy) (h7 : a1 137 = v) : ∃ a2 m2 w2, f_Mo_findMet (mkH i1 l a1) 136 = some (mkH (mI i1 m2 w2) l a2) ∧ (∀ b, b ≠ 144 → b ≠ 145 → a2 b = a1 b) ∧ ∃ c, bestN v nf nn c ∧ m2 = nI (cntN nf c nn) ∧ w2 = nI (spnN v nf c nn) ∧ ∀ j, j < nn → a2 145 j = nI (c j) := by
  have hnf := hN.1.2.2.1
  have hnn := hN.1.2.2.2.1
  unfold f_Mo_findMet
  rw [p_136_12, p_136_13, r_136_0, b_137 (x := 159) (m := 159) rfl (by omega), h7, hnn.1]
  by_cases h : nn = 0
  · subst h
    rw [if_pos (show nI 0 = 0 from rfl), p_136_12]
    refine ⟨a1, 0, 0, ?_, fun _ _ _ => rfl, fun _ => 0, ⟨fun k hk => by omega, fun c' _ => Or.inr ⟨rfl, Or.inr ⟨rfl, Or.inl fun k hk => by omega⟩⟩⟩, rfl, rfl, fun j hj => by omega⟩
    rw [up2_ck (b := 136) (k := 13) (k' := 12) (by omega), up2_u]
    rfl
  · have Z : ∀ {β : Type} {G : Nat → Nat → Int32} {x : Int32} {κ : Hp → Option β}, sI (mkH G l a1) 11 144 0 x κ = κ (mkH G l (va_up a1 144 (upd (a1 144) 0 x))) := fun {β G x κ} => s_144 (m := 0) (by omega)
    rw [if_neg (by rw [nI_z (by omega)]; exact h), r_136_10, Z]
    obtain ⟨a2, m2, w2, k1, k2, k3⟩ := met_loop (l := l) (i1 := i1) hN FU 0 0 (fun _ => 0) (-1) 0 (va_up a1 144 (upd (a1 144) 0 (-1))) (by omega) (by omega) (fun j hj => by omega) (FU_lt (by
      have s1 := stW_b hnf.2 (nn - (0 + 1))
      have s2 := stW_4 (nn - (0 + 1)) (by omega)
      have s3 : (nf + 1 - 0) * (1 + stW nf (nn - (0 + 1))) ≤ 13 * 40001 := Nat.mul_le_mul (by omega) (by omega)
      show (nf + 1 - 0) * (1 + stW nf (nn - (0 + 1))) + 1 + 0 < 1000000000
      omega)) ((vu_n (by omega)).trans h7) (fun j hj => by omega) (by rw [vu_s, ud_s]; decide) (Or.inl ⟨rfl, rfl, fun c hc => by
      rcases hc with ⟨j, hj, -⟩ | ⟨-, hc⟩ <;> omega⟩)
    exact ⟨a2, m2, w2, k1, fun b h1 h2 => (k2 b h1 h2).trans (vu_n h1), k3⟩
end RM
