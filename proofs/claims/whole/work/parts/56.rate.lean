/-! ===== rates: how they go; calls: rate, settles ===== -/
def iI (z : Int) : Int32 := Int32.ofInt z
theorem iI_n (a : Nat) : nI a = iI (a : Int) := (Int32.ofInt_eq_ofNat).symm
theorem iI_sub (a b : Int) : iI a - iI b = iI (a - b) := (Int32.ofInt_sub a b).symm
theorem iI_add (a b : Int) : iI a + iI b = iI (a + b) := (Int32.ofInt_add a b).symm
theorem iI_mul (a b : Int) : iI a * iI b = iI (a * b) := (Int32.ofInt_mul a b).symm
theorem iI_to {a : Int} (h1 : -2147483648 ≤ a) (h2 : a < 2147483648) : (iI a).toInt = a := Int32.toInt_ofInt_of_le (by simpa using h1) (by simpa using h2)
theorem iI_le {a b : Int} (h1 : -2147483648 ≤ a) (h2 : a < 2147483648) (h3 : -2147483648 ≤ b) (h4 : b < 2147483648) : (iI a ≤ iI b) = (a ≤ b) := by
  apply propext
  rw [Int32.le_iff_toInt_le, iI_to h1 h2, iI_to h3 h4]
theorem iI_lt {a b : Int} (h1 : -2147483648 ≤ a) (h2 : a < 2147483648) (h3 : -2147483648 ≤ b) (h4 : b < 2147483648) : (iI a < iI b) = (a < b) := by
  apply propext
  rw [Int32.lt_iff_toInt_lt, iI_to h1 h2, iI_to h3 h4]
theorem iI_eq {a b : Int} (h1 : -2147483648 ≤ a) (h2 : a < 2147483648) (h3 : -2147483648 ≤ b) (h4 : b < 2147483648) : (iI a = iI b) = (a = b) := by
  apply propext
  constructor
  · intro h
    have := congrArg Int32.toInt h
    rw [iI_to h1 h2, iI_to h3 h4] at this
    exact this
  · intro h
    rw [h]
/-- held between 1 and 99 -/
def cl (z : Int) : Int := if z < 1 then 1 else if 99 < z then 99 else z
theorem cl_in (z : Int) : 1 ≤ cl z ∧ cl z ≤ 99 := by
  unfold cl
  split
  · omega
  · split <;> omega
theorem held_ok {G : Hp} {z : Int} (h1 : -2147483648 ≤ z) (h2 : z < 2147483648) : f_Fa_heldRate G (iI z) = some (iI (cl z)) := by
  unfold f_Fa_heldRate cl mx mn
  rw [show (1 : Int32) = iI 1 from rfl, show (99 : Int32) = iI 99 from rfl]
  by_cases h : z < 99
  · rw [if_pos (show iI z < iI 99 by rw [iI_lt h1 h2 (by omega) (by omega)]; exact h)]
    by_cases h' : z < 1
    · rw [if_neg (show ¬ iI 1 < iI z by rw [iI_lt (by omega) (by omega) h1 h2]; omega), if_pos h']
    · rw [if_neg h', if_neg (show ¬ 99 < z by omega)]
      by_cases h3 : 1 < z
      · rw [if_pos (show iI 1 < iI z by rw [iI_lt (by omega) (by omega) h1 h2]; exact h3)]
      · rw [if_neg (show ¬ iI 1 < iI z by rw [iI_lt (by omega) (by omega) h1 h2]; exact h3), show z = 1 by omega]
  · rw [if_neg (show ¬ iI z < iI 99 by rw [iI_lt h1 h2 (by omega) (by omega)]; exact h), if_pos (show iI 1 < iI 99 by rw [iI_lt (by omega) (by omega) (by omega) (by omega)]; omega), if_neg (show ¬ z < 1 by omega)]
    by_cases h3 : 99 < z
    · rw [if_pos h3]
    · rw [if_neg h3, show z = 99 by omega]
theorem hold_ok {G : Hp} {z : Int} (h1 : -2147483648 ≤ z) (h2 : z < 2147483648) : f_Mo_hold G (iI z) = some (iI (cl z)) := by
  unfold f_Mo_hold f_Mo_hold_b21 cl
  rw [show (1 : Int32) = iI 1 from rfl, show (99 : Int32) = iI 99 from rfl]
  by_cases h : z < 1
  · rw [if_neg (by rw [iI_le (by omega) (by omega) h1 h2]; omega), if_pos h]
  · rw [if_pos (by rw [iI_le (by omega) (by omega) h1 h2]; omega), if_neg h]
    by_cases h' : 99 < z
    · rw [if_neg (by rw [iI_le h1 h2 (by omega) (by omega)]; omega), if_pos h']
    · rw [if_pos (by rw [iI_le h1 h2 (by omega) (by omega)]; omega), if_neg h']
/-- one more step of a rate that goes by c a day -/
theorem cl_step (t c : Int) (h : (0 ≤ c ∧ 1 ≤ t) ∨ (c ≤ 0 ∧ t ≤ 99)) : cl (cl t + c) = cl (t + c) := by
  have key : ∀ x, (x < 1 ∧ cl x = 1) ∨ (99 < x ∧ cl x = 99) ∨ (1 ≤ x ∧ x ≤ 99 ∧ cl x = x) := fun x => by
    unfold cl
    by_cases h1 : x < 1
    · exact Or.inl ⟨h1, if_pos h1⟩
    · by_cases h2 : 99 < x
      · exact Or.inr (Or.inl ⟨h2, by rw [if_neg h1, if_pos h2]⟩)
      · exact Or.inr (Or.inr ⟨by omega, by omega, by rw [if_neg h1, if_neg h2]⟩)
  have k1 := key t
  have k2 := key (cl t + c)
  have k3 := key (t + c)
  omega
theorem dc_sign {r c : Int} (hr : 1 ≤ r) (hr' : r ≤ 99) (d : Nat) : (0 ≤ c ∧ 1 ≤ r + d * c) ∨ (c ≤ 0 ∧ r + d * c ≤ 99) := by
  rcases Int.le_total 0 c with h | h
  · left
    exact ⟨h, by have := Int.mul_nonneg (Int.natCast_nonneg d) h; omega⟩
  · right
    exact ⟨h, by have := Int.mul_nonneg (Int.natCast_nonneg d) (show 0 ≤ -c by omega); rw [Int.mul_neg] at this; omega⟩
theorem cl_next {r c : Int} (hr : 1 ≤ r) (hr' : r ≤ 99) (d : Nat) : cl (cl (r + d * c) + c) = cl (r + (d + 1 : Nat) * c) := by
  rw [cl_step _ _ (dc_sign hr hr' d)]
  congr 1
  rw [Int.natCast_add, Int.add_mul]
  omega
theorem dc_bd {c : Int} {d : Nat} (hd : d ≤ 200) (hc : -12 ≤ c) (hc' : c ≤ 12) : -2400 ≤ d * c ∧ (d : Int) * c ≤ 2400 := by
  have h1 : (d : Int) ≤ 200 := by omega
  have h0 : (0 : Int) ≤ d := by omega
  constructor
  · have := Int.mul_nonneg h0 (show 0 ≤ c + 12 by omega)
    rw [Int.mul_add] at this
    omega
  · have := Int.mul_nonneg h0 (show 0 ≤ 12 - c by omega)
    rw [Int.mul_sub] at this
    omega
def ndT (v : Nat → Int32) (t k : Nat) : Nat := if v (98 + (k * 4 + 1)) = nI t then 1 else 0
def fvT (v : Nat → Int32) (dy t f : Nat) : Nat := if v (14 + (f * 7 + 3)) = nI t ∧ 0 < uN v f dy then 1 else 0
/-- by how much a thing's rate goes a day -/
def dr (v : Nat → Int32) (nf nn dy t : Nat) : Int := (sumTo (ndT v t) nn : Int) - (sumTo (fvT v dy t) nf : Int)
theorem sumTo_le {g : Nat → Nat} (h : ∀ j, g j ≤ 1) : ∀ n, sumTo g n ≤ n
  | 0 => Nat.le_refl _
  | n + 1 => by
    unfold sumTo
    have := sumTo_le h n
    have := h n
    omega
theorem ndT_1 (v : Nat → Int32) (t k : Nat) : ndT v t k ≤ 1 := by
  unfold ndT
  split <;> omega
theorem fvT_1 (v : Nat → Int32) (dy t k : Nat) : fvT v dy t k ≤ 1 := by
  unfold fvT
  split <;> omega
theorem sub_s (A : Int32) (x : Nat) : A - nI (x + 1) = A - nI x - 1 := by
  rw [← nI_s1, Int32.sub_eq_add_neg, Int32.neg_add, Int32.sub_eq_add_neg, Int32.sub_eq_add_neg, Int32.sub_eq_add_neg, Int32.add_assoc]
section RT
variable {i : Nat → Nat → Int32} {l : Nat → Nat → Int64} {a : Nat → Nat → Int32} {v : Nat → Int32} {n nf nn np dy : Nat}
theorem dr_bd (hN : Now i a v n nf nn np dy) (t : Nat) : -12 ≤ dr v nf nn dy t ∧ dr v nf nn dy t ≤ 12 := by
  have h1 := sumTo_le (ndT_1 v t) nn
  have h2 := sumTo_le (fvT_1 v dy t) nf
  have h3 := hN.1.2.2.1.2
  have h4 := hN.1.2.2.2.1.2
  unfold dr
  omega
theorem u0 {u : Nat} (hu : u ≤ 49) : (nI u ≤ 0) = (u = 0) := by
  rw [show (0 : Int32) = nI 0 from rfl, nI_le' (by omega) (by omega)]
  apply propext
  omega
theorem drift1 (hN : Now i a v n nf nn np dy) (t : Nat) {A : Int32} : ∀ (fu j : Nat), j ≤ nf → nf - j < fu → f_St_drift_b39 (mkH i l a) fu 2 (nI t) (A - nI (sumTo (fvT v dy t) j)) (nI j) = some (A - nI (sumTo (fvT v dy t) nf)) := by
  have a3 := hN.1.2.2.1
  have b3 := hN.2.1.2.2.1
  have d2 := hN.2.2.2.2.1
  intro fu
  induction fu with
  | zero => intro j _ h; omega
  | succ fu ih =>
    intro j hj hf
    show f_St_drift_b39_k _ (f_St_drift_b39 _ fu) _ _ _ _ = _
    unfold f_St_drift_b39_k f_St_drift_b74
    by_cases h : j = nf
    · subst h
      rw [r_2_1, g_5_2, b3, ifn_y (by omega) (by omega) (by omega)]
    · have hjn : j < nf := by omega
      have I := ih (j + 1) (by omega) (by omega)
      rw [r_2_1, g_5_2, b3, ifn_n (by omega) (by omega) (by omega), r_2_1, o_5, c_at (t := 5) (m := 12) (w := 7) (c := 3) (k := 3) (by decide) rfl b3 a3.2 hjn (by omega), cP_s, show a (5 + 1) (j * 7 + 3) = v (14 + (j * 7 + 3)) from d2 _ (by omega)]
      have S : sumTo (fvT v dy t) (j + 1) = sumTo (fvT v dy t) j + fvT v dy t j := rfl
      by_cases e : v (14 + (j * 7 + 3)) = nI t
      · rw [if_pos e, o_2, vNw hN hjn, cP_s]
        by_cases e2 : uN v j dy = 0
        · rw [if_pos (by rw [u0 (uN_ok hN hjn hN.1.1.2).2]; exact e2), nI_1]
          rw [S, show fvT v dy t j = 0 from if_neg (fun x => by omega), Nat.add_zero] at I
          exact I
        · rw [if_neg (by rw [u0 (uN_ok hN hjn hN.1.1.2).2]; exact e2), nI_1, nI_m1]
          rw [S, show fvT v dy t j = 1 from if_pos ⟨e, by omega⟩, sub_s] at I
          exact I
      · rw [if_neg e, nI_1]
        rw [S, show fvT v dy t j = 0 from if_neg (fun x => e x.1), Nat.add_zero] at I
        exact I
theorem drift0 (hN : Now i a v n nf nn np dy) (t : Nat) : ∀ (fu j : Nat), j ≤ nn → nn - j < fu → f_St_drift_b4 (mkH i l a) fu 2 (nI t) (nI (sumTo (ndT v t) j)) (nI j) = some (nI (sumTo (ndT v t) nn) - nI (sumTo (fvT v dy t) nf)) := by
  have a4 := hN.1.2.2.2.1
  have b4 := hN.2.1.2.2.2.1
  have d3 := hN.2.2.2.2.2.1
  intro fu
  induction fu with
  | zero => intro j _ h; omega
  | succ fu ih =>
    intro j hj hf
    show f_St_drift_b4_k _ (f_St_drift_b4 _ fu) _ _ _ _ = _
    unfold f_St_drift_b4_k f_St_drift_b31
    by_cases h : j = nn
    · subst h
      rw [r_2_2, g_7_2, b4, ifn_y (by omega) (by omega) (by omega)]
      have L := drift1 (l := l) hN t (A := nI (sumTo (ndT v t) j)) FU 0 (by omega) (FU_lt (by have := hN.1.2.2.1.2; omega))
      rw [show sumTo (fvT v dy t) 0 = 0 from rfl, show nI 0 = (0 : Int32) from rfl, Int32.sub_zero] at L
      exact L
    · have hjn : j < nn := by omega
      have I := ih (j + 1) (by omega) (by omega)
      have S : sumTo (ndT v t) (j + 1) = sumTo (ndT v t) j + ndT v t j := rfl
      rw [r_2_2, g_7_2, b4, ifn_n (by omega) (by omega) (by omega), r_2_2, o_7, c_at (t := 7) (m := 5) (w := 4) (c := 1) (k := 1) (by decide) rfl b4 a4.2 hjn (by omega), cP_s, show a (7 + 1) (j * 4 + 1) = v (98 + (j * 4 + 1)) from d3 _ (by omega)]
      by_cases e : v (98 + (j * 4 + 1)) = nI t
      · rw [if_pos e, nI_1, nI_1]
        rw [S, show ndT v t j = 1 from if_pos e] at I
        exact I
      · rw [if_neg e, nI_1]
        rw [S, show ndT v t j = 0 from if_neg e, Nat.add_zero] at I
        exact I
theorem dr_eq (v : Nat → Int32) (nf nn dy t : Nat) : nI (sumTo (ndT v t) nn) - nI (sumTo (fvT v dy t) nf) = iI (dr v nf nn dy t) := by
  rw [iI_n, iI_n, iI_sub]
  rfl
theorem drift_ok (hN : Now i a v n nf nn np dy) (t : Nat) : f_St_drift (mkH i l a) 2 (nI t) = some (iI (dr v nf nn dy t)) := by
  have L := drift0 (l := l) hN t FU 0 (by omega) (FU_lt (by have := hN.1.2.2.2.1.2; omega))
  rw [dr_eq] at L
  exact L
theorem need_1 {i1 a1 : Nat → Nat → Int32} (h : a1 137 = v) {k c : Nat} {x : Int32} (hx : x = nI c) (hk : k < 5) (hc : c < 4) : f_Mo_need0 (mkH i1 l a1) 136 (nI k) x = some (v (98 + (k * 4 + c))) := by
  subst hx
  unfold f_Mo_need0
  rw [r_136_0, b_137 (x := 98 + 4 * nI k + nI c) (m := 98 + (k * 4 + c)) ix4 (by omega), h]
theorem by1 (hN : Now i a v n nf nn np dy) {i1 a1 : Nat → Nat → Int32} (h7 : a1 137 = v) (t : Nat) {A : Int32} : ∀ (fu j : Nat), j ≤ nf → nf - j < fu → f_Mo_ratesBy_b42 (mkH i1 l a1) fu 136 (nI t) (A - nI (sumTo (fvT v dy t) j)) (nI j) = some (A - nI (sumTo (fvT v dy t) nf)) := by
  have a3 := hN.1.2.2.1
  intro fu
  induction fu with
  | zero => intro j _ h; omega
  | succ fu ih =>
    intro j hj hf
    show f_Mo_ratesBy_b42_k _ (f_Mo_ratesBy_b42 _ fu) _ _ _ _ = _
    unfold f_Mo_ratesBy_b42_k f_Mo_ratesBy_b77 f_Mo_ratesBy_b78
    by_cases h : j = nf
    · subst h
      rw [r_136_0, b_137 (x := 158) (m := 158) rfl (by omega), h7, a3.1, ifn_y (by omega) (by omega) (by omega)]
    · have hjn : j < nf := by omega
      have I := ih (j + 1) (by omega) (by omega)
      have S : sumTo (fvT v dy t) (j + 1) = sumTo (fvT v dy t) j + fvT v dy t j := rfl
      rw [r_136_0, b_137 (x := 158) (m := 158) rfl (by omega), h7, a3.1, ifn_n (by omega) (by omega) (by omega), o_136, told_1 (c := 3) (k := 3) h7 rfl (by omega) (by omega) rfl, cP_s]
      by_cases e : v (14 + (j * 7 + 3)) = nI t
      · rw [if_pos e, o_136, mNw hN hjn h7, cP_s]
        by_cases e2 : uN v j dy = 0
        · rw [if_pos (by rw [u0 (uN_ok hN hjn hN.1.1.2).2]; exact e2), lt_e, Int32.sub_zero, nI_1]
          rw [S, show fvT v dy t j = 0 from if_neg (fun x => by omega), Nat.add_zero] at I
          exact I
        · rw [if_neg (by rw [u0 (uN_ok hN hjn hN.1.1.2).2]; exact e2), lt_e, nI_1]
          rw [S, show fvT v dy t j = 1 from if_pos ⟨e, by omega⟩, sub_s] at I
          exact I
      · rw [if_neg e, lt_e, Int32.sub_zero, nI_1]
        rw [S, show fvT v dy t j = 0 from if_neg (fun x => e x.1), Nat.add_zero] at I
        exact I
theorem by0 (hN : Now i a v n nf nn np dy) {i1 a1 : Nat → Nat → Int32} (h7 : a1 137 = v) (t : Nat) : ∀ (fu j : Nat), j ≤ nn → nn - j < fu → f_Mo_ratesBy_b4 (mkH i1 l a1) fu 136 (nI t) (nI (sumTo (ndT v t) j)) (nI j) = some (nI (sumTo (ndT v t) nn) - nI (sumTo (fvT v dy t) nf)) := by
  have a4 := hN.1.2.2.2.1
  intro fu
  induction fu with
  | zero => intro j _ h; omega
  | succ fu ih =>
    intro j hj hf
    show f_Mo_ratesBy_b4_k _ (f_Mo_ratesBy_b4 _ fu) _ _ _ _ = _
    unfold f_Mo_ratesBy_b4_k f_Mo_ratesBy_b32
    by_cases h : j = nn
    · subst h
      rw [r_136_0, b_137 (x := 159) (m := 159) rfl (by omega), h7, a4.1, ifn_y (by omega) (by omega) (by omega)]
      have L := by1 (l := l) (i1 := i1) (a1 := a1) hN h7 t (A := nI (sumTo (ndT v t) j)) FU 0 (by omega) (FU_lt (by have := hN.1.2.2.1.2; omega))
      rw [show sumTo (fvT v dy t) 0 = 0 from rfl, show nI 0 = (0 : Int32) from rfl, Int32.sub_zero] at L
      exact L
    · have hjn : j < nn := by omega
      have I := ih (j + 1) (by omega) (by omega)
      have S : sumTo (ndT v t) (j + 1) = sumTo (ndT v t) j + ndT v t j := rfl
      rw [r_136_0, b_137 (x := 159) (m := 159) rfl (by omega), h7, a4.1, ifn_n (by omega) (by omega) (by omega), o_136, need_1 (x := 1) (c := 1) h7 rfl (by omega) (by omega), cP_s]
      by_cases e : v (98 + (j * 4 + 1)) = nI t
      · rw [if_pos e, lt_e, nI_1, nI_1]
        rw [S, show ndT v t j = 1 from if_pos e] at I
        exact I
      · rw [if_neg e, lt_e, a0, nI_1]
        rw [S, show ndT v t j = 0 from if_neg e, Nat.add_zero] at I
        exact I
theorem ratesBy_ok (hN : Now i a v n nf nn np dy) {i1 a1 : Nat → Nat → Int32} (h7 : a1 137 = v) (t : Nat) : f_Mo_ratesBy (mkH i1 l a1) 136 (nI t) = some (iI (dr v nf nn dy t)) := by
  have L := by0 (l := l) (i1 := i1) (a1 := a1) hN h7 t FU 0 (by omega) (FU_lt (by have := hN.1.2.2.2.1.2; omega))
  rw [dr_eq] at L
  exact L
theorem rate_loop {i1 a1 : Nat → Nat → Int32} {r c : Int} {d : Nat} (hr : 1 ≤ r) (hr' : r ≤ 99) (hc : -12 ≤ c) (hc' : c ≤ 12) (hd : d ≤ 99) : ∀ (fu j : Nat), j ≤ d → d - j < fu → f_Mo_rate_b47 fu (mkH i1 l a1) (nI d) (iI (cl (r + j * c))) (iI c) (nI j) = some (iI (cl (r + d * c)), mkH i1 l a1) := by
  intro fu
  induction fu with
  | zero => intro j _ h; omega
  | succ fu ih =>
    intro j hj hf
    show f_Mo_rate_b47_k (f_Mo_rate_b47 fu) _ _ _ _ _ = _
    unfold f_Mo_rate_b47_k
    by_cases h : j = d
    · subst h
      rw [ifn_y (by omega) (by omega) (by omega)]
    · have := cl_in (r + j * c)
      rw [ifn_n (by omega) (by omega) (by omega), iI_add, hold_ok (by omega) (by omega), cP_s, nI_1, cl_next hr hr']
      exact ih (j + 1) (by omega) (by omega)
theorem call_rate (H : Inv i l a) (t d : Int32) : Call (fun G => f_Fa_rate G 0 t d) (fun G => f_Mo_rate G 136 t d) i l a := by
  obtain ⟨n, nf, nn, np, dy, hN⟩ := now_of H; obtain ⟨⟨a1, a2, a3, a4, a5⟩, ⟨b1, b2, b3, b4, b5, b6⟩, ⟨c1, c2, c3, c4, c5⟩, ⟨d1, d2, d3, d4, d5⟩⟩ := id hN
  rcases ck_thing t with ⟨F1, M1⟩ | ⟨t, ht, rfl, F1, M1⟩
  · (refine call_bad (r := -2) H ?_ (fun i1 => ?_); (unfold f_Fa_rate f_Fa_rate_b17; simp only [r_0_3, r_2_0, r_2_1, r_2_2, r_2_3, r_2_4, g_2_5, o_0, o_2, o_3, o_5, o_7, o_9, o_11, O_0, O_2, O_3, O_5, O_7, O_9, O_11, r_0_8, p_124_0, cP_s, cH_s, n10, if_true, if_false, zR_0, zR_1, lt_e, cH_id, F1]); (unfold f_Mo_rate f_Mo_rate_b19; simp only [r_136_0, o_136, O_136, r_136_3, cP_s, cH_s, n10, if_true, if_false, zR_0, zR_1, lt_e, Mo_many_ok, Mo_day_ok, cH_id, M1]))
  rcases ck_wi d (lo := 0) (hi := 99) (c := 0) (d := 99) (c' := 0) (d' := 99) rfl rfl rfl rfl (by omega) (by omega) with ⟨F2, M2⟩ | ⟨d, hd1, hd, rfl, F2, M2⟩
  · (refine call_bad (r := -2) H ?_ (fun i1 => ?_); (unfold f_Fa_rate f_Fa_rate_b17; simp only [r_0_3, r_2_0, r_2_1, r_2_2, r_2_3, r_2_4, g_2_5, o_0, o_2, o_3, o_5, o_7, o_9, o_11, O_0, O_2, O_3, O_5, O_7, O_9, O_11, r_0_8, p_124_0, cP_s, cH_s, n10, if_true, if_false, zR_0, zR_1, lt_e, cH_id, F1, F2]); (unfold f_Mo_rate f_Mo_rate_b19; simp only [r_136_0, o_136, O_136, r_136_3, cP_s, cH_s, n10, if_true, if_false, zR_0, zR_1, lt_e, Mo_many_ok, Mo_day_ok, cH_id, M1, M2]))
  obtain ⟨r, e, hr, hr'⟩ := c5 t (by omega)
  have hb := dr_bd hN t
  have hm := dc_bd (c := dr (a 137) nf nn dy t) (d := d) (by omega) hb.1 hb.2
  have RN : f_St_rateNow (mkH i l a) 2 (nI t) = some (nI r) := by
    unfold f_St_rateNow
    rw [r_2_4, o_11, c_at (t := 11) (m := 4) (w := 1) (c := 0) (k := 0) (by decide) rfl b6 (by omega) (by omega) (by omega), cP_s, show a (11 + 1) (t * 1 + 0) = a 137 (154 + (t * 1 + 0)) from d5 _ (by omega), show 154 + (t * 1 + 0) = 154 + t by omega, e]
  refine call_ask (r := iI (cl ((r : Int) + d * dr (a 137) nf nn dy t))) H ?_ ?_
  · unfold f_Fa_rate
    rw [F1, cP_s, if_neg n10, F2, cP_s, if_neg n10, r_0_3, o_2, RN, cP_s, r_0_3, o_2, drift_ok hN, cP_s, iI_n r, iI_n d, iI_mul, iI_add, held_ok (by omega) (by omega), cP_s]
  · unfold f_Mo_rate
    rw [M1, cP_s, if_neg n10, M2, cP_s, if_neg n10, r_136_0, b_137 (x := 154 + nI t) (m := 154 + t) (nI_add 154 t) (by omega), e, o_136, ratesBy_ok hN rfl, cP_s]
    have L := rate_loop (i1 := i) (l := l) (a1 := a) (r := r) (c := dr (a 137) nf nn dy t) (d := d) (by omega) (by omega) hb.1 hb.2 hd FU 0 (by omega) (FU_lt (by omega))
    have e0 : cl ((r : Int) + ((0 : Nat) : Int) * dr (a 137) nf nn dy t) = r := by
      rw [Int.natCast_zero, Int.zero_mul, Int.add_zero]
      unfold cl
      rw [if_neg (by omega), if_neg (by omega)]
    rw [e0, ← iI_n] at L
    exact L
end RT
