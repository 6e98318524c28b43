/-! ===== calls: settles ===== -/
def Fx (r c : Int) (d : Nat) : Prop := cl (r + d * c) = cl (r + (d + 1 : Nat) * c)
theorem Fx_up {r c : Int} (hr : 1 ≤ r) (hr' : r ≤ 99) {d : Nat} (h : Fx r c d) : Fx r c (d + 1) := by
  unfold Fx at *
  rw [← cl_next hr hr' (d + 1), ← h, cl_next hr hr' d]
  exact h
theorem Fx_le {r c : Int} (hr : 1 ≤ r) (hr' : r ≤ 99) {d : Nat} (h : Fx r c d) : ∀ k, Fx r c (d + k)
  | 0 => h
  | k + 1 => Fx_up hr hr' (Fx_le hr hr' h k)
/-- res is the first day on which P holds, of 0 to 99, or -1 -/
def First (P : Nat → Prop) (res : Int32) : Prop := (∃ d, d ≤ 99 ∧ P d ∧ (∀ e, e < d → ¬ P e) ∧ res = nI d) ∨ ((∀ e, e ≤ 99 → ¬ P e) ∧ res = -1)
theorem First.u {P : Nat → Prop} {x y : Int32} (hx : First P x) (hy : First P y) : x = y := by
  rcases hx with ⟨d, h1, h2, h3, rfl⟩ | ⟨h1, rfl⟩
  · rcases hy with ⟨e, g1, g2, g3, rfl⟩ | ⟨g1, rfl⟩
    · have : d = e := by
        rcases Nat.lt_trichotomy d e with h | h | h
        · exact absurd h2 (g3 d h)
        · exact h
        · exact absurd g2 (h3 e h)
      rw [this]
    · exact absurd h2 (g1 d h1)
  · rcases hy with ⟨e, g1, g2, g3, rfl⟩ | ⟨g1, rfl⟩
    · exact absurd g2 (h1 e g1)
    · rfl
section SE
variable {i : Nat → Nat → Int32} {l : Nat → Nat → Int64} {a : Nat → Nat → Int32} {v : Nat → Int32} {n nf nn np dy : Nat}
theorem last_loop {G : Hp} {r c : Int} (hr : 1 ≤ r) (hr' : r ≤ 99) (hc : -12 ≤ c) (hc' : c ≤ 12) : ∀ (fu j : Nat), j ≤ 100 → 100 - j < fu → (∀ e, e < j → ¬ Fx r c e) → ∃ res, f_Fa_lastChange_b2 G fu (iI r) (iI c) (nI j) = some res ∧ First (Fx r c) res := by
  intro fu
  induction fu with
  | zero => intro j _ h; omega
  | succ fu ih =>
    intro j hj hf hF
    show ∃ res, f_Fa_lastChange_b2_k _ (f_Fa_lastChange_b2 _ fu) _ _ _ = _ ∧ _
    unfold f_Fa_lastChange_b2_k
    by_cases h : j = 100
    · subst h
      exact ⟨-1, by rw [if_pos (by decide)], Or.inr ⟨fun e he => hF e (by omega), rfl⟩⟩
    · have d1 := dc_bd (c := c) (d := j) (by omega) hc hc'
      have d2 := dc_bd (c := c) (d := j + 1) (by omega) hc hc'
      have c1 := cl_in (r + j * c)
      have c2 := cl_in (r + (j + 1 : Nat) * c)
      rw [if_neg (c := (99 : Int32) < nI j) (show ¬ (nI 99 : Int32) < nI j by rw [nI_lt' (by omega) (by omega)]; omega), iI_n j, iI_mul, iI_add, held_ok (by omega) (by omega), cP_s, show iI (j : Int) + 1 = iI ((j + 1 : Nat) : Int) by rw [← iI_n, ← iI_n, nI_s1], iI_mul, iI_add, held_ok (by omega) (by omega), cP_s]
      by_cases e : Fx r c j
      · rw [if_pos (by rw [iI_eq (by omega) (by omega) (by omega) (by omega)]; exact e)]
        exact ⟨nI j, by rw [iI_n], Or.inl ⟨j, by omega, e, hF, rfl⟩⟩
      · rw [if_neg (by rw [iI_eq (by omega) (by omega) (by omega) (by omega)]; exact e), ← iI_n]
        refine ih (j + 1) (by omega) (by omega) (fun e' he => ?_)
        by_cases ee : e' = j
        · rw [ee]; exact e
        · exact hF e' (by omega)
theorem last_ok {G : Hp} {r c : Int} (hr : 1 ≤ r) (hr' : r ≤ 99) (hc : -12 ≤ c) (hc' : c ≤ 12) : ∃ res, f_Fa_lastChange G (iI r) (iI c) = some res ∧ First (Fx r c) res := last_loop hr hr' hc hc' FU 0 (by omega) (FU_lt (by omega)) (fun e he => by omega)
theorem set_Fa (hN : Now i a v n nf nn np dy) {r : Nat → Nat} (hr : ∀ t, t < 4 → v (154 + t) = nI (r t) ∧ 1 ≤ r t ∧ r t ≤ 99) : ∀ (fu j m : Nat), j ≤ 4 → 4 - j < fu → m ≤ 99 → (∀ t, t < j → Fx (r t) (dr v nf nn dy t) m) → (∀ e, e < m → ¬ ∀ t, t < j → Fx (r t) (dr v nf nn dy t) e) → ∃ res, f_Fa_settles_b4 (mkH i l a) fu 0 (nI m) (nI j) = some res ∧ First (fun d => ∀ t, t < 4 → Fx (r t) (dr v nf nn dy t) d) res := by
  have b6 := hN.2.1.2.2.2.2.2
  have d5 := hN.2.2.2.2.2.2.2
  intro fu
  induction fu with
  | zero => intro j _ _ h; omega
  | succ fu ih =>
    intro j m hj hf hm hF hF'
    show ∃ res, f_Fa_settles_b4_k _ (f_Fa_settles_b4 _ fu) _ _ _ = _ ∧ _
    unfold f_Fa_settles_b4_k
    by_cases h : j = 4
    · subst h
      exact ⟨nI m, by rw [ifle_y (K := 4) (k := 4) (j := 4) rfl (by omega) (by omega) (by omega)], Or.inl ⟨m, hm, hF, hF', rfl⟩⟩
    · have hrj := hr j (by omega)
      have hb := dr_bd hN j
      have RN : f_St_rateNow (mkH i l a) 2 (nI j) = some (iI (r j : Int)) := by
        unfold f_St_rateNow
        rw [r_2_4, o_11, c_at (t := 11) (m := 4) (w := 1) (c := 0) (k := 0) (by decide) rfl b6 (by omega) (by omega) (by omega), cP_s, show a (11 + 1) (j * 1 + 0) = v (154 + (j * 1 + 0)) from d5 _ (by omega), show 154 + (j * 1 + 0) = 154 + j by omega, hrj.1, iI_n]
      obtain ⟨res, e1, e2⟩ := last_ok (G := mkH i l a) (r := r j) (c := dr v nf nn dy j) (by omega) (by omega) hb.1 hb.2
      rw [ifle_n (K := 4) (k := 4) (j := j) rfl (by omega) (by omega) (by omega), r_0_3, o_2, RN, cP_s, r_0_3, o_2, drift_ok hN, cP_s, e1, cP_s]
      rcases e2 with ⟨d, g1, g2, g3, rfl⟩ | ⟨g1, rfl⟩
      · rw [if_neg (by rw [nI_neg1 (by omega)]; exact id), lt_e, nI_mx (by omega) (by omega), nI_1]
        refine ih (j + 1) (max m d) (by omega) (by omega) (by omega) (fun t ht => ?_) (fun e he hP => ?_)
        · by_cases hd : m ≤ d
          · rw [Nat.max_eq_right hd]
            by_cases et : t = j
            · rw [et]; exact g2
            · have ht' := hr t (by omega)
              have := Fx_le (by omega) (by omega) (hF t (by omega)) (d - m)
              rw [show m + (d - m) = d by omega] at this
              exact this
          · rw [Nat.max_eq_left (by omega)]
            by_cases et : t = j
            · rw [et]
              have := Fx_le (by omega) (by omega) g2 (m - d)
              rw [show d + (m - d) = m by omega] at this
              exact this
            · exact hF t (by omega)
        · by_cases hem : e < m
          · exact hF' e hem (fun t ht => hP t (by omega))
          · exact g3 e (by omega) (hP j (by omega))
      · rw [if_pos rfl]
        exact ⟨-1, rfl, Or.inr ⟨fun e he hP => g1 e he (hP j (by omega)), rfl⟩⟩
theorem set_in (hN : Now i a v n nf nn np dy) {r : Nat → Nat} (hr : ∀ t, t < 4 → v (154 + t) = nI (r t) ∧ 1 ≤ r t ∧ r t ≤ 99) {i1 : Nat → Nat → Int32} {a0' : Nat → Nat → Int32} (h7 : a0' 137 = v) {d : Nat} (hd : d ≤ 99) (k : Hp → Nat → Int32 → Option (Int32 × Hp)) : ∀ (fu j : Nat) (a1 : Nat → Nat → Int32) (fl : Int32), j ≤ 4 → 4 - j < fu → (∀ b, b ≠ 146 → a1 b = a0' b) → (∀ t, t < j → a1 146 t = iI (cl (r t + (d + 1 : Nat) * dr v nf nn dy t))) → (∀ t, j ≤ t → t < 4 → a1 146 t = iI (cl (r t + d * dr v nf nn dy t))) → ((fl = 1 ∧ ∀ t, t < j → Fx (r t) (dr v nf nn dy t) d) ∨ (fl = 0 ∧ ¬ ∀ t, t < 4 → Fx (r t) (dr v nf nn dy t) d)) → ∃ a2, (∀ b, b ≠ 146 → a2 b = a0' b) ∧ (∀ t, t < 4 → a2 146 t = iI (cl (r t + (d + 1 : Nat) * dr v nf nn dy t))) ∧ ((∀ t, t < 4 → Fx (r t) (dr v nf nn dy t) d) → f_Mo_settles_b41 k fu (mkH i1 l a1) 136 (nI d) fl (nI j) = some (nI d, mkH i1 l a2)) ∧ ((¬ ∀ t, t < 4 → Fx (r t) (dr v nf nn dy t) d) → f_Mo_settles_b41 k fu (mkH i1 l a1) 136 (nI d) fl (nI j) = k (mkH i1 l a2) 136 (nI (d + 1))) := by
  intro fu
  induction fu with
  | zero => intro j _ _ _ h; omega
  | succ fu ih =>
    intro j a1 fl hj hf hE hA hB hfl
    show ∃ a2, _ ∧ _ ∧ (_ → f_Mo_settles_b41_k k (f_Mo_settles_b41 k fu) _ _ _ _ _ = _) ∧ (_ → f_Mo_settles_b41_k k (f_Mo_settles_b41 k fu) _ _ _ _ _ = _)
    unfold f_Mo_settles_b41_k f_Mo_settles_b82 f_Mo_settles_b83
    by_cases h : j = 4
    · subst h
      refine ⟨a1, hE, hA, fun hP => ?_, fun hP => ?_⟩
      · rcases hfl with ⟨rfl, -⟩ | ⟨-, h2⟩
        · rw [ifle_y (K := 4) (k := 4) (j := 4) rfl (by omega) (by omega) (by omega), if_neg n10]
        · exact absurd hP h2
      · rcases hfl with ⟨-, h2⟩ | ⟨rfl, -⟩
        · exact absurd h2 hP
        · rw [ifle_y (K := 4) (k := 4) (j := 4) rfl (by omega) (by omega) (by omega), if_pos rfl, nI_s1]
    · have hrj := hr j (by omega)
      have hb := dr_bd hN j
      have c1 := cl_in ((r j : Int) + d * dr v nf nn dy j)
      have c2 := cl_in ((r j : Int) + (d + 1 : Nat) * dr v nf nn dy j)
      have STEP := fun (fl' : Int32) (hfl' : (fl' = 1 ∧ ∀ t, t < j + 1 → Fx (r t) (dr v nf nn dy t) d) ∨ (fl' = 0 ∧ ¬ ∀ t, t < 4 → Fx (r t) (dr v nf nn dy t) d)) => ih (j + 1) (va_up a1 146 (upd (a1 146) j (iI (cl (r j + (d + 1 : Nat) * dr v nf nn dy j))))) fl' (by omega) (by omega) (fun b hb => (vu_n hb).trans (hE b hb)) (fun t ht => by
        rw [vu_s]
        by_cases e : t = j
        · rw [e, ud_s]
        · rw [ud_n e]; exact hA t (by omega)) (fun t h1 h2 => by
        rw [vu_s, ud_n (by omega)]
        exact hB t (by omega) h2) hfl'
      rw [ifle_n (K := 4) (k := 4) (j := j) rfl (by omega) (by omega) (by omega), r_136_14, a_146 (by omega), hB j (Nat.le_refl _) (by omega), o_136, ratesBy_ok hN ((hE 137 (by omega)).trans h7), cP_s, iI_add, hold_ok (by omega) (by omega), cP_s, cl_next (by omega) (by omega)]
      have hj4 : j < 4 := by omega
      simp only [r_136_14, s_146 hj4, a_146 hj4, hB j (Nat.le_refl _) hj4, nI_1]
      rcases hfl with ⟨rfl, h2⟩ | ⟨rfl, h2⟩
      · rw [if_neg n10]
        by_cases e : Fx (r j) (dr v nf nn dy j) d
        · rw [if_pos (show iI (cl (r j + (d + 1 : Nat) * dr v nf nn dy j)) = iI (cl (r j + d * dr v nf nn dy j)) by rw [iI_eq (by omega) (by omega) (by omega) (by omega)]; exact e.symm)]
          exact STEP 1 (Or.inl ⟨rfl, fun t ht => by
            by_cases et : t = j
            · rw [et]; exact e
            · exact h2 t (by omega)⟩)
        · rw [if_neg (show ¬ iI (cl (r j + (d + 1 : Nat) * dr v nf nn dy j)) = iI (cl (r j + d * dr v nf nn dy j)) by rw [iI_eq (by omega) (by omega) (by omega) (by omega)]; exact fun x => e x.symm)]
          exact STEP 0 (Or.inr ⟨rfl, fun hP => e (hP j (by omega))⟩)
      · rw [if_pos rfl]
        exact STEP 0 (Or.inr ⟨rfl, h2⟩)
theorem set_out (hN : Now i a v n nf nn np dy) {r : Nat → Nat} (hr : ∀ t, t < 4 → v (154 + t) = nI (r t) ∧ 1 ≤ r t ∧ r t ≤ 99) {i1 : Nat → Nat → Int32} {a0' : Nat → Nat → Int32} (h7 : a0' 137 = v) : ∀ (fu d : Nat) (a1 : Nat → Nat → Int32), d ≤ 100 → 100 - d < fu → (∀ b, b ≠ 146 → a1 b = a0' b) → (∀ t, t < 4 → a1 146 t = iI (cl (r t + d * dr v nf nn dy t))) → (∀ e, e < d → ¬ ∀ t, t < 4 → Fx (r t) (dr v nf nn dy t) e) → ∃ a2 res, (∀ b, b ≠ 146 → a2 b = a0' b) ∧ f_Mo_settles_b31 fu (mkH i1 l a1) 136 (nI d) = some (res, mkH i1 l a2) ∧ First (fun d => ∀ t, t < 4 → Fx (r t) (dr v nf nn dy t) d) res := by
  intro fu
  induction fu with
  | zero => intro j _ _ h; omega
  | succ fu ih =>
    intro d a1 hd hf hE hA hF
    show ∃ a2 res, _ ∧ f_Mo_settles_b31_k (f_Mo_settles_b31 fu) _ _ _ = _ ∧ _
    unfold f_Mo_settles_b31_k
    by_cases h : d = 100
    · subst h
      exact ⟨a1, -1, hE, by rw [if_pos (by decide)], Or.inr ⟨fun e he => hF e (by omega), rfl⟩⟩
    · rw [if_neg (c := (99 : Int32) < nI d) (show ¬ (nI 99 : Int32) < nI d by rw [nI_lt' (by omega) (by omega)]; omega)]
      obtain ⟨a2, g1, g2, g3, g4⟩ := set_in (l := l) (i1 := i1) hN hr h7 (show d ≤ 99 by omega) (f_Mo_settles_b31 fu) FU 0 a1 1 (by omega) (FU_lt (by omega)) hE (fun t ht => by omega) (fun t _ ht => hA t ht) (Or.inl ⟨rfl, fun t ht => by omega⟩)
      by_cases hP : ∀ t, t < 4 → Fx (r t) (dr v nf nn dy t) d
      · exact ⟨a2, nI d, g1, g3 hP, Or.inl ⟨d, by omega, hP, hF, rfl⟩⟩
      · rw [show f_Mo_settles_b41 (f_Mo_settles_b31 fu) FU (mkH i1 l a1) 136 (nI d) 1 0 = f_Mo_settles_b31 fu (mkH i1 l a2) 136 (nI (d + 1)) from g4 hP]
        refine ih (d + 1) a2 (by omega) (by omega) g1 g2 (fun e he => ?_)
        by_cases ee : e = d
        · rw [ee]; exact hP
        · exact hF e (by omega)
theorem set_lay {i1 a1 : Nat → Nat → Int32} (h7 : a1 137 = v) : ∀ (fu j : Nat) (a2 : Nat → Nat → Int32), j ≤ 4 → 4 - j < fu → (∀ b, b ≠ 146 → a2 b = a1 b) → (∀ t, t < j → a2 146 t = v (154 + t)) → ∃ a3, (∀ b, b ≠ 146 → a3 b = a1 b) ∧ (∀ t, t < 4 → a3 146 t = v (154 + t)) ∧ f_Mo_settles_b2 fu (mkH i1 l a2) 136 (nI j) = f_Mo_settles_b31 FU (mkH i1 l a3) 136 0 := by
  intro fu
  induction fu with
  | zero => intro j _ _ h; omega
  | succ fu ih =>
    intro j a2 hj hf hE hA
    show ∃ a3, _ ∧ _ ∧ f_Mo_settles_b2_k (f_Mo_settles_b2 fu) _ _ _ = _
    unfold f_Mo_settles_b2_k
    by_cases h : j = 4
    · subst h
      exact ⟨a2, hE, hA, by rw [ifle_y (K := 4) (k := 4) (j := 4) rfl (by omega) (by omega) (by omega)]⟩
    · rw [ifle_n (K := 4) (k := 4) (j := j) rfl (by omega) (by omega) (by omega), r_136_14, r_136_0, b_137 (x := 154 + nI j) (m := 154 + j) (nI_add 154 j) (by omega), s_146 (by omega), nI_1, hE 137 (by omega), h7]
      exact ih (j + 1) _ (by omega) (by omega) (fun b hb => (vu_n hb).trans (hE b hb)) (fun t ht => by
        rw [vu_s]
        by_cases e : t = j
        · rw [e, ud_s]
        · rw [ud_n e]; exact hA t (by omega))
theorem call_settles (H : Inv i l a) : Call (fun G => (f_Fa_settles G 0).map fun x => (x, G)) (fun G => f_Mo_settles G 136) i l a := by
  obtain ⟨n, nf, nn, np, dy, hN⟩ := now_of H; obtain ⟨⟨a1, a2, a3, a4, a5⟩, ⟨b1, b2, b3, b4, b5, b6⟩, ⟨c1, c2, c3, c4, c5⟩, ⟨d1, d2, d3, d4, d5⟩⟩ := id hN
  have ⟨r, hr⟩ : ∃ r : Nat → Nat, ∀ t, t < 4 → a 137 (154 + t) = nI (r t) ∧ 1 ≤ r t ∧ r t ≤ 99 := by
    refine ⟨fun t => (a 137 (154 + t)).toNatClampNeg, fun t ht => ?_⟩
    obtain ⟨r, e, h1, h2⟩ := c5 t ht
    show a 137 (154 + t) = nI (a 137 (154 + t)).toNatClampNeg ∧ 1 ≤ (a 137 (154 + t)).toNatClampNeg ∧ (a 137 (154 + t)).toNatClampNeg ≤ 99
    rw [e, nI_cl (by omega)]
    exact ⟨rfl, h1, h2⟩
  obtain ⟨res, e1, e2⟩ := set_Fa (l := l) hN hr FU 0 0 (by omega) (FU_lt (by omega)) (by omega) (fun t ht => by omega) (fun e he => by omega)
  obtain ⟨a3', g1, g2, g3⟩ := set_lay (i1 := i) (l := l) (a1 := a) rfl FU 0 a (by omega) (FU_lt (by omega)) (fun _ _ => rfl) (fun t ht => by omega)
  obtain ⟨a4', res', k1, k2, k3⟩ := set_out (l := l) (i1 := i) hN hr (a0' := a) rfl FU 0 a3' (by omega) (FU_lt (by omega)) g1 (fun t ht => by
    rw [g2 t ht, (hr t ht).1, iI_n]
    have := hr t ht
    congr 1
    unfold cl
    rw [Int.natCast_zero, Int.zero_mul, Int.add_zero, if_neg (by omega), if_neg (by omega)]) (fun e he => by omega)
  have er := e2.u k3
  subst er
  refine ⟨res, i, l, a, i, l, a4', ?_, g3.trans k2, ?_⟩
  · show (f_Fa_settles (mkH i l a) 0).map _ = _
    rw [show f_Fa_settles (mkH i l a) 0 = some res from e1]
    rfl
  · refine inv_same H (fun b hb => ⟨fun k => rfl, k1 b (by unfold Away at hb; omega)⟩) (k1 137 (by omega)) (fun _ _ => rfl) (k1 134 (by omega)) rfl rfl ?_
    unfold Ref
    rw [k1 140 (by omega)]
    exact H.2.2.2.2.2.2.1
end SE
