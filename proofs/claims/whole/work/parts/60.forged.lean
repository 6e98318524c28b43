/-! ===== calls: forged ===== -/
def hA (v : Nat → Int32) (f : Nat) : Nat → Int32
  | 0 => v (14 + (f * 7 + 2))
  | j + 1 => if v (118 + (j * 3 + 0)) = nI f then (if hA v f j = -1 then -1 else if v (118 + (j * 3 + 2)) = v (14 + (f * 7 + 1)) then -1 else v (118 + (j * 3 + 2))) else hA v f j
/-- pass k is told by one who didn't hold the favour -/
def frg (v : Nat → Int32) (k : Nat) : Prop := ∃ f, v (118 + (k * 3 + 0)) = nI f ∧ f < 12 ∧ ¬ v (118 + (k * 3 + 1)) = hA v f k
def FirstN (P : Nat → Prop) (m : Nat) (res : Int32) : Prop := (∃ d, d < m ∧ P d ∧ (∀ e, e < d → ¬ P e) ∧ res = nI d) ∨ ((∀ e, e < m → ¬ P e) ∧ res = -1)
theorem FirstN.u {P : Nat → Prop} {m : Nat} {x y : Int32} (hx : FirstN P m x) (hy : FirstN P m y) : x = y := by
  rcases hx with ⟨d, h1, h2, h3, rfl⟩ | ⟨h1, rfl⟩
  · rcases hy with ⟨e, g1, g2, g3, rfl⟩ | ⟨g1, rfl⟩
    · have : d = e := by
        rcases Nat.lt_trichotomy d e with h | h | h
        · exact absurd h2 (g3 d h)
        · exact h
        · exact absurd g2 (h3 e h)
      rw [this]
    · exact absurd h2 (g1 d h1)
  · rcases hy with ⟨e, g1, g2, g3, rfl⟩ | ⟨g1, rfl⟩
    · exact absurd g2 (h1 e g1)
    · rfl
section FG
variable {i : Nat → Nat → Int32} {l : Nat → Nat → Int64} {a : Nat → Nat → Int32} {v : Nat → Int32} {n nf nn np dy : Nat}
theorem hold_loop (hN : Now i a v n nf nn np dy) {f k : Nat} (hf : f < nf) (hk : k < np) : ∀ (fu j : Nat), j ≤ k → k - j < fu → f_St_holderAhead_b23 (mkH i l a) fu 2 (nI k) (nI f) (hA v f j) (nI j) = some (hA v f k) := by
  obtain ⟨⟨a1, a2, a3, a4, a5⟩, ⟨b1, b2, b3, b4, b5, b6⟩, ⟨c1, c2, c3, c4, c5⟩, ⟨d1, d2, d3, d4, d5⟩⟩ := id hN
  intro fu
  induction fu with
  | zero => intro j _ h; omega
  | succ fu ih =>
    intro j hj hfu
    show f_St_holderAhead_b23_k _ (f_St_holderAhead_b23 _ fu) _ _ _ _ _ = _
    unfold f_St_holderAhead_b23_k f_St_holderAhead_b80 f_St_holderAhead_b81
    by_cases h : j = k
    · subst h
      rw [ifn_y (by omega) (by omega) (by omega)]
    · have I := ih (j + 1) (by omega) (by omega)
      have S : hA v f (j + 1) = if v (118 + (j * 3 + 0)) = nI f then (if hA v f j = -1 then -1 else if v (118 + (j * 3 + 2)) = v (14 + (f * 7 + 1)) then -1 else v (118 + (j * 3 + 2))) else hA v f j := rfl
      rw [ifn_n (by omega) (by omega) (by omega), r_2_3, o_9, c_at (t := 9) (m := 12) (w := 3) (c := 0) (k := 0) (by decide) rfl b5 a5.2 (by omega) (by omega), cP_s, show a (9 + 1) (j * 3 + 0) = v (118 + (j * 3 + 0)) from d4 _ (by omega), nI_1]
      by_cases e1 : v (118 + (j * 3 + 0)) = nI f
      · rw [if_pos e1] at S
        rw [if_pos e1]
        by_cases e2 : hA v f j = -1
        · rw [if_pos e2] at S
          rw [if_pos e2, e2, ← S]
          exact I
        · rw [if_neg e2] at S
          rw [if_neg e2, r_2_3, o_9, c_at (t := 9) (m := 12) (w := 3) (c := 2) (k := 2) (by decide) rfl b5 a5.2 (by omega) (by omega), cP_s, r_2_1, o_5, c_at (t := 5) (m := 12) (w := 7) (c := 1) (k := 1) (by decide) rfl b3 a3.2 hf (by omega), cP_s, show a (9 + 1) (j * 3 + 2) = v (118 + (j * 3 + 2)) from d4 _ (by omega), show a (5 + 1) (f * 7 + 1) = v (14 + (f * 7 + 1)) from d2 _ (by omega)]
          by_cases e3 : v (118 + (j * 3 + 2)) = v (14 + (f * 7 + 1))
          · rw [if_pos e3] at S
            rw [if_pos e3, ← S]
            exact I
          · rw [if_neg e3] at S
            rw [if_neg e3, ← S]
            exact I
      · rw [if_neg e1] at S
        rw [if_neg e1, ← S]
        exact I
theorem hold_at (hN : Now i a v n nf nn np dy) {f k : Nat} (hf : f < nf) (hk : k < np) (e : v (118 + (k * 3 + 0)) = nI f) : f_St_holderAhead (mkH i l a) 2 (nI k) = some (hA v f k) := by
  obtain ⟨⟨a1, a2, a3, a4, a5⟩, ⟨b1, b2, b3, b4, b5, b6⟩, ⟨c1, c2, c3, c4, c5⟩, ⟨d1, d2, d3, d4, d5⟩⟩ := id hN
  unfold f_St_holderAhead
  rw [r_2_3, o_9, c_at (t := 9) (m := 12) (w := 3) (c := 0) (k := 0) (by decide) rfl b5 a5.2 hk (by omega), cP_s, show a (9 + 1) (k * 3 + 0) = v (118 + (k * 3 + 0)) from d4 _ (by omega), e, r_2_1, o_5, c_at (t := 5) (m := 12) (w := 7) (c := 2) (k := 2) (by decide) rfl b3 a3.2 hf (by omega), cP_s, show a (5 + 1) (f * 7 + 2) = v (14 + (f * 7 + 2)) from d2 _ (by omega)]
  exact hold_loop hN hf hk FU 0 (by omega) (FU_lt (by omega))
theorem forged_Fa (hN : Now i a v n nf nn np dy) : ∀ (fu k : Nat), k ≤ np → np - k < fu → (∀ e, e < k → ¬ frg v e) → ∃ res, f_Fa_forged_b2 (mkH i l a) fu 0 (nI k) = some res ∧ FirstN (frg v) np res := by
  obtain ⟨⟨a1, a2, a3, a4, a5⟩, ⟨b1, b2, b3, b4, b5, b6⟩, ⟨c1, c2, c3, c4, c5⟩, ⟨d1, d2, d3, d4, d5⟩⟩ := id hN
  intro fu
  induction fu with
  | zero => intro j _ h; omega
  | succ fu ih =>
    intro k hk hfu hF
    show ∃ res, f_Fa_forged_b2_k _ (f_Fa_forged_b2 _ fu) _ _ = _ ∧ _
    unfold f_Fa_forged_b2_k
    by_cases h : k = np
    · subst h
      exact ⟨-1, by rw [r_0_3, r_2_3, g_9_2, b5, ifn_y (by omega) (by omega) (by omega)], Or.inr ⟨hF, rfl⟩⟩
    · obtain ⟨f, b, c, ⟨e0, hf⟩, -, -⟩ := c4 k (by omega)
      rw [r_0_3, r_2_3, g_9_2, b5, ifn_n (by omega) (by omega) (by omega), r_0_3, r_2_3, o_9, c_at (t := 9) (m := 12) (w := 3) (c := 1) (k := 1) (by decide) rfl b5 a5.2 (by omega) (by omega), cP_s, r_0_3, o_2, hold_at hN hf (by omega) e0, cP_s, show a (9 + 1) (k * 3 + 1) = v (118 + (k * 3 + 1)) from d4 _ (by omega), nI_1]
      by_cases e : v (118 + (k * 3 + 1)) = hA v f k
      · rw [if_pos e]
        refine ih (k + 1) (by omega) (by omega) (fun e' he => ?_)
        by_cases ee : e' = k
        · rw [ee]
          rintro ⟨f', g0, g1, g2⟩
          have : f' = f := (nI_eq (by omega) (by omega)).mp (g0.symm.trans e0)
          subst this
          exact g2 e
        · exact hF e' (by omega)
      · rw [if_neg e]
        exact ⟨nI k, rfl, Or.inl ⟨k, by omega, ⟨f, e0, by omega, e⟩, hF, rfl⟩⟩
theorem forged_Mo (hN : Now i a v n nf nn np dy) {i1 a0' : Nat → Nat → Int32} (h7 : a0' 137 = v) : ∀ (fu k : Nat) (a1 : Nat → Nat → Int32), k ≤ np → np - k < fu → (∀ b, b ≠ 147 → a1 b = a0' b) → (∀ f, f < nf → a1 147 f = hA v f k) → (∀ e, e < k → ¬ frg v e) → ∃ a2 res, (∀ b, b ≠ 147 → a2 b = a0' b) ∧ f_Mo_forged_b34 fu (mkH i1 l a1) 136 (nI k) = some (res, mkH i1 l a2) ∧ FirstN (frg v) np res := by
  obtain ⟨⟨a1', a2', a3, a4, a5⟩, ⟨b1, b2, b3, b4, b5, b6⟩, ⟨c1, c2, c3, c4, c5⟩, ⟨d1, d2, d3, d4, d5⟩⟩ := id hN
  intro fu
  induction fu with
  | zero => intro j _ _ h; omega
  | succ fu ih =>
    intro k a1 hk hfu hE hA' hF
    show ∃ a2 res, _ ∧ f_Mo_forged_b34_k (f_Mo_forged_b34 fu) _ _ _ = _ ∧ _
    unfold f_Mo_forged_b34_k f_Mo_forged_b92 f_Mo_forged_b128
    have h7' : a1 137 = v := (hE 137 (by omega)).trans h7
    have x0 : (118 : Int32) + 3 * nI k = nI (118 + (k * 3 + 0)) := by
      rw [← ix3 (by omega)]
      exact (a0 _).symm
    have x1 : (118 : Int32) + 3 * nI k + 1 = nI (118 + (k * 3 + 1)) := ix3 (p := k) (c := 1) (by omega)
    have x2 : (118 : Int32) + 3 * nI k + 2 = nI (118 + (k * 3 + 2)) := ix3 (p := k) (c := 2) (by omega)
    by_cases h : k = np
    · subst h
      exact ⟨a1, -1, hE, by rw [r_136_0, b_137 (x := 160) (m := 160) rfl (by omega), h7', a5.1, ifn_y (by omega) (by omega) (by omega)], Or.inr ⟨hF, rfl⟩⟩
    · obtain ⟨f, b, c, ⟨e0, hf⟩, ⟨e1, hb⟩, ⟨e2, hc⟩⟩ := c4 k (by omega)
      rw [r_136_0, b_137 (x := 160) (m := 160) rfl (by omega), h7', a5.1, ifn_n (by omega) (by omega) (by omega), r_136_0, b_137 x0 (by omega), h7', e0, r_136_0, b_137 (x := 158) (m := 158) rfl (by omega), h7', a3.1, ifn_n (by omega) (by omega) (by omega), r_136_15, a_147 (by omega), hA' f hf, r_136_0, b_137 x1 (by omega), h7']
      by_cases e : hA v f k = v (118 + (k * 3 + 1))
      · have hn1 : ¬ hA v f k = -1 := by
          rw [e, e1, nI_neg1 (by omega)]
          exact id
        have nf' : ∀ e', e' < k + 1 → ¬ frg v e' := fun e' he => by
          by_cases ee : e' = k
          · rw [ee]
            rintro ⟨f', g0, g1, g2⟩
            have : f' = f := (nI_eq (by omega) (by omega)).mp (g0.symm.trans e0)
            subst this
            exact g2 e.symm
          · exact hF e' (by omega)
        have S : ∀ g, hA v g (k + 1) = if v (118 + (k * 3 + 0)) = nI g then (if hA v g k = -1 then -1 else if v (118 + (k * 3 + 2)) = v (14 + (g * 7 + 1)) then -1 else v (118 + (k * 3 + 2))) else hA v g k := fun g => rfl
        have STEP : ∀ x : Int32, x = hA v f (k + 1) → _ := fun x hx => ih (k + 1) (va_up a1 147 (upd (a1 147) f x)) (by omega) (by omega) (fun b hb => (vu_n hb).trans (hE b hb)) (fun g hg => by
          rw [vu_s]
          by_cases eg : g = f
          · rw [eg, ud_s]
            exact hx
          · rw [ud_n eg, hA' g hg, S g, if_neg (fun x => eg ((nI_eq (by omega) (by omega)).mp (e0.symm.trans x)).symm)]) nf'
        have Sf := S f
        rw [if_pos e0, if_neg hn1] at Sf
        rw [if_pos e, r_136_0, b_137 x2 (by omega), h7', r_136_15, o_136, told_1 (c := 1) (k := 1) h7' rfl (by omega) (by omega) rfl, cP_s]
        by_cases e3 : v (118 + (k * 3 + 2)) = v (14 + (f * 7 + 1))
        · rw [if_pos e3] at Sf
          rw [if_pos e3, s_147 (by omega), nI_1]
          exact STEP _ Sf.symm
        · rw [if_neg e3] at Sf
          rw [if_neg e3, s_147 (by omega), nI_1]
          exact STEP _ Sf.symm
      · rw [if_neg e]
        exact ⟨a1, nI k, hE, rfl, Or.inl ⟨k, by omega, ⟨f, e0, by omega, fun x => e x.symm⟩, hF, rfl⟩⟩
theorem forged_lay (hN : Now i a v n nf nn np dy) {i1 a0' : Nat → Nat → Int32} (h7 : a0' 137 = v) : ∀ (fu j : Nat) (a1 : Nat → Nat → Int32), j ≤ nf → nf - j < fu → (∀ b, b ≠ 147 → a1 b = a0' b) → (∀ f, f < j → a1 147 f = hA v f 0) → ∃ a2, (∀ b, b ≠ 147 → a2 b = a0' b) ∧ (∀ f, f < nf → a2 147 f = hA v f 0) ∧ f_Mo_forged_b2 fu (mkH i1 l a1) 136 (nI j) = f_Mo_forged_b34 FU (mkH i1 l a2) 136 0 := by
  have a3 := hN.1.2.2.1
  intro fu
  induction fu with
  | zero => intro j _ _ h; omega
  | succ fu ih =>
    intro j a1 hj hfu hE hA'
    show ∃ a2, _ ∧ _ ∧ f_Mo_forged_b2_k (f_Mo_forged_b2 fu) _ _ _ = _
    unfold f_Mo_forged_b2_k
    have h7' : a1 137 = v := (hE 137 (by omega)).trans h7
    by_cases h : j = nf
    · subst h
      exact ⟨a1, hE, hA', by rw [r_136_0, b_137 (x := 158) (m := 158) rfl (by omega), h7', a3.1, ifn_y (by omega) (by omega) (by omega)]⟩
    · rw [r_136_0, b_137 (x := 158) (m := 158) rfl (by omega), h7', a3.1, ifn_n (by omega) (by omega) (by omega), r_136_15, o_136, told_1 (c := 2) (k := 2) h7' rfl (by omega) (by omega) rfl, cP_s, s_147 (by omega), nI_1]
      exact ih (j + 1) _ (by omega) (by omega) (fun b hb => (vu_n hb).trans (hE b hb)) (fun t ht => by
        rw [vu_s]
        by_cases e : t = j
        · rw [e, ud_s]
          rfl
        · rw [ud_n e]; exact hA' t (by omega))
theorem call_forged (H : Inv i l a) : Call (fun G => (f_Fa_forged G 0).map fun x => (x, G)) (fun G => f_Mo_forged G 136) i l a := by
  obtain ⟨n, nf, nn, np, dy, hN⟩ := now_of H; obtain ⟨⟨a1, a2, a3, a4, a5⟩, ⟨b1, b2, b3, b4, b5, b6⟩, ⟨c1, c2, c3, c4, c5⟩, ⟨d1, d2, d3, d4, d5⟩⟩ := id hN
  obtain ⟨res, e1, e2⟩ := forged_Fa (l := l) hN FU 0 (by omega) (FU_lt (by omega)) (fun e he => by omega)
  obtain ⟨a3', g1, g2, g3⟩ := forged_lay (i1 := i) (l := l) (a0' := a) hN rfl FU 0 a (by omega) (FU_lt (by omega)) (fun _ _ => rfl) (fun t ht => by omega)
  obtain ⟨a4', res', k1, k2, k3⟩ := forged_Mo (l := l) (i1 := i) hN (a0' := a) rfl FU 0 a3' (by omega) (FU_lt (by omega)) g1 g2 (fun e he => by omega)
  have er := e2.u k3
  subst er
  refine ⟨res, i, l, a, i, l, a4', ?_, g3.trans k2, ?_⟩
  · show (f_Fa_forged (mkH i l a) 0).map _ = _
    rw [show f_Fa_forged (mkH i l a) 0 = some res from e1]
    rfl
  · refine inv_same H (fun b hb => ⟨fun k => rfl, k1 b (by unfold Away at hb; omega)⟩) (k1 137 (by omega)) (fun _ _ => rfl) (k1 134 (by omega)) rfl rfl ?_
    unfold Ref
    rw [k1 140 (by omega)]
    exact H.2.2.2.2.2.2.1
end FG
