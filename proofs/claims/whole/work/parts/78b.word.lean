/-! ===== the text: words, numbers, stops ===== -/
def chW (w j : Nat) : Int32 := (g_byt.getD w []).getD j 0
def lnW (w : Nat) : Nat := g_len.getD w 0
def wrd (g : Nat → Int32) (bl s w : Nat) : Prop := knd g bl s = 1 ∧ nxt g bl s = s + lnW w ∧ ∀ j, j < lnW w → g (s + j) = chW w j
section WD
variable {i i0 : Nat → Nat → Int32} {l : Nat → Nat → Int64} {a : Nat → Nat → Int32} {g : Nat → Int32} {bl s : Nat}
theorem lnW_b : ∀ w, w < 4 → lnW w ≤ 6 ∧ 4 ≤ lnW w := by decide
theorem sL_w {β : Type} {w : Nat} (hw : w < 4) {κ : Int32 → Option β} : sL w κ = κ (nI (lnW w)) := if_pos hw
theorem sC_w {β : Type} {w j : Nat} (hw : w < 4) (hj : j < lnW w) {κ : Int32 → Option β} : sC w (nI j) κ = κ (chW w j) := by
  have := lnW_b w hw
  unfold sC
  rw [nI_cl (by omega)]
  refine if_pos ⟨hw, fun h => ?_⟩
  rcases h with h | h
  · rw [nI_lt0 (by omega)] at h
    exact h
  · exact absurd hj (Nat.not_lt.mpr h)
theorem cw_loop (hT : TX g bl i a) {w : Nat} (hw : w < 4) (h4 : i 103 4 = nI s) (hs : s + lnW w ≤ bl) : ∀ (fu j : Nat), j ≤ lnW w → lnW w - j < fu → (∀ e, e < j → g (s + e) = chW w e) → (f_Re_isWord_b28 (mkH i l a) fu 103 w (nI j) = some 1 ∧ ∀ e, e < lnW w → g (s + e) = chW w e) ∨ (f_Re_isWord_b28 (mkH i l a) fu 103 w (nI j) = some 0 ∧ ¬ ∀ e, e < lnW w → g (s + e) = chW w e) := by
  have hb := hT.1
  have hl := lnW_b w hw
  intro fu
  induction fu with
  | zero => intro j _ h; omega
  | succ fu ih =>
    intro j hj hf hE
    show (f_Re_isWord_b28_k _ (f_Re_isWord_b28 _ fu) _ _ _ = _ ∧ _) ∨ (f_Re_isWord_b28_k _ (f_Re_isWord_b28 _ fu) _ _ _ = _ ∧ _)
    unfold f_Re_isWord_b28_k
    by_cases h : j = lnW w
    · subst h
      exact Or.inl ⟨by rw [sL_w hw, ifn_y (by omega) (by omega) (by omega)], hE⟩
    · rw [sL_w hw, ifn_n (by omega) (by omega) (by omega), r_103_0, g_103_4, h4, nI_add, o_104, at_in hT (by omega), cP_s, sC_w hw (by omega), nI_s1]
      by_cases e : g (s + j) = chW w j
      · rw [if_pos e]
        exact ih (j + 1) (by omega) (by omega) (fun e' he => by
          by_cases ee : e' = j
          · rw [ee]; exact e
          · exact hE e' (by omega))
      · rw [if_neg e]
        exact Or.inr ⟨rfl, fun x => e (x j (by omega))⟩
theorem cword (hT : TX g bl i a) {w : Nat} (hw : w < 4) (hC : CTk g bl i s) : (f_Re_isWord (mkH i l a) 103 w = some 1 ∧ wrd g bl s w) ∨ (f_Re_isWord (mkH i l a) 103 w = some 0 ∧ ¬ wrd g bl s w) := by
  have hb := hT.1
  have hl := lnW_b w hw
  obtain ⟨h1, h2, h3, h4, h5⟩ := hC
  have hk := knd_le g bl s
  unfold f_Re_isWord f_Re_isWord_b24 wrd
  rw [g_103_3, h3]
  by_cases e : knd g bl s = 1
  · have hs := knd_lt e (by omega)
    have hn := nxt_p (g := g) hs
    rw [if_pos (by rw [e]; rfl), g_103_5, h4 hs, g_103_4, h2, sL_w hw, nI_dif (by omega)]
    by_cases e2 : nxt g bl s = s + lnW w
    · rw [if_pos (by rw [e2, Nat.add_sub_cancel_left])]
      rcases cw_loop (l := l) hT hw h2 (by omega) FU 0 (Nat.zero_le _) (FU_lt (by omega)) (fun e he => by omega) with ⟨f, q⟩ | ⟨f, q⟩
      · exact Or.inl ⟨f, e, e2, q⟩
      · exact Or.inr ⟨f, fun x => q x.2.2⟩
    · rw [if_neg (by rw [nI_eq' (by omega) (by omega)]; omega)]
      exact Or.inr ⟨rfl, fun x => e2 x.2.1⟩
  · rw [if_neg (c := nI (knd g bl s) = 1) (show ¬ nI (knd g bl s) = nI 1 by rw [nI_eq' (by omega) (by omega)]; exact e)]
    exact Or.inr ⟨rfl, fun x => e x.1⟩
/-- the reference's letters -/
def lt6 (c0 c1 c2 c3 c4 c5 : Int32) (j : Nat) : Int32 := if j = 0 then c0 else if j = 1 then c1 else if j = 2 then c2 else if j = 3 then c3 else if j = 4 then c4 else c5
theorem mw_loop (hT : TM g bl i a) {c0 c1 c2 c3 c4 c5 : Int32} {L : Nat} (hL : L ≤ 6) (h18 : i 136 18 = nI s) (hs : s + L ≤ bl) : ∀ (fu j : Nat) (fl : Int32), j ≤ L → L - j + 1 < fu → ((fl = 1 ∧ ∀ e, e < j → g (s + e) = lt6 c0 c1 c2 c3 c4 c5 e) ∨ (fl = 0 ∧ ¬ ∀ e, e < L → g (s + e) = lt6 c0 c1 c2 c3 c4 c5 e)) → (f_Mo_isWord_b40 (mkH i l a) fu 136 c0 c1 c2 c3 c4 c5 (nI L) fl (nI j) = some 1 ∧ ∀ e, e < L → g (s + e) = lt6 c0 c1 c2 c3 c4 c5 e) ∨ (f_Mo_isWord_b40 (mkH i l a) fu 136 c0 c1 c2 c3 c4 c5 (nI L) fl (nI j) = some 0 ∧ ¬ ∀ e, e < L → g (s + e) = lt6 c0 c1 c2 c3 c4 c5 e) := by
  have hb := hT.1
  intro fu
  induction fu with
  | zero => intro j _ _ h; omega
  | succ fu ih =>
    intro j fl hj hf hE
    show (f_Mo_isWord_b40_k _ (f_Mo_isWord_b40 _ fu) _ _ _ _ _ _ _ _ _ _ = _ ∧ _) ∨ (f_Mo_isWord_b40_k _ (f_Mo_isWord_b40 _ fu) _ _ _ _ _ _ _ _ _ _ = _ ∧ _)
    unfold f_Mo_isWord_b40_k f_Mo_isWord_b133 f_Mo_isWord_b117 f_Mo_isWord_b125
    rcases hE with ⟨rfl, hE⟩ | ⟨rfl, hE⟩
    · by_cases h : j = L
      · subst h
        exact Or.inl ⟨by rw [ifn_y (by omega) (by omega) (by omega), zR_1], hE⟩
      · rw [ifn_n (by omega) (by omega) (by omega), if_neg n10, r_136_16, g_136_18, h18, nI_add, a_148 (by omega), hT.2.2 (s + j) (by omega), nI_s1]
        have STEP : ∀ c : Int32, c = lt6 c0 c1 c2 c3 c4 c5 j → ((if g (s + j) = c then f_Mo_isWord_b40 (mkH i l a) fu 136 c0 c1 c2 c3 c4 c5 (nI L) 1 (nI (j + 1)) else f_Mo_isWord_b40 (mkH i l a) fu 136 c0 c1 c2 c3 c4 c5 (nI L) 0 (nI (j + 1))) = some 1 ∧ ∀ e, e < L → g (s + e) = lt6 c0 c1 c2 c3 c4 c5 e) ∨ ((if g (s + j) = c then f_Mo_isWord_b40 (mkH i l a) fu 136 c0 c1 c2 c3 c4 c5 (nI L) 1 (nI (j + 1)) else f_Mo_isWord_b40 (mkH i l a) fu 136 c0 c1 c2 c3 c4 c5 (nI L) 0 (nI (j + 1))) = some 0 ∧ ¬ ∀ e, e < L → g (s + e) = lt6 c0 c1 c2 c3 c4 c5 e) := by
          intro c hc
          by_cases e : g (s + j) = c
          · rw [if_pos e]
            exact ih (j + 1) 1 (by omega) (by omega) (Or.inl ⟨rfl, fun e' he => by
              by_cases ee : e' = j
              · rw [ee, e, hc]
              · exact hE e' (by omega)⟩)
          · rw [if_neg e]
            exact ih (j + 1) 0 (by omega) (by omega) (Or.inr ⟨rfl, fun x => e ((x j (by omega)).trans hc.symm)⟩)
        by_cases j0 : j = 0
        · rw [if_pos (c := nI j = 0) (by rw [j0]; rfl)]
          exact STEP _ (by unfold lt6; rw [if_pos j0])
        · rw [if_neg (c := nI j = 0) (show ¬ nI j = nI 0 by rw [nI_eq' (by omega) (by omega)]; exact j0)]
          by_cases j1 : j = 1
          · rw [if_pos (c := nI j = 1) (by rw [j1]; rfl)]
            exact STEP _ (by unfold lt6; rw [if_neg j0, if_pos j1])
          · rw [if_neg (c := nI j = 1) (show ¬ nI j = nI 1 by rw [nI_eq' (by omega) (by omega)]; exact j1)]
            by_cases j2 : j = 2
            · rw [if_pos (c := nI j = 2) (by rw [j2]; rfl)]
              exact STEP _ (by unfold lt6; rw [if_neg j0, if_neg j1, if_pos j2])
            · rw [if_neg (c := nI j = 2) (show ¬ nI j = nI 2 by rw [nI_eq' (by omega) (by omega)]; exact j2)]
              by_cases j3 : j = 3
              · rw [if_pos (c := nI j = 3) (by rw [j3]; rfl)]
                exact STEP _ (by unfold lt6; rw [if_neg j0, if_neg j1, if_neg j2, if_pos j3])
              · rw [if_neg (c := nI j = 3) (show ¬ nI j = nI 3 by rw [nI_eq' (by omega) (by omega)]; exact j3)]
                by_cases j4 : j = 4
                · rw [if_pos (c := nI j = 4) (by rw [j4]; rfl)]
                  exact STEP _ (by unfold lt6; rw [if_neg j0, if_neg j1, if_neg j2, if_neg j3, if_pos j4])
                · rw [if_neg (c := nI j = 4) (show ¬ nI j = nI 4 by rw [nI_eq' (by omega) (by omega)]; exact j4)]
                  exact STEP _ (by unfold lt6; rw [if_neg j0, if_neg j1, if_neg j2, if_neg j3, if_neg j4])
    · refine Or.inr ⟨?_, hE⟩
      rw [if_pos rfl, zR_0, ite_self]
theorem mword (hT : TM g bl i a) {w : Nat} (hw : w < 4) (hC : RTk g bl i s) {c0 c1 c2 c3 c4 c5 : Int32} (h5 : c4 = 0 ↔ lnW w = 4) (h6 : lnW w = 4 ∨ lnW w = 6) (hc : ∀ e, e < lnW w → chW w e = lt6 c0 c1 c2 c3 c4 c5 e) : (f_Mo_isWord (mkH i l a) 136 c0 c1 c2 c3 c4 c5 = some 1 ∧ wrd g bl s w) ∨ (f_Mo_isWord (mkH i l a) 136 c0 c1 c2 c3 c4 c5 = some 0 ∧ ¬ wrd g bl s w) := by
  have hb := hT.1
  have hl := lnW_b w hw
  obtain ⟨h1, h18, h20, h19, -⟩ := hC
  have hk := knd_le g bl s
  have E : f_Mo_isWord (mkH i l a) 136 c0 c1 c2 c3 c4 c5 = f_Mo_isWord_b11 (mkH i l a) 136 c0 c1 c2 c3 c4 c5 (nI (lnW w)) := by
    unfold f_Mo_isWord
    by_cases q : lnW w = 4
    · rw [if_pos (h5.mpr q), q]
      rfl
    · rw [if_neg (fun x => q (h5.mp x)), show lnW w = 6 by omega]
      rfl
  rw [E]
  unfold f_Mo_isWord_b11 f_Mo_isWord_b34 f_Mo_isWord_b35
  have NO : f_Mo_isWord_b40 (mkH i l a) FU 136 c0 c1 c2 c3 c4 c5 (nI (lnW w)) 0 0 = some 0 := by
    show f_Mo_isWord_b40_k _ (f_Mo_isWord_b40 _ 999999999) _ _ _ _ _ _ _ _ _ _ = _
    unfold f_Mo_isWord_b40_k f_Mo_isWord_b133
    rw [if_pos rfl, zR_0, ite_self]
  rw [NO, g_136_20, h20]
  by_cases e : knd g bl s = 1
  · have hs := knd_lt e (by omega)
    have hn := nxt_p (g := g) hs
    rw [if_pos (by rw [e]; rfl), g_136_19, h19]
    by_cases e2 : nxt g bl s = s + lnW w
    · rw [if_pos (by rw [e2, Nat.add_sub_cancel_left])]
      rcases mw_loop (l := l) (c0 := c0) (c1 := c1) (c2 := c2) (c3 := c3) (c4 := c4) (c5 := c5) hT (L := lnW w) (by omega) h18 (by omega) FU 0 1 (Nat.zero_le _) (FU_lt (by omega)) (Or.inl ⟨rfl, fun e he => by omega⟩) with ⟨f, q⟩ | ⟨f, q⟩
      · exact Or.inl ⟨f, e, e2, fun j hj => (q j hj).trans (hc j hj).symm⟩
      · exact Or.inr ⟨f, fun x => q fun j hj => (x.2.2 j hj).trans (hc j hj)⟩
    · rw [if_neg (by rw [nI_eq' (by omega) (by omega)]; omega)]
      exact Or.inr ⟨rfl, fun x => e2 x.2.1⟩
  · rw [if_neg (c := nI (knd g bl s) = 1) (show ¬ nI (knd g bl s) = nI 1 by rw [nI_eq' (by omega) (by omega)]; exact e)]
    exact Or.inr ⟨rfl, fun x => e x.1⟩
/-! ===== the class's steps, from one token to the next ===== -/
theorem c_go (hT : TX g bl i0 a) (h : CQk g bl i0 i s) (hs : s < bl) : ∃ i', f_Re_step (mkH i l a) 103 = some (mkH i' l a) ∧ CQk g bl i0 i' (skp g bl (nxt g bl s)) := by
  have hn := nxt_p (g := g) hs
  obtain ⟨i', f, q1, q2⟩ := step_ok (l := l) (hT.c (h.2 104 1 (by omega))) hn.2 (h.1.2.2.2.1 hs)
  exact ⟨i', f, q1, fun b k hk => (q2 b k hk).trans (h.2 b k hk)⟩
def inR (g : Nat → Int32) (bl s lo hi : Nat) : Prop := knd g bl s = 2 ∧ lo ≤ numN g bl s ∧ numN g bl s ≤ hi
theorem c_num (hT : TX g bl i0 a) (h : CQk g bl i0 i s) (hf : i0 103 2 = -1) {x y : Int32} {lo hi : Nat} (hx : x = nI lo) (hy : y = nI hi) (hh : hi < 1000) (hl : lo < 1000) (q : inR g bl s lo hi) : ∃ i', f_Re_takeNumber (mkH i l a) 103 x y = some (nI (numN g bl s), mkH i' l a) ∧ CQk g bl i0 i' (skp g bl (nxt g bl s)) := by
  subst hx hy
  have hs := knd_lt q.1 (by omega)
  obtain ⟨i', f, q'⟩ := c_go (l := l) hT h hs
  refine ⟨i', ?_, q'⟩
  obtain ⟨h1, h2, h3, h4, h5⟩ := h.1
  have n6 := h5 q.1
  have nb := num_b q.1
  unfold f_Re_takeNumber
  rw [g_103_2, h.2 103 2 (by omega), hf, if_pos rfl, g_103_3, h3, q.1, if_pos (show nI 2 = 2 from rfl), g_103_6, n6, if_neg (by rw [nI_lt' (by omega) (by omega)]; exact Nat.not_lt.mpr q.2.1), g_103_6, n6, ifn_y (by omega) (by omega) q.2.2, g_103_6, n6, o_103, f, cP_s]
theorem c_fail (h2 : i 103 2 = -1) (h4 : i 103 4 = nI s) : f_Re_fail (mkH i l a) 103 = some (mkH (up2 i 103 2 (nI s)) l a) := by
  unfold f_Re_fail f_Re_fail_b16
  rw [g_103_2, h2, if_pos rfl, g_103_4, h4, p_103_2]
theorem c_fail_d {f : Nat} (hf : f ≤ 250) (h2 : i 103 2 = nI f) : f_Re_fail (mkH i l a) 103 = some (mkH i l a) := by
  unfold f_Re_fail f_Re_fail_b16
  rw [g_103_2, h2, if_neg (by rw [nI_neg1 (by omega)]; exact id)]
theorem c_no (h : CQk g bl i0 i s) (hf : i0 103 2 = -1) {x y : Int32} {lo hi : Nat} (hx : x = nI lo) (hy : y = nI hi) (hh : hi < 1000) (hl : lo < 1000) (q : ¬ inR g bl s lo hi) : f_Re_takeNumber (mkH i l a) 103 x y = some (x, mkH (up2 i 103 2 (nI s)) l a) := by
  subst hx hy
  obtain ⟨h1, h2, h3, h4, h5⟩ := h.1
  have hk := knd_le g bl s
  have hf' : i 103 2 = -1 := (h.2 103 2 (by omega)).trans hf
  unfold f_Re_takeNumber f_Re_takeNumber_b32
  rw [o_103, c_fail hf' h2, cP_s, g_103_2, hf', if_pos rfl, g_103_3, h3]
  by_cases e : knd g bl s = 2
  · have n6 := h5 e
    have nb := num_b e
    rw [if_pos (by rw [e]; rfl), g_103_6, n6]
    by_cases e1 : numN g bl s < lo
    · rw [if_pos (by rw [nI_lt' (by omega) (by omega)]; exact e1)]
    · rw [if_neg (by rw [nI_lt' (by omega) (by omega)]; exact e1), g_103_6, n6, ifn_n (by omega) (by omega) (fun x => q ⟨e, by omega, x⟩)]
  · rw [if_neg (c := nI (knd g bl s) = 2) (show ¬ nI (knd g bl s) = nI 2 by rw [nI_eq' (by omega) (by omega)]; exact e)]
theorem c_dead {f : Nat} (hf : f ≤ 250) (h2 : i 103 2 = nI f) (x y : Int32) : f_Re_takeNumber (mkH i l a) 103 x y = some (x, mkH i l a) := by
  unfold f_Re_takeNumber f_Re_takeNumber_b32
  rw [g_103_2, h2, if_neg (by rw [nI_neg1 (by omega)]; exact id), o_103, c_fail_d hf h2, cP_s]
theorem c_stop (hT : TX g bl i0 a) (h : CQk g bl i0 i s) (hf : i0 103 2 = -1) (q : knd g bl s = 3) : ∃ i', f_Re_takeStop (mkH i l a) 103 = some (mkH i' l a) ∧ CQk g bl i0 i' (skp g bl (nxt g bl s)) := by
  have hs := knd_lt q (by omega)
  obtain ⟨i', f, q'⟩ := c_go (l := l) hT h hs
  refine ⟨i', ?_, q'⟩
  unfold f_Re_takeStop
  rw [g_103_2, h.2 103 2 (by omega), hf, if_pos rfl, g_103_3, h.1.2.2.1, q, if_pos (show nI 3 = 3 from rfl), o_103, f, cP_s]
theorem c_nstop (h : CQk g bl i0 i s) (hf : i0 103 2 = -1) (q : ¬ knd g bl s = 3) : f_Re_takeStop (mkH i l a) 103 = some (mkH (up2 i 103 2 (nI s)) l a) := by
  have hf' : i 103 2 = -1 := (h.2 103 2 (by omega)).trans hf
  have hk := knd_le g bl s
  unfold f_Re_takeStop f_Re_takeStop_b16
  rw [g_103_2, hf', if_pos rfl, g_103_3, h.1.2.2.1, if_neg (c := nI (knd g bl s) = 3) (show ¬ nI (knd g bl s) = nI 3 by rw [nI_eq' (by omega) (by omega)]; exact q), o_103, c_fail hf' h.1.2.1, cP_s]
theorem c_dstop {f : Nat} (hf : f ≤ 250) (h2 : i 103 2 = nI f) : f_Re_takeStop (mkH i l a) 103 = some (mkH i l a) := by
  unfold f_Re_takeStop f_Re_takeStop_b16
  rw [g_103_2, h2, if_neg (by rw [nI_neg1 (by omega)]; exact id), o_103, c_fail_d hf h2, cP_s]
theorem c_ref (h : CQk g bl i0 i s) {x : Nat} (hx : x < 1000) (q : ¬ (knd g bl s = 2 ∧ numN g bl s = x)) : f_Re_refuse (mkH i l a) 103 (nI x) = some (mkH i l a) := by
  have hk := knd_le g bl s
  unfold f_Re_refuse f_Re_refuse_b20
  rw [g_103_3, h.1.2.2.1]
  by_cases e : knd g bl s = 2
  · have nb := num_b e
    rw [if_pos (by rw [e]; rfl), g_103_6, h.1.2.2.2.2 e, if_neg (by rw [nI_eq' (by omega) (by omega)]; exact fun y => q ⟨e, y⟩)]
  · rw [if_neg (c := nI (knd g bl s) = 2) (show ¬ nI (knd g bl s) = nI 2 by rw [nI_eq' (by omega) (by omega)]; exact e)]
theorem c_rno (h : CQk g bl i0 i s) (hf : i0 103 2 = -1) {x : Nat} (q : knd g bl s = 2 ∧ numN g bl s = x) : f_Re_refuse (mkH i l a) 103 (nI x) = some (mkH (up2 i 103 2 (nI s)) l a) := by
  have hf' : i 103 2 = -1 := (h.2 103 2 (by omega)).trans hf
  unfold f_Re_refuse f_Re_refuse_b20
  rw [g_103_3, h.1.2.2.1, q.1, if_pos (show nI 2 = 2 from rfl), g_103_6, h.1.2.2.2.2 q.1, q.2, if_pos rfl, o_103, c_fail hf' h.1.2.1, cP_s]
theorem c_dref {f : Nat} (hf : f ≤ 250) (h2 : i 103 2 = nI f) (x : Int32) : f_Re_refuse (mkH i l a) 103 x = some (mkH i l a) := by
  unfold f_Re_refuse f_Re_refuse_b20
  rw [o_103, c_fail_d hf h2, cP_s, g_103_3, g_103_6, ite_self, ite_self]
/-! ===== the reference's ===== -/
theorem m_go (hT : TM g bl i a) (h : MQk g bl i0 i s) (hs : s < bl) : ∃ i', f_Mo_goOn (mkH i l a) 136 = some (mkH i' l a) ∧ MQk g bl i0 i' (skp g bl (nxt g bl s)) := by
  have hn := nxt_p (g := g) hs
  obtain ⟨h1, h18, h20, h19, h21⟩ := h.1
  obtain ⟨i', f, q1, q2⟩ := look_ok (l := l) hT hn.2
  refine ⟨i', ?_, q1, fun b k hk => (q2 b k hk).trans (h.2 b k hk)⟩
  unfold f_Mo_goOn
  rw [g_136_18, h18, g_136_19, h19, nI_add, show s + (nxt g bl s - s) = nxt g bl s by omega, o_136, f, cP_s]
theorem m_num (hT : TM g bl i a) (h : MQk g bl i0 i s) {x y : Int32} {lo hi : Nat} (hx : x = nI lo) (hy : y = nI hi) (hh : hi < 1000) (hl : lo ≤ hi) (q : inR g bl s lo hi) {z : Int32} {k : Nat} (hz : z = nI k) (hk : k < 6) : ∃ i', f_Mo_takes (mkH i l a) 136 z x y = some (1, mkH i' l (va_up a 150 (upd (a 150) k (nI (numN g bl s))))) ∧ MQk g bl i0 i' (skp g bl (nxt g bl s)) := by
  subst hx hy hz
  have hs := knd_lt q.1 (by omega)
  obtain ⟨i', f, q'⟩ := m_go (l := l) (a := va_up a 150 (upd (a 150) k (nI (numN g bl s)))) (hT.c rfl (vu_n (by omega))) h hs
  refine ⟨i', ?_, q'⟩
  obtain ⟨h1, h18, h20, h19, h21⟩ := h.1
  unfold f_Mo_takes
  rw [g_136_20, h20, q.1, if_pos (show nI 2 = 2 from rfl), g_136_21, h21 q.1, Mo_in_in (lo := lo) (hi := hi) rfl rfl q.2.1 q.2.2 (by omega), cP_s, if_neg n10, r_136_23, g_136_21, h21 q.1, s_150 hk, o_136, f, cP_s]
theorem m_no (h : MQk g bl i0 i s) {x y : Int32} {lo hi : Nat} (hx : x = nI lo) (hy : y = nI hi) (hh : hi < 1000) (hl : lo ≤ hi) (q : ¬ inR g bl s lo hi) (z : Int32) : f_Mo_takes (mkH i l a) 136 z x y = some (0, mkH i l a) := by
  subst hx hy
  have hk := knd_le g bl s
  obtain ⟨h1, h18, h20, h19, h21⟩ := h.1
  unfold f_Mo_takes f_Mo_takes_b23
  rw [g_136_20, h20]
  by_cases e : knd g bl s = 2
  · have nb := num_b e
    rw [if_pos (by rw [e]; rfl), g_136_21, h21 e, Mo_in_out (y := nI lo) (z := nI hi) rfl rfl (by
      rw [nI_lt' (by omega) (by omega), nI_lt' (by omega) (by omega)]
      by_cases e1 : numN g bl s < lo
      · exact Or.inl e1
      · exact Or.inr (Nat.lt_of_not_le fun e2 => q ⟨e, by omega, e2⟩)), cP_s, if_pos rfl]
  · rw [if_neg (c := nI (knd g bl s) = 2) (show ¬ nI (knd g bl s) = nI 2 by rw [nI_eq' (by omega) (by omega)]; exact e)]
end WD
