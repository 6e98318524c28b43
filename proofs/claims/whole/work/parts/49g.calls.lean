/-! ===== calls: join ===== -/
section C6
variable {i : Nat → Nat → Int32} {l : Nat → Nat → Int64} {a : Nat → Nat → Int32} {n nf nn np dy : Nat}
theorem b155_ok {f g w t1 t2 : Nat} (hf : f < 12) (hg : g < 12) (hfg : f ≠ g) (h1 : t1 ≤ 99) (h2 : t2 ≤ 99) (e1 : a 137 (14 + (f * 7 + 5)) = nI t1) (e2 : a 137 (14 + (g * 7 + 5)) = nI t2) : f_Mo_join_b155 (mkH i l a) 136 (nI g) (14 + 7 * nI f) 137 (14 + 7 * nI f + 4) (nI w) = some (nI w, mkH i l (va_up a 137 (upd (upd (upd (a 137) (14 + (f * 7 + 4)) (nI w)) (14 + (f * 7 + 5)) (nI (min t1 t2))) (14 + (g * 7 + 2)) (-1)))) := by
  have x4 := ix7 (f := f) (k := 4)
  have x5 := ix7 (f := f) (k := 5)
  have E1 : upd (a 137) (14 + (f * 7 + 4)) (nI w) (14 + (f * 7 + 5)) = nI t1 := (ud_n (by omega)).trans e1
  have E2 : upd (a 137) (14 + (f * 7 + 4)) (nI w) (14 + (g * 7 + 5)) = nI t2 := (ud_n (by omega)).trans e2
  unfold f_Mo_join_b155 f_Mo_join_b200
  rw [t_137 (x := 14 + 7 * nI f + 4) (m := 14 + (f * 7 + 4)) x4 (by omega)]
  simp only [r_136_0, o_136, O_136, r_136_3, cP_s, cH_s, n10, if_true, if_false, zR_0, zR_1, lt_e, Mo_many_ok, Mo_day_ok]
  rw [told_1 (v := upd (a 137) (14 + (f * 7 + 4)) (nI w)) (f := g) (c := 5) (k := 5) (x := nI t2) vu_s rfl (by omega) (by omega) E2]
  simp only [r_136_0, o_136, O_136, r_136_3, cP_s, cH_s, n10, if_true, if_false, zR_0, zR_1, lt_e, Mo_many_ok, Mo_day_ok, b_137 (x := 14 + 7 * nI f + 5) (m := 14 + (f * 7 + 5)) x5 (by omega), vu_s, E1, E2]
  by_cases h : t1 ≤ t2
  · rw [if_pos (by rw [nI_le' (by omega) (by omega)]; exact h), t_137 (x := 14 + 7 * nI f + 5) (m := 14 + (f * 7 + 5)) x5 (by omega), Nat.min_eq_left h, vu_u, vu_s, o_136, Mo_lose_ok hg, cP_s, r_136_0, b_137 (x := 14 + 7 * nI f + 4) (m := 14 + (f * 7 + 4)) x4 (by omega), vu_u, vu_s, vu_s]
    simp (disch := omega) only [ud_n, ud_s]
  · rw [if_neg (by rw [nI_le' (by omega) (by omega)]; exact h)]
    rw [t_137 (x := 14 + 7 * nI f + 5) (m := 14 + (f * 7 + 5)) x5 (by omega), Nat.min_eq_right (by omega), vu_u, vu_s, o_136, Mo_lose_ok hg, cP_s, r_136_0, b_137 (x := 14 + 7 * nI f + 4) (m := 14 + (f * 7 + 4)) x4 (by omega), vu_u, vu_s, vu_s]
    simp (disch := omega) only [ud_n, ud_s]
theorem alike_ok (hN : Now i a (a 137) n nf nn np dy) {f g : Nat} (hf : f < nf) (hg : g < nf) : f_St_areAlike (mkH i l a) 2 (nI f) (nI g) = some (if a 137 (14 + (f * 7 + 1)) = a 137 (14 + (g * 7 + 1)) then (if a 137 (14 + (f * 7 + 2)) = a 137 (14 + (g * 7 + 2)) then (if a 137 (14 + (f * 7 + 3)) = a 137 (14 + (g * 7 + 3)) then 1 else 0) else 0) else 0) := by
  obtain ⟨⟨a1, a2, a3, a4, a5⟩, ⟨b1, b2, b3, b4, b5, b6⟩, ⟨c1, c2, c3, c4, c5⟩, ⟨d1, d2, d3, d4, d5⟩⟩ := id hN
  unfold f_St_areAlike f_St_areAlike_b67 f_St_areAlike_b68
  simp only [r_0_3, r_2_0, r_2_1, r_2_2, r_2_3, r_2_4, g_2_5, o_0, o_2, o_3, o_5, o_7, o_9, o_11, O_0, O_2, O_3, O_5, O_7, O_9, O_11, r_0_8, p_124_0, cP_s, cH_s, n10, if_true, if_false, zR_0, zR_1, lt_e, c_at (t := 5) (m := 12) (w := 7) (c := 1) (k := 1) (by decide) rfl b3 a3.2 hf (by omega), c_at (t := 5) (m := 12) (w := 7) (c := 2) (k := 2) (by decide) rfl b3 a3.2 hf (by omega), c_at (t := 5) (m := 12) (w := 7) (c := 3) (k := 3) (by decide) rfl b3 a3.2 hf (by omega), c_at (t := 5) (m := 12) (w := 7) (c := 1) (k := 1) (by decide) rfl b3 a3.2 hg (by omega), c_at (t := 5) (m := 12) (w := 7) (c := 2) (k := 2) (by decide) rfl b3 a3.2 hg (by omega), c_at (t := 5) (m := 12) (w := 7) (c := 3) (k := 3) (by decide) rfl b3 a3.2 hg (by omega)]
  rw [d2 (f * 7 + 1) (by omega), d2 (f * 7 + 2) (by omega), d2 (f * 7 + 3) (by omega), d2 (g * 7 + 1) (by omega), d2 (g * 7 + 2) (by omega), d2 (g * 7 + 3) (by omega)]
  by_cases h1 : a 137 (14 + (f * 7 + 1)) = a 137 (14 + (g * 7 + 1))
  · rw [if_pos h1, if_pos h1]
    by_cases h2 : a 137 (14 + (f * 7 + 2)) = a 137 (14 + (g * 7 + 2))
    · rw [if_pos h2, if_pos h2]
      by_cases h3 : a 137 (14 + (f * 7 + 3)) = a 137 (14 + (g * 7 + 3))
      · rw [if_pos h3, if_pos h3]
      · rw [if_neg h3, if_neg h3]
    · rw [if_neg h2, if_neg h2]
  · rw [if_neg h1, if_neg h1]
theorem favK_set {v : Nat → Int32} {n f w d : Nat} (h : favK v n f) (hw1 : 1 ≤ w) (hw : w ≤ 40) (hd : d ≤ 99) : favK (upd (upd v (14 + (f * 7 + 4)) (nI w)) (14 + (f * 7 + 5)) (nI d)) n f := by
  obtain ⟨k, b, t, w', tl, m, h0, h1, h2, h3, h4, h5, h6⟩ := h
  refine ⟨k, b, t, w, d, m, ?_, ?_, ?_, ?_, ⟨(ud_n (by omega)).trans ud_s, hw1, hw⟩, ⟨ud_s, hd⟩, ?_⟩ <;> (rw [ud_n (by omega), ud_n (by omega)]; assumption)
theorem merge_ok {f g w1 w2 t1 t2 : Nat} (b3 : i 5 2 = nI nf) (hnf : nf ≤ 12) (hf : f < nf) (hg : g < nf) (h1 : w1 ≤ 40) (h2 : w2 ≤ 40) (h3 : t1 ≤ 99) (h4 : t2 ≤ 99) (e1 : a 6 (f * 7 + 4) = nI w1) (e2 : a 6 (g * 7 + 4) = nI w2) (e3 : a 6 (f * 7 + 5) = nI t1) (e4 : a 6 (g * 7 + 5) = nI t2) : f_St_merge (mkH i l a) 2 (nI f) (nI g) = some (nI (min 40 (w1 + w2)), mkH i l (va_up a 6 (upd (upd (upd (a 6) (f * 7 + 4) (nI (min 40 (w1 + w2)))) (f * 7 + 5) (nI (min t1 t2))) (g * 7 + 2) (-1)))) := by
  have mW : mn 40 (nI w1 + nI w2) = nI (min 40 (w1 + w2)) := by rw [nI_add, show (40 : Int32) = nI 40 from rfl, nI_mn (by omega) (by omega)]
  have A := fun (a : Nat → Nat → Int32) (f : Nat) (hf : f < nf) (k : Nat) (c : Int32) (hc : c = nI k) (hk : k < 7) => c_at (i := i) (l := l) (a := a) (t := 5) (m := 12) (w := 7) (by decide) hc b3 hnf hf hk
  have P := fun (a : Nat → Nat → Int32) (f : Nat) (hf : f < nf) (k : Nat) (c v : Int32) (hc : c = nI k) (hk : k < 7) => c_put (i := i) (l := l) (a := a) (t := 5) (m := 12) (w := 7) (v := v) (by decide) hc b3 hnf hf hk
  have E1 : upd (a 6) (f * 7 + 4) (nI (min 40 (w1 + w2))) (f * 7 + 5) = nI t1 := (ud_n (by omega)).trans e3
  have E2 : upd (a 6) (f * 7 + 4) (nI (min 40 (w1 + w2))) (g * 7 + 5) = nI t2 := (ud_n (by omega)).trans e4
  unfold f_St_merge
  rw [r_2_1, o_5, A a f hf 4 4 rfl (by omega), cP_s, r_2_1, o_5, A a g hg 4 4 rfl (by omega), cP_s, e1, e2, lt_e, mW, r_2_1, o_5, P a f hf 4 4 _ rfl (by omega), cP_s, r_2_1, r_2_1, o_5, A _ f hf 5 5 rfl (by omega), cP_s, r_2_1, o_5, A _ g hg 5 5 rfl (by omega), cP_s, vu_s, E1, E2, nI_mn (by omega) (by omega), o_5, P _ f hf 5 5 _ rfl (by omega), cP_s, r_2_1, o_5, P _ g hg 2 2 _ rfl (by omega), cP_s, vu_s, vu_u, vu_s, vu_u]
theorem call_join (H : Inv i l a) (f g : Int32) : Call (fun G => f_Fa_join G 0 f g) (fun G => f_Mo_join G 136 f g) i l a := by
  obtain ⟨n, nf, nn, np, dy, hN⟩ := now_of H; obtain ⟨⟨a1, a2, a3, a4, a5⟩, ⟨b1, b2, b3, b4, b5, b6⟩, ⟨c1, c2, c3, c4, c5⟩, ⟨d1, d2, d3, d4, d5⟩⟩ := id hN
  rcases ck_fav l hN f with ⟨F1, M1⟩ | ⟨f, hf, rfl, F1, M1⟩
  · (refine call_bad (r := -2) H ?_ (fun i1 => ?_); (unfold f_Fa_join f_Fa_join_b33; simp only [r_0_3, r_2_0, r_2_1, r_2_2, r_2_3, r_2_4, g_2_5, o_0, o_2, o_3, o_5, o_7, o_9, o_11, O_0, O_2, O_3, O_5, O_7, O_9, O_11, r_0_8, p_124_0, cP_s, cH_s, n10, if_true, if_false, zR_0, zR_1, lt_e, cH_id, F1]); (unfold f_Mo_join f_Mo_join_b21; simp only [r_136_0, o_136, O_136, r_136_3, cP_s, cH_s, n10, if_true, if_false, zR_0, zR_1, lt_e, Mo_many_ok, Mo_day_ok, cH_id, M1 i1 l a rfl]))
  rcases ck_fav l hN g with ⟨F2, M2⟩ | ⟨g, hg, rfl, F2, M2⟩
  · (refine call_bad (r := -2) H ?_ (fun i1 => ?_); (unfold f_Fa_join f_Fa_join_b33; simp only [r_0_3, r_2_0, r_2_1, r_2_2, r_2_3, r_2_4, g_2_5, o_0, o_2, o_3, o_5, o_7, o_9, o_11, O_0, O_2, O_3, O_5, O_7, O_9, O_11, r_0_8, p_124_0, cP_s, cH_s, n10, if_true, if_false, zR_0, zR_1, lt_e, cH_id, F1, F2]); (unfold f_Mo_join f_Mo_join_b21; simp only [r_136_0, o_136, O_136, r_136_3, cP_s, cH_s, n10, if_true, if_false, zR_0, zR_1, lt_e, Mo_many_ok, Mo_day_ok, cH_id, M1 i1 l a rfl, M2 i1 l a rfl]))
  by_cases hfg : nI f = nI g
  · (refine call_bad (r := -2) H ?_ (fun i1 => ?_); (unfold f_Fa_join f_Fa_join_b33; simp only [r_0_3, r_2_0, r_2_1, r_2_2, r_2_3, r_2_4, g_2_5, o_0, o_2, o_3, o_5, o_7, o_9, o_11, O_0, O_2, O_3, O_5, O_7, O_9, O_11, r_0_8, p_124_0, cP_s, cH_s, n10, if_true, if_false, zR_0, zR_1, lt_e, cH_id, F1, F2, if_pos hfg]); (unfold f_Mo_join f_Mo_join_b21; simp only [r_136_0, o_136, O_136, r_136_3, cP_s, cH_s, n10, if_true, if_false, zR_0, zR_1, lt_e, Mo_many_ok, Mo_day_ok, cH_id, M1 i1 l a rfl, M2 i1 l a rfl, if_pos hfg]))
  have hfg' : f ≠ g := fun e => hfg (by rw [e])
  have T1 : ∀ (i1 : Nat → Nat → Int32) (a1 : Nat → Nat → Int32), a1 137 = a 137 → ∀ f, f < nf → f_Mo_told0 (mkH i1 l a1) 136 (nI f) 1 = some (a 137 (14 + (f * 7 + 1))) := fun i1 a1 h f hf => told_1 (k := 1) h rfl (by omega) (by omega) rfl
  have T2 : ∀ (i1 : Nat → Nat → Int32) (a1 : Nat → Nat → Int32), a1 137 = a 137 → ∀ f, f < nf → f_Mo_told0 (mkH i1 l a1) 136 (nI f) 2 = some (a 137 (14 + (f * 7 + 2))) := fun i1 a1 h f hf => told_1 (k := 2) h rfl (by omega) (by omega) rfl
  have T3 : ∀ (i1 : Nat → Nat → Int32) (a1 : Nat → Nat → Int32), a1 137 = a 137 → ∀ f, f < nf → f_Mo_told0 (mkH i1 l a1) 136 (nI f) 3 = some (a 137 (14 + (f * 7 + 3))) := fun i1 a1 h f hf => told_1 (k := 3) h rfl (by omega) (by omega) rfl
  obtain ⟨u, hu, V1, V2⟩ := vNow l hN hf
  obtain ⟨u', hu', V1', V2'⟩ := vNow l hN hg
  have AL := alike_ok (l := l) hN hf hg
  by_cases h1 : a 137 (14 + (f * 7 + 1)) = a 137 (14 + (g * 7 + 1))
  rotate_left
  · (refine call_no (r := -3) H ?_ (fun i1 => ?_); (unfold f_Fa_join f_Fa_join_b74; simp only [r_0_3, r_2_0, r_2_1, r_2_2, r_2_3, r_2_4, g_2_5, o_0, o_2, o_3, o_5, o_7, o_9, o_11, O_0, O_2, O_3, O_5, O_7, O_9, O_11, r_0_8, p_124_0, cP_s, cH_s, n10, if_true, if_false, zR_0, zR_1, lt_e, cH_id, F1, F2, if_neg hfg, AL, if_neg h1]); (unfold f_Mo_join f_Mo_join_b77 f_Mo_join_b78 f_Mo_join_b99; simp only [r_136_0, o_136, O_136, r_136_3, cP_s, cH_s, n10, if_true, if_false, zR_0, zR_1, lt_e, Mo_many_ok, Mo_day_ok, cH_id, M1 i1 l a rfl, M2 i1 l a rfl, if_neg hfg, T1 i1 a rfl f hf, T1 i1 a rfl g hg, if_neg h1]))
  by_cases h2 : a 137 (14 + (f * 7 + 2)) = a 137 (14 + (g * 7 + 2))
  rotate_left
  · (refine call_no (r := -3) H ?_ (fun i1 => ?_); (unfold f_Fa_join f_Fa_join_b74; simp only [r_0_3, r_2_0, r_2_1, r_2_2, r_2_3, r_2_4, g_2_5, o_0, o_2, o_3, o_5, o_7, o_9, o_11, O_0, O_2, O_3, O_5, O_7, O_9, O_11, r_0_8, p_124_0, cP_s, cH_s, n10, if_true, if_false, zR_0, zR_1, lt_e, cH_id, F1, F2, if_neg hfg, AL, if_pos h1, if_neg h2]); (unfold f_Mo_join f_Mo_join_b77 f_Mo_join_b78 f_Mo_join_b99; simp only [r_136_0, o_136, O_136, r_136_3, cP_s, cH_s, n10, if_true, if_false, zR_0, zR_1, lt_e, Mo_many_ok, Mo_day_ok, cH_id, M1 i1 l a rfl, M2 i1 l a rfl, if_neg hfg, T1 i1 a rfl f hf, T1 i1 a rfl g hg, if_pos h1, T2 i1 a rfl f hf, T2 i1 a rfl g hg, if_neg h2]))
  by_cases h3 : a 137 (14 + (f * 7 + 3)) = a 137 (14 + (g * 7 + 3))
  rotate_left
  · (refine call_no (r := -3) H ?_ (fun i1 => ?_); (unfold f_Fa_join f_Fa_join_b74; simp only [r_0_3, r_2_0, r_2_1, r_2_2, r_2_3, r_2_4, g_2_5, o_0, o_2, o_3, o_5, o_7, o_9, o_11, O_0, O_2, O_3, O_5, O_7, O_9, O_11, r_0_8, p_124_0, cP_s, cH_s, n10, if_true, if_false, zR_0, zR_1, lt_e, cH_id, F1, F2, if_neg hfg, AL, if_pos h1, if_pos h2, if_neg h3]); (unfold f_Mo_join f_Mo_join_b77 f_Mo_join_b78 f_Mo_join_b99; simp only [r_136_0, o_136, O_136, r_136_3, cP_s, cH_s, n10, if_true, if_false, zR_0, zR_1, lt_e, Mo_many_ok, Mo_day_ok, cH_id, M1 i1 l a rfl, M2 i1 l a rfl, if_neg hfg, T1 i1 a rfl f hf, T1 i1 a rfl g hg, if_pos h1, T2 i1 a rfl f hf, T2 i1 a rfl g hg, if_pos h2, T3 i1 a rfl f hf, T3 i1 a rfl g hg, if_neg h3]))
  by_cases hu0 : nI u = 0
  · (refine call_no (r := -3) H ?_ (fun i1 => ?_); (unfold f_Fa_join f_Fa_join_b74; simp only [r_0_3, r_2_0, r_2_1, r_2_2, r_2_3, r_2_4, g_2_5, o_0, o_2, o_3, o_5, o_7, o_9, o_11, O_0, O_2, O_3, O_5, O_7, O_9, O_11, r_0_8, p_124_0, cP_s, cH_s, n10, if_true, if_false, zR_0, zR_1, lt_e, cH_id, F1, F2, if_neg hfg, AL, if_pos h1, if_pos h2, if_pos h3, V1, if_pos hu0]); (unfold f_Mo_join f_Mo_join_b78 f_Mo_join_b99; simp only [r_136_0, o_136, O_136, r_136_3, cP_s, cH_s, n10, if_true, if_false, zR_0, zR_1, lt_e, Mo_many_ok, Mo_day_ok, cH_id, M1 i1 l a rfl, M2 i1 l a rfl, if_neg hfg, T1 i1 a rfl f hf, T1 i1 a rfl g hg, if_pos h1, T2 i1 a rfl f hf, T2 i1 a rfl g hg, if_pos h2, T3 i1 a rfl f hf, T3 i1 a rfl g hg, if_pos h3, V2 i1 l a rfl, if_pos hu0]))
  by_cases hu0' : nI u' = 0
  · (refine call_no (r := -3) H ?_ (fun i1 => ?_); (unfold f_Fa_join f_Fa_join_b74; simp only [r_0_3, r_2_0, r_2_1, r_2_2, r_2_3, r_2_4, g_2_5, o_0, o_2, o_3, o_5, o_7, o_9, o_11, O_0, O_2, O_3, O_5, O_7, O_9, O_11, r_0_8, p_124_0, cP_s, cH_s, n10, if_true, if_false, zR_0, zR_1, lt_e, cH_id, F1, F2, if_neg hfg, AL, if_pos h1, if_pos h2, if_pos h3, V1, if_neg hu0, V1', if_pos hu0']); (unfold f_Mo_join f_Mo_join_b78 f_Mo_join_b99; simp only [r_136_0, o_136, O_136, r_136_3, cP_s, cH_s, n10, if_true, if_false, zR_0, zR_1, lt_e, Mo_many_ok, Mo_day_ok, cH_id, M1 i1 l a rfl, M2 i1 l a rfl, if_neg hfg, T1 i1 a rfl f hf, T1 i1 a rfl g hg, if_pos h1, T2 i1 a rfl f hf, T2 i1 a rfl g hg, if_pos h2, T3 i1 a rfl f hf, T3 i1 a rfl g hg, if_pos h3, V2 i1 l a rfl, if_neg hu0, V2' i1 l a rfl, if_pos hu0']))
  have hfk := c2 f hf
  have hgk := c2 g hg
  obtain ⟨-, -, -, w1, d1', -, -, -, -, -, ⟨e4, hw1, hw⟩, ⟨e5, hd⟩, -⟩ := c2 f hf
  obtain ⟨-, -, -, w2, d2', -, -, -, -, -, ⟨e4', hw1', hw'⟩, ⟨e5', hd'⟩, -⟩ := c2 g hg
  have A4 : f_Ta_at (mkH i l a) 5 (nI f) 4 = some (nI w1) := by rw [c_at (t := 5) (m := 12) (w := 7) (c := 4) (k := 4) (by decide) rfl b3 a3.2 hf (by omega), d2 _ (by omega), e4]
  have A4' : f_Ta_at (mkH i l a) 5 (nI g) 4 = some (nI w2) := by rw [c_at (t := 5) (m := 12) (w := 7) (c := 4) (k := 4) (by decide) rfl b3 a3.2 hg (by omega), d2 _ (by omega), e4']
  have mW : mn 40 (nI w1 + nI w2) = nI (min 40 (w1 + w2)) := by rw [nI_add, show (40 : Int32) = nI 40 from rfl, nI_mn (by omega) (by omega)]
  refine ok_st (i1 := up2 i 124 0 1) (a1 := va_up a 6 (upd (upd (upd (a 6) (f * 7 + 4) (nI (min 40 (w1 + w2)))) (f * 7 + 5) (nI (min d1' d2'))) (g * 7 + 2) (-1))) (r := nI (min 40 (w1 + w2))) (v := upd (upd (upd (a 137) (14 + (f * 7 + 4)) (nI (min 40 (w1 + w2)))) (14 + (f * 7 + 5)) (nI (min d1' d2'))) (14 + (g * 7 + 2)) (-1)) (n := n) (nf := nf) (nn := nn) (np := np) (dy := dy) H (fun b hb => ⟨fun k => (by first | (simp (disch := (unfold Rest at hb; omega)) only [up2_n]) | rfl), by first | (simp (disch := (unfold Rest at hb; omega)) only [vu_n]) | rfl⟩) ?_ (fun i1 a1 h => ?_) ?_ (fun j h1 h2 => (by simp (disch := omega) only [ud_s, ud_n])) (Or.inl up2_s)
  · show f_Fa_join _ 0 _ _ = _
    unfold f_Fa_join
    simp only [r_0_3, r_2_0, r_2_1, r_2_2, r_2_3, r_2_4, g_2_5, o_0, o_2, o_3, o_5, o_7, o_9, o_11, O_0, O_2, O_3, O_5, O_7, O_9, O_11, r_0_8, p_124_0, cP_s, cH_s, n10, if_true, if_false, zR_0, zR_1, lt_e, F1, F2, if_neg hfg, AL, if_pos h1, if_pos h2, if_pos h3, V1, if_neg hu0, V1', if_neg hu0', merge_ok (i := up2 i 124 0 1) ((up2_n (by omega)).trans b3) a3.2 hf hg hw hw' hd hd' ((d2 _ (by omega)).trans e4) ((d2 _ (by omega)).trans e4') ((d2 _ (by omega)).trans e5) ((d2 _ (by omega)).trans e5')]
  · show f_Mo_join _ 136 _ _ = _
    unfold f_Mo_join f_Mo_join_b78
    simp only [r_136_0, o_136, O_136, r_136_3, cP_s, cH_s, n10, if_true, if_false, zR_0, zR_1, lt_e, Mo_many_ok, Mo_day_ok, M1 i1 l a1 h, M2 i1 l a1 h, if_neg hfg, T1 i1 a1 h f hf, T1 i1 a1 h g hg, if_pos h1, T2 i1 a1 h f hf, T2 i1 a1 h g hg, if_pos h2, T3 i1 a1 h f hf, T3 i1 a1 h g hg, if_pos h3, V2 i1 l a1 h, if_neg hu0, V2' i1 l a1 h, if_neg hu0']
    rw [b_137 (x := 14 + 7 * nI f + 4) (m := 14 + (f * 7 + 4)) (ix7 (f := f) (k := 4)) (by omega), h, e4, told_1 (v := a 137) (f := g) (c := 4) (k := 4) (x := nI w2) h rfl (by omega) (by omega) e4', cP_s, nI_add]
    have B := fun w => b155_ok (i := i1) (l := l) (a := a1) (w := w) (show f < 12 by omega) (show g < 12 by omega) hfg' hd hd' (by rw [h]; exact e5) (by rw [h]; exact e5')
    rw [h] at B
    by_cases hW : w1 + w2 ≤ 40
    · rw [if_pos (c := nI (w1 + w2) ≤ 40) (show nI (w1 + w2) ≤ nI 40 by rw [nI_le' (by omega) (by omega)]; exact hW), Nat.min_eq_right hW]
      exact B _
    · rw [if_neg (c := nI (w1 + w2) ≤ 40) (show ¬ nI (w1 + w2) ≤ nI 40 by rw [nI_le' (by omega) (by omega)]; exact hW), Nat.min_eq_left (by omega)]
      exact B 40
  · have hm : 1 ≤ min 40 (w1 + w2) ∧ min 40 (w1 + w2) ≤ 40 ∧ min d1' d2' ≤ 99 := by omega
    refine hN.F (fun j h1 h2 h3 => (by simp (disch := omega) only [ud_s, ud_n])) ⟨(by first | rfl | (simp (disch := omega) only [up2_n])), fun _ => (by first | rfl | (simp (disch := omega) only [up2_n])), fun _ => (by first | rfl | (simp (disch := omega) only [up2_n]) | omega), fun _ => (by first | rfl | (simp (disch := omega) only [up2_n]) | omega), fun _ => (by first | rfl | (simp (disch := omega) only [up2_n]) | omega), (by first | rfl | (simp (disch := omega) only [up2_n]))⟩ ⟨(by first | rfl | (simp (disch := omega) only [vu_n])), (by first | rfl | (simp (disch := omega) only [vu_n])), (by first | rfl | (simp (disch := omega) only [vu_n])), (by first | rfl | (simp (disch := omega) only [vu_n]))⟩ ⟨(by simp (disch := omega) only [ud_s, ud_n]; exact a3.1), a3.2⟩ ((up2_n (by omega)).trans b3) (wF_row (f := g) (wF_row (f := f) c2 (fun j hj hj2 => (by simp (disch := omega) only [ud_s, ud_n])) (favK_set hfk hm.1 hm.2.1 hm.2.2) (Or.inl rfl)) (fun j hj hj2 => ud_n (by omega)) (favK_lose ?_) (Or.inl rfl)) (Nat.le_refl _) (fun j hj => ?_)
    · unfold favK
      simp (disch := omega) only [ud_n]
      exact hgk
    · rw [vu_s]
      exact upd_mt fun g2 => upd_mt fun g1 => upd_mt fun g0 => d2 j hj
end C6
