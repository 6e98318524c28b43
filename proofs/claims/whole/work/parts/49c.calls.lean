/-! ===== calls: told, need, clear, status ===== -/
section C2
variable {i : Nat → Nat → Int32} {l : Nat → Nat → Int64} {a : Nat → Nat → Int32}
theorem call_told (H : Inv i l a) (f b c : Int32) : Call (fun G => f_Fa_told G 0 f b c) (fun G => f_Mo_told G 136 f b c) i l a := by
  obtain ⟨n, nf, nn, np, dy, hN⟩ := now_of H; obtain ⟨⟨a1, a2, a3, a4, a5⟩, ⟨b1, b2, b3, b4, b5, b6⟩, ⟨c1, c2, c3, c4, c5⟩, ⟨d1, d2, d3, d4, d5⟩⟩ := id hN
  rcases ck_fav l hN f with ⟨F1, M1⟩ | ⟨f, hf, rfl, F1, M1⟩
  · (refine call_bad (r := -2) H ?_ (fun i1 => ?_); (unfold f_Fa_told f_Fa_told_b47; simp only [r_0_3, r_2_0, r_2_1, r_2_2, r_2_3, r_2_4, g_2_5, o_0, o_2, o_3, o_5, o_7, o_9, o_11, O_0, O_2, O_3, O_5, O_7, O_9, O_11, r_0_8, p_124_0, cP_s, cH_s, n10, if_true, if_false, zR_0, zR_1, lt_e, cH_id, F1]); (unfold f_Mo_told f_Mo_told_b29; simp only [r_136_0, o_136, O_136, r_136_3, cP_s, cH_s, n10, if_true, if_false, zR_0, zR_1, lt_e, Mo_many_ok, Mo_day_ok, cH_id, M1 i1 l a rfl]))
  rcases ck_one l hN b with ⟨F2, M2⟩ | ⟨b, hb, rfl, F2, M2⟩
  · (refine call_bad (r := -2) H ?_ (fun i1 => ?_); (unfold f_Fa_told f_Fa_told_b47; simp only [r_0_3, r_2_0, r_2_1, r_2_2, r_2_3, r_2_4, g_2_5, o_0, o_2, o_3, o_5, o_7, o_9, o_11, O_0, O_2, O_3, O_5, O_7, O_9, O_11, r_0_8, p_124_0, cP_s, cH_s, n10, if_true, if_false, zR_0, zR_1, lt_e, cH_id, F1, F2]); (unfold f_Mo_told f_Mo_told_b29; simp only [r_136_0, o_136, O_136, r_136_3, cP_s, cH_s, n10, if_true, if_false, zR_0, zR_1, lt_e, Mo_many_ok, Mo_day_ok, cH_id, M1 i1 l a rfl, M2 i1 l a rfl]))
  rcases ck_one l hN c with ⟨F3, M3⟩ | ⟨c, hc, rfl, F3, M3⟩
  · (refine call_bad (r := -2) H ?_ (fun i1 => ?_); (unfold f_Fa_told f_Fa_told_b47; simp only [r_0_3, r_2_0, r_2_1, r_2_2, r_2_3, r_2_4, g_2_5, o_0, o_2, o_3, o_5, o_7, o_9, o_11, O_0, O_2, O_3, O_5, O_7, O_9, O_11, r_0_8, p_124_0, cP_s, cH_s, n10, if_true, if_false, zR_0, zR_1, lt_e, cH_id, F1, F2, F3]); (unfold f_Mo_told f_Mo_told_b29; simp only [r_136_0, o_136, O_136, r_136_3, cP_s, cH_s, n10, if_true, if_false, zR_0, zR_1, lt_e, Mo_many_ok, Mo_day_ok, cH_id, M1 i1 l a rfl, M2 i1 l a rfl, M3 i1 l a rfl]))
  by_cases hbc : nI b = nI c
  · (refine call_bad (r := -2) H ?_ (fun i1 => ?_); (unfold f_Fa_told f_Fa_told_b47; simp only [r_0_3, r_2_0, r_2_1, r_2_2, r_2_3, r_2_4, g_2_5, o_0, o_2, o_3, o_5, o_7, o_9, o_11, O_0, O_2, O_3, O_5, O_7, O_9, O_11, r_0_8, p_124_0, cP_s, cH_s, n10, if_true, if_false, zR_0, zR_1, lt_e, cH_id, F1, F2, F3, if_pos hbc]); (unfold f_Mo_told f_Mo_told_b29; simp only [r_136_0, o_136, O_136, r_136_3, cP_s, cH_s, n10, if_true, if_false, zR_0, zR_1, lt_e, Mo_many_ok, Mo_day_ok, cH_id, M1 i1 l a rfl, M2 i1 l a rfl, M3 i1 l a rfl, if_pos hbc]))
  by_cases h12 : np = 12
  · subst h12
    (refine call_full H ?_ (fun i1 => ?_); (unfold f_Fa_told; simp only [r_0_3, r_2_0, r_2_1, r_2_2, r_2_3, r_2_4, g_2_5, o_0, o_2, o_3, o_5, o_7, o_9, o_11, O_0, O_2, O_3, O_5, O_7, O_9, O_11, r_0_8, p_124_0, cP_s, cH_s, n10, if_true, if_false, zR_0, zR_1, lt_e, cH_id, F1, F2, F3, if_neg hbc, Ta_full_yes (t := 9) (m := 12) (w := 3) (by decide) b5]); (unfold f_Mo_told; simp only [r_136_0, o_136, O_136, r_136_3, cP_s, cH_s, n10, if_true, if_false, zR_0, zR_1, lt_e, Mo_many_ok, Mo_day_ok, cH_id, M1 i1 l a rfl, M2 i1 l a rfl, M3 i1 l a rfl, if_neg hbc, b_137 (x := 160) (m := 160) rfl (by omega), a5.1, if_pos (show nI 12 = 12 from rfl)]))
  refine ok_st (i1 := up2 i 9 2 (nI (np + 1))) (a1 := va_up a 10 (row3 (a 10) np (nI f) (nI b) (nI c))) (r := nI np) (v := upd (upd (upd (upd (a 137) (118 + (np * 3 + 0)) (nI f)) (118 + (np * 3 + 1)) (nI b)) (118 + (np * 3 + 2)) (nI c)) 160 (nI (np + 1))) (n := n) (nf := nf) (nn := nn) (np := np + 1) (dy := dy) H (fun b hb => ⟨fun k => (by first | (simp (disch := (unfold Rest at hb; omega)) only [up2_n]) | rfl), by first | (simp (disch := (unfold Rest at hb; omega)) only [vu_n]) | rfl⟩) ?_ (fun i1 a1 h => ?_) ?_ (fun j h1 h2 => (by simp (disch := omega) only [ud_s, ud_n])) ?_
  · show f_Fa_told _ 0 _ _ _ = _
    unfold f_Fa_told
    simp only [r_0_3, r_2_0, r_2_1, r_2_2, r_2_3, r_2_4, g_2_5, o_0, o_2, o_3, o_5, o_7, o_9, o_11, O_0, O_2, O_3, O_5, O_7, O_9, O_11, r_0_8, p_124_0, cP_s, cH_s, n10, if_true, if_false, zR_0, zR_1, lt_e, F1, F2, F3, if_neg hbc, Ta_full_no (t := 9) (m := 12) (w := 3) (by decide) b5 (by omega), St_addPass_ok (q := 2) (np := np) (by decide) b5 (by omega)]
  · show f_Mo_told _ 136 _ _ _ = _
    unfold f_Mo_told
    simp only [r_136_0, o_136, O_136, r_136_3, cP_s, cH_s, n10, if_true, if_false, zR_0, zR_1, lt_e, Mo_many_ok, Mo_day_ok, M1 i1 l a1 h, M2 i1 l a1 h, M3 i1 l a1 h, if_neg hbc, b_137 (x := 160) (m := 160) rfl (by omega), h, a5.1, nI_is (c := 12) (k := 12) rfl (by omega) (by omega) h12]
    rw [t_137 (x := 118 + 3 * nI np) (m := 118 + (np * 3 + 0)) (by rw [← ix3 (by omega)]; exact (a0 _).symm) (by omega)]
    simp only [r_136_0, o_136, O_136, r_136_3, cP_s, cH_s, n10, if_true, if_false, zR_0, zR_1, lt_e, Mo_many_ok, Mo_day_ok]
    rw [t_137 (x := 118 + 3 * nI np + 1) (m := 118 + (np * 3 + 1)) (ix3 (p := np) (c := 1) (by omega)) (by omega)]
    simp only [r_136_0, o_136, O_136, r_136_3, cP_s, cH_s, n10, if_true, if_false, zR_0, zR_1, lt_e, Mo_many_ok, Mo_day_ok]
    rw [t_137 (x := 118 + 3 * nI np + 2) (m := 118 + (np * 3 + 2)) (ix3 (p := np) (c := 2) (by omega)) (by omega)]
    simp only [r_136_0, o_136, O_136, r_136_3, cP_s, cH_s, n10, if_true, if_false, zR_0, zR_1, lt_e, Mo_many_ok, Mo_day_ok, b_137 (x := 160) (m := 160) rfl (by omega), t_137 (x := 160) (m := 160) rfl (by omega), vu_s, vu_u]
    simp (disch := omega) only [ud_n, h, a5.1, nI_s1]
  · refine hN.T (fun j h1 h2 h3 => (by simp (disch := omega) only [ud_s, ud_n])) ⟨(by first | rfl | (simp (disch := omega) only [up2_n])), fun _ => (by first | rfl | (simp (disch := omega) only [up2_n])), fun _ => (by first | rfl | (simp (disch := omega) only [up2_n]) | omega), fun _ => (by first | rfl | (simp (disch := omega) only [up2_n]) | omega), fun _ => (by first | rfl | (simp (disch := omega) only [up2_n]) | omega), (by first | rfl | (simp (disch := omega) only [up2_n]))⟩ ⟨(by first | rfl | (simp (disch := omega) only [vu_n])), (by first | rfl | (simp (disch := omega) only [vu_n])), (by first | rfl | (simp (disch := omega) only [vu_n])), (by first | rfl | (simp (disch := omega) only [vu_n]))⟩ ⟨ud_s, by omega⟩ up2_s (wT_add c4 (fun j hj => (by simp (disch := omega) only [ud_s, ud_n])) ⟨(by simp (disch := omega) only [ud_s, ud_n]), hf⟩ ⟨(by simp (disch := omega) only [ud_s, ud_n]), hb⟩ ⟨(by simp (disch := omega) only [ud_s, ud_n]), hc⟩) (fun j hj => ?_)
    rw [vu_s]
    unfold row3
    exact upd_nt (by omega) (upd_mt fun g2 => upd_mt fun g1 => upd_mt fun g0 => d4 j (by omega))
  · (refine Pln.c (i := i) (a := a) (v := a 137) hN.sw.1 (fun _ _ => ?_) ?_ (fun j hj => ?_) H.2.2.2.2.2.2.2.2; exact (by first | rfl | (simp (disch := omega) only [up2_n])); exact (by first | rfl | (simp (disch := omega) only [vu_n])); (unfold PlaceN at hj; simp (disch := omega) only [ud_n]))
end C2
