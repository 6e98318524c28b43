/-! ===== calls: ask, pass ===== -/
section C5
variable {i : Nat → Nat → Int32} {l : Nat → Nat → Int64} {a : Nat → Nat → Int32} {n nf nn np dy : Nat}
theorem vNow (l : Nat → Nat → Int64) (hN : Now i a (a 137) n nf nn np dy) {f : Nat} (hf : f < nf) : ∃ u, u ≤ 49 ∧ f_St_valueNow (mkH i l a) 2 (nI f) = some (nI u) ∧ ∀ (i1 : Nat → Nat → Int32) (l1 : Nat → Nat → Int64) (a1 : Nat → Nat → Int32), a1 137 = a 137 → f_Mo_valueNow (mkH i1 l1 a1) 136 (nI f) = some (nI u) := by
  obtain ⟨u, hu, e⟩ := val_n hN.sw.1 hf hN.1.1.2
  refine ⟨u, hu, ?_, fun i1 l1 a1 h => ?_⟩
  · rw [St_valueNow_ok hN.sw.2.1 hf, hN.2.1.1, valF_now hN.2.2.2.2.1 hf, e]
  · rw [Mo_valueNow_ok (n := n) (nf := nf) (nn := nn) (np := np) (dy := dy) (by rw [h]; exact hN.sw.1) hf, h, e]
theorem told_1 {v : Nat → Int32} {a1 : Nat → Nat → Int32} (h : a1 137 = v) {f k : Nat} {c x : Int32} (hc : c = nI k) (hf : f < 12) (hk : k < 7) (hx : v (14 + (f * 7 + k)) = x) : f_Mo_told0 (mkH i l a1) 136 (nI f) c = some x := by
  rw [Mo_told_ok hc hf hk, h, hx]
theorem favK_lose {v : Nat → Int32} {n f : Nat} (h : favK v n f) : favK (upd v (14 + (f * 7 + 2)) (-1)) n f := by
  obtain ⟨k, b, t, w, tl, m, h0, h1, h2, h3, h4, h5, h6⟩ := h
  refine ⟨k, b, t, w, tl, m, ?_, ?_, Or.inl ud_s, ?_, ?_, ?_, ?_⟩ <;> (rw [ud_n (by omega)]; assumption)
theorem favK_pass {v : Nat → Int32} {n f c : Nat} (hn : n ≤ 6) (h : favK v n f) (hc : c < n) (hb : ¬ v (14 + (f * 7 + 1)) = nI c) : favK (upd v (14 + (f * 7 + 2)) (nI c)) n f := by
  obtain ⟨k, b, t, w, tl, m, h0, h1, h2, h3, h4, h5, h6⟩ := h
  refine ⟨k, b, t, w, tl, m, ?_, ?_, Or.inr ⟨c, ud_s, hc, fun e => hb (by rw [h1.1, e])⟩, ?_, ?_, ?_, ?_⟩ <;> (rw [ud_n (by omega)]; assumption)
theorem call_ask' (H : Inv i l a) (f : Int32) : Call (fun G => f_Fa_ask G 0 f) (fun G => f_Mo_ask G 136 f) i l a := by
  obtain ⟨n, nf, nn, np, dy, hN⟩ := now_of H; obtain ⟨⟨a1, a2, a3, a4, a5⟩, ⟨b1, b2, b3, b4, b5, b6⟩, ⟨c1, c2, c3, c4, c5⟩, ⟨d1, d2, d3, d4, d5⟩⟩ := id hN
  rcases ck_fav l hN f with ⟨F1, M1⟩ | ⟨f, hf, rfl, F1, M1⟩
  · (refine call_bad (r := -2) H ?_ (fun i1 => ?_); (unfold f_Fa_ask; simp only [r_0_3, r_2_0, r_2_1, r_2_2, r_2_3, r_2_4, g_2_5, o_0, o_2, o_3, o_5, o_7, o_9, o_11, O_0, O_2, O_3, O_5, O_7, O_9, O_11, r_0_8, p_124_0, cP_s, cH_s, n10, if_true, if_false, zR_0, zR_1, lt_e, cH_id, F1]); (unfold f_Mo_ask; simp only [r_136_0, o_136, O_136, r_136_3, cP_s, cH_s, n10, if_true, if_false, zR_0, zR_1, lt_e, Mo_many_ok, Mo_day_ok, cH_id, M1 i1 l a rfl]))
  obtain ⟨k, b, t, w, tl, m, ⟨g0, hk⟩, ⟨g1, hb⟩, g2, ⟨g3, ht⟩, ⟨g4, hw1, hw⟩, ⟨g5, htl⟩, ⟨g6, hm⟩⟩ := c2 f hf
  obtain ⟨u, hu, V1, V2⟩ := vNow l hN hf
  obtain ⟨s, e, q1, q2, q3, q4⟩ := c1 b hb
  have hb6 : b < 6 := by omega
  have A1 : f_Ta_at (mkH i l a) 5 (nI f) 1 = some (nI b) := by rw [c_at (t := 5) (m := 12) (w := 7) (c := 1) (k := 1) (by decide) rfl b3 a3.2 hf (by omega), d2 _ (by omega), g1]
  have A2 : f_Ta_at (mkH i l a) 3 (nI b) 1 = some (nI e) := by rw [c_at (t := 3) (m := 6) (w := 2) (c := 1) (k := 1) (by decide) rfl b2 a2.2.2 hb (by omega), (d1 b hb).2, q3]
  have A3 : f_Ta_at (mkH i l a) 3 (nI b) 0 = some (nI s) := by rw [c_at (t := 3) (m := 6) (w := 2) (c := 0) (k := 0) (by decide) rfl b2 a2.2.2 hb (by omega), (d1 b hb).1, q1]
  have T1 : ∀ (i1 : Nat → Nat → Int32) (a1 : Nat → Nat → Int32), a1 137 = a 137 → f_Mo_told0 (mkH i1 l a1) 136 (nI f) 1 = some (nI b) := fun i1 a1 h => told_1 (c := 1) (k := 1) h rfl (by omega) (by omega) g1
  by_cases hu0 : nI u = 0
  · (refine call_no (r := -3) H ?_ (fun i1 => ?_); (unfold f_Fa_ask f_Fa_ask_b80; simp only [r_0_3, r_2_0, r_2_1, r_2_2, r_2_3, r_2_4, g_2_5, o_0, o_2, o_3, o_5, o_7, o_9, o_11, O_0, O_2, O_3, O_5, O_7, O_9, O_11, r_0_8, p_124_0, cP_s, cH_s, n10, if_true, if_false, zR_0, zR_1, lt_e, cH_id, F1, V1, A1, A2, if_pos hu0]); (unfold f_Mo_ask f_Mo_ask_b54; simp only [r_136_0, o_136, O_136, r_136_3, cP_s, cH_s, n10, if_true, if_false, zR_0, zR_1, lt_e, Mo_many_ok, Mo_day_ok, cH_id, M1 i1 l a rfl, V2 i1 l a rfl, T1 i1 a rfl, if_pos hu0]))
  have e8 : (8 : Int32) + nI b = nI (8 + b) := nI_add 8 b
  have e2 : (2 : Int32) + nI b = nI (2 + b) := nI_add 2 b
  by_cases hs : nI (e + u) ≤ nI s
  · refine ok_st (i1 := up2 i 124 0 1) (a1 := va_up (va_up a 4 (upd (a 4) (b * 2 + 1) (nI (e + u)))) 6 (upd (a 6) (f * 7 + 2) (-1))) (r := nI u) (v := upd (upd (a 137) (8 + b) (nI (e + u))) (14 + (f * 7 + 2)) (-1)) (n := n) (nf := nf) (nn := nn) (np := np) (dy := dy) H (fun b hb => ⟨fun k => (by first | (simp (disch := (unfold Rest at hb; omega)) only [up2_n]) | rfl), by first | (simp (disch := (unfold Rest at hb; omega)) only [vu_n]) | rfl⟩) ?_ (fun i1 g h => ?_) ?_ (fun j h1 h2 => (by simp (disch := omega) only [ud_s, ud_n])) (Or.inl up2_s)
    · show f_Fa_ask _ 0 _ = _
      unfold f_Fa_ask
      simp only [r_0_3, r_2_0, r_2_1, r_2_2, r_2_3, r_2_4, g_2_5, o_0, o_2, o_3, o_5, o_7, o_9, o_11, O_0, O_2, O_3, O_5, O_7, O_9, O_11, r_0_8, p_124_0, cP_s, cH_s, n10, if_true, if_false, zR_0, zR_1, lt_e, F1, V1, A1, A2, A3, if_neg hu0, nI_add, if_pos hs, c_put (t := 3) (m := 6) (w := 2) (c := 1) (k := 1) (by decide) rfl b2 a2.2.2 hb (by omega), c_put (t := 5) (m := 12) (w := 7) (c := 2) (k := 2) (by decide) rfl b3 a3.2 hf (by omega)]
      rw [vu_n (by omega)]
    · show f_Mo_ask _ 136 _ = _
      unfold f_Mo_ask
      simp only [r_136_0, o_136, O_136, r_136_3, cP_s, cH_s, n10, if_true, if_false, zR_0, zR_1, lt_e, Mo_many_ok, Mo_day_ok, M1 i1 l g h, V2 i1 l g h, T1 i1 g h, if_neg hu0, e8, e2, b_137 (x := nI (8 + b)) (m := 8 + b) rfl (by omega), b_137 (x := nI (2 + b)) (m := 2 + b) rfl (by omega), h, q1, q3, nI_add, if_pos hs, t_137 (x := nI (8 + b)) (m := 8 + b) rfl (by omega), Mo_lose_ok (show f < 12 by omega), vu_s, vu_u]
    · have hes : e + u ≤ s := by rw [nI_le' (by omega) (by omega)] at hs; exact hs
      have N1 : Now (up2 i 124 0 1) (va_up a 4 (upd (a 4) (b * 2 + 1) (nI (e + u)))) (upd (a 137) (8 + b) (nI (e + u))) n nf nn np dy := by
        refine hN.P (fun j h1 h2 => ud_n (by omega)) ⟨(by first | rfl | (simp (disch := omega) only [up2_n])), fun _ => (by first | rfl | (simp (disch := omega) only [up2_n])), fun _ => (by first | rfl | (simp (disch := omega) only [up2_n]) | omega), fun _ => (by first | rfl | (simp (disch := omega) only [up2_n]) | omega), fun _ => (by first | rfl | (simp (disch := omega) only [up2_n]) | omega), (by first | rfl | (simp (disch := omega) only [up2_n]))⟩ ⟨(by first | rfl | (simp (disch := omega) only [vu_n])), (by first | rfl | (simp (disch := omega) only [vu_n])), (by first | rfl | (simp (disch := omega) only [vu_n])), (by first | rfl | (simp (disch := omega) only [vu_n]))⟩ ?_ ?_
        · intro q hq
          obtain ⟨s', d', r1, r2, r3, r4⟩ := c1 q hq
          by_cases hqp : q = b
          · subst hqp
            exact ⟨s', e + u, by rw [ud_n (by omega)]; exact r1, r2, ud_s, by omega⟩
          · exact ⟨s', d', by rw [ud_n (by omega)]; exact r1, r2, by rw [ud_n (by omega)]; exact r3, r4⟩
        · rw [vu_s]
          intro q hq
          by_cases hqp : q = b
          · subst hqp
            rw [ud_s, ud_s, ud_n (by omega), ud_n (by omega)]
            exact ⟨(d1 q hq).1, rfl⟩
          · rw [ud_n (by omega), ud_n (by omega), ud_n (by omega), ud_n (by omega)]
            exact d1 q hq
      refine N1.F (fun j h1 h2 h3 => ud_n (by omega)) ⟨(by first | rfl | (simp (disch := omega) only [up2_n])), fun _ => (by first | rfl | (simp (disch := omega) only [up2_n])), fun _ => (by first | rfl | (simp (disch := omega) only [up2_n]) | omega), fun _ => (by first | rfl | (simp (disch := omega) only [up2_n]) | omega), fun _ => (by first | rfl | (simp (disch := omega) only [up2_n]) | omega), (by first | rfl | (simp (disch := omega) only [up2_n]))⟩ ⟨(by first | rfl | (simp (disch := omega) only [vu_n])), (by first | rfl | (simp (disch := omega) only [vu_n])), (by first | rfl | (simp (disch := omega) only [vu_n])), (by first | rfl | (simp (disch := omega) only [vu_n]))⟩ ⟨(by simp (disch := omega) only [ud_s, ud_n]; exact a3.1), a3.2⟩ ?_ (wF_row (f := f) N1.2.2.1.2.1 (fun j hj hj2 => ud_n (by omega)) ?_ (Or.inl rfl)) (Nat.le_refl _) (fun j hj => ?_)
      · exact (up2_n (by omega)).trans b3
      · exact favK_lose (N1.2.2.1.2.1 f hf)
      · rw [vu_s]
        exact upd_mt fun g0 => N1.2.2.2.2.1 j hj
  · (refine call_no (r := -3) H ?_ (fun i1 => ?_); (unfold f_Fa_ask f_Fa_ask_b80; simp only [r_0_3, r_2_0, r_2_1, r_2_2, r_2_3, r_2_4, g_2_5, o_0, o_2, o_3, o_5, o_7, o_9, o_11, O_0, O_2, O_3, O_5, O_7, O_9, O_11, r_0_8, p_124_0, cP_s, cH_s, n10, if_true, if_false, zR_0, zR_1, lt_e, cH_id, F1, V1, A1, A2, A3, if_neg hu0, nI_add, if_neg hs]); (unfold f_Mo_ask f_Mo_ask_b54; simp only [r_136_0, o_136, O_136, r_136_3, cP_s, cH_s, n10, if_true, if_false, zR_0, zR_1, lt_e, Mo_many_ok, Mo_day_ok, cH_id, M1 i1 l a rfl, V2 i1 l a rfl, T1 i1 a rfl, if_neg hu0, e8, e2, b_137 (x := nI (8 + b)) (m := 8 + b) rfl (by omega), b_137 (x := nI (2 + b)) (m := 2 + b) rfl (by omega), q1, q3, nI_add, if_neg hs]))
theorem call_pass (H : Inv i l a) (f p : Int32) : Call (fun G => f_Fa_pass G 0 f p) (fun G => f_Mo_pass G 136 f p) i l a := by
  obtain ⟨n, nf, nn, np, dy, hN⟩ := now_of H; obtain ⟨⟨a1, a2, a3, a4, a5⟩, ⟨b1, b2, b3, b4, b5, b6⟩, ⟨c1, c2, c3, c4, c5⟩, ⟨d1, d2, d3, d4, d5⟩⟩ := id hN
  rcases ck_fav l hN f with ⟨F1, M1⟩ | ⟨f, hf, rfl, F1, M1⟩
  · (refine call_bad (r := -10) H ?_ (fun i1 => ?_); (unfold f_Fa_pass f_Fa_pass_b44; simp only [r_0_3, r_2_0, r_2_1, r_2_2, r_2_3, r_2_4, g_2_5, o_0, o_2, o_3, o_5, o_7, o_9, o_11, O_0, O_2, O_3, O_5, O_7, O_9, O_11, r_0_8, p_124_0, cP_s, cH_s, n10, if_true, if_false, zR_0, zR_1, lt_e, cH_id, F1]); (unfold f_Mo_pass f_Mo_pass_b26; simp only [r_136_0, o_136, O_136, r_136_3, cP_s, cH_s, n10, if_true, if_false, zR_0, zR_1, lt_e, Mo_many_ok, Mo_day_ok, cH_id, M1 i1 l a rfl]))
  rcases ck_one l hN p with ⟨F2, M2⟩ | ⟨p, hp, rfl, F2, M2⟩
  · (refine call_bad (r := -10) H ?_ (fun i1 => ?_); (unfold f_Fa_pass f_Fa_pass_b44; simp only [r_0_3, r_2_0, r_2_1, r_2_2, r_2_3, r_2_4, g_2_5, o_0, o_2, o_3, o_5, o_7, o_9, o_11, O_0, O_2, O_3, O_5, O_7, O_9, O_11, r_0_8, p_124_0, cP_s, cH_s, n10, if_true, if_false, zR_0, zR_1, lt_e, cH_id, F1, F2]); (unfold f_Mo_pass f_Mo_pass_b26; simp only [r_136_0, o_136, O_136, r_136_3, cP_s, cH_s, n10, if_true, if_false, zR_0, zR_1, lt_e, Mo_many_ok, Mo_day_ok, cH_id, M1 i1 l a rfl, M2 i1 l a rfl]))
  have hfk := c2 f hf
  obtain ⟨k, b, t, w, tl, m, ⟨g0, hk⟩, ⟨g1, hb⟩, g2, ⟨g3, ht⟩, ⟨g4, hw1, hw⟩, ⟨g5, htl⟩, ⟨g6, hm⟩⟩ := c2 f hf
  obtain ⟨u, hu, V1, V2⟩ := vNow l hN hf
  have A2 : f_Ta_at (mkH i l a) 5 (nI f) 2 = some (a 137 (14 + (f * 7 + 2))) := by rw [c_at (t := 5) (m := 12) (w := 7) (c := 2) (k := 2) (by decide) rfl b3 a3.2 hf (by omega), d2 _ (by omega)]
  have A0 : f_Ta_at (mkH i l a) 5 (nI f) 0 = some (a 137 (14 + (f * 7 + 0))) := by rw [c_at (t := 5) (m := 12) (w := 7) (c := 0) (k := 0) (by decide) rfl b3 a3.2 hf (by omega), d2 _ (by omega)]
  have A1 : f_Ta_at (mkH i l a) 5 (nI f) 1 = some (a 137 (14 + (f * 7 + 1))) := by rw [c_at (t := 5) (m := 12) (w := 7) (c := 1) (k := 1) (by decide) rfl b3 a3.2 hf (by omega), d2 _ (by omega)]
  have T : ∀ (i1 : Nat → Nat → Int32) (a1 : Nat → Nat → Int32) (k : Nat), k < 7 → a1 137 = a 137 → f_Mo_told0 (mkH i1 l a1) 136 (nI f) (nI k) = some (a 137 (14 + (f * 7 + k))) := fun i1 a1 k hk h => told_1 (k := k) h rfl (by omega) hk rfl
  have T2 : ∀ (i1 : Nat → Nat → Int32) (a1 : Nat → Nat → Int32), a1 137 = a 137 → f_Mo_told0 (mkH i1 l a1) 136 (nI f) 2 = some (a 137 (14 + (f * 7 + 2))) := fun i1 a1 => T i1 a1 2 (by omega)
  have T0 : ∀ (i1 : Nat → Nat → Int32) (a1 : Nat → Nat → Int32), a1 137 = a 137 → f_Mo_told0 (mkH i1 l a1) 136 (nI f) 0 = some (a 137 (14 + (f * 7 + 0))) := fun i1 a1 => T i1 a1 0 (by omega)
  have T1 : ∀ (i1 : Nat → Nat → Int32) (a1 : Nat → Nat → Int32), a1 137 = a 137 → f_Mo_told0 (mkH i1 l a1) 136 (nI f) 1 = some (a 137 (14 + (f * 7 + 1))) := fun i1 a1 => T i1 a1 1 (by omega)
  by_cases ho : a 137 (14 + (f * 7 + 2)) = nI p
  · (refine call_bad (r := -10) H ?_ (fun i1 => ?_); (unfold f_Fa_pass f_Fa_pass_b44; simp only [r_0_3, r_2_0, r_2_1, r_2_2, r_2_3, r_2_4, g_2_5, o_0, o_2, o_3, o_5, o_7, o_9, o_11, O_0, O_2, O_3, O_5, O_7, O_9, O_11, r_0_8, p_124_0, cP_s, cH_s, n10, if_true, if_false, zR_0, zR_1, lt_e, cH_id, F1, F2, A2, if_pos ho]); (unfold f_Mo_pass f_Mo_pass_b26; simp only [r_136_0, o_136, O_136, r_136_3, cP_s, cH_s, n10, if_true, if_false, zR_0, zR_1, lt_e, Mo_many_ok, Mo_day_ok, cH_id, M1 i1 l a rfl, M2 i1 l a rfl, T2 i1 a rfl, if_pos ho]))
  by_cases hu0 : nI u = 0
  · (refine call_no (r := -20) H ?_ (fun i1 => ?_); (unfold f_Fa_pass f_Fa_pass_b78; simp only [r_0_3, r_2_0, r_2_1, r_2_2, r_2_3, r_2_4, g_2_5, o_0, o_2, o_3, o_5, o_7, o_9, o_11, O_0, O_2, O_3, O_5, O_7, O_9, O_11, r_0_8, p_124_0, cP_s, cH_s, n10, if_true, if_false, zR_0, zR_1, lt_e, cH_id, F1, F2, A2, if_neg ho, V1, if_pos hu0]); (unfold f_Mo_pass f_Mo_pass_b51; simp only [r_136_0, o_136, O_136, r_136_3, cP_s, cH_s, n10, if_true, if_false, zR_0, zR_1, lt_e, Mo_many_ok, Mo_day_ok, cH_id, M1 i1 l a rfl, M2 i1 l a rfl, T2 i1 a rfl, if_neg ho, V2 i1 l a rfl, if_pos hu0]))
  by_cases h2 : a 137 (14 + (f * 7 + 0)) = 2
  · (refine call_no (r := -20) H ?_ (fun i1 => ?_); (unfold f_Fa_pass f_Fa_pass_b78; simp only [r_0_3, r_2_0, r_2_1, r_2_2, r_2_3, r_2_4, g_2_5, o_0, o_2, o_3, o_5, o_7, o_9, o_11, O_0, O_2, O_3, O_5, O_7, O_9, O_11, r_0_8, p_124_0, cP_s, cH_s, n10, if_true, if_false, zR_0, zR_1, lt_e, cH_id, F1, F2, A2, if_neg ho, V1, if_neg hu0, A0, if_pos h2]); (unfold f_Mo_pass f_Mo_pass_b51; simp only [r_136_0, o_136, O_136, r_136_3, cP_s, cH_s, n10, if_true, if_false, zR_0, zR_1, lt_e, Mo_many_ok, Mo_day_ok, cH_id, M1 i1 l a rfl, M2 i1 l a rfl, T2 i1 a rfl, if_neg ho, V2 i1 l a rfl, if_neg hu0, T0 i1 a rfl, if_pos h2]))
  have ef := ix7 (f := f) (k := 2)
  by_cases h1 : a 137 (14 + (f * 7 + 1)) = nI p
  · refine ok_st (i1 := up2 i 124 0 1) (a1 := va_up a 6 (upd (a 6) (f * 7 + 2) (-1))) (r := 0) (v := upd (a 137) (14 + (f * 7 + 2)) (-1)) (n := n) (nf := nf) (nn := nn) (np := np) (dy := dy) H (fun b hb => ⟨fun k => (by first | (simp (disch := (unfold Rest at hb; omega)) only [up2_n]) | rfl), by first | (simp (disch := (unfold Rest at hb; omega)) only [vu_n]) | rfl⟩) ?_ (fun i1 g h => ?_) ?_ (fun j h1 h2 => (by simp (disch := omega) only [ud_s, ud_n])) (Or.inl up2_s)
    · show f_Fa_pass _ 0 _ _ = _
      unfold f_Fa_pass f_Fa_pass_b106 f_Fa_pass_b125 f_Fa_pass_b145
      simp only [r_0_3, r_2_0, r_2_1, r_2_2, r_2_3, r_2_4, g_2_5, o_0, o_2, o_3, o_5, o_7, o_9, o_11, O_0, O_2, O_3, O_5, O_7, O_9, O_11, r_0_8, p_124_0, cP_s, cH_s, n10, if_true, if_false, zR_0, zR_1, lt_e, F1, F2, A2, if_neg ho, V1, if_neg hu0, A0, if_neg h2, A1, if_pos h1, c_put (t := 5) (m := 12) (w := 7) (c := 2) (k := 2) (by decide) rfl b3 a3.2 hf (by omega)]
    · show f_Mo_pass _ 136 _ _ = _
      unfold f_Mo_pass
      simp only [r_136_0, o_136, O_136, r_136_3, cP_s, cH_s, n10, if_true, if_false, zR_0, zR_1, lt_e, Mo_many_ok, Mo_day_ok, M1 i1 l g h, M2 i1 l g h, T2 i1 g h, if_neg ho, V2 i1 l g h, if_neg hu0, T0 i1 g h, if_neg h2, T1 i1 g h, if_pos h1, Mo_lose_ok (show f < 12 by omega), h]
    · refine hN.F (fun j h1 h2 h3 => ud_n (by omega)) ⟨(by first | rfl | (simp (disch := omega) only [up2_n])), fun _ => (by first | rfl | (simp (disch := omega) only [up2_n])), fun _ => (by first | rfl | (simp (disch := omega) only [up2_n]) | omega), fun _ => (by first | rfl | (simp (disch := omega) only [up2_n]) | omega), fun _ => (by first | rfl | (simp (disch := omega) only [up2_n]) | omega), (by first | rfl | (simp (disch := omega) only [up2_n]))⟩ ⟨(by first | rfl | (simp (disch := omega) only [vu_n])), (by first | rfl | (simp (disch := omega) only [vu_n])), (by first | rfl | (simp (disch := omega) only [vu_n])), (by first | rfl | (simp (disch := omega) only [vu_n]))⟩ ⟨(by simp (disch := omega) only [ud_s, ud_n]; exact a3.1), a3.2⟩ ((up2_n (by omega)).trans b3) (wF_row (f := f) c2 (fun j hj hj2 => ud_n (by omega)) (favK_lose hfk) (Or.inl rfl)) (Nat.le_refl _) (fun j hj => ?_)
      rw [vu_s]
      exact upd_mt fun g0 => d2 j hj
  · refine ok_st (i1 := up2 i 124 0 1) (a1 := va_up a 6 (upd (a 6) (f * 7 + 2) (nI p))) (r := 1) (v := upd (a 137) (14 + (f * 7 + 2)) (nI p)) (n := n) (nf := nf) (nn := nn) (np := np) (dy := dy) H (fun b hb => ⟨fun k => (by first | (simp (disch := (unfold Rest at hb; omega)) only [up2_n]) | rfl), by first | (simp (disch := (unfold Rest at hb; omega)) only [vu_n]) | rfl⟩) ?_ (fun i1 g h => ?_) ?_ (fun j h1 h2 => (by simp (disch := omega) only [ud_s, ud_n])) (Or.inl up2_s)
    · show f_Fa_pass _ 0 _ _ = _
      unfold f_Fa_pass f_Fa_pass_b106 f_Fa_pass_b125 f_Fa_pass_b145
      simp only [r_0_3, r_2_0, r_2_1, r_2_2, r_2_3, r_2_4, g_2_5, o_0, o_2, o_3, o_5, o_7, o_9, o_11, O_0, O_2, O_3, O_5, O_7, O_9, O_11, r_0_8, p_124_0, cP_s, cH_s, n10, if_true, if_false, zR_0, zR_1, lt_e, F1, F2, A2, if_neg ho, V1, if_neg hu0, A0, if_neg h2, A1, if_neg h1, c_put (t := 5) (m := 12) (w := 7) (c := 2) (k := 2) (by decide) rfl b3 a3.2 hf (by omega)]
    · show f_Mo_pass _ 136 _ _ = _
      unfold f_Mo_pass
      simp only [r_136_0, o_136, O_136, r_136_3, cP_s, cH_s, n10, if_true, if_false, zR_0, zR_1, lt_e, Mo_many_ok, Mo_day_ok, M1 i1 l g h, M2 i1 l g h, T2 i1 g h, if_neg ho, V2 i1 l g h, if_neg hu0, T0 i1 g h, if_neg h2, T1 i1 g h, if_neg h1, t_137 (x := 14 + 7 * nI f + 2) (m := 14 + (f * 7 + 2)) ef (by omega), h]
    · refine hN.F (fun j h1 h2 h3 => ud_n (by omega)) ⟨(by first | rfl | (simp (disch := omega) only [up2_n])), fun _ => (by first | rfl | (simp (disch := omega) only [up2_n])), fun _ => (by first | rfl | (simp (disch := omega) only [up2_n]) | omega), fun _ => (by first | rfl | (simp (disch := omega) only [up2_n]) | omega), fun _ => (by first | rfl | (simp (disch := omega) only [up2_n]) | omega), (by first | rfl | (simp (disch := omega) only [up2_n]))⟩ ⟨(by first | rfl | (simp (disch := omega) only [vu_n])), (by first | rfl | (simp (disch := omega) only [vu_n])), (by first | rfl | (simp (disch := omega) only [vu_n])), (by first | rfl | (simp (disch := omega) only [vu_n]))⟩ ⟨(by simp (disch := omega) only [ud_s, ud_n]; exact a3.1), a3.2⟩ ((up2_n (by omega)).trans b3) (wF_row (f := f) c2 (fun j hj hj2 => ud_n (by omega)) (favK_pass a2.2.2 hfk hp h1) (Or.inl rfl)) (Nat.le_refl _) (fun j hj => ?_)
      rw [vu_s]
      exact upd_mt fun g0 => d2 j hj
end C5
