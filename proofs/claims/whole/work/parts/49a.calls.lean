/-! ===== calls: forget, contented, of, set, value ===== -/
section C1
variable {i : Nat → Nat → Int32} {l : Nat → Nat → Int64} {a : Nat → Nat → Int32}
theorem call_forget (H : Inv i l a) : Call (fun G => f_Fa_forget G 0) (fun G => f_Mo_forget G 136) i l a := by
  obtain ⟨n, nf, nn, np, dy, hN⟩ := now_of H; obtain ⟨⟨a1, a2, a3, a4, a5⟩, ⟨b1, b2, b3, b4, b5, b6⟩, ⟨c1, c2, c3, c4, c5⟩, ⟨d1, d2, d3, d4, d5⟩⟩ := id hN
  refine ⟨nI np, up2 i 9 2 0, l, a, up2 i 9 2 0, l, va_up a 137 (upd (a 137) 160 0), ?_, ?_, ?_⟩
  · show f_Fa_forget _ 0 = _
    unfold f_Fa_forget
    rw [r_0_3, r_2_3, O_9, Ta_empty_ok (m := 12) (w := 3) (by decide), cH_s, b5]
  · show f_Mo_forget _ 136 = _
    unfold f_Mo_forget
    rw [r_136_0, b_137 (x := 160) (m := 160) rfl (by omega), r_136_0, t_137 (x := 160) (m := 160) rfl (by omega), a5.1]
  · refine fin_now (n := n) (nf := nf) (nn := nn) (np := 0) (dy := dy) H (fun b hb => ⟨fun k => (by first | rfl | (simp (disch := (unfold Away at hb; omega)) only [up2_n])), by first | rfl | (simp (disch := (unfold Away at hb; omega)) only [vu_n])⟩) ?_ (fun j h1 h2 => by rw [vu_s, ud_n (by omega)]) (by first | rfl | (simp (disch := omega) only [up2_n])) (by first | rfl | (simp (disch := omega) only [up2_n])) (fun k _ => (by first | rfl | (simp (disch := omega) only [up2_n]))) (by first | rfl | (simp (disch := omega) only [vu_n])) ?_
    · rw [vu_s]
      exact hN.T (fun j h1 h2 h3 => ud_n (by omega)) ⟨(by first | rfl | (simp (disch := omega) only [up2_n])), fun _ => (by first | rfl | (simp (disch := omega) only [up2_n])), fun _ => (by first | rfl | (simp (disch := omega) only [up2_n]) | omega), fun _ => (by first | rfl | (simp (disch := omega) only [up2_n]) | omega), fun _ => (by first | rfl | (simp (disch := omega) only [up2_n]) | omega), (by first | rfl | (simp (disch := omega) only [up2_n]))⟩ ⟨(by first | rfl | (simp (disch := omega) only [vu_n])), (by first | rfl | (simp (disch := omega) only [vu_n])), (by first | rfl | (simp (disch := omega) only [vu_n])), (by first | rfl | (simp (disch := omega) only [vu_n]))⟩ ⟨ud_s, by omega⟩ up2_s (fun k hk => by omega) (fun j hj => by omega)
    · rw [vu_s]
      exact Pln.c hN.sw.1 (fun _ _ => (by first | rfl | (simp (disch := omega) only [up2_n]))) (by first | rfl | (simp (disch := omega) only [vu_n])) (fun j hj => ud_n (by unfold PlaceN at hj; omega)) H.2.2.2.2.2.2.2.2
theorem call_contented (H : Inv i l a) : Call (fun G => f_Fa_contented G 0) (fun G => f_Mo_contented G 136) i l a := by
  obtain ⟨n, nf, nn, np, dy, hN⟩ := now_of H; obtain ⟨⟨a1, a2, a3, a4, a5⟩, ⟨b1, b2, b3, b4, b5, b6⟩, ⟨c1, c2, c3, c4, c5⟩, ⟨d1, d2, d3, d4, d5⟩⟩ := id hN
  refine ⟨nI nn, up2 (up2 i 124 0 1) 7 2 0, l, a, up2 (up2 i 124 0 1) 7 2 0, l, va_up a 137 (upd (a 137) 159 0), ?_, ?_, ?_⟩
  · show f_Fa_contented _ 0 = _
    unfold f_Fa_contented
    rw [r_0_8, p_124_0, r_0_3, r_2_2, O_7, Ta_empty_ok (m := 5) (w := 4) (by decide), cH_s, up2_n (by omega), b4]
  · show f_Mo_contented _ 136 = _
    unfold f_Mo_contented
    rw [r_136_0, b_137 (x := 159) (m := 159) rfl (by omega), r_136_0, t_137 (x := 159) (m := 159) rfl (by omega), a4.1]
  · refine fin_now (n := n) (nf := nf) (nn := 0) (np := np) (dy := dy) H (fun b hb => ⟨fun k => (by first | rfl | (simp (disch := (unfold Away at hb; omega)) only [up2_n])), by first | rfl | (simp (disch := (unfold Away at hb; omega)) only [vu_n])⟩) ?_ (fun j h1 h2 => by rw [vu_s, ud_n (by omega)]) (by first | rfl | (simp (disch := omega) only [up2_n])) (by first | rfl | (simp (disch := omega) only [up2_n])) (fun k _ => (by first | rfl | (simp (disch := omega) only [up2_n]))) (by first | rfl | (simp (disch := omega) only [vu_n])) (Or.inl (by rw [up2_n (by omega), up2_s]))
    rw [vu_s]
    exact hN.N (fun j h1 h2 h3 => ud_n (by omega)) ⟨(by first | rfl | (simp (disch := omega) only [up2_n])), fun _ => (by first | rfl | (simp (disch := omega) only [up2_n])), fun _ => (by first | rfl | (simp (disch := omega) only [up2_n]) | omega), fun _ => (by first | rfl | (simp (disch := omega) only [up2_n]) | omega), fun _ => (by first | rfl | (simp (disch := omega) only [up2_n]) | omega), (by first | rfl | (simp (disch := omega) only [up2_n]))⟩ ⟨(by first | rfl | (simp (disch := omega) only [vu_n])), (by first | rfl | (simp (disch := omega) only [vu_n])), (by first | rfl | (simp (disch := omega) only [vu_n])), (by first | rfl | (simp (disch := omega) only [vu_n]))⟩ ⟨ud_s, by omega⟩ up2_s (fun k hk => by omega) (fun j hj => by omega)
theorem valF_now {nf : Nat} (d2 : sF (a 6) (a 137) nf) {f : Nat} (hf : f < nf) (d : Int32) : valF (a 6) f d = valF (fv (a 137)) f d := valF_c (fun k hk => d2 _ (by omega))
theorem call_of (H : Inv i l a) (f : Int32) : Call (fun G => f_Fa_of G 0 f) (fun G => f_Mo_of G 136 f) i l a := by
  obtain ⟨n, nf, nn, np, dy, hN⟩ := now_of H; obtain ⟨⟨a1, a2, a3, a4, a5⟩, ⟨b1, b2, b3, b4, b5, b6⟩, ⟨c1, c2, c3, c4, c5⟩, ⟨d1, d2, d3, d4, d5⟩⟩ := id hN
  rcases rng f (n := nf) (by omega) with ⟨f, hf, rfl⟩ | ⟨-, hf⟩
  · refine call_ask (r := a 137 (14 + (f * 7 + 2))) H ?_ ?_
    · unfold f_Fa_of
      rw [r_0_3, r_2_1, o_5, Ta_has_in (m := 12) (w := 7) (by decide) b3 a3.2 hf, cP_s, if_neg n10, r_0_3, r_2_1, o_5, c_at (m := 12) (w := 7) (c := 2) (k := 2) (by decide) rfl b3 a3.2 hf (by omega), cP_s, d2 _ (by omega)]
    · unfold f_Mo_of
      rw [o_136, Mo_fav_in (n := nf) a3.1 (by omega) hf, cP_s, if_neg n10, o_136, Mo_told_ok (c := 2) (k := 2) rfl (by omega) (by omega), cP_s]
      rfl
  · refine call_bad (r := -2) H ?_ (fun i1 => ?_)
    · unfold f_Fa_of
      rw [r_0_3, r_2_1, o_5, Ta_has_out (m := 12) (w := 7) (by decide) (by rw [b3]; exact hf), cP_s, if_pos rfl]
      exact bad9
    · unfold f_Mo_of
      rw [o_136, Mo_fav_out (n := nf) a3.1 (by omega) hf, cP_s, if_pos rfl]
      exact bad10
theorem call_set (H : Inv i l a) (t s : Int32) : Call (fun G => f_Fa_set G 0 t s) (fun G => f_Mo_set G 136 t s) i l a := by
  obtain ⟨n, nf, nn, np, dy, hN⟩ := now_of H; obtain ⟨⟨a1, a2, a3, a4, a5⟩, ⟨b1, b2, b3, b4, b5, b6⟩, ⟨c1, c2, c3, c4, c5⟩, ⟨d1, d2, d3, d4, d5⟩⟩ := id hN
  rcases rng2 t (lo := 0) (hi := 3) (by omega) (by omega) with ⟨t, ht0, ht, rfl⟩ | ht
  · rcases rng2 s (lo := 1) (hi := 99) (by omega) (by omega) with ⟨s, hs0, hs, rfl⟩ | hs
    · refine ⟨a 137 (154 + t), i, l, va_up a 12 (upd (a 12) (t * 1 + 0) (nI s)), i, l, va_up (va_up a 12 (upd (a 12) (t * 1 + 0) (nI s))) 137 (upd (a 137) (154 + t) (nI s)), ?_, ?_, ?_⟩
      · show f_Fa_set _ 0 _ _ = _
        unfold f_Fa_set f_St_rateNow f_St_setRate
        rw [Fa_thing_in ht, cP_s, if_neg n10, Fa_wi_in (x := 1) (y := 99) (lo := 1) (hi := 99) rfl rfl hs0 hs (by omega), cP_s, if_neg n10, r_0_3, o_2, r_2_4, o_11, c_at (m := 4) (w := 1) (c := 0) (k := 0) (by decide) rfl b6 (by omega) (by omega) (by omega), cP_s, cP_s, r_0_3, o_2, r_2_4, o_11, c_put (m := 4) (w := 1) (c := 0) (k := 0) (by decide) rfl b6 (by omega) (by omega) (by omega), cP_s, cP_s]
        show some (a 12 (t * 1 + 0), _) = _
        rw [d5 (t * 1 + 0) (by omega), show 154 + (t * 1 + 0) = 154 + t by omega]
      · show f_Mo_set _ 136 _ _ = _
        unfold f_Mo_set
        rw [Mo_thing_in ht, cP_s, if_neg n10, Mo_in_in (y := 1) (z := 99) (lo := 1) (hi := 99) rfl rfl hs0 hs (by omega), cP_s, if_neg n10, r_136_0, b_137 (x := 154 + nI t) (m := 154 + t) (nI_add 154 t) (by omega), r_136_0, t_137 (x := 154 + nI t) (m := 154 + t) (nI_add 154 t) (by omega), vu_n (by omega)]
      · refine fin_now (n := n) (nf := nf) (nn := nn) (np := np) (dy := dy) H (fun b hb => ⟨fun k => (by first | rfl | (simp (disch := (unfold Away at hb; omega)) only [up2_n])), by first | rfl | (simp (disch := (unfold Away at hb; omega)) only [vu_n])⟩) ?_ (fun j h1 h2 => by rw [vu_s, ud_n (by omega)]) (by first | rfl | (simp (disch := omega) only [up2_n])) (by first | rfl | (simp (disch := omega) only [up2_n])) (fun k _ => (by first | rfl | (simp (disch := omega) only [up2_n]))) (by first | rfl | (simp (disch := omega) only [vu_n])) ?_
        · rw [vu_s]
          refine hN.R (fun j h1 h2 => ud_n (by omega)) ⟨(by first | rfl | (simp (disch := omega) only [up2_n])), fun _ => (by first | rfl | (simp (disch := omega) only [up2_n])), fun _ => (by first | rfl | (simp (disch := omega) only [up2_n]) | omega), fun _ => (by first | rfl | (simp (disch := omega) only [up2_n]) | omega), fun _ => (by first | rfl | (simp (disch := omega) only [up2_n]) | omega), (by first | rfl | (simp (disch := omega) only [up2_n]))⟩ ⟨(by first | rfl | (simp (disch := omega) only [vu_n])), (by first | rfl | (simp (disch := omega) only [vu_n])), (by first | rfl | (simp (disch := omega) only [vu_n])), (by first | rfl | (simp (disch := omega) only [vu_n]))⟩ ?_ ?_
          · intro q hq
            by_cases hqp : q = t
            · subst hqp
              exact ⟨s, ud_s, hs0, hs⟩
            · rw [ud_n (by omega)]
              exact c5 q hq
          · rw [vu_n (by omega), vu_s]
            intro q hq
            by_cases hqp : q = t
            · subst hqp
              rw [ud_s, show q * 1 + 0 = q by omega, ud_s]
            · rw [ud_n (by omega), ud_n (by omega)]
              exact d5 q hq
        · rw [vu_s]
          exact Pln.c hN.sw.1 (fun _ _ => rfl) (by first | rfl | (simp (disch := omega) only [vu_n])) (fun j hj => ud_n (by unfold PlaceN at hj; omega)) H.2.2.2.2.2.2.2.2
    · refine call_bad (r := -2) H ?_ (fun i1 => ?_)
      · unfold f_Fa_set
        rw [Fa_thing_in ht, cP_s, if_neg n10, Fa_wi_out (x := 1) (y := 99) hs, cP_s, if_pos rfl]
        exact bad9
      · unfold f_Mo_set
        rw [Mo_thing_in ht, cP_s, if_neg n10, Mo_in_out (y := nI 1) (z := nI 99) (y' := 1) (z' := 99) rfl rfl hs, cP_s, if_pos rfl]
        exact bad10
  · refine call_bad (r := -2) H ?_ (fun i1 => ?_)
    · unfold f_Fa_set
      rw [Fa_thing_out ht, cP_s, if_pos rfl]
      exact bad9
    · unfold f_Mo_set
      rw [Mo_thing_out ht, cP_s, if_pos rfl]
      exact bad10
theorem call_value (H : Inv i l a) (f d : Int32) : Call (fun G => f_Fa_value G 0 f d) (fun G => f_Mo_value G 136 f d) i l a := by
  obtain ⟨n, nf, nn, np, dy, hN⟩ := now_of H; obtain ⟨⟨a1, a2, a3, a4, a5⟩, ⟨b1, b2, b3, b4, b5, b6⟩, ⟨c1, c2, c3, c4, c5⟩, ⟨d1, d2, d3, d4, d5⟩⟩ := id hN
  rcases rng f (n := nf) (by omega) with ⟨f, hf, rfl⟩ | ⟨-, hf⟩
  · rcases rng2 d (lo := 0) (hi := 99) (by omega) (by omega) with ⟨d, hd0, hd, rfl⟩ | hd
    · refine call_ask (r := valF (fv (a 137)) f (nI d)) H ?_ ?_
      · unfold f_Fa_value
        rw [r_0_3, r_2_1, o_5, Ta_has_in (m := 12) (w := 7) (by decide) b3 a3.2 hf, cP_s, if_neg n10, Fa_day_in hd, cP_s, if_neg n10, r_0_3, o_2, St_valueOn_ok hN.sw.2.1 hf, cP_s, valF_now d2 hf]
      · unfold f_Mo_value
        rw [o_136, Mo_fav_in (n := nf) a3.1 (by omega) hf, cP_s, if_neg n10, Mo_day_in hd, cP_s, if_neg n10, o_136, Mo_valueOf_ok hN.sw.1 hf hd, cP_s]
        rfl
    · refine call_bad (r := -2) H ?_ (fun i1 => ?_)
      · unfold f_Fa_value
        rw [r_0_3, r_2_1, o_5, Ta_has_in (m := 12) (w := 7) (by decide) b3 a3.2 hf, cP_s, if_neg n10, Fa_day_out hd, cP_s, if_pos rfl]
        exact bad9
      · unfold f_Mo_value
        rw [o_136, Mo_fav_in (n := nf) a3.1 (by omega) hf, cP_s, if_neg n10, Mo_day_out hd, cP_s, if_pos rfl]
        exact bad10
  · refine call_bad (r := -2) H ?_ (fun i1 => ?_)
    · unfold f_Fa_value
      rw [r_0_3, r_2_1, o_5, Ta_has_out (m := 12) (w := 7) (by decide) (by rw [b3]; exact hf), cP_s, if_pos rfl]
      exact bad9
    · unfold f_Mo_value
      rw [o_136, Mo_fav_out (n := nf) a3.1 (by omega) hf, cP_s, if_pos rfl]
      exact bad10
end C1
