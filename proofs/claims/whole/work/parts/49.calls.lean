/-! ===== calls: strong, set, told, forget, contented, value, of ===== -/
section C1
variable {i : Nat → Nat → Int32} {l : Nat → Nat → Int64} {a : Nat → Nat → Int32}
theorem call_strong (H : Inv i l a) (p s : Int32) : Call (fun G => f_Fa_strong G 0 p s) (fun G => f_Mo_strong G 136 p s) i l a := by
  obtain ⟨n, nf, nn, np, dy, hN⟩ := now_of H; obtain ⟨⟨a1, a2, a3, a4, a5⟩, ⟨b1, b2, b3, b4, b5, b6⟩, ⟨c1, c2, c3, c4, c5⟩, ⟨d1, d2, d3, d4, d5⟩⟩ := id hN
  rcases rng p (n := n) (by omega) with ⟨p, hp, rfl⟩ | ⟨-, hp⟩
  · rcases rng2 s (lo := 0) (hi := 99) (by omega) (by omega) with ⟨s, hs0, hs, rfl⟩ | hs
    · refine ⟨a 137 (2 + p), up2 i 124 0 1, l, va_up a 4 (upd (a 4) (p * 2 + 0) (nI s)), up2 i 124 0 1, l, va_up (va_up a 4 (upd (a 4) (p * 2 + 0) (nI s))) 137 (upd (a 137) (2 + p) (nI s)), ?_, ?_, ?_⟩
      · show f_Fa_strong _ 0 _ _ = _
        unfold f_Fa_strong
        rw [r_0_3, r_2_0, o_3, Ta_has_in (m := 6) (w := 2) (by decide) b2 a2.2.2 hp, cP_s, if_neg n10, Fa_wi_in (x := 0) (y := 99) (lo := 0) (hi := 99) rfl rfl hs0 hs (by omega), cP_s, if_neg n10, r_0_3, r_2_0, o_3, c_at (m := 6) (w := 2) (c := 0) (k := 0) (by decide) rfl b2 a2.2.2 hp (by omega), cP_s, r_0_3, r_2_0, o_3, c_put (m := 6) (w := 2) (c := 0) (k := 0) (by decide) rfl b2 a2.2.2 hp (by omega), cP_s, r_0_8, p_124_0, (d1 p hp).1]
      · show f_Mo_strong _ 136 _ _ = _
        unfold f_Mo_strong
        rw [o_136, Mo_one_in (n := n) (by rw [vu_n (by omega)]; exact a2.1) (by omega) hp, cP_s, if_neg n10, Mo_in_in (y := 0) (z := 99) (lo := 0) (hi := 99) rfl rfl hs0 hs (by omega), cP_s, if_neg n10, r_136_0, b_137 (x := 2 + nI p) (m := 2 + p) (nI_add 2 p) (by omega), r_136_0, t_137 (x := 2 + nI p) (m := 2 + p) (nI_add 2 p) (by omega), vu_n (by omega)]
      · refine fin_now (n := n) (nf := nf) (nn := nn) (np := np) (dy := dy) H (fun b hb => ⟨fun k => (by first | rfl | (simp (disch := (unfold Away at hb; omega)) only [up2_n])), by first | rfl | (simp (disch := (unfold Away at hb; omega)) only [vu_n])⟩) ?_ (fun j h1 h2 => by rw [vu_s, ud_n (by omega)]) (by first | rfl | (simp (disch := omega) only [up2_n])) (by first | rfl | (simp (disch := omega) only [up2_n])) (fun k _ => (by first | rfl | (simp (disch := omega) only [up2_n]))) (by first | rfl | (simp (disch := omega) only [vu_n])) (Or.inl up2_s)
        rw [vu_s]
        refine hN.P (fun j h1 h2 => ud_n (by omega)) ⟨(by first | rfl | (simp (disch := omega) only [up2_n])), fun _ => (by first | rfl | (simp (disch := omega) only [up2_n])), fun _ => (by first | rfl | (simp (disch := omega) only [up2_n]) | omega), fun _ => (by first | rfl | (simp (disch := omega) only [up2_n]) | omega), fun _ => (by first | rfl | (simp (disch := omega) only [up2_n]) | omega), (by first | rfl | (simp (disch := omega) only [up2_n]))⟩ ⟨(by first | rfl | (simp (disch := omega) only [vu_n])), (by first | rfl | (simp (disch := omega) only [vu_n])), (by first | rfl | (simp (disch := omega) only [vu_n])), (by first | rfl | (simp (disch := omega) only [vu_n]))⟩ ?_ ?_
        · intro q hq
          obtain ⟨s', d', e1, e2, e3, e4⟩ := c1 q hq
          by_cases hqp : q = p
          · subst hqp
            exact ⟨s, d', ud_s, hs, by rw [ud_n (by omega)]; exact e3, e4⟩
          · exact ⟨s', d', by rw [ud_n (by omega)]; exact e1, e2, by rw [ud_n (by omega)]; exact e3, e4⟩
        · rw [vu_n (by omega), vu_s]
          intro q hq
          by_cases hqp : q = p
          · subst hqp
            rw [ud_s, ud_s, ud_n (by omega), ud_n (by omega)]
            exact ⟨rfl, (d1 q hq).2⟩
          · rw [ud_n (by omega), ud_n (by omega), ud_n (by omega), ud_n (by omega)]
            exact d1 q hq
    · refine call_bad (r := -2) H ?_ (fun i1 => ?_)
      · unfold f_Fa_strong
        rw [r_0_3, r_2_0, o_3, Ta_has_in (m := 6) (w := 2) (by decide) b2 a2.2.2 hp, cP_s, if_neg n10, Fa_wi_out (x := 0) (y := 99) hs, cP_s, if_pos rfl]
        exact bad9
      · unfold f_Mo_strong
        rw [o_136, Mo_one_in (n := n) a2.1 (by omega) hp, cP_s, if_neg n10, Mo_in_out (y := nI 0) (z := nI 99) (y' := 0) (z' := 99) rfl rfl hs, cP_s, if_pos rfl]
        exact bad10
  · refine call_bad (r := -2) H ?_ (fun i1 => ?_)
    · unfold f_Fa_strong
      rw [r_0_3, r_2_0, o_3, Ta_has_out (m := 6) (w := 2) (by decide) (by rw [b2]; exact hp), cP_s, if_pos rfl]
      exact bad9
    · unfold f_Mo_strong
      rw [o_136, Mo_one_out (n := n) a2.1 (by omega) hp, cP_s, if_pos rfl]
      exact bad10
end C1
