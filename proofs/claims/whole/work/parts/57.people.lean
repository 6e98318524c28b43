/-! ===== calls: people ===== -/
section PE
variable {i : Nat → Nat → Int32} {l : Nat → Nat → Int64} {a : Nat → Nat → Int32}
theorem open_loop {q : Nat} (hq : q ≤ 6) : ∀ (fu j : Nat) (i a : Nat → Nat → Int32), j ≤ q → q - j < fu → i 3 2 = nI j → (∀ p, p < j → a 4 (p * 2 + 0) = 20 ∧ a 4 (p * 2 + 1) = 0) → ∃ a1, f_St_open_b10 fu (mkH i l a) 2 (nI q) (nI j) = some (mkH (up2 (up2 (up2 (up2 (up2 i 3 2 (nI q)) 5 2 0) 7 2 0) 9 2 0) 2 5 0) l a1) ∧ (∀ b, b ≠ 4 → a1 b = a b) ∧ ∀ p, p < q → a1 4 (p * 2 + 0) = 20 ∧ a1 4 (p * 2 + 1) = 0 := by
  intro fu
  induction fu with
  | zero => intro j _ _ _ h; omega
  | succ fu ih =>
    intro j i a hj hf h2 hz
    show ∃ a1, f_St_open_b10_k (f_St_open_b10 fu) _ _ _ _ = _ ∧ _
    unfold f_St_open_b10_k
    by_cases h : j = q
    · subst h
      refine ⟨a, ?_, fun _ _ => rfl, hz⟩
      rw [ifn_y (by omega) (by omega) (by omega), r_2_1, O_5, Ta_empty_ok (m := 12) (w := 7) (by decide), cH_s, r_2_2, O_7, Ta_empty_ok (m := 5) (w := 4) (by decide), cH_s, r_2_3, O_9, Ta_empty_ok (m := 12) (w := 3) (by decide), cH_s, p_2_5, up2_id h2]
    · have h3 : up2 i 3 2 (nI (j + 1)) 3 2 = nI (j + 1) := up2_s
      rw [ifn_n (by omega) (by omega) (by omega), r_2_0, O_3, Ta_add_ok (t := 3) (m := 6) (w := 2) (by decide) h2 (by omega), cH_s, r_2_0, o_3, c_put (t := 3) (m := 6) (w := 2) (c := 0) (k := 0) (by decide) rfl h3 (by omega) (by omega) (by omega), cP_s, r_2_0, o_3, c_put (t := 3) (m := 6) (w := 2) (c := 1) (k := 1) (by decide) rfl h3 (by omega) (by omega) (by omega), cP_s, nI_1]
      obtain ⟨a1, f1, e1, z1⟩ := ih (j + 1) _ (va_up (va_up a 4 (upd (a 4) (j * 2 + 0) 20)) 4 (upd (va_up a 4 (upd (a 4) (j * 2 + 0) 20) 4) (j * 2 + 1) 0)) (by omega) (by omega) h3 (fun p hp => by
        rw [vu_s, vu_s]
        by_cases e : p = j
        · subst e
          rw [ud_n (by omega), ud_s, ud_s]
          exact ⟨rfl, rfl⟩
        · rw [ud_n (by omega), ud_n (by omega), ud_n (by omega), ud_n (by omega)]
          exact hz p (by omega))
      refine ⟨a1, ?_, fun b hb => (e1 b hb).trans ((vu_n (by omega)).trans (vu_n (by omega))), z1⟩
      rw [up2_u] at f1
      exact f1
theorem begin_loop : ∀ (fu j : Nat) (a : Nat → Nat → Int32), j ≤ 6 → 6 - j < fu → (∀ p, p < j → a 137 (2 + p) = 20 ∧ a 137 (8 + p) = 0) → ∃ v, f_Mo_begin_b10 fu (mkH i l a) 137 (nI j) = some (mkH i l (va_up a 137 v)) ∧ (∀ p, p < 6 → v (2 + p) = 20 ∧ v (8 + p) = 0) ∧ (v 158 = 0 ∧ v 159 = 0 ∧ v 160 = 0) ∧ ∀ x, (x < 2 ∨ 14 ≤ x) → x ≠ 158 → x ≠ 159 → x ≠ 160 → v x = a 137 x := by
  intro fu
  induction fu with
  | zero => intro j _ _ h; omega
  | succ fu ih =>
    intro j a hj hf hz
    show ∃ v, f_Mo_begin_b10_k (f_Mo_begin_b10 fu) _ _ _ = _ ∧ _
    unfold f_Mo_begin_b10_k
    by_cases h : j = 6
    · subst h
      refine ⟨upd (upd (upd (a 137) 158 0) 159 0) 160 0, ?_, fun p hp => ?_, ⟨by simp (disch := omega) only [ud_s, ud_n], by simp (disch := omega) only [ud_s, ud_n], by simp (disch := omega) only [ud_s, ud_n]⟩, fun x h1 h2 h3 h4 => by simp (disch := omega) only [ud_s, ud_n]⟩
      · rw [ifle_y (K := 6) (k := 6) (j := 6) rfl (by omega) (by omega) (by omega), t_137 (x := 158) (m := 158) rfl (by omega), t_137 (x := 159) (m := 159) rfl (by omega), t_137 (x := 160) (m := 160) rfl (by omega)]
        simp only [vu_s, vu_u]
      · rw [ud_n (by omega), ud_n (by omega), ud_n (by omega), ud_n (by omega), ud_n (by omega), ud_n (by omega)]
        exact hz p hp
    · rw [ifle_n (K := 6) (k := 6) (j := j) rfl (by omega) (by omega) (by omega), t_137 (x := 2 + nI j) (m := 2 + j) (nI_add 2 j) (by omega), t_137 (x := 8 + nI j) (m := 8 + j) (nI_add 8 j) (by omega), nI_1]
      obtain ⟨v, f1, z1, z2, e1⟩ := ih (j + 1) (va_up (va_up a 137 (upd (a 137) (2 + j) 20)) 137 (upd (va_up a 137 (upd (a 137) (2 + j) 20) 137) (8 + j) 0)) (by omega) (by omega) (fun p hp => by
        rw [vu_s, vu_s]
        by_cases e : p = j
        · subst e
          rw [ud_n (by omega), ud_s, ud_s]
          exact ⟨rfl, rfl⟩
        · rw [ud_n (by omega), ud_n (by omega), ud_n (by omega), ud_n (by omega)]
          exact hz p (by omega))
      refine ⟨v, ?_, z1, z2, fun x h1 h2 h3 h4 => (e1 x h1 h2 h3 h4).trans ?_⟩
      · rw [f1, vu_u, vu_u]
      · rw [vu_s, vu_s, ud_n (by omega), ud_n (by omega)]
theorem call_people (H : Inv i l a) (q : Int32) : Call (fun G => f_Fa_people G 0 q) (fun G => f_Mo_people G 136 q) i l a := by
  obtain ⟨n, nf, nn, np, dy, hN⟩ := now_of H; obtain ⟨⟨a1, a2, a3, a4, a5⟩, ⟨b1, b2, b3, b4, b5, b6⟩, ⟨c1, c2, c3, c4, c5⟩, ⟨d1, d2, d3, d4, d5⟩⟩ := id hN
  rcases ck_wi q (lo := 2) (hi := 6) (c := 2) (d := 6) (c' := 2) (d' := 6) rfl rfl rfl rfl (by omega) (by omega) with ⟨F1, M1⟩ | ⟨q, hq1, hq, rfl, F1, M1⟩
  · (refine call_bad (r := -2) H ?_ (fun i1 => ?_); (unfold f_Fa_people; simp only [r_0_3, r_2_0, r_2_1, r_2_2, r_2_3, r_2_4, g_2_5, o_0, o_2, o_3, o_5, o_7, o_9, o_11, O_0, O_2, O_3, O_5, O_7, O_9, O_11, r_0_8, p_124_0, cP_s, cH_s, n10, if_true, if_false, zR_0, zR_1, lt_e, cH_id, F1]); (unfold f_Mo_people; simp only [r_136_0, o_136, O_136, r_136_3, cP_s, cH_s, n10, if_true, if_false, zR_0, zR_1, lt_e, Mo_many_ok, Mo_day_ok, cH_id, M1]))
  obtain ⟨a', f1, e1, z1⟩ := open_loop (l := l) hq FU 0 (up2 i 3 2 0) a (by omega) (FU_lt (by omega)) up2_s (fun p hp => by omega)
  have FO : f_St_open (mkH i l a) 2 (nI q) = some (mkH (up2 (up2 (up2 (up2 (up2 i 3 2 (nI q)) 5 2 0) 7 2 0) 9 2 0) 2 5 0) l a') := by
    unfold f_St_open
    rw [r_2_0, O_3, Ta_empty_ok (m := 6) (w := 2) (by decide), cH_s]
    have := f1
    rw [up2_u] at this
    exact this
  obtain ⟨v, f2, z2, ⟨w1, w2, w3⟩, e2⟩ := begin_loop (i := up2 (up2 (up2 (up2 (up2 (up2 (up2 i 3 2 (nI q)) 5 2 0) 7 2 0) 9 2 0) 2 5 0) 1 3 0) 124 0 1) (l := l) FU 0 (va_up a' 137 (upd (upd (a' 137) 0 0) 1 (nI q))) (by omega) (FU_lt (by omega)) (fun p hp => by omega)
  have x7 : a' 137 = a 137 := e1 137 (by omega)
  rw [show nI 0 = (0 : Int32) from rfl] at f2
  have v0 : v 0 = 0 := (e2 0 (by omega) (by omega) (by omega) (by omega)).trans (by rw [vu_s]; simp (disch := omega) only [ud_s, ud_n])
  have v1 : v 1 = nI q := (e2 1 (by omega) (by omega) (by omega) (by omega)).trans (by rw [vu_s]; simp (disch := omega) only [ud_s, ud_n])
  have vx : ∀ x, 14 ≤ x → x ≠ 158 → x ≠ 159 → x ≠ 160 → v x = a 137 x := fun x h1 h2 h3 h4 => (e2 x (by omega) h2 h3 h4).trans (by rw [vu_s, ud_n (by omega), ud_n (by omega), x7])
  refine ⟨nI n, up2 (up2 (up2 (up2 (up2 (up2 (up2 i 3 2 (nI q)) 5 2 0) 7 2 0) 9 2 0) 2 5 0) 1 3 0) 124 0 1, l, a', up2 (up2 (up2 (up2 (up2 (up2 (up2 i 3 2 (nI q)) 5 2 0) 7 2 0) 9 2 0) 2 5 0) 1 3 0) 124 0 1, l, va_up a' 137 (upd v 161 0), ?_, ?_, ?_⟩
  · show f_Fa_people _ 0 _ = _
    unfold f_Fa_people
    rw [F1, cP_s, if_neg n10, r_0_3, r_2_0, g_3_2, b2, r_0_3, o_2, FO, cP_s, r_0_0, p_1_3, r_0_8, p_124_0]
  · show f_Mo_people _ 136 _ = _
    unfold f_Mo_people f_Mo_begin
    rw [M1, cP_s, if_neg n10, o_136, Mo_many_ok, cP_s, x7, a2.1, r_136_0, t_137 (x := 0) (m := 0) rfl (by omega), t_137 (x := 1) (m := 1) rfl (by omega), vu_s, vu_u, f2, cP_s, r_136_0, t_137 (x := 161) (m := 161) rfl (by omega), vu_s, vu_u, vu_u]
  · have E' : Eq2 (fun b => b ≠ 1 ∧ ¬ (2 ≤ b ∧ b ≤ 9) ∧ b ≠ 124 ∧ b ≠ 137) i a (up2 (up2 (up2 (up2 (up2 (up2 (up2 i 3 2 (nI q)) 5 2 0) 7 2 0) 9 2 0) 2 5 0) 1 3 0) 124 0 1) (va_up a' 137 (upd v 161 0)) := fun b hb => ⟨fun k => by simp (disch := omega) only [up2_n], by rw [vu_n (by omega)]; exact e1 b (by omega)⟩
    obtain ⟨h1, h2, h3, h4, h5, h6, h7, h8, h9⟩ := id H
    refine inv_mk H ?_ ?_ ?_ ?_ ?_ (E'.mono fun b hb => by omega) (Or.inl up2_s)
    · rw [vu_s]
      have hN' : Now (up2 (up2 (up2 (up2 (up2 (up2 (up2 i 3 2 (nI q)) 5 2 0) 7 2 0) 9 2 0) 2 5 0) 1 3 0) 124 0 1) (va_up a' 137 (upd v 161 0)) (upd v 161 0) q 0 0 0 0 := by
        refine ⟨⟨⟨(ud_n (by omega)).trans v0, by omega⟩, ⟨(ud_n (by omega)).trans v1, hq1, hq⟩, ⟨(ud_n (by omega)).trans w1, by omega⟩, ⟨(ud_n (by omega)).trans w2, by omega⟩, ⟨(ud_n (by omega)).trans w3, by omega⟩⟩, ⟨?_, ?_, ?_, ?_, ?_, ?_⟩, ⟨fun p hp => ⟨20, 0, ?_, by omega, ?_, by omega⟩, fun _ h => by omega, fun _ h => by omega, fun _ h => by omega, c5.c (fun j h1 h2 => ?_)⟩, ⟨fun p hp => ?_, fun _ h => by omega, fun _ h => by omega, fun _ h => by omega, fun j hj => ?_⟩⟩
        · simp (disch := omega) only [up2_n, up2_s]; rfl
        · simp (disch := omega) only [up2_n, up2_s]
        · simp (disch := omega) only [up2_n, up2_s]; rfl
        · simp (disch := omega) only [up2_n, up2_s]; rfl
        · simp (disch := omega) only [up2_n, up2_s]; rfl
        · rw [(E' 11 (by omega)).1]; exact b6
        · rw [ud_n (by omega)]; exact (z2 p (by omega)).1
        · rw [ud_n (by omega)]; exact (z2 p (by omega)).2
        · rw [ud_n (by omega)]; exact vx j (by omega) (by omega) (by omega) (by omega)
        · rw [vu_n (by omega), ud_n (by omega), ud_n (by omega), (z1 p hp).1, (z1 p hp).2, (z2 p (by omega)).1, (z2 p (by omega)).2]
          exact ⟨rfl, rfl⟩
        · rw [(E' 12 (by omega)).2, ud_n (by omega), vx _ (by omega) (by omega) (by omega) (by omega)]
          exact d5 j hj
      exact hN'.SW
    · rw [vu_s]
      exact ⟨0, by simp (disch := omega) only [up2_n, up2_s]; rfl, by rw [Nat.zero_add, ud_s]; rfl, by omega, fun h => by omega, fun h => by omega⟩
    · rw [(E' 138 (by omega)).2]
      exact h3.c (E'.mono fun b hb => by omega) (E' 139 (by omega)).2 (fun _ _ => rfl)
    · rw [(E' 138 (by omega)).2]
      exact h4.c (E'.mono fun b hb => by omega) (E' 139 (by omega)).2 (fun _ _ => rfl)
    · obtain ⟨k1, k2, k3, k4, k5, k6, k7, k8, k9, k10⟩ := h5
      exact ⟨((E' _ (by omega)).1 _).trans k1, ((E' _ (by omega)).1 _).trans k2, ((E' _ (by omega)).1 _).trans k3, ((E' _ (by omega)).1 _).trans k4, ((E' _ (by omega)).1 _).trans k5, ((E' _ (by omega)).1 _).trans k6, ((E' _ (by omega)).1 _).trans k7, ((E' _ (by omega)).1 _).trans k8, ((E' _ (by omega)).1 _).trans k9, ((E' _ (by omega)).1 _).trans k10⟩
end PE
