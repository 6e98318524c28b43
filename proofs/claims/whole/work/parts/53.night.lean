/-! ===== calls: night ===== -/
def zq (v : Nat → Int32) (j : Nat) : Nat → Int32 := fun x => if 8 ≤ x ∧ x < 8 + j then 0 else v x
def zp (g : Nat → Int32) (j : Nat) : Nat → Int32 := fun x => if x % 2 = 1 ∧ x < 2 * j then 0 else g x
theorem zq_in {v : Nat → Int32} {j x : Nat} (h : 8 ≤ x ∧ x < 8 + j) : zq v j x = 0 := if_pos h
theorem zq_out {v : Nat → Int32} {j x : Nat} (h : ¬ (8 ≤ x ∧ x < 8 + j)) : zq v j x = v x := if_neg h
theorem zq_s {v : Nat → Int32} {j : Nat} : upd (zq v j) (8 + j) 0 = zq v (j + 1) := by
  funext x
  by_cases e : x = 8 + j
  · subst e
    rw [ud_s, zq_in (by omega)]
  · rw [ud_n e]
    by_cases h : 8 ≤ x ∧ x < 8 + j
    · rw [zq_in h, zq_in (by omega)]
    · rw [zq_out h, zq_out (by omega)]
theorem zq_0 {v : Nat → Int32} : zq v 0 = v := by
  funext x
  exact zq_out (by omega)
theorem zp_s {v : Nat → Int32} {j : Nat} : upd (zp v j) (j * 2 + 1) 0 = zp v (j + 1) := by
  funext x
  unfold zp
  by_cases e : x = j * 2 + 1
  · subst e
    rw [ud_s, if_pos (by omega)]
  · rw [ud_n e]
    by_cases h : x % 2 = 1 ∧ x < 2 * j
    · rw [if_pos h, if_pos (by omega)]
    · rw [if_neg h, if_neg (by omega)]
theorem zp_0 {v : Nat → Int32} : zp v 0 = v := by
  funext x
  exact if_neg (by omega)
def nw (v : Nat → Int32) (w d : Nat) : Nat → Int32 := zq (upd (upd (cp2 v v (162 + 161 * w) 0 161) 161 (nI (w + 1))) 0 (nI (d + 1))) 6
section NI
variable {i : Nat → Nat → Int32} {l : Nat → Nat → Int64} {a : Nat → Nat → Int32}
theorem Mo_night3 : ∀ (fu j : Nat), j ≤ 6 → 6 - j < fu → f_Mo_night_b140 fu (mkH i l (va_up a 137 (zq (a 137) j))) 136 (nI j) = some (a 137 0, mkH i l (va_up a 137 (zq (a 137) 6))) := by
  intro fu
  induction fu with
  | zero => intro j _ h; omega
  | succ fu ih =>
    intro j hj hn
    show f_Mo_night_b140_k (f_Mo_night_b140 fu) _ _ _ = _
    unfold f_Mo_night_b140_k
    by_cases h : j = 6
    · subst h
      rw [ifle_y (K := 6) (k := 6) (j := 6) rfl (by omega) (by omega) (by omega), o_136, Mo_day_ok, cP_s, vu_s, zq_out (by omega)]
    · rw [ifle_n (K := 6) (k := 6) (j := j) rfl (by omega) (by omega) (by omega), r_136_0, t_137 (x := 8 + nI j) (m := 8 + j) (nI_add 8 j) (by omega), nI_1, vu_s, vu_u, zq_s]
      exact ih (j + 1) (by omega) (by omega)
theorem Mo_night2 {w d : Nat} (hw : w ≤ 1) (e : a 137 161 = nI w) (e0 : a 137 0 = nI d) : ∀ (fu j : Nat), j ≤ 161 → 161 - j < fu → f_Mo_night_b74 fu (mkH i l (va_up a 137 (cp2 (a 137) (a 137) (162 + 161 * w) 0 j))) 136 (nI j) = some (nI (d + 1), mkH i l (va_up a 137 (nw (a 137) w d))) := by
  intro fu
  induction fu with
  | zero => intro j _ h; omega
  | succ fu ih =>
    intro j hj hn
    show f_Mo_night_b74_k (f_Mo_night_b74 fu) _ _ _ = _
    unfold f_Mo_night_b74_k
    by_cases h : j = 161
    · subst h
      rw [ifle_y (K := 161) (k := 161) (j := 161) rfl (by omega) (by omega) (by omega), r_136_0, b_137 (x := 161) (m := 161) rfl (by omega), vu_s, cp2_out (by omega), e, nI_s1, t_137 (x := 161) (m := 161) rfl (by omega), vu_s, vu_u, r_136_0, b_137 (x := 0) (m := 0) rfl (by omega), vu_s, ud_n (by omega), cp2_out (by omega), e0, nI_s1, t_137 (x := 0) (m := 0) rfl (by omega), vu_s, vu_u]
      have L := Mo_night3 (i := i) (l := l) (a := va_up a 137 (upd (upd (cp2 (a 137) (a 137) (162 + 161 * w) 0 161) 161 (nI (w + 1))) 0 (nI (d + 1)))) FU 0 (by omega) (FU_lt (by omega))
      rw [zq_0, vu_s, vu_u, vu_u, ud_s] at L
      exact L
    · have ix : (162 : Int32) + 161 * nI w + nI j = nI (162 + 161 * w + j) := by
        rw [show (162 : Int32) = nI 162 from rfl, show (161 : Int32) = nI 161 from rfl, nI_mul, nI_add, nI_add]
      rw [ifle_n (K := 161) (k := 161) (j := j) rfl (by omega) (by omega) (by omega), r_136_0, r_136_0, b_137 (x := 161) (m := 161) rfl (by omega), vu_s, cp2_out (by omega), e, r_136_0, a_137 (by omega), ix, s_137 (by omega), nI_1, vu_s, vu_u, cp2_out (x := j) (by omega)]
      have e := cp2_s (w := a 137) (v := a 137) (d := 162 + 161 * w) (s := 0) (j := j)
      rw [Nat.zero_add] at e
      rw [e]
      exact ih (j + 1) (by omega) (by omega)
theorem Mo_night1 {d : Nat} (e0 : a 137 0 = nI d) : ∀ (fu j : Nat), j ≤ 161 → 161 - j < fu → f_Mo_night_b30 fu (mkH i l (va_up a 137 (cp2 (a 137) (a 137) 162 323 j))) 136 (nI j) = some (nI (d + 1), mkH i l (va_up a 137 (nw (upd (cp2 (a 137) (a 137) 162 323 161) 161 (nI 1)) 1 d))) := by
  intro fu
  induction fu with
  | zero => intro j _ h; omega
  | succ fu ih =>
    intro j hj hn
    show f_Mo_night_b30_k (f_Mo_night_b30 fu) _ _ _ = _
    unfold f_Mo_night_b30_k f_Mo_night_b72
    by_cases h : j = 161
    · subst h
      rw [ifle_y (K := 161) (k := 161) (j := 161) rfl (by omega) (by omega) (by omega), r_136_0, t_137 (x := 161) (m := 161) rfl (by omega), vu_s, vu_u]
      have L := Mo_night2 (i := i) (l := l) (a := va_up a 137 (upd (cp2 (a 137) (a 137) 162 323 161) 161 (nI 1))) (w := 1) (d := d) (by omega) (by rw [vu_s, ud_s]) (by rw [vu_s, ud_n (by omega), cp2_out (by omega)]; exact e0) FU 0 (by omega) (FU_lt (by omega))
      rw [cp2_0, vu_s, vu_u, vu_u] at L
      exact L
    · rw [ifle_n (K := 161) (k := 161) (j := j) rfl (by omega) (by omega) (by omega), r_136_0, r_136_0, b_137 (x := 323 + nI j) (m := 323 + j) (nI_add 323 j) (by omega), t_137 (x := 162 + nI j) (m := 162 + j) (nI_add 162 j) (by omega), nI_1, vu_s, vu_u, cp2_out (x := 323 + j) (by omega), cp2_s]
      exact ih (j + 1) (by omega) (by omega)
theorem St_wake_loop {n : Nat} (hn6 : n ≤ 6) (hn' : i 3 2 = nI n) : ∀ (fu j : Nat), j ≤ n → n - j < fu → f_St_wake_b12 fu (mkH i l (va_up a 4 (zp (a 4) j))) 2 (nI j) = some (mkH i l (va_up a 4 (zp (a 4) n))) := by
  intro fu
  induction fu with
  | zero => intro j _ h; omega
  | succ fu ih =>
    intro j hj hn
    show f_St_wake_b12_k (f_St_wake_b12 fu) _ _ _ = _
    unfold f_St_wake_b12_k
    by_cases h : j = n
    · subst h
      rw [r_2_0, g_3_2, hn', if_pos (by rw [nI_le' (by omega) (by omega)]; omega)]
    · rw [r_2_0, g_3_2, hn', if_neg (by rw [nI_le' (by omega) (by omega)]; omega), r_2_0, o_3, c_put (t := 3) (m := 6) (w := 2) (c := 1) (k := 1) (by decide) rfl hn' hn6 (by omega) (by omega), cP_s, nI_1, vu_s, vu_u, zp_s]
      exact ih (j + 1) (by omega) (by omega)
theorem St_wake_ok {n : Nat} (hn6 : n ≤ 6) (hn' : i 3 2 = nI n) : f_St_wake (mkH i l a) 2 = some (mkH (up2 i 2 5 (i 2 5 + 1)) l (va_up a 4 (zp (a 4) n))) := by
  unfold f_St_wake
  rw [g_2_5, p_2_5]
  have L := St_wake_loop (i := up2 i 2 5 (i 2 5 + 1)) (l := l) (a := a) hn6 ((up2_n (by omega)).trans hn') FU 0 (by omega) (FU_lt (by omega))
  rw [zp_0, vu_id rfl] at L
  exact L
theorem Hi_keepNight_ok : ∃ i1 a1, f_Hi_keepNight (mkH i l a) 1 = some (mkH i1 l a1) ∧ Eq2 (fun b => b ≠ 1 ∧ (b < 13 ∨ 34 < b)) i a i1 a1 ∧ i1 1 3 = mn 2 (i 1 3 + 1) ∧ Cp i a i1 a1 24 13 ∧ Cp i a i1 a1 13 2 := by
  obtain ⟨i1, a1, f1, E1, C1⟩ := St_copy_ok (i := i) (l := l) (a := a) (q := 24) (q' := 13) (by decide) (by decide) (by omega)
  obtain ⟨i2, a2, f2, E2, C2⟩ := St_copy_ok (i := i1) (l := l) (a := a1) (q := 13) (q' := 2) (by decide) (by decide) (by omega)
  refine ⟨up2 i2 1 3 (mn 2 (i2 1 3 + 1)), a2, ?_, ?_, ?_, ?_, ?_⟩
  · unfold f_Hi_keepNight
    rw [r_1_2, r_1_1, m_vP (b := 24) (ci := 6) (by decide), f1, cP_s, r_1_1, r_1_0, m_vP (b := 13) (ci := 6) (by decide), f2, cP_s, g_1_3, p_1_3]
  · intro b hb
    refine ⟨fun k => ?_, ?_⟩
    · rw [up2_n (by omega), (E2 b (by omega)).1, (E1 b (by omega)).1]
    · rw [(E2 b (by omega)).2, (E1 b (by omega)).2]
  · rw [up2_s, (E2 1 (by omega)).1, (E1 1 (by omega)).1]
  · exact Cp.rt (fun b hb => ⟨fun k => up2_n (by omega), rfl⟩) (Cp.rt (E2.mono fun b hb => by omega) C1)
  · exact Cp.rt (fun b hb => ⟨fun k => up2_n (by omega), rfl⟩) (Cp.lf (E1.mono fun b hb => by omega) C2)
/-- the row that the two ways of a night leave: as before but for the day, what is done, and the past -/
theorem night_inv {n nf nn np dy u w : Nat} {i1 a1 : Nat → Nat → Int32} {v : Nat → Int32} (H : Inv i l a) (hN : Now i a (a 137) n nf nn np dy) (hd : dy < 99) (p1 : i 1 3 = nI u) (hu : u ≤ 2) (hw : w + 1 = min 2 (u + 1)) (p4 : 1 ≤ u → SW i a 13 (a 137) (162 + 161 * (u - 1))) (E : Eq2 (fun b => b ≠ 1 ∧ (b < 13 ∨ 34 < b)) i a i1 a1) (e3 : i1 1 3 = mn 2 (i 1 3 + 1)) (C1 : Cp i a i1 a1 24 13) (C0 : Cp i a i1 a1 13 2) (hv : ∀ j, j < 161 → v j = a 137 j) (hv2 : 1 ≤ u → ∀ j, j < 161 → w = 1 → v (162 + j) = a 137 (162 + 161 * (u - 1) + j)) : Inv (up2 i1 2 5 (i1 2 5 + 1)) l (va_up (va_up a1 4 (zp (a1 4) n)) 137 (nw v w dy)) := by
  obtain ⟨h1, h2, h3, h4, h5, h6, h7, h8, h9⟩ := id H
  have x7 : a1 137 = a 137 := (E 137 (by omega)).2
  have x4 : a1 4 = a 4 := (E 4 (by omega)).2
  have x25 : i1 2 5 = i 2 5 := (E 2 (by omega)).1 5
  have E' : Eq2 (fun b => b ≠ 1 ∧ b ≠ 2 ∧ b ≠ 4 ∧ b ≠ 137 ∧ (b < 13 ∨ 34 < b)) i a (up2 i1 2 5 (i1 2 5 + 1)) (va_up (va_up a1 4 (zp (a1 4) n)) 137 (nw v w dy)) := fun b hb => ⟨fun k => by rw [up2_n (by omega)]; exact (E b (by omega)).1 k, by rw [vu_n (by omega), vu_n (by omega)]; exact (E b (by omega)).2⟩
  have EI : Eq2 (fun b => 13 ≤ b ∧ b ≤ 34) i1 a1 (up2 i1 2 5 (i1 2 5 + 1)) (va_up (va_up a1 4 (zp (a1 4) n)) 137 (nw v w dy)) := fun b hb => ⟨fun k => up2_n (by omega), by rw [vu_n (by omega), vu_n (by omega)]⟩
  have C0' := C0.rt (EI.mono fun b hb => by omega)
  have C1' := C1.rt (EI.mono fun b hb => by omega)
  obtain ⟨⟨a1', a2, a3, a4, a5⟩, ⟨b1, b2, b3, b4, b5, b6⟩, ⟨c1, c2, c3, c4, c5⟩, ⟨d1, d2, d3, d4, d5⟩⟩ := id hN
  have hw1 : w ≤ 1 := by omega

  have V : ∀ j, j < 161 → ¬ j = 0 → ¬ (8 ≤ j ∧ j < 14) → nw v w dy j = a 137 j := fun j hj h0 h8 => by
    unfold nw
    rw [zq_out (by omega), ud_n h0, ud_n (by omega), cp2_out (by omega), hv j hj]
  have V0 : nw v w dy 0 = nI (dy + 1) := by
    unfold nw
    rw [zq_out (by omega), ud_s]
  have V8 : ∀ j, 8 ≤ j ∧ j < 14 → nw v w dy j = 0 := fun j hj => by
    unfold nw
    rw [zq_in hj]
  have VU : nw v w dy 161 = nI (w + 1) := by
    unfold nw
    rw [zq_out (by omega), ud_n (by omega), ud_s]
  have VS : ∀ j, j < 161 → nw v w dy (162 + 161 * w + j) = a 137 j := fun j hj => by
    unfold nw
    rw [zq_out (by omega), ud_n (by omega), ud_n (by omega), cp2_in (by omega), Nat.zero_add, hv j hj]
  have VT : w = 1 → ∀ j, j < 161 → nw v w dy (162 + j) = v (162 + j) := fun e j hj => by
    unfold nw
    rw [zq_out (by omega), ud_n (by omega), ud_n (by omega), cp2_out (by omega)]
  have hN' : Now (up2 i1 2 5 (i1 2 5 + 1)) (va_up (va_up a1 4 (zp (a1 4) n)) 137 (nw v w dy)) (nw v w dy) n nf nn np (dy + 1) := by
    refine ⟨⟨⟨V0, by omega⟩, ?_, ?_, ?_, ?_⟩, ⟨?_, ?_, ?_, ?_, ?_, ?_⟩, ⟨fun p hp => ?_, c2.c (fun j _ _ => V j (by omega) (by omega) (by omega)) a3.2, c3.c (fun j _ _ => V j (by omega) (by omega) (by omega)) a4.2, c4.c (fun j _ _ => V j (by omega) (by omega) (by omega)) a5.2, c5.c (fun j _ _ => V j (by omega) (by omega) (by omega))⟩, ⟨fun p hp => ?_, ?_, ?_, ?_, ?_⟩⟩
    · rw [V 1 (by omega) (by omega) (by omega)]; exact a2
    · rw [V 158 (by omega) (by omega) (by omega)]; exact a3
    · rw [V 159 (by omega) (by omega) (by omega)]; exact a4
    · rw [V 160 (by omega) (by omega) (by omega)]; exact a5
    · rw [up2_s, x25, b1, nI_s1]
    · rw [(E' 3 (by omega)).1]; exact b2
    · rw [(E' 5 (by omega)).1]; exact b3
    · rw [(E' 7 (by omega)).1]; exact b4
    · rw [(E' 9 (by omega)).1]; exact b5
    · rw [(E' 11 (by omega)).1]; exact b6
    · obtain ⟨s, d, g1, g2, g3, g4⟩ := c1 p hp
      exact ⟨s, 0, by rw [V _ (by omega) (by omega) (by omega)]; exact g1, g2, V8 _ (by omega), by omega⟩
    · rw [vu_n (by omega), vu_s, V _ (by omega) (by omega) (by omega), V8 _ (by omega)]
      unfold zp
      rw [if_neg (by omega), if_pos (by omega), x4]
      exact ⟨(d1 p hp).1, rfl⟩
    · rw [(E' 6 (by omega)).2]
      exact d2.c (fun j _ _ => V j (by omega) (by omega) (by omega)) a3.2
    · rw [(E' 8 (by omega)).2]
      exact d3.c (fun j _ _ => V j (by omega) (by omega) (by omega)) a4.2
    · rw [(E' 10 (by omega)).2]
      exact d4.c (fun j _ _ => V j (by omega) (by omega) (by omega)) a5.2
    · rw [(E' 12 (by omega)).2]
      exact d5.c (fun j _ _ => V j (by omega) (by omega) (by omega))
  refine inv_mk H ?_ ?_ ?_ ?_ ?_ (E'.mono fun b hb => by omega) ?_
  · rw [vu_s]
    exact hN'.SW
  · rw [vu_s]
    refine ⟨w + 1, ?_, ?_, by omega, fun _ => ?_, fun h => ?_⟩
    · rw [up2_n (by omega), e3, p1, show (1 : Int32) = nI 1 from rfl, nI_add, show (2 : Int32) = nI 2 from rfl, nI_mn (by omega) (by omega), hw]
    · rw [Nat.zero_add]
      exact VU
    · refine SW.o (v := a 137) (o := 0) (fun j hj => ?_) (h1.cp (q := 13) (q' := 2) (by decide) C0')
      rw [Nat.zero_add, Nat.zero_add, Nat.add_sub_cancel]
      exact VS j hj
    · refine SW.o (v := a 137) (o := 162 + 161 * (u - 1)) (fun j hj => ?_) ((p4 (by omega)).cp (q := 24) (q' := 13) (by decide) C1')
      rw [Nat.zero_add, VT (by omega) j hj]
      exact hv2 (by omega) j hj (by omega)
  · rw [(E' 138 (by omega)).2]
    exact h3.c (E'.mono fun b hb => by omega) (E' 139 (by omega)).2 (fun _ _ => rfl)
  · rw [(E' 138 (by omega)).2]
    exact h4.c (E'.mono fun b hb => by omega) (E' 139 (by omega)).2 (fun _ _ => rfl)
  · have R0 := C0'.1.2.2.2.2.2
    have R1 := C1'.1.2.2.2.2.2
    obtain ⟨k1, k2, k3, k4, k5, k6, k7, k8, k9, k10⟩ := h5
    exact ⟨((E' _ (by omega)).1 _).trans k1, R0.trans k1, R1.trans k2, ((E' _ (by omega)).1 _).trans k4, ((E' _ (by omega)).1 _).trans k5, ((E' _ (by omega)).1 _).trans k6, ((E' _ (by omega)).1 _).trans k7, ((E' _ (by omega)).1 _).trans k8, ((E' _ (by omega)).1 _).trans k9, ((E' _ (by omega)).1 _).trans k10⟩
  · rw [vu_s]
    exact Pln.c (i := i) (a := a) (v := a 137) hN.sw.1 (fun k _ => (E' 124 (by omega)).1 k) (E' 134 (by omega)).2 (fun j hj => V j (by unfold PlaceN at hj; omega) (by unfold PlaceN at hj; omega) (by unfold PlaceN at hj; omega)) h9
theorem call_night (H : Inv i l a) : Call (fun G => f_Fa_night G 0) (fun G => f_Mo_night G 136) i l a := by
  obtain ⟨n, nf, nn, np, dy, hN⟩ := now_of H; obtain ⟨⟨a1, a2, a3, a4, a5⟩, ⟨b1, b2, b3, b4, b5, b6⟩, ⟨c1, c2, c3, c4, c5⟩, ⟨d1, d2, d3, d4, d5⟩⟩ := id hN
  obtain ⟨u, p1, p2, p3, p4, p5⟩ := H.2.1
  rw [Nat.zero_add] at p2
  by_cases hd : dy = 99
  · subst hd
    refine call_no (r := -3) H ?_ (fun i1 => ?_)
    · unfold f_Fa_night
      rw [r_0_3, g_2_5, b1, if_neg (show ¬ nI 99 < 99 by decide), O_0, cH_id]
    · unfold f_Mo_night
      rw [o_136, Mo_day_ok, cP_s, a1.1, if_pos (show nI 99 = 99 from rfl), O_136, cH_id]
  obtain ⟨i1, a1', f1, E, e3, C1, C0⟩ := Hi_keepNight_ok (i := i) (l := l) (a := a)
  have x7 : a1' 137 = a 137 := (E 137 (by omega)).2
  have x25 : i1 2 5 = i 2 5 := (E 2 (by omega)).1 5
  have x32 : i1 3 2 = nI n := ((E 3 (by omega)).1 2).trans b2
  have FA : f_Fa_night (mkH i l a) 0 = some (nI (dy + 1), mkH (up2 i1 2 5 (i1 2 5 + 1)) l (va_up a1' 4 (zp (a1' 4) n))) := by
    unfold f_Fa_night
    rw [r_0_3, g_2_5, b1, if_pos (c := nI dy < 99) (show nI dy < nI 99 by rw [nI_lt' (by omega) (by omega)]; omega), r_0_0, o_1, f1, cP_s, r_0_3, o_2, St_wake_ok a2.2.2 x32, cP_s, r_0_3, g_2_5, up2_s, x25, b1, nI_s1]
  have hd0 : ¬ nI dy = 99 := by
    rw [show (99 : Int32) = nI 99 from rfl, nI_eq' (by omega) (by omega)]
    exact hd
  have y7 : va_up a1' 4 (zp (a1' 4) n) 137 = a 137 := by rw [vu_n (by omega)]; exact x7
  by_cases hu : u = 2
  · subst hu
    refine ⟨_, _, _, _, up2 i1 2 5 (i1 2 5 + 1), l, va_up (va_up a1' 4 (zp (a1' 4) n)) 137 (nw (upd (cp2 (a 137) (a 137) 162 323 161) 161 (nI 1)) 1 dy), FA, ?_, night_inv H hN (by omega) p1 (by omega) (by omega) (fun h => ?_) E e3 C1 C0 (fun j hj => ?_) (fun h j hj hw => ?_)⟩
    · show f_Mo_night _ 136 = _
      unfold f_Mo_night
      rw [o_136, Mo_day_ok, cP_s, y7, a1.1, if_neg hd0, r_136_0, b_137 (x := 161) (m := 161) rfl (by omega), y7, p2, if_pos (show nI 2 = 2 from rfl)]
      have L := Mo_night1 (i := up2 i1 2 5 (i1 2 5 + 1)) (l := l) (a := va_up a1' 4 (zp (a1' 4) n)) (d := dy) (by rw [y7]; exact a1.1) FU 0 (by omega) (FU_lt (by omega))
      rw [cp2_0, vu_id rfl, y7] at L
      exact L
    · have := p4 h
      rw [Nat.zero_add] at this
      exact this
    · rw [ud_n (by omega), cp2_out (by omega)]
    · rw [ud_n (by omega), cp2_in (by omega)]
  · have hu2 : ¬ nI u = 2 := by
      rw [show (2 : Int32) = nI 2 from rfl, nI_eq' (by omega) (by omega)]
      exact hu
    refine ⟨_, _, _, _, up2 i1 2 5 (i1 2 5 + 1), l, va_up (va_up a1' 4 (zp (a1' 4) n)) 137 (nw (a 137) u dy), FA, ?_, night_inv H hN (by omega) p1 (by omega) (by omega) (fun h => ?_) E e3 C1 C0 (fun j hj => rfl) (fun h j hj hw => ?_)⟩
    · show f_Mo_night _ 136 = _
      unfold f_Mo_night f_Mo_night_b72
      rw [o_136, Mo_day_ok, cP_s, y7, a1.1, if_neg hd0, r_136_0, b_137 (x := 161) (m := 161) rfl (by omega), y7, p2, if_neg hu2]
      have L := Mo_night2 (i := up2 i1 2 5 (i1 2 5 + 1)) (l := l) (a := va_up a1' 4 (zp (a1' 4) n)) (w := u) (d := dy) (by omega) (by rw [y7]; exact p2) (by rw [y7]; exact a1.1) FU 0 (by omega) (FU_lt (by omega))
      rw [cp2_0, vu_id rfl, y7] at L
      exact L
    · have := p4 h
      rw [Nat.zero_add] at this
      exact this
    · rw [show 162 + 161 * (u - 1) + j = 162 + j by omega]
end NI
