/-! ===== calls: image, from, undo ===== -/
theorem inv_mk {i a i' a' : Nat → Nat → Int32} {l : Nat → Nat → Int64} (H : Inv i l a) (h1 : SW i' a' 2 (a' 137) 0) (h2 : Past i' a' 1 (a' 137) 0) (h3 : Img i' a' 35 (a' 138) 0 0) (h4 : Img i' a' 69 (a' 138) 484 1) (h5 : RR i') (hE : Eq2 (fun b => b = 104 ∨ b = 136 ∨ b = 0 ∨ b = 140 ∨ b = 105 ∨ b = 148 ∨ b = 121) i a i' a') (h9 : Pln i' a' (a' 137)) : Inv i' l a' := by
  obtain ⟨-, -, -, -, -, ⟨bl, t1, t2, t3, t4, t5⟩, ⟨r0, r1, r2⟩, h8, -⟩ := H
  refine ⟨h1, h2, h3, h4, h5, ⟨bl, t1, by rw [(hE 104 (by omega)).1]; exact t2, by rw [(hE 136 (by omega)).1]; exact t3, fun j hj => by rw [(hE 105 (by omega)).2, (hE 148 (by omega)).2]; exact t4 j hj, by rw [(hE 121 (by omega)).2]; exact t5⟩, ?_, h8, h9⟩
  unfold Ref
  rw [(hE 0 (by omega)).1, (hE 0 (by omega)).1, (hE 0 (by omega)).1, (hE 140 (by omega)).2]
  exact ⟨r0, r1, r2⟩
theorem Img.j {i a i' a' : Nat → Nat → Int32} {h ow j : Nat} {w w' : Nat → Int32} (hE : Eq2 (fun b => h ≤ b ∧ b ≤ h + 33) i a i' a') (hk : a' 139 j = a 139 j) (hv : ∀ j, j < 484 → w' (ow + j) = w (ow + j)) (H : Img i a h w ow j) : Img i' a' h w' ow j := by
  obtain ⟨h1, h2⟩ := H
  refine ⟨by rw [(hE h ⟨by omega, by omega⟩).1, hk]; exact h1, ?_⟩
  rw [hk]
  rcases h2 with h2 | ⟨h2, h3, h4⟩
  · exact Or.inl h2
  · exact Or.inr ⟨h2, h3.c (hE.mono fun b hb => ⟨by omega, by omega⟩) (fun j hj => hv j (by omega)), h4.c (hE.mono fun b hb => by constructor <;> omega) (fun j _ hj => hv j hj)⟩
section IM
variable {i : Nat → Nat → Int32} {l : Nat → Nat → Int64} {a : Nat → Nat → Int32}
theorem Fa_imageAt_0 : f_Fa_imageAt (mkH i l a) 0 (nI 0) = some 35 := by
  unfold f_Fa_imageAt f_Fa_imageAt_b15
  rw [if_pos (show nI 0 = 0 from rfl), r_0_1]
theorem Fa_imageAt_1 : f_Fa_imageAt (mkH i l a) 0 (nI 1) = some 69 := by
  unfold f_Fa_imageAt f_Fa_imageAt_b15
  rw [if_neg (show ¬ nI 1 = 0 by decide), r_0_2]
theorem Pln.e {i' a' : Nat → Nat → Int32} {v : Nat → Int32} (hi : ∀ k, i' 124 k = i 124 k) (ha : a' 134 = a 134) (h : Pln i a v) : Pln i' a' v := by
  unfold Pln
  rw [hi, hi, hi, ha]
  exact h
/-- laying the life at 1 into an image -/
theorem image_inv {h m : Nat} {i1 a1 : Nat → Nat → Int32} (H : Inv i l a) (hm : (h = 35 ∧ m = 0) ∨ (h = 69 ∧ m = 1)) (hh : hok h = true) (E : Eq2 (fun b => b < h ∨ h + 33 < b) i a i1 a1) (e3 : i1 h 3 = i 1 3) (C0 : Cp i a i1 a1 (h + 1) (1 + 1)) (C1 : Cp i a i1 a1 (h + 12) (1 + 12)) (C2 : Cp i a i1 a1 (h + 23) (1 + 23)) : Inv (up2 i1 h 4 1) l (va_up (va_up a1 138 (cp2 (a1 138) (a1 137) (484 * m) 0 484)) 139 (upd (a1 139) m 1)) := by
  have x7 : a1 137 = a 137 := (E 137 (by omega)).2
  have x8 : a1 138 = a 138 := (E 138 (by omega)).2
  have x9 : a1 139 = a 139 := (E 139 (by omega)).2
  have E' : Eq2 (fun b => (b < h ∨ h + 33 < b) ∧ b ≠ 138 ∧ b ≠ 139) i a (up2 i1 h 4 1) (va_up (va_up a1 138 (cp2 (a1 138) (a1 137) (484 * m) 0 484)) 139 (upd (a1 139) m 1)) := fun b hb => ⟨fun k => by rw [up2_n (by omega)]; exact (E b (by omega)).1 k, by rw [vu_n (by omega), vu_n (by omega)]; exact (E b (by omega)).2⟩
  have y7 := (E' 137 (by omega)).2
  have EI : Eq2 (fun b => h < b ∧ b ≤ h + 33) i1 a1 (up2 i1 h 4 1) (va_up (va_up a1 138 (cp2 (a1 138) (a1 137) (484 * m) 0 484)) 139 (upd (a1 139) m 1)) := fun b hb => ⟨fun k => up2_n (by omega), by rw [vu_n (by omega), vu_n (by omega)]⟩
  have C0' := C0.rt (EI.mono fun b hb => by omega)
  have C1' := C1.rt (EI.mono fun b hb => by omega)
  have C2' := C2.rt (EI.mono fun b hb => by omega)
  obtain ⟨h1, h2, h3, h4, h5, h6, h7, h8, h9⟩ := id H
  have NI : Img (up2 i1 h 4 1) (va_up (va_up a1 138 (cp2 (a1 138) (a1 137) (484 * m) 0 484)) 139 (upd (a1 139) m 1)) h (cp2 (a1 138) (a1 137) (484 * m) 0 484) (484 * m) m := by
    refine ⟨by rw [up2_s, vu_s, ud_s], Or.inr ⟨by rw [vu_s, ud_s], ?_, ?_⟩⟩
    · refine SW.o (v := a 137) (o := 0) (fun j hj => ?_) (h1.cp (hok_k hh).2.2.1 C0')
      rw [cp2_in (by omega), x7]
    · refine Past.o (w := a 137) (ow := 0) (fun j h1 hj => ?_) (h2.cp hh (by rw [up2_n (by omega)]; exact e3) C1' C2')
      rw [cp2_in (by omega), x7]
  refine inv_mk H ?_ ?_ ?_ ?_ ?_ (E'.mono fun b hb => by omega) ?_
  · rw [y7]
    exact h1.c (E'.mono fun b hb => by omega) (fun _ _ => rfl)
  · rw [y7]
    exact h2.c (E'.mono fun b hb => by omega) (fun _ _ _ => rfl)
  · rw [vu_n (by omega), vu_s]
    rcases hm with ⟨rfl, rfl⟩ | ⟨rfl, rfl⟩
    · exact NI
    · exact h3.j (E'.mono fun b hb => by omega) (by rw [vu_s, ud_n (by omega), x9]) (fun j hj => by rw [cp2_out (by omega), x8])
  · rw [vu_n (by omega), vu_s]
    rcases hm with ⟨rfl, rfl⟩ | ⟨rfl, rfl⟩
    · exact h4.j (E'.mono fun b hb => by omega) (by rw [vu_s, ud_n (by omega), x9]) (fun j hj => by rw [cp2_out (by omega), x8])
    · exact NI
  · have R0 := C0'.1.2.2.2.2.2
    have R1 := C1'.1.2.2.2.2.2
    have R2 := C2'.1.2.2.2.2.2
    obtain ⟨k1, k2, k3, k4, k5, k6, k7, k8, k9, k10⟩ := h5
    rcases hm with ⟨rfl, rfl⟩ | ⟨rfl, rfl⟩
    · exact ⟨((E' _ (by omega)).1 _).trans k1, ((E' _ (by omega)).1 _).trans k2, ((E' _ (by omega)).1 _).trans k3, R0.trans k1, R1.trans k2, R2.trans k3, ((E' _ (by omega)).1 _).trans k7, ((E' _ (by omega)).1 _).trans k8, ((E' _ (by omega)).1 _).trans k9, ((E' _ (by omega)).1 _).trans k10⟩
    · exact ⟨((E' _ (by omega)).1 _).trans k1, ((E' _ (by omega)).1 _).trans k2, ((E' _ (by omega)).1 _).trans k3, ((E' _ (by omega)).1 _).trans k4, ((E' _ (by omega)).1 _).trans k5, ((E' _ (by omega)).1 _).trans k6, R0.trans k1, R1.trans k2, R2.trans k3, ((E' _ (by omega)).1 _).trans k10⟩
  · rw [y7]
    exact h9.e (E' 124 (by omega)).1 (E' 134 (by omega)).2
theorem call_image (H : Inv i l a) (q : Int32) : Call (fun G => f_Fa_image G 0 q) (fun G => f_Mo_image G 136 q) i l a := by
  rcases ck_wi q (lo := 0) (hi := 1) (c := 0) (d := 1) (c' := 0) (d' := 1) rfl rfl rfl rfl (by omega) (by omega) with ⟨F0, M0⟩ | ⟨m, hm1, hm, rfl, F0, M0⟩
  · (refine call_bad (r := -2) H ?_ (fun i1 => ?_); (unfold f_Fa_image; simp only [r_0_3, r_2_0, r_2_1, r_2_2, r_2_3, r_2_4, g_2_5, o_0, o_2, o_3, o_5, o_7, o_9, o_11, O_0, O_2, O_3, O_5, O_7, O_9, O_11, r_0_8, p_124_0, cP_s, cH_s, n10, if_true, if_false, zR_0, zR_1, lt_e, cH_id, F0]); (unfold f_Mo_image; simp only [r_136_0, o_136, O_136, r_136_3, cP_s, cH_s, n10, if_true, if_false, zR_0, zR_1, lt_e, Mo_many_ok, Mo_day_ok, cH_id, M0]))
  have key : ∀ h, ((h = 35 ∧ m = 0) ∨ (h = 69 ∧ m = 1)) → hok h = true → (∀ i a, f_Fa_imageAt (mkH i l a) 0 (nI m) = some h) → Call (fun G => f_Fa_image G 0 (nI m)) (fun G => f_Mo_image G 136 (nI m)) i l a := by
    intro h hm' hh hI
    obtain ⟨i1, a1, f1, E, ⟨e3, e3'⟩, C0, C1, C2⟩ := Hi_copy_ok (i := i) (l := l) (a := a) hh (show hok 1 = true by decide) (by omega)
    refine ⟨1, up2 i1 h 4 1, l, a1, up2 i1 h 4 1, l, _, ?_, ?_, image_inv H hm' hh E e3 C0 C1 C2⟩
    · show f_Fa_image _ 0 _ = _
      unfold f_Fa_image
      rw [F0, cP_s, if_neg n10, o_0, hI, cP_s, r_0_0, m_vP (hok_k hh).1.1, f1, cP_s, o_0, hI, cP_s, m_pI (hok_k hh).1.1 rfl]
    · show f_Mo_image _ 136 _ = _
      unfold f_Mo_image
      rw [M0, cP_s, if_neg n10]
      have L := Mo_image_loop (i := up2 i1 h 4 1) (l := l) (a := a1) (m := m) (by omega) FU 0 (by omega) (FU_lt (by omega))
      rw [cp2_0, vu_id rfl] at L
      exact L
  have : m = 0 ∨ m = 1 := by omega
  rcases this with rfl | rfl
  · exact key 35 (Or.inl ⟨rfl, rfl⟩) (by decide) (fun _ _ => Fa_imageAt_0)
  · exact key 69 (Or.inr ⟨rfl, rfl⟩) (by decide) (fun _ _ => Fa_imageAt_1)
theorem call_from (H : Inv i l a) (q : Int32) : Call (fun G => f_Fa_from G 0 q) (fun G => f_Mo_from G 136 q) i l a := by
  rcases ck_wi q (lo := 0) (hi := 1) (c := 0) (d := 1) (c' := 0) (d' := 1) rfl rfl rfl rfl (by omega) (by omega) with ⟨F0, M0⟩ | ⟨m, hm1, hm, rfl, F0, M0⟩
  · (refine call_bad (r := -2) H ?_ (fun i1 => ?_); (unfold f_Fa_from; simp only [r_0_3, r_2_0, r_2_1, r_2_2, r_2_3, r_2_4, g_2_5, o_0, o_2, o_3, o_5, o_7, o_9, o_11, O_0, O_2, O_3, O_5, O_7, O_9, O_11, r_0_8, p_124_0, cP_s, cH_s, n10, if_true, if_false, zR_0, zR_1, lt_e, cH_id, F0]); (unfold f_Mo_from; simp only [r_136_0, o_136, O_136, r_136_3, cP_s, cH_s, n10, if_true, if_false, zR_0, zR_1, lt_e, Mo_many_ok, Mo_day_ok, cH_id, M0]))
  have key : ∀ h, ((h = 35 ∧ m = 0) ∨ (h = 69 ∧ m = 1)) → hok h = true → (∀ i a, f_Fa_imageAt (mkH i l a) 0 (nI m) = some h) → Img i a h (a 138) (484 * m) m → Call (fun G => f_Fa_from G 0 (nI m)) (fun G => f_Mo_from G 136 (nI m)) i l a := by
    intro h hm' hh hI hImg
    obtain ⟨j1, j2⟩ := hImg
    rcases j2 with j2 | ⟨j2, j3, j4⟩
    · refine call_no (r := -3) H ?_ (fun i1 => ?_)
      · unfold f_Fa_from
        rw [F0, cP_s, if_neg n10, o_0, hI, cP_s, m_gI (hok_k hh).1.1 rfl, if_pos (j1.trans j2), O_0, cH_id]
      · unfold f_Mo_from
        rw [M0, cP_s, if_neg n10, r_136_2, a_139 (by omega), if_pos j2, O_136, cH_id]
    obtain ⟨i1, a1, f1, E, ⟨e3, e3'⟩, C0, C1, C2⟩ := Hi_copy_ok (i := i) (l := l) (a := a) (show hok 1 = true by decide) hh (by omega)
    have k0 : ¬ i h 4 = 0 := by
      rw [j1, j2]
      decide
    have x7 : a1 137 = a 137 := (E 137 (by omega)).2
    have x8 : a1 138 = a 138 := (E 138 (by omega)).2
    have x9 : a1 139 = a 139 := (E 139 (by omega)).2
    refine ⟨1, up2 i1 124 0 1, l, a1, up2 i1 124 0 1, l, va_up a1 137 (cp2 (a1 137) (a1 138) 0 (484 * m) 484), ?_, ?_, ?_⟩
    · show f_Fa_from _ 0 _ = _
      unfold f_Fa_from
      rw [F0, cP_s, if_neg n10, o_0, hI, cP_s, m_gI (hok_k hh).1.1 rfl, if_neg k0, r_0_0, o_0, cP_s, o_1, f1, cP_s, r_0_8, p_124_0]
    · show f_Mo_from _ 136 _ = _
      unfold f_Mo_from
      rw [M0, cP_s, if_neg n10, r_136_2, a_139 (by omega), x9, if_neg (show ¬ a 139 m = 0 by rw [j2]; decide)]
      have L := Mo_from_loop (i := up2 i1 124 0 1) (l := l) (a := a1) (m := m) (by omega) FU 0 (by omega) (FU_lt (by omega))
      rw [cp2_0, vu_id rfl] at L
      exact L
    have E' : Eq2 (fun b => (b < 1 ∨ 1 + 33 < b) ∧ b ≠ 124 ∧ b ≠ 137) i a (up2 i1 124 0 1) (va_up a1 137 (cp2 (a1 137) (a1 138) 0 (484 * m) 484)) := fun b hb => ⟨fun k => by rw [up2_n (by omega)]; exact (E b (by omega)).1 k, by rw [vu_n (by omega)]; exact (E b (by omega)).2⟩
    have EI : Eq2 (fun b => 1 ≤ b ∧ b ≤ 1 + 33) i1 a1 (up2 i1 124 0 1) (va_up a1 137 (cp2 (a1 137) (a1 138) 0 (484 * m) 484)) := fun b hb => ⟨fun k => up2_n (by omega), vu_n (by omega)⟩
    have C0' := C0.rt (EI.mono fun b hb => by omega)
    have C1' := C1.rt (EI.mono fun b hb => by omega)
    have C2' := C2.rt (EI.mono fun b hb => by omega)
    obtain ⟨h1, h2, h3, h4, h5, h6, h7, h8, h9⟩ := id H
    refine inv_mk H ?_ ?_ ?_ ?_ ?_ (E'.mono fun b hb => by omega) (Or.inl up2_s)
    · rw [vu_s]
      refine SW.o (v := a 138) (o := 484 * m) (fun j hj => ?_) (j3.cp (q := 1 + 1) (by decide) C0')
      rw [cp2_in (by omega), x8]
    · rw [vu_s]
      refine Past.o (w := a 138) (ow := 484 * m) (fun j h1 hj => ?_) (j4.cp (by decide) (by rw [up2_n (by omega)]; exact e3) C1' C2')
      rw [cp2_in (by omega), x8]
    · rw [(E' 138 (by omega)).2]
      exact h3.c (E'.mono fun b hb => by omega) (E' 139 (by omega)).2 (fun _ _ => rfl)
    · rw [(E' 138 (by omega)).2]
      exact h4.c (E'.mono fun b hb => by omega) (E' 139 (by omega)).2 (fun _ _ => rfl)
    · have R0 := C0'.1.2.2.2.2.2
      have R1 := C1'.1.2.2.2.2.2
      have R2 := C2'.1.2.2.2.2.2
      obtain ⟨k1, k2, k3, k4, k5, k6, k7, k8, k9, k10⟩ := h5
      rcases hm' with ⟨rfl, rfl⟩ | ⟨rfl, rfl⟩
      · exact ⟨R0.trans k4, R1.trans k5, R2.trans k6, ((E' _ (by omega)).1 _).trans k4, ((E' _ (by omega)).1 _).trans k5, ((E' _ (by omega)).1 _).trans k6, ((E' _ (by omega)).1 _).trans k7, ((E' _ (by omega)).1 _).trans k8, ((E' _ (by omega)).1 _).trans k9, ((E' _ (by omega)).1 _).trans k10⟩
      · exact ⟨R0.trans k7, R1.trans k8, R2.trans k9, ((E' _ (by omega)).1 _).trans k4, ((E' _ (by omega)).1 _).trans k5, ((E' _ (by omega)).1 _).trans k6, ((E' _ (by omega)).1 _).trans k7, ((E' _ (by omega)).1 _).trans k8, ((E' _ (by omega)).1 _).trans k9, ((E' _ (by omega)).1 _).trans k10⟩
  have : m = 0 ∨ m = 1 := by omega
  rcases this with rfl | rfl
  · exact key 35 (Or.inl ⟨rfl, rfl⟩) (by decide) (fun _ _ => Fa_imageAt_0) H.2.2.1
  · exact key 69 (Or.inr ⟨rfl, rfl⟩) (by decide) (fun _ _ => Fa_imageAt_1) H.2.2.2.1
theorem Mo_undo_loop {u : Nat} (hu : u ≤ 1) (e : a 137 161 = nI u) : ∀ (fu j : Nat), j ≤ 161 → 161 - j < fu → f_Mo_undo_b32 fu (mkH i l (va_up a 137 (cp2 (a 137) (a 137) 0 (162 + 161 * u) j))) 136 (nI j) = some (1, mkH i l (va_up a 137 (cp2 (a 137) (a 137) 0 (162 + 161 * u) 161))) := by
  intro fu
  induction fu with
  | zero => intro j _ h; omega
  | succ fu ih =>
    intro j hj hn
    show f_Mo_undo_b32_k (f_Mo_undo_b32 fu) _ _ _ = _
    unfold f_Mo_undo_b32_k
    by_cases h : j = 161
    · subst h
      rw [ifle_y (K := 161) (k := 161) (j := 161) rfl (by omega) (by omega) (by omega)]
    · have ix : (162 : Int32) + 161 * nI u + nI j = nI (162 + 161 * u + j) := by
        rw [show (162 : Int32) = nI 162 from rfl, show (161 : Int32) = nI 161 from rfl, nI_mul, nI_add, nI_add]
      rw [ifle_n (K := 161) (k := 161) (j := j) rfl (by omega) (by omega) (by omega), r_136_0, r_136_0, r_136_0, b_137 (x := 161) (m := 161) rfl (by omega), vu_s, cp2_out (by omega), e, ix, a_137 (by omega), s_137 (by omega), nI_1, vu_s, vu_u, cp2_out (x := 162 + 161 * u + j) (by omega)]
      have e := cp2_s (w := a 137) (v := a 137) (d := 0) (s := 162 + 161 * u) (j := j)
      rw [Nat.zero_add] at e
      rw [e]
      exact ih (j + 1) (by omega) (by omega)
theorem Hi_goBack_ok : ∃ i1 a1, f_Hi_goBack (mkH i l a) 1 = some (mkH i1 l a1) ∧ Eq2 (fun b => b < 1 ∨ 1 + 22 < b) i a i1 a1 ∧ (i1 1 3 = mx 0 (i 1 3 - 1) ∧ ∀ k, k ≠ 3 → i1 1 k = i 1 k) ∧ Cp i a i1 a1 2 13 ∧ Cp i a i1 a1 13 24 := by
  obtain ⟨i1, a1, f1, E1, C1⟩ := St_copy_ok (i := i) (l := l) (a := a) (q := 2) (q' := 13) (by decide) (by decide) (by omega)
  obtain ⟨i2, a2, f2, E2, C2⟩ := St_copy_ok (i := i1) (l := l) (a := a1) (q := 13) (q' := 24) (by decide) (by decide) (by omega)
  refine ⟨up2 i2 1 3 (mx 0 (i2 1 3 - 1)), a2, ?_, ?_, ⟨?_, fun k hk => ?_⟩, ?_, ?_⟩
  · unfold f_Hi_goBack
    rw [r_1_0, r_1_1, o_2, f1, cP_s, r_1_1, r_1_2, m_vP (b := 13) (ci := 6) (by decide), f2, cP_s, g_1_3, p_1_3]
  · intro b hb
    refine ⟨fun k => ?_, ?_⟩
    · rw [up2_n (by omega), (E2 b (by omega)).1, (E1 b (by omega)).1]
    · rw [(E2 b (by omega)).2, (E1 b (by omega)).2]
  · rw [up2_s, (E2 1 (by omega)).1, (E1 1 (by omega)).1]
  · rw [up2_n (by omega), (E2 1 (by omega)).1, (E1 1 (by omega)).1]
  · exact Cp.rt (fun b hb => ⟨fun k => up2_n (by omega), rfl⟩) (Cp.rt (E2.mono fun b hb => by omega) C1)
  · exact Cp.rt (fun b hb => ⟨fun k => up2_n (by omega), rfl⟩) (Cp.lf (E1.mono fun b hb => by omega) C2)
theorem call_undo (H : Inv i l a) : Call (fun G => f_Fa_undo G 0) (fun G => f_Mo_undo G 136) i l a := by
  obtain ⟨h1, h2, h3, h4, h5, h6, h7, h8, h9⟩ := id H
  obtain ⟨u, p1, p2, p3, p4, p5⟩ := h2
  rw [Nat.zero_add] at p2
  by_cases hu : u = 0
  · subst hu
    refine call_no (r := -3) H ?_ (fun i1 => ?_)
    · unfold f_Fa_undo
      rw [r_0_0, g_1_3, if_pos (show i 1 3 = 0 from p1), O_0, cH_id]
    · unfold f_Mo_undo
      rw [r_136_0, b_137 (x := 161) (m := 161) rfl (by omega), if_pos (show a 137 161 = 0 from p2), O_136, cH_id]
  obtain ⟨i1, a1, f1, E, ⟨e3, e3'⟩, C0, C1⟩ := Hi_goBack_ok (i := i) (l := l) (a := a)
  have hu0 : ¬ nI u = 0 := by
    rw [show (0 : Int32) = nI 0 from rfl, nI_eq' (by omega) (by omega)]
    exact hu
  have um : nI u - 1 = nI (u - 1) := nI_sub (a := u) (b := 1) (by omega)
  have x7 : a1 137 = a 137 := (E 137 (by omega)).2
  have E' : Eq2 (fun b => (b < 1 ∨ 1 + 22 < b) ∧ b ≠ 124 ∧ b ≠ 137) i a (up2 i1 124 0 1) (va_up a1 137 (cp2 (upd (a 137) 161 (nI (u - 1))) (upd (a 137) 161 (nI (u - 1))) 0 (162 + 161 * (u - 1)) 161)) := fun b hb => ⟨fun k => by rw [up2_n (by omega)]; exact (E b (by omega)).1 k, by rw [vu_n (by omega)]; exact (E b (by omega)).2⟩
  have EI : Eq2 (fun b => 1 ≤ b ∧ b ≤ 1 + 22) i1 a1 (up2 i1 124 0 1) (va_up a1 137 (cp2 (upd (a 137) 161 (nI (u - 1))) (upd (a 137) 161 (nI (u - 1))) 0 (162 + 161 * (u - 1)) 161)) := fun b hb => ⟨fun k => up2_n (by omega), vu_n (by omega)⟩
  have C0' := C0.rt (EI.mono fun b hb => by omega)
  have C1' := C1.rt (EI.mono fun b hb => by omega)
  refine ⟨1, up2 i1 124 0 1, l, a1, up2 i1 124 0 1, l, va_up a1 137 (cp2 (upd (a 137) 161 (nI (u - 1))) (upd (a 137) 161 (nI (u - 1))) 0 (162 + 161 * (u - 1)) 161), ?_, ?_, ?_⟩
  · show f_Fa_undo _ 0 = _
    unfold f_Fa_undo
    rw [r_0_0, g_1_3, p1, if_neg hu0, r_0_0, o_1, f1, cP_s, r_0_8, p_124_0]
  · show f_Mo_undo _ 136 = _
    unfold f_Mo_undo
    rw [r_136_0, b_137 (x := 161) (m := 161) rfl (by omega), x7, p2, if_neg hu0, r_136_0, b_137 (x := 161) (m := 161) rfl (by omega), x7, p2, um, t_137 (x := 161) (m := 161) rfl (by omega), x7]
    have L := Mo_undo_loop (i := up2 i1 124 0 1) (l := l) (a := va_up a1 137 (upd (a 137) 161 (nI (u - 1)))) (u := u - 1) (by omega) (by rw [vu_s, ud_s]) FU 0 (by omega) (FU_lt (by omega))
    rw [cp2_0, vu_s, vu_u, vu_u] at L
    exact L
  refine inv_mk H ?_ ?_ ?_ ?_ ?_ (E'.mono fun b hb => by omega) (Or.inl up2_s)
  · rw [vu_s]
    refine SW.o (v := a 137) (o := 0 + (162 + 161 * (u - 1))) (fun j hj => ?_) ((p4 (by omega)).cp (q := 2) (q' := 13) (by decide) C0')
    rw [cp2_in (by omega), ud_n (by omega), Nat.zero_add]
  · rw [vu_s]
    refine ⟨u - 1, ?_, ?_, by omega, fun h => ?_, fun h => by omega⟩
    · rw [up2_n (by omega), e3, p1, show (1 : Int32) = nI 1 from rfl, mx_sub (by omega) (by omega)]
    · rw [cp2_out (by omega), Nat.zero_add, ud_s]
    · have hu2 : u = 2 := by omega
      subst hu2
      refine SW.o (v := a 137) (o := 0 + 162) (fun j hj => ?_) ((p5 rfl).cp (q := 13) (q' := 24) (by decide) C1')
      rw [cp2_out (by omega), ud_n (by omega)]
  · rw [(E' 138 (by omega)).2]
    exact h3.c (E'.mono fun b hb => by omega) (E' 139 (by omega)).2 (fun _ _ => rfl)
  · rw [(E' 138 (by omega)).2]
    exact h4.c (E'.mono fun b hb => by omega) (E' 139 (by omega)).2 (fun _ _ => rfl)
  · have R0 := C0'.1.2.2.2.2.2
    have R1 := C1'.1.2.2.2.2.2
    obtain ⟨k1, k2, k3, k4, k5, k6, k7, k8, k9, k10⟩ := h5
    exact ⟨R0.trans k2, R1.trans k3, ((E' _ (by omega)).1 _).trans k3, ((E' _ (by omega)).1 _).trans k4, ((E' _ (by omega)).1 _).trans k5, ((E' _ (by omega)).1 _).trans k6, ((E' _ (by omega)).1 _).trans k7, ((E' _ (by omega)).1 _).trans k8, ((E' _ (by omega)).1 _).trans k9, ((E' _ (by omega)).1 _).trans k10⟩
end IM
