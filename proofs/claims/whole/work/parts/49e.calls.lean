/-! ===== calls: clear, type, status, count ===== -/
theorem up2_id {α : Type} {f : Nat → Nat → α} {b k : Nat} {v : α} (h : f b k = v) : up2 f b k v = f := by
  funext b' k'
  by_cases e : b' = b ∧ k' = k
  · obtain ⟨rfl, rfl⟩ := e
    rw [up2_s, h]
  · rw [up2_n e]
theorem vu_id {α : Type} {f : Nat → α} {b : Nat} {v : α} (h : f b = v) : va_up f b v = f := by
  funext b'
  by_cases e : b' = b
  · subst e
    rw [vu_s, h]
  · rw [vu_n e]
theorem to32_and (x : Int64) : (x &&& (255 : Int64)).toInt32 = x.toInt32 &&& 255 := by
  rw [Int64.toInt32_and]
  rfl
/-- byte k of a number -/
def byteK (x : Int64) (k : Nat) : Int32 := (ushrL x (8 * nI k)).toInt32 &&& 255
/-- the bytes m-1 .. 0 of a number laid from place o on -/
def putB (g : Nat → Int32) (o : Nat) (x : Int64) : Nat → Nat → Int32
  | 0 => g
  | k + 1 => putB (upd g o (byteK x k)) (o + 1) x k
theorem putB_eq {g g' : Nat → Int32} (x : Int64) : ∀ (k o j : Nat), (∀ j, j < o → g j = g' j) → j < o + k → putB g o x k j = putB g' o x k j
  | 0, o, j, h, hj => h j (by omega)
  | k + 1, o, j, h, hj => putB_eq x k (o + 1) j (fun j hj => by
      by_cases e : j = o
      · rw [e, ud_s, ud_s]
      · rw [ud_n e, ud_n e]
        exact h j (by omega)) (by omega)
theorem byteK_ne (x : Int64) (k : Nat) : ¬ byteK x k = -1 := fun e => by
  have h := congrArg (fun y : Int32 => y &&& 256) e
  unfold byteK at h
  simp only [Int32.and_assoc] at h
  rw [show (255 : Int32) &&& 256 = 0 by decide, Int32.and_zero] at h
  exact absurd h (by decide)
theorem putB_ne {g : Nat → Int32} (x : Int64) : ∀ (k o j : Nat), (∀ j, j < o → ¬ g j = -1) → j < o + k → ¬ putB g o x k j = -1
  | 0, o, j, h, hj => h j (by omega)
  | k + 1, o, j, h, hj => putB_ne x k (o + 1) j (fun j hj => by
      by_cases e : j = o
      · rw [e, ud_s]
        exact byteK_ne x k
      · rw [ud_n e]
        exact h j (by omega)) (by omega)
section C4
variable {i : Nat → Nat → Int32} {l : Nat → Nat → Int64} {a : Nat → Nat → Int32}
theorem inv_txt {i' a' : Nat → Nat → Int32} (H : Inv i l a) (hi : ∀ b k, ¬ (b = 104 ∧ k = 1) → ¬ (b = 136 ∧ k = 17) → i' b k = i b k) (ha : ∀ b, b ≠ 105 → b ≠ 148 → a' b = a b) (hT : Txt i' a') : Inv i' l a' := by
  obtain ⟨n, nf, nn, np, dy, hN⟩ := now_of H
  obtain ⟨h1, h2, h3, h4, h5, h6, h7, h8, h9⟩ := H
  have hE : ∀ (P : Nat → Prop), (∀ b, P b → b ≠ 104 ∧ b ≠ 136 ∧ b ≠ 105 ∧ b ≠ 148) → Eq2 P i a i' a' := fun P hP b hb => ⟨fun k => hi b k (fun e => (hP b hb).1 e.1) (fun e => (hP b hb).2.1 e.1), ha b (hP b hb).2.2.1 (hP b hb).2.2.2⟩
  have e7 : a' 137 = a 137 := ha 137 (by omega) (by omega)
  have e8 : a' 138 = a 138 := ha 138 (by omega) (by omega)
  refine ⟨h1.c (hE _ fun b hb => by omega) (fun j _ => by rw [e7]), h2.c (hE _ fun b hb => by omega) (fun j _ _ => by rw [e7]), h3.c (hE _ fun b hb => by omega) (ha 139 (by omega) (by omega)) (fun j _ => by rw [e8]), h4.c (hE _ fun b hb => by omega) (ha 139 (by omega) (by omega)) (fun j _ => by rw [e8]), ?_, hT, ?_, h8, ?_⟩
  · unfold RR
    simp (disch := omega) only [hi]
    exact h5
  · unfold Ref
    rw [hi _ _ (by omega) (by omega), hi _ _ (by omega) (by omega), hi _ _ (by omega) (by omega), ha 140 (by omega) (by omega)]
    exact h7
  · rw [e7]
    exact Pln.c hN.sw.1 (fun k _ => hi _ _ (by omega) (by omega)) (ha 134 (by omega) (by omega)) (fun _ _ => rfl) h9
theorem call_full' {fc fm : Hp → Option (Int32 × Hp)} (H : Inv i l a) (h1 : fc (mkH i l a) = f_Fa_full (mkH i l a) 0) (h2 : ∀ i1 : Nat → Nat → Int32, (∀ b k, b ≠ 0 → i1 b k = i b k) → fm (mkH i1 l a) = f_Mo_full (mkH i1 l a) 136) : Call fc fm i l a := ⟨-4, _, _, _, _, _, _, h1.trans Fa_full_ok, (h2 _ (fun b k hb => up2_n (fun e => hb e.1))).trans Mo_full_ok, inv_ref (Or.inr (Or.inr ⟨rfl, rfl⟩)) H⟩
theorem txt_of (H : Inv i l a) : Txt i a := H.2.2.2.2.2.1
theorem call_clear (H : Inv i l a) : Call (fun G => f_Fa_clear G 0) (fun G => f_Mo_clear G 136) i l a := by
  obtain ⟨bl, h1, h2, h3, h4, h5⟩ := txt_of H
  refine ⟨nI bl, up2 i 104 1 0, l, a, up2 (up2 i 104 1 0) 136 17 0, l, a, ?_, ?_, ?_⟩
  · show f_Fa_clear _ 0 = _
    unfold f_Fa_clear
    rw [r_0_5, g_104_1, r_0_5, p_104_1, h2]
  · show f_Mo_clear _ 136 = _
    unfold f_Mo_clear
    rw [g_136_17, p_136_17, up2_n (by omega), h3]
  · exact inv_txt H (fun b k e1 e2 => by rw [up2_n e2, up2_n e1]) (fun b _ _ => rfl) ⟨0, by omega, by rw [up2_n (by omega), up2_s]; rfl, up2_s, fun j hj => by omega, h5⟩
theorem Te_add_ok {bl : Nat} (h : i 104 1 = nI bl) (hb : bl < 250) (x : Int32) : f_Te_add (mkH i l a) 104 x = some (mkH (up2 i 104 1 (nI (bl + 1))) l (va_up a 105 (upd (a 105) bl x))) := by
  unfold f_Te_add f_Te_add_b39
  rw [g_104_1, h, if_neg (by rw [nI_lt0 (by omega)]; exact id), g_104_1, h, r_104_0, z_105, if_neg (by rw [nI_le' (by omega) (by omega)]; omega), r_104_0, g_104_1, h, s_105 hb, g_104_1, h, p_104_1, nI_s1]
theorem nI_m1 (x : Int32) : x + -1 = x - 1 := (Int32.sub_eq_add_neg x 1).symm
theorem Fa_type_loop (x : Int64) : ∀ (fu k bl : Nat) (i : Nat → Nat → Int32) (a : Nat → Nat → Int32), k < fu → bl + k ≤ 250 → i 104 1 = nI bl → f_Fa_type_b42 fu (mkH i l a) 0 x (nI k - 1) = some (nI (bl + k), mkH (up2 i 104 1 (nI (bl + k))) l (va_up a 105 (putB (a 105) bl x k))) := by
  intro fu
  induction fu with
  | zero => intro k _ _ _ h; omega
  | succ fu ih =>
    intro k bl i a hf hk hb
    show f_Fa_type_b42_k (f_Fa_type_b42 fu) _ _ _ _ = _
    unfold f_Fa_type_b42_k
    cases k with
    | zero => rw [if_pos (by decide), r_0_5, g_104_1, hb, Nat.add_zero, up2_id hb, vu_id (f := a) (b := 105) (v := putB (a 105) bl x 0) rfl]
    | succ k =>
      have e : nI (k + 1) - 1 = nI k := nI_sub (a := k + 1) (b := 1) (by omega)
      rw [e, if_neg (by rw [nI_lt0 (by omega)]; exact id), r_0_5, o_104, Te_add_ok hb (by omega), cP_s, nI_m1, ih k (bl + 1) _ _ (by omega) (by omega) up2_s]
      rw [up2_u, vu_u, vu_s, show bl + 1 + k = bl + (k + 1) by omega]
      rfl
theorem Mo_type_loop (x : Int64) : ∀ (fu k bl : Nat) (i : Nat → Nat → Int32) (a : Nat → Nat → Int32), k < fu → bl + k ≤ 250 → i 136 17 = nI bl → f_Mo_type_b41 fu (mkH i l a) 136 x (nI k - 1) = some (nI (bl + k), mkH (up2 i 136 17 (nI (bl + k))) l (va_up a 148 (putB (a 148) bl x k))) := by
  intro fu
  induction fu with
  | zero => intro k _ _ _ h; omega
  | succ fu ih =>
    intro k bl i a hf hk hb
    show f_Mo_type_b41_k (f_Mo_type_b41 fu) _ _ _ _ = _
    unfold f_Mo_type_b41_k
    cases k with
    | zero => rw [if_pos (by decide), g_136_17, hb, Nat.add_zero, up2_id hb, vu_id (f := a) (b := 148) (v := putB (a 148) bl x 0) rfl]
    | succ k =>
      have e : nI (k + 1) - 1 = nI k := nI_sub (a := k + 1) (b := 1) (by omega)
      rw [e, if_neg (by rw [nI_lt0 (by omega)]; exact id), r_136_16, g_136_17, hb, to32_and, s_148 (by omega), g_136_17, hb, p_136_17, nI_s1, nI_m1, ih k (bl + 1) _ _ (by omega) (by omega) up2_s]
      rw [up2_u, vu_u, vu_s, show bl + 1 + k = bl + (k + 1) by omega]
      rfl
theorem call_type (H : Inv i l a) (x : Int64) (m : Int32) : Call (fun G => f_Fa_type G 0 x m) (fun G => f_Mo_type G 136 x m) i l a := by
  obtain ⟨bl, h1, h2, h3, h4, h5⟩ := txt_of H
  rcases ck_wi m (lo := 1) (hi := 8) (c := 1) (d := 8) (c' := 1) (d' := 8) rfl rfl rfl rfl (by omega) (by omega) with ⟨F0, M0⟩ | ⟨m, hm1, hm, rfl, F0, M0⟩
  · refine call_bad (r := -2) H ?_ (fun i1 => ?_)
    · unfold f_Fa_type
      simp only [r_0_3, r_2_0, r_2_1, r_2_2, r_2_3, r_2_4, g_2_5, o_0, o_2, o_3, o_5, o_7, o_9, o_11, O_0, O_2, O_3, O_5, O_7, O_9, O_11, r_0_8, p_124_0, cP_s, cH_s, n10, if_true, if_false, zR_0, zR_1, lt_e, cH_id, F0]
    · unfold f_Mo_type
      simp only [r_136_0, o_136, O_136, r_136_3, cP_s, cH_s, n10, if_true, if_false, zR_0, zR_1, lt_e, Mo_many_ok, Mo_day_ok, cH_id, M0]
  by_cases hb : bl + m ≤ 250
  · have hb' : nI (bl + m) ≤ 250 := by
      show nI (bl + m) ≤ nI 250
      rw [nI_le' (by omega) (by omega)]
      exact hb
    refine ⟨nI (bl + m), up2 i 104 1 (nI (bl + m)), l, va_up a 105 (putB (a 105) bl x m), up2 (up2 i 104 1 (nI (bl + m))) 136 17 (nI (bl + m)), l, va_up (va_up a 105 (putB (a 105) bl x m)) 148 (putB (a 148) bl x m), ?_, ?_, ?_⟩
    · show f_Fa_type _ 0 _ _ = _
      unfold f_Fa_type
      rw [F0, cP_s, if_neg n10, r_0_5, g_104_1, h2, nI_add, if_pos hb', lt_e, Fa_type_loop x FU m bl i a (FU_lt (by omega)) hb h2]
    · show f_Mo_type _ 136 _ _ = _
      have h3' : up2 i 104 1 (nI (bl + m)) 136 17 = nI bl := (up2_n (by omega)).trans h3
      unfold f_Mo_type
      rw [M0, cP_s, if_neg n10, g_136_17, h3', nI_add, if_pos hb', lt_e, Mo_type_loop x FU m bl _ _ (FU_lt (by omega)) hb h3', vu_n (by omega)]
    · refine inv_txt H (fun b k e1 e2 => by rw [up2_n e2, up2_n e1]) (fun b e1 e2 => by rw [vu_n e2, vu_n e1]) ⟨bl + m, hb, by rw [up2_n (by omega), up2_s], up2_s, fun j hj => ?_, by rw [vu_n (by omega), vu_n (by omega)]; exact h5⟩
      rw [vu_s, vu_n (by omega), vu_s]
      exact ⟨putB_eq x m bl j (fun j hj => (h4 j hj).1) hj, putB_ne x m bl j (fun j hj => (h4 j hj).2) hj⟩
  · have hb' : ¬ nI (bl + m) ≤ 250 := by
      show ¬ nI (bl + m) ≤ nI 250
      rw [nI_le' (by omega) (by omega)]
      exact hb
    refine call_full' H ?_ (fun i1 hi1 => ?_)
    · unfold f_Fa_type
      rw [F0, cP_s, if_neg n10, r_0_5, g_104_1, h2, nI_add, if_neg hb', O_0, cH_id]
    · unfold f_Mo_type
      rw [M0, cP_s, if_neg n10, g_136_17, hi1 136 17 (by omega), h3, nI_add, if_neg hb', O_136, cH_id]
theorem call_status (H : Inv i l a) (q : Int32) : Call (fun G => f_Fa_status G 0 q) (fun G => f_Mo_status G 136 q) i l a := by
  obtain ⟨r0, r1, r2⟩ := H.2.2.2.2.2.2.1
  rcases ck_wi q (lo := 0) (hi := 2) (c := 0) (d := 2) (c' := 0) (d' := 2) rfl rfl rfl rfl (by omega) (by omega) with ⟨F0, M0⟩ | ⟨m, hm1, hm, rfl, F0, M0⟩
  · have q0 : ¬ q = 0 := fun e => absurd ((M0 (mkH i l a)).symm.trans (by rw [e]; exact Mo_in_in (p := 0) (y := 0) (z := 2) (lo := 0) (hi := 2) rfl rfl (by omega) (by omega) (by omega))) (by decide : ¬ (some 0 : Option Int32) = some 1)
    have q1 : ¬ q = 1 := fun e => absurd ((M0 (mkH i l a)).symm.trans (by rw [e]; exact Mo_in_in (p := 1) (y := 0) (z := 2) (lo := 0) (hi := 2) rfl rfl (by omega) (by omega) (by omega))) (by decide : ¬ (some 0 : Option Int32) = some 1)
    have q2 : ¬ q = 2 := fun e => absurd ((M0 (mkH i l a)).symm.trans (by rw [e]; exact Mo_in_in (p := 2) (y := 0) (z := 2) (lo := 0) (hi := 2) rfl rfl (by omega) (by omega) (by omega))) (by decide : ¬ (some 0 : Option Int32) = some 1)
    refine call_bad (r := -1) H ?_ (fun i1 => ?_)
    · unfold f_Fa_status
      rw [if_neg q0, if_neg q1, if_neg q2, O_0, cH_id]
    · unfold f_Mo_status f_Mo_status_b26
      simp only [r_136_0, o_136, O_136, r_136_3, cP_s, cH_s, n10, if_true, if_false, zR_0, zR_1, lt_e, Mo_many_ok, Mo_day_ok, cH_id, M0]
  · refine call_ask (r := a 140 m) H ?_ ?_
    · unfold f_Fa_status
      have : m = 0 ∨ m = 1 ∨ m = 2 := by omega
      rcases this with rfl | rfl | rfl
      · rw [if_pos (show nI 0 = 0 from rfl), g_0_10, r0]
      · rw [if_neg (by decide), if_pos (show nI 1 = 1 from rfl), g_0_11, r1]
      · rw [if_neg (by decide), if_neg (by decide), if_pos (show nI 2 = 2 from rfl), g_0_12, r2]
    · unfold f_Mo_status f_Mo_status_b26
      simp only [r_136_0, o_136, O_136, r_136_3, cP_s, cH_s, n10, if_true, if_false, zR_0, zR_1, lt_e, Mo_many_ok, Mo_day_ok, M0]
      rw [b_140 (x := nI m) (m := m) rfl (by omega)]
theorem call_count (H : Inv i l a) (q : Int32) : Call (fun G => f_Fa_count G 0 q) (fun G => f_Mo_count G 136 q) i l a := by
  obtain ⟨n, nf, nn, np, dy, hN⟩ := now_of H; obtain ⟨⟨a1, a2, a3, a4, a5⟩, ⟨b1, b2, b3, b4, b5, b6⟩, ⟨c1, c2, c3, c4, c5⟩, ⟨d1, d2, d3, d4, d5⟩⟩ := id hN
  obtain ⟨bl, t1, t2, t3, t4⟩ := txt_of H
  obtain ⟨u, p1, p2, p3, -⟩ := H.2.1
  rw [Nat.zero_add] at p2
  rcases ck_wi q (lo := 0) (hi := 6) (c := 0) (d := 6) (c' := 0) (d' := 6) rfl rfl rfl rfl (by omega) (by omega) with ⟨F0, M0⟩ | ⟨m, hm1, hm, rfl, F0, M0⟩
  · (refine call_bad (r := -2) H ?_ (fun i1 => ?_); (unfold f_Fa_count f_Fa_count_b24; simp only [r_0_3, r_2_0, r_2_1, r_2_2, r_2_3, r_2_4, g_2_5, o_0, o_2, o_3, o_5, o_7, o_9, o_11, O_0, O_2, O_3, O_5, O_7, O_9, O_11, r_0_8, p_124_0, cP_s, cH_s, n10, if_true, if_false, zR_0, zR_1, lt_e, cH_id, F0]); (unfold f_Mo_count f_Mo_count_b26; simp only [r_136_0, o_136, O_136, r_136_3, cP_s, cH_s, n10, if_true, if_false, zR_0, zR_1, lt_e, Mo_many_ok, Mo_day_ok, cH_id, M0]))
  · have : m = 0 ∨ m = 1 ∨ m = 2 ∨ m = 3 ∨ m = 4 ∨ m = 5 ∨ m = 6 := by omega
    rcases this with rfl | rfl | rfl | rfl | rfl | rfl | rfl
    · (refine call_ask (r := nI n) H ?_ ?_; (unfold f_Fa_count f_Fa_count_b24 f_Fa_howMany; simp only [r_0_3, r_2_0, r_2_1, r_2_2, r_2_3, r_2_4, g_2_5, o_0, o_2, o_3, o_5, o_7, o_9, o_11, O_0, O_2, O_3, O_5, O_7, O_9, O_11, r_0_8, p_124_0, cP_s, cH_s, n10, if_true, if_false, zR_0, zR_1, lt_e, F0, if_pos (show nI 0 = 0 from rfl), g_3_2, b2]); (unfold f_Mo_count f_Mo_count_b26 f_Mo_counted f_Mo_counted_b91; simp only [r_136_0, o_136, O_136, r_136_3, cP_s, cH_s, n10, if_true, if_false, zR_0, zR_1, lt_e, Mo_many_ok, Mo_day_ok, M0, if_pos (show nI 0 = 0 from rfl), a2.1]))
    · (refine call_ask (r := nI nf) H ?_ ?_; (unfold f_Fa_count f_Fa_count_b24 f_Fa_howMany; simp only [r_0_3, r_2_0, r_2_1, r_2_2, r_2_3, r_2_4, g_2_5, o_0, o_2, o_3, o_5, o_7, o_9, o_11, O_0, O_2, O_3, O_5, O_7, O_9, O_11, r_0_8, p_124_0, cP_s, cH_s, n10, if_true, if_false, zR_0, zR_1, lt_e, F0, if_neg (show ¬ nI 1 = 0 by decide), if_pos (show nI 1 = 1 from rfl), g_5_2, b3]); (unfold f_Mo_count f_Mo_count_b26 f_Mo_counted f_Mo_counted_b91; simp only [r_136_0, o_136, O_136, r_136_3, cP_s, cH_s, n10, if_true, if_false, zR_0, zR_1, lt_e, Mo_many_ok, Mo_day_ok, M0, if_neg (show ¬ nI 1 = 0 by decide), if_pos (show nI 1 = 1 from rfl), b_137 (x := 158) (m := 158) rfl (by omega), a3.1]))
    · (refine call_ask (r := nI nn) H ?_ ?_; (unfold f_Fa_count f_Fa_count_b24 f_Fa_howMany; simp only [r_0_3, r_2_0, r_2_1, r_2_2, r_2_3, r_2_4, g_2_5, o_0, o_2, o_3, o_5, o_7, o_9, o_11, O_0, O_2, O_3, O_5, O_7, O_9, O_11, r_0_8, p_124_0, cP_s, cH_s, n10, if_true, if_false, zR_0, zR_1, lt_e, F0, if_neg (show ¬ nI 2 = 0 by decide), if_neg (show ¬ nI 2 = 1 by decide), if_pos (show nI 2 = 2 from rfl), g_7_2, b4]); (unfold f_Mo_count f_Mo_count_b26 f_Mo_counted f_Mo_counted_b91; simp only [r_136_0, o_136, O_136, r_136_3, cP_s, cH_s, n10, if_true, if_false, zR_0, zR_1, lt_e, Mo_many_ok, Mo_day_ok, M0, if_neg (show ¬ nI 2 = 0 by decide), if_neg (show ¬ nI 2 = 1 by decide), if_pos (show nI 2 = 2 from rfl), b_137 (x := 159) (m := 159) rfl (by omega), a4.1]))
    · (refine call_ask (r := nI np) H ?_ ?_; (unfold f_Fa_count f_Fa_count_b24 f_Fa_howMany; simp only [r_0_3, r_2_0, r_2_1, r_2_2, r_2_3, r_2_4, g_2_5, o_0, o_2, o_3, o_5, o_7, o_9, o_11, O_0, O_2, O_3, O_5, O_7, O_9, O_11, r_0_8, p_124_0, cP_s, cH_s, n10, if_true, if_false, zR_0, zR_1, lt_e, F0, if_neg (show ¬ nI 3 = 0 by decide), if_neg (show ¬ nI 3 = 1 by decide), if_neg (show ¬ nI 3 = 2 by decide), if_pos (show nI 3 = 3 from rfl), g_9_2, b5]); (unfold f_Mo_count f_Mo_count_b26 f_Mo_counted f_Mo_counted_b91; simp only [r_136_0, o_136, O_136, r_136_3, cP_s, cH_s, n10, if_true, if_false, zR_0, zR_1, lt_e, Mo_many_ok, Mo_day_ok, M0, if_neg (show ¬ nI 3 = 0 by decide), if_neg (show ¬ nI 3 = 1 by decide), if_neg (show ¬ nI 3 = 2 by decide), if_pos (show nI 3 = 3 from rfl), b_137 (x := 160) (m := 160) rfl (by omega), a5.1]))
    · (refine call_ask (r := nI dy) H ?_ ?_; (unfold f_Fa_count f_Fa_count_b24 f_Fa_howMany; simp only [r_0_3, r_2_0, r_2_1, r_2_2, r_2_3, r_2_4, g_2_5, o_0, o_2, o_3, o_5, o_7, o_9, o_11, O_0, O_2, O_3, O_5, O_7, O_9, O_11, r_0_8, p_124_0, cP_s, cH_s, n10, if_true, if_false, zR_0, zR_1, lt_e, F0, if_neg (show ¬ nI 4 = 0 by decide), if_neg (show ¬ nI 4 = 1 by decide), if_neg (show ¬ nI 4 = 2 by decide), if_neg (show ¬ nI 4 = 3 by decide), if_pos (show nI 4 = 4 from rfl), b1]); (unfold f_Mo_count f_Mo_count_b26 f_Mo_counted f_Mo_counted_b91; simp only [r_136_0, o_136, O_136, r_136_3, cP_s, cH_s, n10, if_true, if_false, zR_0, zR_1, lt_e, Mo_many_ok, Mo_day_ok, M0, if_neg (show ¬ nI 4 = 0 by decide), if_neg (show ¬ nI 4 = 1 by decide), if_neg (show ¬ nI 4 = 2 by decide), if_neg (show ¬ nI 4 = 3 by decide), if_pos (show nI 4 = 4 from rfl), a1.1]))
    · (refine call_ask (r := nI u) H ?_ ?_; (unfold f_Fa_count f_Fa_count_b24 f_Fa_howMany; simp only [r_0_3, r_2_0, r_2_1, r_2_2, r_2_3, r_2_4, g_2_5, o_0, o_2, o_3, o_5, o_7, o_9, o_11, O_0, O_2, O_3, O_5, O_7, O_9, O_11, r_0_8, p_124_0, cP_s, cH_s, n10, if_true, if_false, zR_0, zR_1, lt_e, F0, if_neg (show ¬ nI 5 = 0 by decide), if_neg (show ¬ nI 5 = 1 by decide), if_neg (show ¬ nI 5 = 2 by decide), if_neg (show ¬ nI 5 = 3 by decide), if_neg (show ¬ nI 5 = 4 by decide), if_pos (show nI 5 = 5 from rfl), r_0_0, g_1_3, p1]); (unfold f_Mo_count f_Mo_count_b26 f_Mo_counted f_Mo_counted_b91; simp only [r_136_0, o_136, O_136, r_136_3, cP_s, cH_s, n10, if_true, if_false, zR_0, zR_1, lt_e, Mo_many_ok, Mo_day_ok, M0, if_neg (show ¬ nI 5 = 0 by decide), if_neg (show ¬ nI 5 = 1 by decide), if_neg (show ¬ nI 5 = 2 by decide), if_neg (show ¬ nI 5 = 3 by decide), if_neg (show ¬ nI 5 = 4 by decide), if_pos (show nI 5 = 5 from rfl), b_137 (x := 161) (m := 161) rfl (by omega), p2]))
    · (refine call_ask (r := nI bl) H ?_ ?_; (unfold f_Fa_count f_Fa_count_b24 f_Fa_howMany; simp only [r_0_3, r_2_0, r_2_1, r_2_2, r_2_3, r_2_4, g_2_5, o_0, o_2, o_3, o_5, o_7, o_9, o_11, O_0, O_2, O_3, O_5, O_7, O_9, O_11, r_0_8, p_124_0, cP_s, cH_s, n10, if_true, if_false, zR_0, zR_1, lt_e, F0, if_neg (show ¬ nI 6 = 0 by decide), if_neg (show ¬ nI 6 = 1 by decide), if_neg (show ¬ nI 6 = 2 by decide), if_neg (show ¬ nI 6 = 3 by decide), if_neg (show ¬ nI 6 = 4 by decide), if_neg (show ¬ nI 6 = 5 by decide), r_0_5, g_104_1, t2]); (unfold f_Mo_count f_Mo_count_b26 f_Mo_counted f_Mo_counted_b91; simp only [r_136_0, o_136, O_136, r_136_3, cP_s, cH_s, n10, if_true, if_false, zR_0, zR_1, lt_e, Mo_many_ok, Mo_day_ok, M0, if_neg (show ¬ nI 6 = 0 by decide), if_neg (show ¬ nI 6 = 1 by decide), if_neg (show ¬ nI 6 = 2 by decide), if_neg (show ¬ nI 6 = 3 by decide), if_neg (show ¬ nI 6 = 4 by decide), if_neg (show ¬ nI 6 = 5 by decide), g_136_17, t3]))
end C4
