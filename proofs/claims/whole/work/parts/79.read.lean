/-! ===== call: read ===== -/
section RD
variable {i : Nat → Nat → Int32} {l : Nat → Nat → Int64} {a : Nat → Nat → Int32} {g : Nat → Int32} {bl s : Nat} {w : Nat → Int32} {n nf nn : Nat}
theorem FrC.tr {i a i1 a1 i2 a2 : Nat → Nat → Int32} (h : FrC i a i1 a1) (h' : FrC i1 a1 i2 a2) : FrC i a i2 a2 := fun b hb => ⟨fun k => ((h' b hb).1 k).trans ((h b hb).1 k), (h' b hb).2.trans (h b hb).2⟩
theorem FrM.tr {i a i1 a1 i2 a2 : Nat → Nat → Int32} (h : FrM i a i1 a1) (h' : FrM i1 a1 i2 a2) : FrM i a i2 a2 := ⟨fun b k hk => (h'.1 b k hk).trans (h.1 b k hk), fun b h1 h2 => (h'.2 b h1 h2).trans (h.2 b h1 h2)⟩
/-- the reference, behind an item that both refuse; behind one that both take -/
theorem b28_bad {K : Hp → Nat → Int32 → Option (Int32 × Hp)} {i1 a1 i2 a2 : Nat → Nat → Int32} {x fl it : Int32} {s' : Nat} (h1 : f_Mo_readsItem (mkH i1 l a1) 136 fl = some (x, mkH i2 l a2)) (h2 : x = 0 ∨ (x = 1 ∧ ¬ i2 136 20 = 3)) (h3 : i2 136 18 = nI s') : f_Mo_read_b28 K (mkH i1 l a1) 136 it 136 fl = some (-10 - nI s', mkH i2 l a2) := by
  unfold f_Mo_read_b28 f_Mo_read_b42
  rw [O_136, h1, cH_s, g_136_18, h3]
  rcases h2 with rfl | ⟨rfl, h2⟩
  · rw [if_pos rfl]
  · rw [if_neg n10, g_136_20, if_neg h2]
theorem b28_ok {K : Hp → Nat → Int32 → Option (Int32 × Hp)} {i1 a1 i2 a2 : Nat → Nat → Int32} {fl : Int32} {it s' : Nat} {w' : Nat → Int32} (h1 : f_Mo_readsItem (mkH i1 l a1) 136 fl = some (1, mkH i2 l a2)) (h2 : RS g bl i2 a2 s' w') (hk : knd g bl s' = 3) : ∃ i3, f_Mo_read_b28 K (mkH i1 l a1) 136 (nI it) 136 fl = K (mkH i3 l a2) 136 (nI (it + 1)) ∧ RS g bl i3 a2 (skp g bl (nxt g bl s')) w' ∧ FrM i2 a2 i3 a2 := by
  have hs := knd_lt hk (by omega)
  obtain ⟨i3, f, q1, q2⟩ := m_go (l := l) h2.1 ⟨h2.2.1, fun _ _ _ => rfl⟩ hs
  refine ⟨i3, ?_, ⟨h2.1.c (q2 _ _ (by omega)) rfl, q1, h2.2.2⟩, ⟨q2, fun _ _ _ => rfl⟩⟩
  unfold f_Mo_read_b28
  rw [O_136, h1, cH_s, if_neg n10, g_136_20, h2.2.1.2.2.1, hk, if_pos (show nI 3 = 3 from rfl), o_136, f, cP_s, nI_s1]
theorem main_loop : ∀ (m s it fu : Nat) (i a : Nat → Nat → Int32) (w : Nat → Int32) (n nf nn : Nat), bl - s ≤ m → CS g bl i a s w n nf nn → 1 ≤ it → it ≤ s → m + 2 ≤ fu →
    (∃ s' i' a' it', s' ≤ bl ∧ f_Re_readStreet_b20 fu (mkH i l a) 103 (nI it) = some (it', mkH i' l a') ∧ i' 103 2 = nI s' ∧ FrC i a i' a' ∧ ∀ i1 a1 fu2, RS g bl i1 a1 s w → m + 2 ≤ fu2 → ∃ i1' a1', f_Mo_read_b7 fu2 (mkH i1 l a1) 136 (nI it) = some (-10 - nI s', mkH i1' l a1') ∧ FrM i1 a1 i1' a1') ∨
    (∃ it' w' n' nf' nn' i' a', f_Re_readStreet_b20 fu (mkH i l a) 103 (nI it) = some (nI it', mkH i' l a') ∧ i' 103 2 = -1 ∧ Dr i' a' w' n' nf' nn' ∧ FrC i a i' a' ∧ ∀ i1 a1 fu2, RS g bl i1 a1 s w → m + 2 ≤ fu2 → ∃ i1' a1', f_Mo_read_b7 fu2 (mkH i1 l a1) 136 (nI it) = f_Mo_read_b62 FU (mkH i1' l a1') 136 (nI it') 0 ∧ a1' 149 = w' ∧ FrM i1 a1 i1' a1') := by
  intro m
  induction m with
  | zero =>
    intro s it fu i a w n nf nn hm hC h1 h2 hfu
    obtain ⟨hf, h7, hT, hCT, hD⟩ := id hC
    have hb := hT.1
    have es : s = bl := by have := hCT.1; omega
    have k0 : knd g bl s = 0 := if_pos (by omega)
    obtain ⟨f', rfl⟩ : ∃ f', fu = f' + 1 := ⟨fu - 1, by omega⟩
    refine Or.inr ⟨it, w, n, nf, nn, i, a, ?_, hf, hD, fun b hb => ⟨fun _ => rfl, rfl⟩, fun i1 a1 fu2 hR h4 => ?_⟩
    · show f_Re_readStreet_b20_k (f_Re_readStreet_b20 f') _ _ _ = _
      unfold f_Re_readStreet_b20_k f_Re_readStreet_b52
      rw [if_neg (c := (250 : Int32) < nI it) (show ¬ nI 250 < nI it by rw [nI_lt' (by omega) (by omega)]; omega), g_103_2, hf, if_pos rfl, g_103_3, hCT.2.2.1, k0, if_pos (show nI 0 = 0 from rfl)]
    · obtain ⟨f2, rfl⟩ : ∃ f', fu2 = f' + 1 := ⟨fu2 - 1, by omega⟩
      refine ⟨i1, a1, ?_, hR.2.2, ⟨fun _ _ _ => rfl, fun _ _ _ => rfl⟩⟩
      show f_Mo_read_b7_k (f_Mo_read_b7 f2) _ _ _ = _
      unfold f_Mo_read_b7_k
      rw [g_136_20, hR.2.1.2.2.1, k0, if_pos (show nI 0 = 0 from rfl), if_neg (by rw [nI_z (by omega)]; omega)]
  | succ m ih =>
    intro s it fu i a w n nf nn hm hC h1 h2 hfu
    obtain ⟨hf, h7, hT, hCT, hD⟩ := id hC
    have hb := hT.1
    obtain ⟨f', rfl⟩ : ∃ f', fu = f' + 1 := ⟨fu - 1, by omega⟩
    by_cases es : s = bl
    · have k0 : knd g bl s = 0 := if_pos (by omega)
      refine Or.inr ⟨it, w, n, nf, nn, i, a, ?_, hf, hD, fun b hb => ⟨fun _ => rfl, rfl⟩, fun i1 a1 fu2 hR h4 => ?_⟩
      · show f_Re_readStreet_b20_k (f_Re_readStreet_b20 f') _ _ _ = _
        unfold f_Re_readStreet_b20_k f_Re_readStreet_b52
        rw [if_neg (c := (250 : Int32) < nI it) (show ¬ nI 250 < nI it by rw [nI_lt' (by omega) (by omega)]; omega), g_103_2, hf, if_pos rfl, g_103_3, hCT.2.2.1, k0, if_pos (show nI 0 = 0 from rfl)]
      · obtain ⟨f2, rfl⟩ : ∃ f', fu2 = f' + 1 := ⟨fu2 - 1, by omega⟩
        refine ⟨i1, a1, ?_, hR.2.2, ⟨fun _ _ _ => rfl, fun _ _ _ => rfl⟩⟩
        show f_Mo_read_b7_k (f_Mo_read_b7 f2) _ _ _ = _
        unfold f_Mo_read_b7_k
        rw [g_136_20, hR.2.1.2.2.1, k0, if_pos (show nI 0 = 0 from rfl), if_neg (by rw [nI_z (by omega)]; omega)]
    · have hs : s < bl := by have := hCT.1; omega
      have k0 : ¬ knd g bl s = 0 := by
        unfold knd
        rw [if_neg (by omega)]
        split
        · omega
        · split
          · split <;> omega
          · split <;> omega
      have hk4 := knd_le g bl s
      have HEAD : ∀ {G : Option (Int32 × Hp)}, (vP (mkH i l a) 5 103 (f_Re_readItem (mkH i l a) 103) fun G3 => f_Re_readStreet_b20 f' G3 103 (nI (it + 1))) = G → f_Re_readStreet_b20 (f' + 1) (mkH i l a) 103 (nI it) = G := by
        intro G hG
        show f_Re_readStreet_b20_k (f_Re_readStreet_b20 f') _ _ _ = _
        unfold f_Re_readStreet_b20_k f_Re_readStreet_b52
        rw [if_neg (c := (250 : Int32) < nI it) (show ¬ nI 250 < nI it by rw [nI_lt' (by omega) (by omega)]; omega), g_103_2, hf, if_pos rfl, g_103_3, hCT.2.2.1, if_neg (by rw [nI_z (by omega)]; exact k0), nI_s1]
        exact hG
      have MH : ∀ (i1 a1 : Nat → Nat → Int32) (f2 : Nat), RS g bl i1 a1 s w → f_Mo_read_b7 (f2 + 1) (mkH i1 l a1) 136 (nI it) = f_Mo_read_b28 (f_Mo_read_b7 f2) (mkH i1 l a1) 136 (nI it) 136 0 := by
        intro i1 a1 f2 hR
        show f_Mo_read_b7_k (f_Mo_read_b7 f2) _ _ _ = _
        unfold f_Mo_read_b7_k f_Mo_read_b18
        rw [g_136_20, hR.2.1.2.2.1, if_neg (by rw [nI_z (by omega)]; exact k0), if_neg (by rw [nI_z (by omega)]; omega)]
      rcases item_out (l := l) hC with ⟨s', i', a', q1, q2, q3, q4, q5⟩ | ⟨s', w', n', nf', nn', i', a', q1, q2, q3, q4, q5, q6, q7⟩
      · obtain ⟨f3, rfl⟩ : ∃ f3, f' = f3 + 1 := ⟨f' - 1, by omega⟩
        refine Or.inl ⟨s', i', a', nI (it + 1), q1, HEAD ?_, q3, q4, fun i1 a1 fu2 hR h4 => ?_⟩
        · rw [o_103, q2, cP_s]
          show f_Re_readStreet_b20_k (f_Re_readStreet_b20 f3) _ _ _ = _
          unfold f_Re_readStreet_b20_k f_Re_readStreet_b52
          rw [if_neg (c := (250 : Int32) < nI (it + 1)) (show ¬ nI 250 < nI (it + 1) by rw [nI_lt' (by omega) (by omega)]; omega), g_103_2, q3, if_neg (by rw [nI_neg1 (by omega)]; exact id)]
        · obtain ⟨f2, rfl⟩ : ∃ f2, fu2 = f2 + 1 := ⟨fu2 - 1, by omega⟩
          obtain ⟨x, i1', a1', r1, r2, r3, r4⟩ := q5 i1 a1 hR
          exact ⟨i1', a1', (MH i1 a1 f2 hR).trans (b28_bad r1 r2 r3), r4⟩
      · have A := adv (g := g) q2
        have I := ih (skp g bl (nxt g bl s')) (it + 1) f' i' a' w' n' nf' nn' (by omega) q5 (by omega) (by omega) (by omega)
        have MK : ∀ (i1 a1 : Nat → Nat → Int32) (f2 : Nat), RS g bl i1 a1 s w → ∃ i3 a3, f_Mo_read_b7 (f2 + 1) (mkH i1 l a1) 136 (nI it) = f_Mo_read_b7 f2 (mkH i3 l a3) 136 (nI (it + 1)) ∧ RS g bl i3 a3 (skp g bl (nxt g bl s')) w' ∧ FrM i1 a1 i3 a3 := by
          intro i1 a1 f2 hR
          obtain ⟨i1', a1', r1, r2, r3⟩ := q7 i1 a1 hR
          obtain ⟨i3, t1, t2, t3⟩ := b28_ok (K := f_Mo_read_b7 f2) (it := it) r1 r2 q3
          exact ⟨i3, a1', (MH i1 a1 f2 hR).trans t1, t2, r3.tr t3⟩
        rcases I with ⟨t', i2, a2, it', u1, u2, u3, u4, u5⟩ | ⟨it', w2, n2, nf2, nn2, i2, a2, u1, u2, u3, u4, u5⟩
        · refine Or.inl ⟨t', i2, a2, it', u1, HEAD (by rw [o_103, q4, cP_s]; exact u2), u3, q6.tr u4, fun i1 a1 fu2 hR h4 => ?_⟩
          obtain ⟨f2, rfl⟩ : ∃ f2, fu2 = f2 + 1 := ⟨fu2 - 1, by omega⟩
          obtain ⟨i3, a3, t1, t2, t3⟩ := MK i1 a1 f2 hR
          obtain ⟨i4, a4, v1, v2⟩ := u5 i3 a3 f2 t2 (by omega)
          exact ⟨i4, a4, t1.trans v1, t3.tr v2⟩
        · refine Or.inr ⟨it', w2, n2, nf2, nn2, i2, a2, HEAD (by rw [o_103, q4, cP_s]; exact u1), u2, u3, q6.tr u4, fun i1 a1 fu2 hR h4 => ?_⟩
          obtain ⟨f2, rfl⟩ : ∃ f2, fu2 = f2 + 1 := ⟨fu2 - 1, by omega⟩
          obtain ⟨i3, a3, t1, t2, t3⟩ := MK i1 a1 f2 hR
          obtain ⟨i4, a4, v1, v2, v3⟩ := u5 i3 a3 f2 t2 (by omega)
          exact ⟨i4, a4, t1.trans v1, v2, t3.tr v3⟩
/-- the whole reading, both -/
theorem read_both (hT : TX g bl i a) (w : Nat → Int32) : (∃ s' i' a' it', s' ≤ bl ∧ f_Re_readStreet (mkH i l a) 103 = some (it', mkH i' l a') ∧ i' 103 2 = nI s' ∧ FrC i a i' a' ∧ ∀ i1 a1, TM g bl i1 a1 → a1 149 = w → ∃ i1' a1', f_Mo_read (mkH i1 l a1) 136 = some (-10 - nI s', mkH i1' l a1') ∧ FrM i1 a1 i1' a1') ∨
    (∃ it' w' n' nf' nn' i' a', f_Re_readStreet (mkH i l a) 103 = some (nI it', mkH i' l a') ∧ i' 103 2 = -1 ∧ Dr i' a' w' n' nf' nn' ∧ FrC i a i' a' ∧ ∀ i1 a1, TM g bl i1 a1 → a1 149 = w → ∃ i1' a1', f_Mo_read (mkH i1 l a1) 136 = f_Mo_read_b62 FU (mkH i1' l a1') 136 (nI it') 0 ∧ a1' 149 = w' ∧ FrM i1 a1 i1' a1') := by
  have hb := hT.1
  have hT2 : TX g bl (up2 (up2 i 103 2 (-1)) 103 5 0) a := hT.c ((up2_n (by omega)).trans (up2_n (by omega)))
  obtain ⟨j, F0, Q0, Q1⟩ := step_ok (l := l) hT2 (p := 0) (Nat.zero_le _) up2_s
  have S0 := skp_p (g := g) (bl := bl) (p := 0) (Nat.zero_le _)
  have hf : j 103 2 = -1 := (Q1 103 2 (by omega)).trans ((up2_n (by omega)).trans up2_s)
  have hTj : TX g bl j a := hT2.c (Q1 104 1 (by omega))
  have F1 : FrC i a j a := fun b hb => ⟨fun k => (Q1 b k (by omega)).trans ((up2_n (by omega)).trans (up2_n (by omega))), rfl⟩
  have HEAD : ∀ {G : Option (Int32 × Hp)}, (vP (mkH j l a) 5 103 (f_Re_readPeople (mkH j l a) 103) fun G4 => f_Re_readStreet_b20 FU G4 103 1) = G → f_Re_readStreet (mkH i l a) 103 = G := by
    intro G hG
    unfold f_Re_readStreet
    rw [p_103_2, p_103_5, o_103, F0, cP_s]
    exact hG
  have MH : ∀ i1 a1, TM g bl i1 a1 → a1 149 = w → ∃ k, RS g bl k a1 (skp g bl 0) w ∧ FrM i1 a1 k a1 ∧ f_Mo_read (mkH i1 l a1) 136 = f_Mo_read_b28 (f_Mo_read_b7 999999999) (mkH k l a1) 136 (nI 0) 136 1 := by
    intro i1 a1 h1 h2
    obtain ⟨k, f, q1, q2⟩ := look_ok (l := l) h1 (p := 0) (Nat.zero_le _)
    refine ⟨k, ⟨h1.c (q2 _ _ (by omega)) rfl, q1, h2⟩, ⟨q2, fun _ _ _ => rfl⟩, ?_⟩
    have f' : f_Mo_lookAt (mkH i1 l a1) 136 0 = some (mkH k l a1) := f
    unfold f_Mo_read
    rw [o_136, f', cP_s]
    show f_Mo_read_b7_k (f_Mo_read_b7 999999999) _ 136 0 = _
    unfold f_Mo_read_b7_k f_Mo_read_b18
    rw [g_136_20]
    by_cases c : k 136 20 = 0
    · rw [if_pos c, if_pos rfl, if_pos rfl]
      rfl
    · rw [if_neg c, if_pos rfl]
      rfl
  rcases people_out (l := l) hf hTj Q0 w with ⟨s', i', a', q1, q2, q3, q4, q5⟩ | ⟨s', w', n', nf', nn', i', a', q1, q2, q3, q4, q5, q6, q7⟩
  · refine Or.inl ⟨s', i', a', 1, q1, HEAD ?_, q3, F1.tr q4, fun i1 a1 h1 h2 => ?_⟩
    · rw [o_103, q2, cP_s]
      show f_Re_readStreet_b20_k (f_Re_readStreet_b20 999999999) _ 103 1 = _
      unfold f_Re_readStreet_b20_k f_Re_readStreet_b52
      rw [if_neg (show ¬ (250 : Int32) < 1 by decide), g_103_2, q3, if_neg (by rw [nI_neg1 (by omega)]; exact id)]
    · obtain ⟨k, r1, r2, r3⟩ := MH i1 a1 h1 h2
      obtain ⟨x, i1', a1', t1, t2, t3, t4⟩ := q5 k a1 r1
      exact ⟨i1', a1', r3.trans (b28_bad t1 t2 t3), r2.tr t4⟩
  · have A := adv (g := g) q2
    have MK : ∀ i1 a1, TM g bl i1 a1 → a1 149 = w → ∃ i3 a3, f_Mo_read (mkH i1 l a1) 136 = f_Mo_read_b7 999999999 (mkH i3 l a3) 136 (nI 1) ∧ RS g bl i3 a3 (skp g bl (nxt g bl s')) w' ∧ FrM i1 a1 i3 a3 := by
      intro i1 a1 h1 h2
      obtain ⟨k, r1, r2, r3⟩ := MH i1 a1 h1 h2
      obtain ⟨i1', a1', t1, t2, t3⟩ := q7 k a1 r1
      obtain ⟨i3, v1, v2, v3⟩ := b28_ok (K := f_Mo_read_b7 999999999) (it := 0) t1 t2 q3
      exact ⟨i3, a1', r3.trans v1, v2, r2.tr (t3.tr v3)⟩
    rcases main_loop (l := l) (g := g) (bl := bl) bl (skp g bl (nxt g bl s')) 1 FU i' a' w' n' nf' nn' (by omega) q5 (by omega) (by omega) (by unfold FU; omega) with ⟨t', i2, a2, it', u1, u2, u3, u4, u5⟩ | ⟨it', w2, n2, nf2, nn2, i2, a2, u1, u2, u3, u4, u5⟩
    · refine Or.inl ⟨t', i2, a2, it', u1, HEAD (by rw [o_103, q4, cP_s]; exact u2), u3, F1.tr (q6.tr u4), fun i1 a1 h1 h2 => ?_⟩
      obtain ⟨i3, a3, t1, t2, t3⟩ := MK i1 a1 h1 h2
      obtain ⟨i4, a4, v1, v2⟩ := u5 i3 a3 999999999 t2 (by omega)
      exact ⟨i4, a4, t1.trans v1, t3.tr v2⟩
    · refine Or.inr ⟨it', w2, n2, nf2, nn2, i2, a2, HEAD (by rw [o_103, q4, cP_s]; exact u1), u2, u3, F1.tr (q6.tr u4), fun i1 a1 h1 h2 => ?_⟩
      obtain ⟨i3, a3, t1, t2, t3⟩ := MK i1 a1 h1 h2
      obtain ⟨i4, a4, v1, v2, v3⟩ := u5 i3 a3 999999999 t2 (by omega)
      exact ⟨i4, a4, t1.trans v1, v2, t3.tr v3⟩
/-- the reference lays what was read -/
theorem rd_b62 {w' : Nat → Int32} (it : Int32) : ∀ (fu k : Nat) (a : Nat → Nat → Int32), k ≤ 161 → 161 - k < fu → a 149 = w' → ∃ u, f_Mo_read_b62 fu (mkH i l a) 136 it (nI k) = some (it, mkH i l (va_up a 137 (upd u 161 0))) ∧ ∀ j, u j = if k ≤ j ∧ j < 161 ∧ ¬ (154 ≤ j ∧ j ≤ 157) then w' j else a 137 j := by
  intro fu
  induction fu with
  | zero => intro k _ _ h; omega
  | succ fu ih =>
    intro k a hk hf h9
    show ∃ u, f_Mo_read_b62_k (f_Mo_read_b62 fu) _ _ _ _ = _ ∧ _
    unfold f_Mo_read_b62_k f_Mo_read_b103
    by_cases h : k = 161
    · subst h
      refine ⟨a 137, ?_, fun j => by rw [if_neg (by omega)]⟩
      rw [if_pos (show (161 : Int32) ≤ nI 161 by decide), r_136_0, t_137 (x := 161) (m := 161) rfl (by omega)]
    · rw [if_neg (c := (161 : Int32) ≤ nI k) (show ¬ nI 161 ≤ nI k by rw [nI_le' (by omega) (by omega)]; omega), r_136_0, nI_s1]
      by_cases c : 154 ≤ k ∧ k ≤ 157
      · rw [Mo_in_in (y := 154) (z := 157) (lo := 154) (hi := 157) rfl rfl c.1 c.2 (by omega), cP_s, if_neg n10, r_136_0, b_137 (x := nI k) (m := k) rfl (by omega), t_137 (x := nI k) (m := k) rfl (by omega)]
        obtain ⟨u, u1, u2⟩ := ih (k + 1) (va_up a 137 (upd (a 137) k (a 137 k))) (by omega) (by omega) ((vu_n (by omega)).trans h9)
        refine ⟨u, by rw [u1, vu_u], fun j => ?_⟩
        rw [u2 j, vu_s]
        by_cases e : j = k
        · rw [if_neg (by omega), if_neg (by omega), e, ud_s]
        · rw [ud_n e]
          by_cases e2 : k + 1 ≤ j ∧ j < 161 ∧ ¬ (154 ≤ j ∧ j ≤ 157)
          · rw [if_pos e2, if_pos (by omega)]
          · rw [if_neg e2, if_neg (by omega)]
      · rw [Mo_in_out (y := nI 154) (z := nI 157) (y' := 154) (z' := 157) rfl rfl (by rw [nI_lt' (by omega) (by omega), nI_lt' (by omega) (by omega)]; omega), cP_s, if_pos rfl, r_136_22, a_149 (by omega), t_137 (x := nI k) (m := k) rfl (by omega), h9]
        obtain ⟨u, u1, u2⟩ := ih (k + 1) (va_up a 137 (upd (a 137) k (w' k))) (by omega) (by omega) ((vu_n (by omega)).trans h9)
        refine ⟨u, by rw [u1, vu_u], fun j => ?_⟩
        rw [u2 j, vu_s]
        by_cases e : j = k
        · rw [if_neg (by omega), if_pos (by omega), e, ud_s]
        · rw [ud_n e]
          by_cases e2 : k + 1 ≤ j ∧ j < 161 ∧ ¬ (154 ≤ j ∧ j ≤ 157)
          · rw [if_pos e2, if_pos (by omega)]
          · rw [if_neg e2, if_neg (by omega)]
theorem take_ok : ∃ i1 a1, f_St_takeAllButRates (mkH i l a) 2 106 = some (mkH i1 l a1) ∧ (i1 3 2 = i 107 2 ∧ i1 5 2 = i 109 2 ∧ i1 7 2 = i 111 2 ∧ i1 9 2 = i 113 2 ∧ i1 2 5 = i 106 5) ∧ (∀ j, j < 12 → a1 4 j = a 108 j) ∧ (∀ j, j < 84 → a1 6 j = a 110 j) ∧ (∀ j, j < 20 → a1 8 j = a 112 j) ∧ (∀ b, ¬ (2 ≤ b ∧ b ≤ 10) → (∀ k, i1 b k = i b k) ∧ a1 b = a b) := by
  unfold f_St_takeAllButRates
  rw [r_2_0, r_106_0, o_3, Ta_copy_ok (t := 3) (m := 6) (w := 2) (by decide) (t' := 107) (by decide), cP_s, r_2_1, r_106_1, o_5, Ta_copy_ok (t := 5) (m := 12) (w := 7) (by decide) (t' := 109) (by decide), cP_s, r_2_2, r_106_2, o_7, Ta_copy_ok (t := 7) (m := 5) (w := 4) (by decide) (t' := 111) (by decide), cP_s, r_2_3, r_106_3, o_9, Ta_copy_ok (t := 9) (m := 12) (w := 3) (by decide) (t' := 113) (by decide), cP_s, g_106_5, p_2_5]
  refine ⟨_, _, rfl, ⟨?_, ?_, ?_, ?_, ?_⟩, fun j hj => ?_, fun j hj => ?_, fun j hj => ?_, fun b hb => ⟨fun k => ?_, ?_⟩⟩
  · simp (disch := omega) only [up2_n, up2_s]
  · simp (disch := omega) only [up2_n, up2_s]
  · simp (disch := omega) only [up2_n, up2_s]
  · simp (disch := omega) only [up2_n, up2_s]
  · simp (disch := omega) only [up2_n, up2_s]
  · simp (disch := omega) only [vu_n, vu_s, cpy_at]
  · simp (disch := omega) only [vu_n, vu_s, cpy_at]
  · simp (disch := omega) only [vu_n, vu_s, cpy_at]
  · simp (disch := omega) only [up2_n]
  · simp (disch := omega) only [vu_n]
theorem call_read (H : Inv i l a) : Call (fun G => f_Fa_read G 0) (fun G => f_Mo_read G 136) i l a := by
  obtain ⟨n, nf, nn, np, dy, hN⟩ := now_of H; obtain ⟨⟨a1, a2, a3, a4, a5⟩, ⟨b1, b2, b3, b4, b5, b6⟩, ⟨c1, c2, c3, c4, c5⟩, ⟨d1, d2, d3, d4, d5⟩⟩ := id hN
  obtain ⟨bl, t1, t2, t3, t4, t5⟩ := txt_of H
  obtain ⟨h1, h2, h3, h4, h5, h6, ⟨r0, r1, r2⟩, h8, h9⟩ := id H
  have hT : TX (a 105) bl i a := ⟨t1, t2, fun j hj => ⟨rfl, (t4 j hj).2⟩⟩
  have hM : ∀ i1 a1 : Nat → Nat → Int32, i1 136 17 = i 136 17 → a1 148 = a 148 → TM (a 105) bl i1 a1 := fun i1 a1 e1 e2 => ⟨t1, e1.trans t3, fun j hj => by rw [e2]; exact (t4 j hj).1.symm⟩
  rcases read_both (l := l) hT (a 149) with ⟨s', i', a', it', q1, q2, q3, q4, q5⟩ | ⟨it', w', n', nf', nn', i', a', q2, q3, q4, q6, q5⟩
  · obtain ⟨i1, a1', u1, u2⟩ := q5 i' a' (hM i' a' ((q4 136 (by omega)).1 17) (q4 148 (by omega)).2) (q4 149 (by omega)).2
    refine ⟨-10 - nI s', i', l, a', i1, l, a1', ?_, u1, ?_⟩
    · show f_Fa_read _ 0 = _
      unfold f_Fa_read
      rw [r_0_4, O_103, q2, cH_s, r_0_4, g_103_2, q3, if_neg (by rw [nI_neg1 (by omega)]; exact id), r_0_4, g_103_2, q3]
    · have EI : ∀ b k, (b < 103 ∨ b = 104 ∨ b = 105 ∨ 114 ≤ b) → ¬ (b = 136 ∧ 18 ≤ k ∧ k ≤ 21) → i1 b k = i b k := fun b k e1 e2 => (u2.1 b k e2).trans ((q4 b e1).1 k)
      have EA : ∀ b, (b < 103 ∨ b = 104 ∨ b = 105 ∨ 114 ≤ b) → b ≠ 149 → b ≠ 150 → a1' b = a b := fun b e1 e2 e3 => (u2.2 b e2 e3).trans (q4 b e1).2
      refine inv_same H (fun b hb => ⟨fun k => EI b k ?_ ?_, EA b ?_ ?_ ?_⟩) (EA 137 (by omega) (by omega) (by omega)) (fun k _ => EI _ _ (by omega) (by omega)) (EA 134 (by omega) (by omega) (by omega)) (EI _ _ (by omega) (by omega)) (EI _ _ (by omega) (by omega)) ?_
      · unfold Away at hb; omega
      · unfold Away at hb; omega
      · unfold Away at hb; omega
      · unfold Away at hb; omega
      · unfold Away at hb; omega
      · exact ⟨by rw [EI _ _ (by omega) (by omega), EA 140 (by omega) (by omega) (by omega)]; exact r0, by rw [EI _ _ (by omega) (by omega), EA 140 (by omega) (by omega) (by omega)]; exact r1, by rw [EI _ _ (by omega) (by omega), EA 140 (by omega) (by omega) (by omega)]; exact r2⟩
  · obtain ⟨i2, a2', f2, ⟨e3, e5, e7, e9, e25⟩, z4, z6, z8, F2⟩ := take_ok (i := i') (l := l) (a := a')
    have F3 : ∀ b, b ≠ 1 → ¬ (2 ≤ b ∧ b ≤ 10) → b ≠ 124 → (∀ k, up2 (up2 i2 1 3 0) 124 0 1 b k = i' b k) ∧ a2' b = a' b := fun b x1 x2 x3 => ⟨fun k => (up2_n (by omega)).trans ((up2_n (by omega)).trans ((F2 b x2).1 k)), (F2 b x2).2⟩
    obtain ⟨i3, a3', u1, u9, u2⟩ := q5 (up2 (up2 i2 1 3 0) 124 0 1) a2' (hM _ _ (((F3 136 (by omega) (by omega) (by omega)).1 17).trans ((q6 136 (by omega)).1 17)) ((F3 148 (by omega) (by omega) (by omega)).2.trans (q6 148 (by omega)).2)) ((F3 149 (by omega) (by omega) (by omega)).2.trans (q6 149 (by omega)).2)
    obtain ⟨u, v1, v2⟩ := rd_b62 (i := i3) (l := l) (nI it') FU 0 a3' (Nat.zero_le _) (FU_lt (by omega)) u9
    have v1' : f_Mo_read_b62 FU (mkH i3 l a3') 136 (nI it') 0 = some (nI it', mkH i3 l (va_up a3' 137 (upd u 161 0))) := v1
    have E7 : a3' 137 = a 137 := (u2.2 137 (by omega) (by omega)).trans ((F3 137 (by omega) (by omega) (by omega)).2.trans (q6 137 (by omega)).2)
    have EI : ∀ b k, (b < 103 ∨ b = 104 ∨ b = 105 ∨ 114 ≤ b) → b ≠ 1 → ¬ (2 ≤ b ∧ b ≤ 10) → b ≠ 124 → ¬ (b = 136 ∧ 18 ≤ k ∧ k ≤ 21) → i3 b k = i b k := fun b k x1 x2 x3 x4 x5 => (u2.1 b k x5).trans (((F3 b x2 x3 x4).1 k).trans ((q6 b x1).1 k))
    have EA : ∀ b, (b < 103 ∨ b = 104 ∨ b = 105 ∨ 114 ≤ b) → b ≠ 1 → ¬ (2 ≤ b ∧ b ≤ 10) → b ≠ 124 → b ≠ 137 → b ≠ 149 → b ≠ 150 → va_up a3' 137 (upd u 161 0) b = a b := fun b x1 x2 x3 x4 x5 x6 x7 => (vu_n x5).trans ((u2.2 b x6 x7).trans ((F3 b x2 x3 x4).2.trans (q6 b x1).2))
    have G2 : ∀ b k, (2 ≤ b ∧ b ≤ 10) → i3 b k = i2 b k := fun b k x => (u2.1 b k (by omega)).trans ((up2_n (by omega)).trans (up2_n (by omega)))
    have GA : ∀ b, (2 ≤ b ∧ b ≤ 10) → va_up a3' 137 (upd u 161 0) b = a2' b := fun b x => (vu_n (by omega)).trans (u2.2 b (by omega) (by omega))
    have V : ∀ j, j < 161 → ¬ (154 ≤ j ∧ j ≤ 157) → upd u 161 0 j = w' j := fun j x1 x2 => by rw [ud_n (by omega), v2 j, if_pos (by omega)]
    have VO : ∀ j, j ≠ 161 → (161 ≤ j ∨ (154 ≤ j ∧ j ≤ 157)) → upd u 161 0 j = a 137 j := fun j x1 x2 => by rw [ud_n x1, v2 j, if_neg (by omega), E7]
    obtain ⟨⟨⟨p1, p2⟩, p3, p4⟩, ⟨g1, g2, g3, g4, g5⟩, ⟨w0, w1, w2, w3, w4'⟩, ⟨k1, k2, k3⟩, ⟨m1, m2, m3⟩⟩ := q4
    have hN' : Now i3 (va_up a3' 137 (upd u 161 0)) (upd u 161 0) n' nf' nn' 0 0 := by
      refine ⟨⟨⟨(V _ (by omega) (by omega)).trans w0, by omega⟩, ⟨(V _ (by omega) (by omega)).trans w1, p1, p2⟩, ⟨(V _ (by omega) (by omega)).trans w2, p3⟩, ⟨(V _ (by omega) (by omega)).trans w3, p4⟩, ⟨(V _ (by omega) (by omega)).trans w4', by omega⟩⟩, ⟨(G2 2 5 (by omega)).trans (e25.trans g1), (G2 3 2 (by omega)).trans (e3.trans g2), (G2 5 2 (by omega)).trans (e5.trans g3), (G2 7 2 (by omega)).trans (e7.trans g4), (G2 9 2 (by omega)).trans (e9.trans g5), (EI 11 2 (by omega) (by omega) (by omega) (by omega) (by omega)).trans b6⟩, ⟨k1.c (fun j _ _ => V j (by omega) (by omega)) p2, k2.c (fun j _ _ => V j (by omega) (by omega)) p3, k3.c (fun j _ _ => V j (by omega) (by omega)) p4, fun _ h => by omega, c5.c (fun j _ _ => VO j (by omega) (by omega))⟩, ⟨fun p hp => ?_, fun j hj => ?_, fun j hj => ?_, fun j hj => by omega, fun j hj => ?_⟩⟩
      · rw [GA 4 (by omega), z4 _ (by omega), z4 _ (by omega), V _ (by omega) (by omega), V _ (by omega) (by omega)]
        exact m1 p hp
      · rw [GA 6 (by omega), z6 _ (by omega), V _ (by omega) (by omega)]
        exact m2 j hj
      · rw [GA 8 (by omega), z8 _ (by omega), V _ (by omega) (by omega)]
        exact m3 j hj
      · rw [EA 12 (by omega) (by omega) (by omega) (by omega) (by omega) (by omega) (by omega), VO _ (by omega) (by omega)]
        exact d5 j hj
    refine ⟨nI it', up2 (up2 i2 1 3 0) 124 0 1, l, a2', i3, l, va_up a3' 137 (upd u 161 0), ?_, u1.trans v1', ?_⟩
    · show f_Fa_read _ 0 = _
      unfold f_Fa_read
      rw [r_0_4, O_103, q2, cH_s, r_0_4, g_103_2, q3, if_pos rfl, r_0_3, r_0_4, r_103_1, o_2, f2, cP_s, r_0_0, p_1_3, r_0_8, p_124_0]
    · have E' : Eq2 (fun b => b ≠ 1 ∧ ¬ (2 ≤ b ∧ b ≤ 10) ∧ b ≠ 124 ∧ b ≠ 137 ∧ (b < 103 ∨ b = 104 ∨ b = 105 ∨ 114 ≤ b) ∧ b ≠ 149 ∧ b ≠ 150 ∧ b ≠ 136) i a i3 (va_up a3' 137 (upd u 161 0)) := fun b hb => ⟨fun k => EI b k hb.2.2.2.2.1 hb.1 hb.2.1 hb.2.2.1 (by omega), EA b hb.2.2.2.2.1 hb.1 hb.2.1 hb.2.2.1 hb.2.2.2.1 hb.2.2.2.2.2.1 hb.2.2.2.2.2.2.1⟩
      refine ⟨?_, ?_, ?_, ?_, ?_, ⟨bl, t1, ?_, ?_, fun j hj => ?_, ?_⟩, ⟨?_, ?_, ?_⟩, h8, Or.inl ?_⟩
      · rw [vu_s]
        exact hN'.SW
      · rw [vu_s]
        refine ⟨0, ?_, by rw [Nat.zero_add, ud_s]; rfl, by omega, fun h => by omega, fun h => by omega⟩
        rw [u2.1 1 3 (by omega), up2_n (by omega), up2_s]
        rfl
      · rw [(E' 138 (by omega)).2]
        exact h3.c (E'.mono fun b hb => by omega) (E' 139 (by omega)).2 (fun _ _ => rfl)
      · rw [(E' 138 (by omega)).2]
        exact h4.c (E'.mono fun b hb => by omega) (E' 139 (by omega)).2 (fun _ _ => rfl)
      · obtain ⟨k1, k2, k3, k4, k5, k6, k7, k8, k9, k10⟩ := h5
        exact ⟨((E' _ (by omega)).1 _).trans k1, ((E' _ (by omega)).1 _).trans k2, ((E' _ (by omega)).1 _).trans k3, ((E' _ (by omega)).1 _).trans k4, ((E' _ (by omega)).1 _).trans k5, ((E' _ (by omega)).1 _).trans k6, ((E' _ (by omega)).1 _).trans k7, ((E' _ (by omega)).1 _).trans k8, ((E' _ (by omega)).1 _).trans k9, ((E' _ (by omega)).1 _).trans k10⟩
      · exact ((E' 104 (by omega)).1 1).trans t2
      · exact (EI 136 17 (by omega) (by omega) (by omega) (by omega) (by omega)).trans t3
      · rw [(E' 105 (by omega)).2, (E' 148 (by omega)).2]
        exact t4 j hj
      · rw [(E' 121 (by omega)).2]
        exact t5
      · rw [(E' 0 (by omega)).1, (E' 140 (by omega)).2]; exact r0
      · rw [(E' 0 (by omega)).1, (E' 140 (by omega)).2]; exact r1
      · rw [(E' 0 (by omega)).1, (E' 140 (by omega)).2]; exact r2
      · rw [u2.1 124 0 (by omega), up2_s]
end RD
