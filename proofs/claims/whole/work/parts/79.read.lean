/-! ===== call: read ===== -/
section RD
variable {i : Nat → Nat → Int32} {l : Nat → Nat → Int64} {a : Nat → Nat → Int32} {g : Nat → Int32} {bl s : Nat} {w : Nat → Int32} {n nf nn : Nat}
theorem FrC.tr {i a i1 a1 i2 a2 : Nat → Nat → Int32} (h : FrC i a i1 a1) (h' : FrC i1 a1 i2 a2) : FrC i a i2 a2 := fun b hb => ⟨fun k => ((h' b hb).1 k).trans ((h b hb).1 k), (h' b hb).2.trans (h b hb).2⟩
theorem FrM.tr {i a i1 a1 i2 a2 : Nat → Nat → Int32} (h : FrM i a i1 a1) (h' : FrM i1 a1 i2 a2) : FrM i a i2 a2 := ⟨fun b k hk => (h'.1 b k hk).trans (h.1 b k hk), fun b h1 h2 => (h'.2 b h1 h2).trans (h.2 b h1 h2)⟩
/-- the reference, behind an item that both refuse; behind one that both take -/
theorem b28_bad {K : Hp → Nat → Int32 → Option (Int32 × Hp)} {i1 a1 i2 a2 : Nat → Nat → Int32} {x fl it : Int32} {s' : Nat} (h1 : f_Mo_readsItem (mkH i1 l a1) 136 fl = some (x, mkH i2 l a2)) (h2 : x = 0 ∨ (x = 1 ∧ ¬ i2 136 20 = 3)) (h3 : i2 136 18 = nI s') : f_Mo_read_b28 K (mkH i1 l a1) 136 it 136 fl = some (-10 - nI s', mkH i2 l a2) := by
  unfold f_Mo_read_b28 f_Mo_read_b42
  rw [O_136, h1, cH_s, g_136_18, h3]
  rcases h2 with rfl | ⟨rfl, h2⟩
  · rw [if_pos rfl]
  · rw [if_neg n10, g_136_20, if_neg h2]
theorem b28_ok {K : Hp → Nat → Int32 → Option (Int32 × Hp)} {i1 a1 i2 a2 : Nat → Nat → Int32} {fl : Int32} {it s' : Nat} {w' : Nat → Int32} (h1 : f_Mo_readsItem (mkH i1 l a1) 136 fl = some (1, mkH i2 l a2)) (h2 : RS g bl i2 a2 s' w') (hk : knd g bl s' = 3) : ∃ i3, f_Mo_read_b28 K (mkH i1 l a1) 136 (nI it) 136 fl = K (mkH i3 l a2) 136 (nI (it + 1)) ∧ RS g bl i3 a2 (skp g bl (nxt g bl s')) w' ∧ FrM i2 a2 i3 a2 := by
  have hs := knd_lt hk (by omega)
  obtain ⟨i3, f, q1, q2⟩ := m_go (l := l) h2.1 ⟨h2.2.1, fun _ _ _ => rfl⟩ hs
  refine ⟨i3, ?_, ⟨h2.1.c (q2 _ _ (by omega)) rfl, q1, h2.2.2⟩, ⟨q2, fun _ _ _ => rfl⟩⟩
  unfold f_Mo_read_b28
  rw [O_136, h1, cH_s, if_neg n10, g_136_20, h2.2.1.2.2.1, hk, if_pos (show nI 3 = 3 from rfl), o_136, f, cP_s, nI_s1]
theorem main_loop : ∀ (m s it fu : Nat) (i a : Nat → Nat → Int32) (w : Nat → Int32) (n nf nn : Nat), bl - s ≤ m → CS g bl i a s w n nf nn → 1 ≤ it → it ≤ s → m + 2 ≤ fu →
    (∃ s' i' a' it', s' ≤ bl ∧ f_Re_readStreet_b20 fu (mkH i l a) 103 (nI it) = some (it', mkH i' l a') ∧ i' 103 2 = nI s' ∧ FrC i a i' a' ∧ ∀ i1 a1 fu2, RS g bl i1 a1 s w → m + 2 ≤ fu2 → ∃ i1' a1', f_Mo_read_b7 fu2 (mkH i1 l a1) 136 (nI it) = some (-10 - nI s', mkH i1' l a1') ∧ FrM i1 a1 i1' a1') ∨
    (∃ it' w' n' nf' nn' i' a', f_Re_readStreet_b20 fu (mkH i l a) 103 (nI it) = some (nI it', mkH i' l a') ∧ i' 103 2 = -1 ∧ Dr i' a' w' n' nf' nn' ∧ FrC i a i' a' ∧ ∀ i1 a1 fu2, RS g bl i1 a1 s w → m + 2 ≤ fu2 → ∃ i1' a1', f_Mo_read_b7 fu2 (mkH i1 l a1) 136 (nI it) = f_Mo_read_b62 FU (mkH i1' l a1') 136 (nI it') 0 ∧ a1' 149 = w' ∧ FrM i1 a1 i1' a1') := by
  intro m
  induction m with
  | zero =>
    intro s it fu i a w n nf nn hm hC h1 h2 hfu
    obtain ⟨hf, h7, hT, hCT, hD⟩ := id hC
    have hb := hT.1
    have es : s = bl := by have := hCT.1; omega
    have k0 : knd g bl s = 0 := if_pos (by omega)
    obtain ⟨f', rfl⟩ : ∃ f', fu = f' + 1 := ⟨fu - 1, by omega⟩
    refine Or.inr ⟨it, w, n, nf, nn, i, a, ?_, hf, hD, fun b hb => ⟨fun _ => rfl, rfl⟩, fun i1 a1 fu2 hR h4 => ?_⟩
    · show f_Re_readStreet_b20_k (f_Re_readStreet_b20 f') _ _ _ = _
      unfold f_Re_readStreet_b20_k f_Re_readStreet_b52
      rw [if_neg (c := (250 : Int32) < nI it) (show ¬ nI 250 < nI it by rw [nI_lt' (by omega) (by omega)]; omega), g_103_2, hf, if_pos rfl, g_103_3, hCT.2.2.1, k0, if_pos (show nI 0 = 0 from rfl)]
    · obtain ⟨f2, rfl⟩ : ∃ f', fu2 = f' + 1 := ⟨fu2 - 1, by omega⟩
      refine ⟨i1, a1, ?_, hR.2.2, ⟨fun _ _ _ => rfl, fun _ _ _ => rfl⟩⟩
      show f_Mo_read_b7_k (f_Mo_read_b7 f2) _ _ _ = _
      unfold f_Mo_read_b7_k
      rw [g_136_20, hR.2.1.2.2.1, k0, if_pos (show nI 0 = 0 from rfl), if_neg (by rw [nI_z (by omega)]; omega)]
  | succ m ih =>
    intro s it fu i a w n nf nn hm hC h1 h2 hfu
    obtain ⟨hf, h7, hT, hCT, hD⟩ := id hC
    have hb := hT.1
    obtain ⟨f', rfl⟩ : ∃ f', fu = f' + 1 := ⟨fu - 1, by omega⟩
    by_cases es : s = bl
    · have k0 : knd g bl s = 0 := if_pos (by omega)
      refine Or.inr ⟨it, w, n, nf, nn, i, a, ?_, hf, hD, fun b hb => ⟨fun _ => rfl, rfl⟩, fun i1 a1 fu2 hR h4 => ?_⟩
      · show f_Re_readStreet_b20_k (f_Re_readStreet_b20 f') _ _ _ = _
        unfold f_Re_readStreet_b20_k f_Re_readStreet_b52
        rw [if_neg (c := (250 : Int32) < nI it) (show ¬ nI 250 < nI it by rw [nI_lt' (by omega) (by omega)]; omega), g_103_2, hf, if_pos rfl, g_103_3, hCT.2.2.1, k0, if_pos (show nI 0 = 0 from rfl)]
      · obtain ⟨f2, rfl⟩ : ∃ f', fu2 = f' + 1 := ⟨fu2 - 1, by omega⟩
        refine ⟨i1, a1, ?_, hR.2.2, ⟨fun _ _ _ => rfl, fun _ _ _ => rfl⟩⟩
        show f_Mo_read_b7_k (f_Mo_read_b7 f2) _ _ _ = _
        unfold f_Mo_read_b7_k
        rw [g_136_20, hR.2.1.2.2.1, k0, if_pos (show nI 0 = 0 from rfl), if_neg (by rw [nI_z (by omega)]; omega)]
    · have hs : s < bl := by have := hCT.1; omega
      have k0 : ¬ knd g bl s = 0 := by
        unfold knd
        rw [if_neg (by omega)]
        split
        · omega
        · split
          · split <;> omega
          · split <;> omega
      have hk4 := knd_le g bl s
      have HEAD : ∀ {G : Option (Int32 × Hp)}, (vP (mkH i l a) 5 103 (f_Re_readItem (mkH i l a) 103) fun G3 => f_Re_readStreet_b20 f' G3 103 (nI (it + 1))) = G → f_Re_readStreet_b20 (f' + 1) (mkH i l a) 103 (nI it) = G := by
        intro G hG
        show f_Re_readStreet_b20_k (f_Re_readStreet_b20 f') _ _ _ = _
        unfold f_Re_readStreet_b20_k f_Re_readStreet_b52
        rw [if_neg (c := (250 : Int32) < nI it) (show ¬ nI 250 < nI it by rw [nI_lt' (by omega) (by omega)]; omega), g_103_2, hf, if_pos rfl, g_103_3, hCT.2.2.1, if_neg (by rw [nI_z (by omega)]; exact k0), nI_s1]
        exact hG
      have MH : ∀ (i1 a1 : Nat → Nat → Int32) (f2 : Nat), RS g bl i1 a1 s w → f_Mo_read_b7 (f2 + 1) (mkH i1 l a1) 136 (nI it) = f_Mo_read_b28 (f_Mo_read_b7 f2) (mkH i1 l a1) 136 (nI it) 136 0 := by
        intro i1 a1 f2 hR
        show f_Mo_read_b7_k (f_Mo_read_b7 f2) _ _ _ = _
        unfold f_Mo_read_b7_k f_Mo_read_b18
        rw [g_136_20, hR.2.1.2.2.1, if_neg (by rw [nI_z (by omega)]; exact k0), if_neg (by rw [nI_z (by omega)]; omega)]
      rcases item_out (l := l) hC with ⟨s', i', a', q1, q2, q3, q4, q5⟩ | ⟨s', w', n', nf', nn', i', a', q1, q2, q3, q4, q5, q6, q7⟩
      · obtain ⟨f3, rfl⟩ : ∃ f3, f' = f3 + 1 := ⟨f' - 1, by omega⟩
        refine Or.inl ⟨s', i', a', nI (it + 1), q1, HEAD ?_, q3, q4, fun i1 a1 fu2 hR h4 => ?_⟩
        · rw [o_103, q2, cP_s]
          show f_Re_readStreet_b20_k (f_Re_readStreet_b20 f3) _ _ _ = _
          unfold f_Re_readStreet_b20_k f_Re_readStreet_b52
          rw [if_neg (c := (250 : Int32) < nI (it + 1)) (show ¬ nI 250 < nI (it + 1) by rw [nI_lt' (by omega) (by omega)]; omega), g_103_2, q3, if_neg (by rw [nI_neg1 (by omega)]; exact id)]
        · obtain ⟨f2, rfl⟩ : ∃ f2, fu2 = f2 + 1 := ⟨fu2 - 1, by omega⟩
          obtain ⟨x, i1', a1', r1, r2, r3, r4⟩ := q5 i1 a1 hR
          exact ⟨i1', a1', (MH i1 a1 f2 hR).trans (b28_bad r1 r2 r3), r4⟩
      · have A := adv (g := g) q2
        have I := ih (skp g bl (nxt g bl s')) (it + 1) f' i' a' w' n' nf' nn' (by omega) q5 (by omega) (by omega) (by omega)
        have MK : ∀ (i1 a1 : Nat → Nat → Int32) (f2 : Nat), RS g bl i1 a1 s w → ∃ i3 a3, f_Mo_read_b7 (f2 + 1) (mkH i1 l a1) 136 (nI it) = f_Mo_read_b7 f2 (mkH i3 l a3) 136 (nI (it + 1)) ∧ RS g bl i3 a3 (skp g bl (nxt g bl s')) w' ∧ FrM i1 a1 i3 a3 := by
          intro i1 a1 f2 hR
          obtain ⟨i1', a1', r1, r2, r3⟩ := q7 i1 a1 hR
          obtain ⟨i3, t1, t2, t3⟩ := b28_ok (K := f_Mo_read_b7 f2) (it := it) r1 r2 q3
          exact ⟨i3, a1', (MH i1 a1 f2 hR).trans t1, t2, r3.tr t3⟩
        rcases I with ⟨t', i2, a2, it', u1, u2, u3, u4, u5⟩ | ⟨it', w2, n2, nf2, nn2, i2, a2, u1, u2, u3, u4, u5⟩
        · refine Or.inl ⟨t', i2, a2, it', u1, HEAD (by rw [o_103, q4, cP_s]; exact u2), u3, q6.tr u4, fun i1 a1 fu2 hR h4 => ?_⟩
          obtain ⟨f2, rfl⟩ : ∃ f2, fu2 = f2 + 1 := ⟨fu2 - 1, by omega⟩
          obtain ⟨i3, a3, t1, t2, t3⟩ := MK i1 a1 f2 hR
          obtain ⟨i4, a4, v1, v2⟩ := u5 i3 a3 f2 t2 (by omega)
          exact ⟨i4, a4, t1.trans v1, t3.tr v2⟩
        · refine Or.inr ⟨it', w2, n2, nf2, nn2, i2, a2, HEAD (by rw [o_103, q4, cP_s]; exact u1), u2, u3, q6.tr u4, fun i1 a1 fu2 hR h4 => ?_⟩
          obtain ⟨f2, rfl⟩ : ∃ f2, fu2 = f2 + 1 := ⟨fu2 - 1, by omega⟩
          obtain ⟨i3, a3, t1, t2, t3⟩ := MK i1 a1 f2 hR
          obtain ⟨i4, a4, v1, v2, v3⟩ := u5 i3 a3 f2 t2 (by omega)
          exact ⟨i4, a4, t1.trans v1, v2, t3.tr v3⟩
/-- the whole reading, both -/
theorem read_both (hT : TX g bl i a) : (∃ s' i' a' it', s' ≤ bl ∧ f_Re_readStreet (mkH i l a) 103 = some (it', mkH i' l a') ∧ i' 103 2 = nI s' ∧ FrC i a i' a' ∧ ∀ i1 a1, TM g bl i1 a1 → ∃ i1' a1', f_Mo_read (mkH i1 l a1) 136 = some (-10 - nI s', mkH i1' l a1') ∧ FrM i1 a1 i1' a1') ∨
    (∀ w : Nat → Int32, ∃ it' w' n' nf' nn' i' a', f_Re_readStreet (mkH i l a) 103 = some (nI it', mkH i' l a') ∧ i' 103 2 = -1 ∧ Dr i' a' w' n' nf' nn' ∧ FrC i a i' a' ∧ ∀ i1 a1, TM g bl i1 a1 → a1 149 = w → ∃ i1' a1', f_Mo_read (mkH i1 l a1) 136 = f_Mo_read_b62 FU (mkH i1' l a1') 136 (nI it') 0 ∧ a1' 149 = w' ∧ FrM i1 a1 i1' a1') := by
  sorry
end RD
