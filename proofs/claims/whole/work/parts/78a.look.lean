/-! ===== the reference's tokens ===== -/
section LK
variable {i : Nat → Nat → Int32} {l : Nat → Nat → Int64} {a : Nat → Nat → Int32} {g : Nat → Int32} {bl : Nat}
theorem lk_b5 : ∀ (fu e : Nat) (i : Nat → Nat → Int32), TM g bl i a → e ≤ bl → bl - e < fu → i 136 18 = nI e → f_Mo_lookAt_b5 fu (mkH i l a) 136 = f_Mo_lookAt_b43 (mkH (up2 i 136 18 (nI (skF g (bl - e) e))) l a) 136 := by
  intro fu
  induction fu with
  | zero => intro e _ _ _ h; omega
  | succ fu ih =>
    intro e i hT he hf h4
    have hb := hT.1
    show f_Mo_lookAt_b5_k (f_Mo_lookAt_b5 fu) _ _ = _
    unfold f_Mo_lookAt_b5_k
    by_cases h : e = bl
    · subst h
      rw [g_136_18, h4, g_136_17, hT.2.1, ifn_y (by omega) (by omega) (by omega), Nat.sub_self, show skF g 0 e = e from rfl, up2_id h4]
    · rw [g_136_18, h4, g_136_17, hT.2.1, ifn_n (by omega) (by omega) (by omega), r_136_16, g_136_18, h4, a_148 (by omega), hT.2.2 e (by omega), show bl - e = (bl - (e + 1)) + 1 by omega]
      unfold skF
      by_cases c : g e = 32
      · rw [if_pos c, if_pos c, g_136_18, h4, p_136_18, nI_s1, ih (e + 1) (up2 i 136 18 (nI (e + 1))) (hT.c (up2_n (by omega)) rfl) (by omega) (by omega) up2_s, up2_u]
      · rw [if_neg c, if_neg c, up2_id h4]
theorem lk_136 {s t lo hi : Nat} (ht : (t = 1 ∧ lo = 97 ∧ hi = 122) ∨ (t = 2 ∧ lo = 48 ∧ hi = 57)) : ∀ (fu e : Nat) (i : Nat → Nat → Int32), TM g bl i a → s < e → e ≤ bl → bl - e + 1 < fu → i 136 18 = nI s → i 136 19 = nI (e - s) → i 136 20 = nI t → f_Mo_lookAt_b136 fu (mkH i l a) 136 1 = f_Mo_lookAt_b215 (mkH (up2 i 136 19 (nI (runE g lo hi (bl - e) e - s))) l a) 136 := by
  intro fu
  induction fu with
  | zero => intro e _ _ _ _ h; omega
  | succ fu ih =>
    intro e i hT hse he hf h8 h9 h20
    have hb := hT.1
    show f_Mo_lookAt_b136_k (f_Mo_lookAt_b136 fu) _ _ _ = _
    unfold f_Mo_lookAt_b136_k f_Mo_lookAt_b193 f_Mo_lookAt_b208
    have E : nI s + nI (e - s) = nI e := by rw [nI_add, show s + (e - s) = e by omega]
    by_cases h : e = bl
    · subst h
      rw [if_neg n10, g_136_18, h8, g_136_19, h9, g_136_17, hT.2.1, E, ifn_y (by omega) (by omega) (by omega), Nat.sub_self, show runE g lo hi 0 e = e from rfl, up2_id h9]
    · have T : ∀ c : Prop, ∀ [Decidable c], (c ↔ nI lo ≤ g e ∧ g e ≤ nI hi) → (gI (mkH i l a) 10 19 136 fun x1 => if (if c then (1 : Int32) else 0) = 0 then pI (mkH i l a) 10 19 136 (x1 + 0) fun G1 => f_Mo_lookAt_b136 fu G1 136 (if c then 1 else 0) else pI (mkH i l a) 10 19 136 (x1 + 1) fun G1 => f_Mo_lookAt_b136 fu G1 136 (if c then 1 else 0)) = f_Mo_lookAt_b215 (mkH (up2 i 136 19 (nI (runE g lo hi (bl - e) e - s))) l a) 136 := by
        intro c _ hc
        rw [g_136_19, h9, show bl - e = (bl - (e + 1)) + 1 by omega]
        unfold runE
        by_cases q : nI lo ≤ g e ∧ g e ≤ nI hi
        · rw [if_pos (hc.mpr q), if_neg n10, if_pos q, p_136_19, nI_s1, show e - s + 1 = e + 1 - s by omega, ih (e + 1) (up2 i 136 19 (nI (e + 1 - s))) (hT.c (up2_n (by omega)) rfl) (by omega) (by omega) (by omega) ((up2_n (by omega)).trans h8) up2_s ((up2_n (by omega)).trans h20), up2_u]
        · rw [if_neg (fun x => q (hc.mp x)), if_pos rfl, if_neg q, p_136_19, a0]
          obtain ⟨f', rfl⟩ : ∃ f', fu = f' + 1 := ⟨fu - 1, by omega⟩
          show f_Mo_lookAt_b136_k (f_Mo_lookAt_b136 f') _ _ _ = _
          unfold f_Mo_lookAt_b136_k
          rw [if_pos rfl]
      rw [if_neg n10, g_136_18, h8, g_136_19, h9, g_136_17, hT.2.1, E, ifn_n (by omega) (by omega) (by omega), r_136_16, g_136_18, h8, g_136_19, h9, E, a_148 (by omega), hT.2.2 e (by omega), g_136_20, h20]
      rcases ht with ⟨rfl, rfl, rfl⟩ | ⟨rfl, rfl, rfl⟩
      · rw [if_pos (show nI 1 = 1 from rfl), mSm, cP_s]
        exact T _ Iff.rfl
      · rw [if_neg (show ¬ nI 2 = 1 by decide), mFi, cP_s]
        exact T _ Iff.rfl
theorem lk_fin {s : Nat} (hs : s < bl) (hb : bl ≤ 250) (h18 : i 136 18 = nI s) (h19 : i 136 19 = nI (nxt g bl s - s)) {t : Nat} (h20 : i 136 20 = nI t) (ht : t ≤ 4) {x : Int32} (h21 : i 136 21 = x) (hx : knd g bl s = 2 → x = nI (numN g bl s)) (hk : knd g bl s = if t = 2 then (if nxt g bl s ≤ s + 2 then 2 else 4) else t) {i0 : Nat → Nat → Int32} (h0 : ∀ b k, ¬ (b = 136 ∧ 18 ≤ k ∧ k ≤ 21) → i b k = i0 b k) : ∃ i', f_Mo_lookAt_b274 (mkH i l a) 136 = some (mkH i' l a) ∧ MQk g bl i0 i' s := by
  have hn := nxt_p (g := g) hs
  have FIN : ∀ y : Nat, knd g bl s = y → ∃ i', f_Mo_lookAt_b299 (mkH i l a) 136 (nI y) = some (mkH i' l a) ∧ MQk g bl i0 i' s := by
    intro y hy
    refine ⟨up2 i 136 20 (nI y), ?_, ⟨by omega, (up2_n (by omega)).trans h18, by rw [up2_s, hy], (up2_n (by omega)).trans h19, fun q => by rw [up2_n (by omega), h21]; exact hx q⟩, fun b k hk => by rw [up2_n (by omega)]; exact h0 b k hk⟩
    unfold f_Mo_lookAt_b299
    rw [p_136_20]
  unfold f_Mo_lookAt_b274 f_Mo_lookAt_b295
  rw [g_136_20, h20]
  by_cases e : t = 2
  · subst e
    rw [if_pos rfl] at hk
    rw [if_pos (show nI 2 = 2 from rfl), g_136_19, h19]
    by_cases c : nxt g bl s ≤ s + 2
    · rw [if_pos c] at hk
      rw [if_pos (c := nI (nxt g bl s - s) ≤ 2) (show nI (nxt g bl s - s) ≤ nI 2 by rw [nI_le' (by omega) (by omega)]; omega), g_136_20, h20]
      exact FIN 2 hk
    · rw [if_neg c] at hk
      rw [if_neg (c := nI (nxt g bl s - s) ≤ 2) (show ¬ nI (nxt g bl s - s) ≤ nI 2 by rw [nI_le' (by omega) (by omega)]; omega)]
      exact FIN 4 hk
  · rw [if_neg e] at hk
    rw [if_neg (c := nI t = 2) (show ¬ nI t = nI 2 by rw [nI_eq' (by omega) (by omega)]; exact e), g_136_20, h20]
    exact FIN t hk
theorem lk_215 (hT : TM g bl i a) {s : Nat} (hs : s < bl) (h18 : i 136 18 = nI s) (h19 : i 136 19 = nI (nxt g bl s - s)) {t : Nat} (h20 : i 136 20 = nI t) (ht : t ≤ 4) (h21 : i 136 21 = 0) (h2 : t = 2 → (nI 48 ≤ g s ∧ g s ≤ nI 57) ∧ ∀ x, s ≤ x → x < nxt g bl s → nI 48 ≤ g x ∧ g x ≤ nI 57) (hk : knd g bl s = if t = 2 then (if nxt g bl s ≤ s + 2 then 2 else 4) else t) {i0 : Nat → Nat → Int32} (h0 : ∀ b k, ¬ (b = 136 ∧ 18 ≤ k ∧ k ≤ 21) → i b k = i0 b k) : ∃ i', f_Mo_lookAt_b215 (mkH i l a) 136 = some (mkH i' l a) ∧ MQk g bl i0 i' s := by
  have hn := nxt_p (g := g) hs
  have hb := hT.1
  unfold f_Mo_lookAt_b215
  show ∃ i', f_Mo_lookAt_b218_k (f_Mo_lookAt_b218 999999999) (mkH i l a) 136 0 = _ ∧ _
  unfold f_Mo_lookAt_b218_k
  rw [g_136_19, h19, if_neg (c := nI (nxt g bl s - s) ≤ 0) (show ¬ nI (nxt g bl s - s) ≤ nI 0 by rw [nI_le' (by omega) (by omega)]; omega), if_neg (show ¬ (2 : Int32) ≤ 0 by decide), g_136_20, h20]
  by_cases e : t = 2
  · obtain ⟨h48, hr⟩ := h2 e
    have hd := fig_d h48
    have D : ((10 : Int32) * 0 + g s) - 48 = nI (dgN g s) := by
      rw [Int32.mul_zero, Int32.zero_add, hd]
      rfl
    rw [if_pos (c := nI t = 2) (by rw [e]; rfl), g_136_21, h21, r_136_16, g_136_18, h18, a0, a_148 (by omega), hT.2.2 s hs, p_136_21, D]
    show ∃ i', f_Mo_lookAt_b218_k (f_Mo_lookAt_b218 999999998) (mkH (up2 i 136 21 (nI (dgN g s))) l a) 136 1 = _ ∧ _
    unfold f_Mo_lookAt_b218_k
    rw [g_136_19, up2_n (by omega), h19]
    by_cases c : nxt g bl s = s + 1
    · rw [if_pos (c := nI (nxt g bl s - s) ≤ 1) (show nI (nxt g bl s - s) ≤ nI 1 by rw [nI_le' (by omega) (by omega)]; omega)]
      exact lk_fin hs hb ((up2_n (by omega)).trans h18) ((up2_n (by omega)).trans h19) ((up2_n (by omega)).trans h20) ht up2_s (fun _ => by unfold numN; rw [if_neg (by omega)]) hk (fun b k hk => (up2_n (by omega)).trans (h0 b k hk))
    · have h49 := hr (s + 1) (by omega) (by omega)
      have hd2 := fig_d h49
      have D2 : ((10 : Int32) * nI (dgN g s) + g (s + 1)) - 48 = nI (10 * dgN g s + dgN g (s + 1)) := by
        rw [Int32.sub_eq_add_neg, Int32.add_assoc, ← Int32.sub_eq_add_neg, hd2, show (10 : Int32) = nI 10 from rfl, nI_mul, nI_add]
        rfl
      rw [if_neg (c := nI (nxt g bl s - s) ≤ 1) (show ¬ nI (nxt g bl s - s) ≤ nI 1 by rw [nI_le' (by omega) (by omega)]; omega), if_neg (show ¬ (2 : Int32) ≤ 1 by decide), g_136_20, up2_n (by omega), h20, if_pos (c := nI t = 2) (by rw [e]; rfl), g_136_21, up2_s, r_136_16, g_136_18, up2_n (by omega), h18, nI_s1, a_148 (by omega), hT.2.2 (s + 1) (by omega), p_136_21, D2, up2_u]
      show ∃ i', f_Mo_lookAt_b218_k (f_Mo_lookAt_b218 999999997) (mkH (up2 i 136 21 (nI (10 * dgN g s + dgN g (s + 1)))) l a) 136 2 = _ ∧ _
      unfold f_Mo_lookAt_b218_k
      rw [g_136_19, up2_n (by omega), h19, if_pos (show (2 : Int32) ≤ 2 by decide), ite_self]
      refine lk_fin hs hb ((up2_n (by omega)).trans h18) ((up2_n (by omega)).trans h19) ((up2_n (by omega)).trans h20) ht up2_s (fun q => ?_) hk (fun b k hk => (up2_n (by omega)).trans (h0 b k hk))
      have := (num_fig q).2.2.2
      unfold numN
      rw [if_pos (by omega)]
  · rw [if_neg (c := nI t = 2) (show ¬ nI t = nI 2 by rw [nI_eq' (by omega) (by omega)]; exact e)]
    exact lk_fin hs hb h18 h19 h20 ht h21 (fun q => by rw [if_neg e] at hk; omega) hk h0
theorem look_ok (hT : TM g bl i a) {p : Nat} (hp : p ≤ bl) : ∃ i', f_Mo_lookAt (mkH i l a) 136 (nI p) = some (mkH i' l a) ∧ MQk g bl i i' (skp g bl p) := by
  have hb := hT.1
  have S := skp_p (g := g) hp
  have B := lk_b5 (l := l) FU p (up2 i 136 18 (nI p)) (hT.c (up2_n (by omega)) rfl) hp (FU_lt (by omega)) up2_s
  rw [up2_u] at B
  unfold f_Mo_lookAt
  rw [p_136_18, B]
  show ∃ i', f_Mo_lookAt_b43 (mkH (up2 i 136 18 (nI (skp g bl p))) l a) 136 = _ ∧ _
  generalize skp g bl p = s at S
  unfold f_Mo_lookAt_b43
  rw [p_136_19, p_136_20, p_136_21, g_136_18, up2_n (by omega), up2_n (by omega), up2_n (by omega), up2_s, g_136_17, up2_n (by omega), up2_n (by omega), up2_n (by omega), up2_n (by omega), hT.2.1]
  have F0 : ∀ b k, ¬ (b = 136 ∧ 18 ≤ k ∧ k ≤ 21) → up2 (up2 (up2 (up2 i 136 18 (nI s)) 136 19 0) 136 20 0) 136 21 0 b k = i b k := fun b k hk => by rw [up2_n (by omega), up2_n (by omega), up2_n (by omega), up2_n (by omega)]
  have F18 : up2 (up2 (up2 (up2 i 136 18 (nI s)) 136 19 0) 136 20 0) 136 21 0 136 18 = nI s := by rw [up2_n (by omega), up2_n (by omega), up2_n (by omega), up2_s]
  have F21 : up2 (up2 (up2 (up2 i 136 18 (nI s)) 136 19 0) 136 20 0) 136 21 0 136 21 = 0 := up2_s
  have F17 : up2 (up2 (up2 (up2 i 136 18 (nI s)) 136 19 0) 136 20 0) 136 21 0 136 17 = i 136 17 := F0 _ _ (by omega)
  have F19 : up2 (up2 (up2 (up2 i 136 18 (nI s)) 136 19 0) 136 20 0) 136 21 0 136 19 = nI 0 := by rw [up2_n (by omega), up2_n (by omega), up2_s]; rfl
  have F20 : up2 (up2 (up2 (up2 i 136 18 (nI s)) 136 19 0) 136 20 0) 136 21 0 136 20 = nI 0 := by rw [up2_n (by omega), up2_s]; rfl
  generalize up2 (up2 (up2 (up2 i 136 18 (nI s)) 136 19 0) 136 20 0) 136 21 0 = j at F0 F18 F21 F17 F19 F20
  have hTj : TM g bl j a := hT.c F17 rfl
  by_cases h : s = bl
  · subst h
    have k0 : knd g s s = 0 := if_pos (Nat.le_refl _)
    have n0 : nxt g s s = s := if_pos (Nat.le_refl _)
    rw [if_pos rfl]
    exact ⟨j, rfl, ⟨S.2, F18, by rw [k0]; exact F20, by rw [n0, Nat.sub_self]; exact F19, fun q => by omega⟩, F0⟩
  · have hs : s < bl := by omega
    have hn := nxt_p (g := g) hs
    rw [if_neg (by rw [nI_eq' (by omega) (by omega)]; exact h), r_136_16, g_136_18, F18, a_148 (by omega), hT.2.2 s hs, mSm, cP_s]
    unfold f_Mo_lookAt_b114 f_Mo_lookAt_b135
    have ONE : ∀ t : Nat, t = 3 ∨ t = 4 → knd g bl s = t → nxt g bl s = s + 1 → ∃ i', (pI (mkH j l a) 10 20 136 (nI t) fun G1 => pI G1 10 19 136 1 fun G2 => gI G2 10 20 136 fun x3 => if 3 ≤ x3 then f_Mo_lookAt_b136 FU G2 136 0 else f_Mo_lookAt_b136 FU G2 136 1) = some (mkH i' l a) ∧ MQk g bl i i' s := by
      intro t ht hk hx
      rw [p_136_20, p_136_19, g_136_20, up2_n (by omega), up2_s, if_pos (c := (3 : Int32) ≤ nI t) (show nI 3 ≤ nI t by rw [nI_le' (by omega) (by omega)]; omega)]
      show ∃ i', f_Mo_lookAt_b136_k (f_Mo_lookAt_b136 999999999) _ 136 0 = _ ∧ _
      unfold f_Mo_lookAt_b136_k
      rw [if_pos rfl]
      exact lk_215 (hTj.c ((up2_n (by omega)).trans (up2_n (by omega))) rfl) hs ((up2_n (by omega)).trans ((up2_n (by omega)).trans F18)) (by rw [up2_s, hx, show s + 1 - s = 1 by omega]; rfl) (t := t) ((up2_n (by omega)).trans up2_s) (by omega) ((up2_n (by omega)).trans ((up2_n (by omega)).trans F21)) (fun q => by omega) (by rw [if_neg (by omega)]; exact hk) (fun b k hk => (up2_n (by omega)).trans ((up2_n (by omega)).trans (F0 b k hk)))
    have RUN : ∀ t lo hi : Nat, (t = 1 ∧ lo = 97 ∧ hi = 122) ∨ (t = 2 ∧ lo = 48 ∧ hi = 57) → nI lo ≤ g s ∧ g s ≤ nI hi → nxt g bl s = runE g lo hi (bl - s) s → knd g bl s = (if t = 2 then (if nxt g bl s ≤ s + 2 then 2 else 4) else t) → ∃ i', (pI (mkH j l a) 10 20 136 (nI t) fun G1 => pI G1 10 19 136 1 fun G2 => gI G2 10 20 136 fun x3 => if 3 ≤ x3 then f_Mo_lookAt_b136 FU G2 136 0 else f_Mo_lookAt_b136 FU G2 136 1) = some (mkH i' l a) ∧ MQk g bl i i' s := by
      intro t lo hi ht hin hx hk
      have R1 := run_1 (m := bl - s) (by omega) hin
      rw [p_136_20, p_136_19, g_136_20, up2_n (by omega), up2_s, if_neg (c := (3 : Int32) ≤ nI t) (show ¬ nI 3 ≤ nI t by rw [nI_le' (by omega) (by omega)]; omega)]
      have L := lk_136 (l := l) (a := a) (g := g) (bl := bl) (s := s) ht FU (s + 1) (up2 (up2 j 136 20 (nI t)) 136 19 1) (hTj.c ((up2_n (by omega)).trans (up2_n (by omega))) rfl) (by omega) (by omega) (FU_lt (by omega)) ((up2_n (by omega)).trans ((up2_n (by omega)).trans F18)) (by rw [up2_s, show s + 1 - s = 1 by omega]; rfl) ((up2_n (by omega)).trans up2_s)
      rw [up2_u, show bl - (s + 1) = bl - s - 1 by omega, ← R1.2, ← hx] at L
      rw [L]
      exact lk_215 (hTj.c ((up2_n (by omega)).trans (up2_n (by omega))) rfl) hs ((up2_n (by omega)).trans ((up2_n (by omega)).trans F18)) up2_s (t := t) ((up2_n (by omega)).trans up2_s) (by omega) ((up2_n (by omega)).trans ((up2_n (by omega)).trans F21)) (fun q => by
        rcases ht with ⟨rfl, -, -⟩ | ⟨-, rfl, rfl⟩
        · omega
        · exact ⟨hin, fun x h1 h2 => (run_p g 48 57 (bl - s) s).2.2 x h1 (by rw [← hx]; exact h2)⟩) hk (fun b k hk => (up2_n (by omega)).trans ((up2_n (by omega)).trans (F0 b k hk)))
    by_cases h1 : nI 97 ≤ g s ∧ g s ≤ nI 122
    · rw [if_pos h1, if_neg n10]
      exact RUN 1 97 122 (Or.inl ⟨rfl, rfl, rfl⟩) h1 (by unfold nxt; rw [if_neg (by omega), if_pos h1]) (by unfold knd; rw [if_neg (by omega), if_pos h1]; rfl)
    · rw [if_neg h1, if_pos rfl, mFi, cP_s]
      by_cases h2 : nI 48 ≤ g s ∧ g s ≤ nI 57
      · have hx : nxt g bl s = runE g 48 57 (bl - s) s := by unfold nxt; rw [if_neg (by omega), if_neg h1, if_pos h2]
        rw [if_pos h2, if_neg n10]
        exact RUN 2 48 57 (Or.inr ⟨rfl, rfl, rfl⟩) h2 hx (by unfold knd; rw [if_neg (by omega), if_neg h1, if_pos h2, ← hx]; rfl)
      · have hx : nxt g bl s = s + 1 := by unfold nxt; rw [if_neg (by omega), if_neg h1, if_neg h2]
        rw [if_neg h2, if_pos rfl]
        by_cases h3 : g s = 59
        · rw [if_pos h3]
          exact ONE 3 (by omega) (by unfold knd; rw [if_neg (by omega), if_neg h1, if_neg h2, if_pos h3]) hx
        · rw [if_neg h3]
          exact ONE 4 (by omega) (by unfold knd; rw [if_neg (by omega), if_neg h1, if_neg h2, if_neg h3]) hx
end LK
