/-! ===== the law's loop ===== -/
theorem xI_at {β : Type} {nS : Nat} {xS : Nat → Int32} {κ : Int32 → Option β} {x : Int32} {m : Nat} (hx : x = nI m) (hm : m < nS) (hS : nS ≤ 3584) : xI nS xS x κ = κ (xS m) := by
  subst hx
  unfold xI
  rw [nI_cl (by omega)]
  exact if_pos (fun h => by
    rw [nI_lt0 (by omega)] at h
    rcases h with h | h
    · exact h
    · omega)
theorem lw_call {K : Hp → Option (Int32 × Hp)} {fc fm : Hp → Option (Int32 × Hp)} {i : Nat → Nat → Int32} {l : Nat → Nat → Int64} {a : Nat → Nat → Int32} (H : Call fc fm i l a) (hK : ∀ i l a, Inv i l a → ∃ G', K (mkH i l a) = some (1, G')) : ∃ G', (cH (fc (mkH i l a)) fun x G5 => vH G5 10 136 (fm G5) fun y G8 => if x = y then K G8 else some (0, G8)) = some (1, G') := by
  obtain ⟨r, i1, l1, a1, i2, l2, a2, h1, h2, h3⟩ := H
  obtain ⟨G', h4⟩ := hK i2 l2 a2 h3
  exact ⟨G', by rw [h1, cH_s, O_136, h2, cH_s, if_pos rfl, h4]⟩
theorem lw_callP {K : Hp → Option (Int32 × Hp)} {fc : Hp → Option Int32} {fm : Hp → Option (Int32 × Hp)} {i : Nat → Nat → Int32} {l : Nat → Nat → Int64} {a : Nat → Nat → Int32} (H : Call (fun G => (fc G).map fun x => (x, G)) fm i l a) (hK : ∀ i l a, Inv i l a → ∃ G', K (mkH i l a) = some (1, G')) : ∃ G', (cP (fc (mkH i l a)) fun x => vH (mkH i l a) 10 136 (fm (mkH i l a)) fun y G8 => if x = y then K G8 else some (0, G8)) = some (1, G') := by
  obtain ⟨r, i1, l1, a1, i2, l2, a2, h1, h2, h3⟩ := H
  obtain ⟨G', h4⟩ := hK i2 l2 a2 h3
  cases hc : fc (mkH i l a) with
  | none =>
    have h1 : (fc (mkH i l a)).map (fun x => (x, mkH i l a)) = some (r, mkH i1 l1 a1) := h1
    rw [hc] at h1
    exact nomatch h1
  | some x =>
    have h1 : (fc (mkH i l a)).map (fun x => (x, mkH i l a)) = some (r, mkH i1 l1 a1) := h1
    rw [hc] at h1
    have h5 := Option.some.inj h1
    have e1 : x = r := congrArg Prod.fst h5
    have e2 : mkH i l a = mkH i1 l1 a1 := congrArg Prod.snd h5
    rw [← e2] at h2
    exact ⟨G', by rw [cP_s, O_136, h2, cH_s, if_pos e1, h4]⟩
theorem lw_callL {K : Hp → Option (Int32 × Hp)} {fc fm : Hp → Option (Int64 × Hp)} {i : Nat → Nat → Int32} {l : Nat → Nat → Int64} {a : Nat → Nat → Int32} (H : Call fc fm i l a) (hK : ∀ i l a, Inv i l a → ∃ G', K (mkH i l a) = some (1, G')) : ∃ G', (cH (fc (mkH i l a)) fun x G5 => vH G5 10 136 (fm G5) fun y G8 => if (lg_cmp x y) = 0 then K G8 else some (0, G8)) = some (1, G') := by
  obtain ⟨r, i1, l1, a1, i2, l2, a2, h1, h2, h3⟩ := H
  obtain ⟨G', h4⟩ := hK i2 l2 a2 h3
  exact ⟨G', by rw [h1, cH_s, O_136, h2, cH_s, if_pos ((lg_eq r r).mpr rfl), h4]⟩
theorem lw_end {nS k : Nat} (hS : nS ≤ 3584) (hk : k ≤ nS) : (nI nS - 7 < nI k) = (nS < k + 7) := by
  rw [Int32.lt_iff_toInt_lt, Int32.toInt_sub, nI_toInt (by omega), nI_toInt (by omega), show (7 : Int32).toInt = 7 by decide, Int.bmod_eq_of_le (by omega) (by omega)]
  apply propext
  omega
set_option maxHeartbeats 4000000 in
set_option maxRecDepth 20000 in
theorem lw_step {nS : Nat} {xS : Nat → Int32} (hS : nS ≤ 3584) {k : Nat} (hk : k + 7 ≤ nS) {i : Nat → Nat → Int32} {l : Nat → Nat → Int64} {a : Nat → Nat → Int32} (H : Inv i l a) (K : Hp → Nat → Nat → Int32 → Option (Int32 × Hp)) (hK : ∀ i l a, Inv i l a → ∃ G', K (mkH i l a) 0 136 (nI (k + 7)) = some (1, G')) : ∃ G', f_La_law_b18_k nS xS K (mkH i l a) 0 136 (nI k) = some (1, G') := by
  have xL_ok : ∀ {β : Type} (κ : Int32 → Option β), xL nS κ = κ (nI nS) := fun κ => rfl
  have X0 : ∀ {β : Type} (κ : Int32 → Option β), xI nS xS (nI k) κ = κ (xS k) := fun κ => xI_at rfl (by omega) hS
  have X1 : ∀ {β : Type} (κ : Int32 → Option β), xI nS xS (nI k + (1 : Int32)) κ = κ (xS (k + 1)) := fun κ => xI_at (nI_add k 1) (by omega) hS
  have X2 : ∀ {β : Type} (κ : Int32 → Option β), xI nS xS (nI k + (2 : Int32)) κ = κ (xS (k + 2)) := fun κ => xI_at (nI_add k 2) (by omega) hS
  have X3 : ∀ {β : Type} (κ : Int32 → Option β), xI nS xS (nI k + (3 : Int32)) κ = κ (xS (k + 3)) := fun κ => xI_at (nI_add k 3) (by omega) hS
  have X4 : ∀ {β : Type} (κ : Int32 → Option β), xI nS xS (nI k + (4 : Int32)) κ = κ (xS (k + 4)) := fun κ => xI_at (nI_add k 4) (by omega) hS
  have X5 : ∀ {β : Type} (κ : Int32 → Option β), xI nS xS (nI k + (5 : Int32)) κ = κ (xS (k + 5)) := fun κ => xI_at (nI_add k 5) (by omega) hS
  have X6 : ∀ {β : Type} (κ : Int32 → Option β), xI nS xS (nI k + (6 : Int32)) κ = κ (xS (k + 6)) := fun κ => xI_at (nI_add k 6) (by omega) hS
  have E : ∀ G : Hp, f_La_law_b1171 nS xS K G 0 136 (nI k) = K G 0 136 (nI (k + 7)) := fun G => by
    unfold f_La_law_b1171
    rw [show (7 : Int32) = nI 7 from rfl, nI_add]
  unfold f_La_law_b18_k
  rw [xL_ok, if_neg (by rw [lw_end hS (by omega)]; omega), X0]
  by_cases c0 : (xS k &&& (63 : Int32)) = 0
  · rw [if_pos c0]
    simp only [X1, O_0, E]
    exact lw_call (call_people H _) hK
  rw [if_neg c0]
  by_cases c1 : (xS k &&& (63 : Int32)) = 1
  · rw [if_pos c1]
    simp only [X1, X2, O_0, E]
    exact lw_call (call_strong H _ _) hK
  rw [if_neg c1]
  by_cases c2 : (xS k &&& (63 : Int32)) = 2
  · rw [if_pos c2]
    simp only [X1, X2, X3, X4, X5, X6, O_0, E]
    exact lw_call (call_favour H _ _ _ _ _ _) hK
  rw [if_neg c2]
  by_cases c3 : (xS k &&& (63 : Int32)) = 3
  · rw [if_pos c3]
    simp only [X1, X2, X3, X4, O_0, E]
    exact lw_call (call_need H _ _ _ _) hK
  rw [if_neg c3]
  by_cases c4 : (xS k &&& (63 : Int32)) = 4
  · rw [if_pos c4]
    simp only [O_0, E]
    exact lw_call (call_contented H) hK
  rw [if_neg c4]
  by_cases c5 : (xS k &&& (63 : Int32)) = 5
  · rw [if_pos c5]
    simp only [X1, X2, X3, O_0, E]
    exact lw_call (call_type H _ _) hK
  rw [if_neg c5]
  by_cases c6 : (xS k &&& (63 : Int32)) = 6
  · rw [if_pos c6]
    simp only [O_0, E]
    exact lw_call (call_clear H) hK
  rw [if_neg c6]
  by_cases c7 : (xS k &&& (63 : Int32)) = 7
  · rw [if_pos c7]
    simp only [O_0, E]
    exact lw_call (call_read H) hK
  rw [if_neg c7]
  by_cases c8 : (xS k &&& (63 : Int32)) = 8
  · rw [if_pos c8]
    simp only [X1, X2, O_0, E]
    exact lw_call (call_value H _ _) hK
  rw [if_neg c8]
  by_cases c9 : (xS k &&& (63 : Int32)) = 9
  · rw [if_pos c9]
    simp only [X1, O_0, E]
    exact lw_call (call_of H _) hK
  rw [if_neg c9]
  by_cases c10 : (xS k &&& (63 : Int32)) = 10
  · rw [if_pos c10]
    simp only [X1, X2, O_0, E]
    exact lw_call (call_pass H _ _) hK
  rw [if_neg c10]
  by_cases c11 : (xS k &&& (63 : Int32)) = 11
  · rw [if_pos c11]
    simp only [X1, X2, O_0, E]
    exact lw_call (call_join H _ _) hK
  rw [if_neg c11]
  by_cases c12 : (xS k &&& (63 : Int32)) = 12
  · rw [if_pos c12]
    simp only [X1, O_0, E]
    exact lw_call (call_ask' H _) hK
  rw [if_neg c12]
  by_cases c13 : (xS k &&& (63 : Int32)) = 13
  · rw [if_pos c13]
    simp only [O_0, E]
    exact lw_call (call_night H) hK
  rw [if_neg c13]
  by_cases c14 : (xS k &&& (63 : Int32)) = 14
  · rw [if_pos c14]
    simp only [O_0, E]
    exact lw_call (call_undo H) hK
  rw [if_neg c14]
  by_cases c15 : (xS k &&& (63 : Int32)) = 15
  · rw [if_pos c15]
    simp only [X1, X2, O_0, E]
    exact lw_call (call_owes H _ _) hK
  rw [if_neg c15]
  by_cases c16 : (xS k &&& (63 : Int32)) = 16
  · rw [if_pos c16]
    simp only [X1, O_0, E]
    exact lw_call (call_ring H _) hK
  rw [if_neg c16]
  by_cases c17 : (xS k &&& (63 : Int32)) = 17
  · rw [if_pos c17]
    simp only [O_0, E]
    exact lw_call (call_cancel H) hK
  rw [if_neg c17]
  by_cases c18 : (xS k &&& (63 : Int32)) = 18
  · rw [if_pos c18]
    simp only [X1, O_0, E]
    exact lw_call (call_net H _) hK
  rw [if_neg c18]
  by_cases c19 : (xS k &&& (63 : Int32)) = 19
  · rw [if_pos c19]
    simp only [O_0, E]
    exact lw_call (call_fewest H) hK
  rw [if_neg c19]
  by_cases c20 : (xS k &&& (63 : Int32)) = 20
  · rw [if_pos c20]
    simp only [X1, O_0, E]
    exact lw_call (call_met H _) hK
  rw [if_neg c20]
  by_cases c21 : (xS k &&& (63 : Int32)) = 21
  · rw [if_pos c21]
    simp only [X1, O_0, E]
    exact lw_call (call_plan H _) hK
  rw [if_neg c21]
  by_cases c22 : (xS k &&& (63 : Int32)) = 22
  · rw [if_pos c22]
    simp only [X1, X2, O_0, E]
    exact lw_call (call_fire H _ _) hK
  rw [if_neg c22]
  by_cases c23 : (xS k &&& (63 : Int32)) = 23
  · rw [if_pos c23]
    simp only [X1, X2, O_0, E]
    exact lw_call (call_rate H _ _) hK
  rw [if_neg c23]
  by_cases c24 : (xS k &&& (63 : Int32)) = 24
  · rw [if_pos c24]
    simp only [X1, X2, O_0, E]
    exact lw_call (call_set H _ _) hK
  rw [if_neg c24]
  by_cases c25 : (xS k &&& (63 : Int32)) = 25
  · rw [if_pos c25]
    simp only [o_0, E]
    exact lw_callP (call_settles H) hK
  rw [if_neg c25]
  by_cases c26 : (xS k &&& (63 : Int32)) = 26
  · rw [if_pos c26]
    simp only [X1, X2, X3, O_0, E]
    exact lw_call (call_told H _ _ _) hK
  rw [if_neg c26]
  by_cases c27 : (xS k &&& (63 : Int32)) = 27
  · rw [if_pos c27]
    simp only [o_0, E]
    exact lw_callP (call_forged H) hK
  rw [if_neg c27]
  by_cases c28 : (xS k &&& (63 : Int32)) = 28
  · rw [if_pos c28]
    simp only [O_0, E]
    exact lw_call (call_forget H) hK
  rw [if_neg c28]
  by_cases c29 : (xS k &&& (63 : Int32)) = 29
  · rw [if_pos c29]
    simp only [X1, O_0, E]
    exact lw_call (call_goesOff H _) hK
  rw [if_neg c29]
  by_cases c30 : (xS k &&& (63 : Int32)) = 30
  · rw [if_pos c30]
    simp only [X1, X2, O_0, E]
    exact lw_call (call_kept H _ _) hK
  rw [if_neg c30]
  by_cases c31 : (xS k &&& (63 : Int32)) = 31
  · rw [if_pos c31]
    simp only [X1, O_0, E]
    exact lw_callL (call_part H _) hK
  rw [if_neg c31]
  by_cases c32 : (xS k &&& (63 : Int32)) = 32
  · rw [if_pos c32]
    simp only [X1, O_0, E]
    exact lw_call (call_image H _) hK
  rw [if_neg c32]
  by_cases c33 : (xS k &&& (63 : Int32)) = 33
  · rw [if_pos c33]
    simp only [X1, O_0, E]
    exact lw_call (call_from H _) hK
  rw [if_neg c33]
  by_cases c34 : (xS k &&& (63 : Int32)) = 34
  · rw [if_pos c34]
    simp only [X1, O_0, E]
    exact lw_call (call_status H _) hK
  rw [if_neg c34]
  by_cases c35 : (xS k &&& (63 : Int32)) = 35
  · rw [if_pos c35]
    simp only [X1, O_0, E]
    exact lw_call (call_count H _) hK
  rw [if_neg c35]
  by_cases c36 : (xS k &&& (63 : Int32)) = 36
  · rw [if_pos c36]
    obtain ⟨r, h1, h2⟩ := call_digest H
    obtain ⟨G', h3⟩ := hK i l a H
    exact ⟨G', by rw [o_0, h1, cP_s, o_136, h2, cP_s, if_pos ((lg_eq r r).mpr rfl), E, h3]⟩
  rw [if_neg c36]
  rw [E]
  exact hK i l a H
theorem lw_loop {nS : Nat} {xS : Nat → Int32} (hS : nS ≤ 3584) : ∀ (fu k : Nat) (i : Nat → Nat → Int32) (l : Nat → Nat → Int64) (a : Nat → Nat → Int32), k ≤ nS → nS - k < fu → Inv i l a → ∃ G', f_La_law_b18 nS xS fu (mkH i l a) 0 136 (nI k) = some (1, G') := by
  intro fu
  induction fu with
  | zero => intro k _ _ _ _ h; omega
  | succ fu ih =>
    intro k i l a hk hf H
    show ∃ G', f_La_law_b18_k nS xS (f_La_law_b18 nS xS fu) _ _ _ _ = _
    by_cases h : k + 7 ≤ nS
    · exact lw_step hS h H (f_La_law_b18 nS xS fu) (fun i l a H => ih (k + 7) i l a h (by omega) H)
    · refine ⟨mkH i l a, ?_⟩
      unfold f_La_law_b18_k
      show (if nI nS - 7 < nI k then _ else _) = _
      rw [if_pos (by rw [lw_end hS hk]; omega)]
