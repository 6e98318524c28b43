/-! ===== the text: tokens ===== -/
def runE (g : Nat → Int32) (lo hi : Nat) : Nat → Nat → Nat
  | 0, e => e
  | m + 1, e => if nI lo ≤ g e ∧ g e ≤ nI hi then runE g lo hi m (e + 1) else e
def skF (g : Nat → Int32) : Nat → Nat → Nat
  | 0, e => e
  | m + 1, e => if g e = 32 then skF g m (e + 1) else e
def skp (g : Nat → Int32) (bl p : Nat) : Nat := skF g (bl - p) p
def knd (g : Nat → Int32) (bl s : Nat) : Nat := if bl ≤ s then 0 else if nI 97 ≤ g s ∧ g s ≤ nI 122 then 1 else if nI 48 ≤ g s ∧ g s ≤ nI 57 then (if runE g 48 57 (bl - s) s ≤ s + 2 then 2 else 4) else if g s = 59 then 3 else 4
def nxt (g : Nat → Int32) (bl s : Nat) : Nat := if bl ≤ s then s else if nI 97 ≤ g s ∧ g s ≤ nI 122 then runE g 97 122 (bl - s) s else if nI 48 ≤ g s ∧ g s ≤ nI 57 then runE g 48 57 (bl - s) s else s + 1
def dgN (g : Nat → Int32) (x : Nat) : Nat := (g x).toNatClampNeg - 48
def numN (g : Nat → Int32) (bl s : Nat) : Nat := if nxt g bl s = s + 2 then 10 * dgN g s + dgN g (s + 1) else dgN g s
theorem run_p (g : Nat → Int32) (lo hi : Nat) : ∀ m e, e ≤ runE g lo hi m e ∧ runE g lo hi m e ≤ e + m ∧ ∀ x, e ≤ x → x < runE g lo hi m e → nI lo ≤ g x ∧ g x ≤ nI hi
  | 0, e => ⟨Nat.le_refl _, Nat.le_refl _, fun x h1 h2 => by unfold runE at h2; omega⟩
  | m + 1, e => by
    unfold runE
    by_cases h : nI lo ≤ g e ∧ g e ≤ nI hi
    · rw [if_pos h]
      obtain ⟨h1, h2, h3⟩ := run_p g lo hi m (e + 1)
      refine ⟨by omega, by omega, fun x q1 q2 => ?_⟩
      by_cases ex : x = e
      · rw [ex]; exact h
      · exact h3 x (by omega) q2
    · rw [if_neg h]
      exact ⟨Nat.le_refl _, by omega, fun x h1 h2 => by omega⟩
theorem run_1 {g : Nat → Int32} {lo hi m e : Nat} (hm : 0 < m) (h : nI lo ≤ g e ∧ g e ≤ nI hi) : e + 1 ≤ runE g lo hi m e ∧ runE g lo hi m e = runE g lo hi (m - 1) (e + 1) := by
  obtain ⟨m, rfl⟩ : ∃ k, m = k + 1 := ⟨m - 1, by omega⟩
  have e1 : runE g lo hi (m + 1) e = runE g lo hi m (e + 1) := if_pos h
  rw [e1, Nat.add_sub_cancel]
  exact ⟨(run_p g lo hi m (e + 1)).1, rfl⟩
theorem sk_p (g : Nat → Int32) : ∀ m e, e ≤ skF g m e ∧ skF g m e ≤ e + m
  | 0, e => ⟨Nat.le_refl _, Nat.le_refl _⟩
  | m + 1, e => by
    unfold skF
    by_cases h : g e = 32
    · rw [if_pos h]
      have := sk_p g m (e + 1)
      omega
    · rw [if_neg h]
      omega
theorem skp_p {g : Nat → Int32} {bl p : Nat} (h : p ≤ bl) : p ≤ skp g bl p ∧ skp g bl p ≤ bl := by
  have := sk_p g (bl - p) p
  unfold skp
  omega
theorem nxt_p {g : Nat → Int32} {bl s : Nat} (h : s < bl) : s < nxt g bl s ∧ nxt g bl s ≤ bl := by
  unfold nxt
  rw [if_neg (by omega)]
  by_cases h1 : nI 97 ≤ g s ∧ g s ≤ nI 122
  · rw [if_pos h1]
    have h2 := run_1 (m := bl - s) (by omega) h1
    have h3 := run_p g 97 122 (bl - s) s
    omega
  · rw [if_neg h1]
    by_cases h4 : nI 48 ≤ g s ∧ g s ≤ nI 57
    · rw [if_pos h4]
      have h2 := run_1 (m := bl - s) (by omega) h4
      have h3 := run_p g 48 57 (bl - s) s
      omega
    · rw [if_neg h4]
      omega
theorem knd_lt {g : Nat → Int32} {bl s k : Nat} (h : knd g bl s = k) (hk : k ≠ 0) : s < bl := by
  unfold knd at h
  by_cases c : bl ≤ s
  · rw [if_pos c] at h
    omega
  · omega
theorem knd_le (g : Nat → Int32) (bl s : Nat) : knd g bl s ≤ 4 := by
  unfold knd
  split
  · omega
  · split
    · omega
    · split
      · split <;> omega
      · split <;> omega
/-- a figure -/
theorem fig_n {x : Int32} (h : nI 48 ≤ x ∧ x ≤ nI 57) : ∃ d, d ≤ 9 ∧ x = nI (48 + d) ∧ x.toNatClampNeg - 48 = d := by
  rcases rng2 x (lo := 48) (hi := 57) (by omega) (by omega) with ⟨p, h1, h2, rfl⟩ | h'
  · exact ⟨p - 48, by omega, by rw [show 48 + (p - 48) = p by omega], by rw [nI_cl (by omega)]⟩
  · rcases h' with h' | h'
    · exact absurd h' (Int32.not_lt.mpr h.1)
    · exact absurd h' (Int32.not_lt.mpr h.2)
theorem num_fig {g : Nat → Int32} {bl s : Nat} (h : knd g bl s = 2) : s < bl ∧ (nI 48 ≤ g s ∧ g s ≤ nI 57) ∧ nxt g bl s = runE g 48 57 (bl - s) s ∧ (nxt g bl s = s + 1 ∨ (nxt g bl s = s + 2 ∧ nI 48 ≤ g (s + 1) ∧ g (s + 1) ≤ nI 57)) := by
  have hs := knd_lt h (by omega)
  unfold knd at h
  rw [if_neg (by omega)] at h
  by_cases h1 : nI 97 ≤ g s ∧ g s ≤ nI 122
  · rw [if_pos h1] at h
    omega
  · rw [if_neg h1] at h
    by_cases h2 : nI 48 ≤ g s ∧ g s ≤ nI 57
    · rw [if_pos h2] at h
      have e : nxt g bl s = runE g 48 57 (bl - s) s := by
        unfold nxt
        rw [if_neg (by omega), if_neg h1, if_pos h2]
      have r1 := (run_1 (m := bl - s) (by omega) h2).1
      have r2 := run_p g 48 57 (bl - s) s
      by_cases h3 : runE g 48 57 (bl - s) s ≤ s + 2
      · refine ⟨hs, h2, e, ?_⟩
        rw [e]
        by_cases h4 : runE g 48 57 (bl - s) s = s + 1
        · exact Or.inl h4
        · exact Or.inr ⟨by omega, r2.2.2 (s + 1) (by omega) (by omega)⟩
      · rw [if_neg h3] at h
        omega
    · rw [if_neg h2] at h
      split at h <;> omega
theorem num_b {g : Nat → Int32} {bl s : Nat} (h : knd g bl s = 2) : numN g bl s ≤ 99 := by
  obtain ⟨h1, h2, h3, h4⟩ := num_fig h
  obtain ⟨d, d1, -, d2⟩ := fig_n h2
  unfold numN dgN
  rcases h4 with h4 | ⟨h4, h5⟩
  · rw [if_neg (by omega)]
    omega
  · obtain ⟨d', d3, -, d4⟩ := fig_n h5
    rw [if_pos h4]
    omega
section TK
variable {i : Nat → Nat → Int32} {l : Nat → Nat → Int64} {a : Nat → Nat → Int32} {g : Nat → Int32} {bl : Nat}
theorem wi_c {G : Hp} (x : Int32) {c d : Int32} {lo hi : Nat} (hc : c = nI lo) (hd : d = nI hi) (hl : lo ≤ hi) (hh : hi < 2147483647) : f_Fa_isWithin G x c d = some (if nI lo ≤ x ∧ x ≤ nI hi then 1 else 0) := by
  subst hc hd
  rcases rng2 x (lo := lo) (hi := hi) hh hl with ⟨p, h1, h2, rfl⟩ | h
  · rw [if_pos ⟨by rw [nI_le' (by omega) (by omega)]; exact h1, by rw [nI_le' (by omega) (by omega)]; exact h2⟩]
    exact Fa_wi_in rfl rfl h1 h2 hh
  · rw [if_neg (fun q => by
      rcases h with h | h
      · exact absurd h (Int32.not_lt.mpr q.1)
      · exact absurd h (Int32.not_lt.mpr q.2))]
    exact Fa_wi_out h
theorem mwi_c {G : Hp} (x : Int32) {c d : Int64} {lo hi : Nat} (hc : c = (nI lo).toInt64) (hd : d = (nI hi).toInt64) (hl : lo ≤ hi) (hh : hi < 2147483647) : f_Mo_in G x.toInt64 c d = some (if nI lo ≤ x ∧ x ≤ nI hi then 1 else 0) := by
  rcases rng2 x (lo := lo) (hi := hi) hh hl with ⟨p, h1, h2, rfl⟩ | h
  · rw [if_pos ⟨by rw [nI_le' (by omega) (by omega)]; exact h1, by rw [nI_le' (by omega) (by omega)]; exact h2⟩]
    exact Mo_in_in hc hd h1 h2 hh
  · rw [if_neg (fun q => by
      rcases h with h | h
      · exact absurd h (Int32.not_lt.mpr q.1)
      · exact absurd h (Int32.not_lt.mpr q.2))]
    exact Mo_in_out hc hd h
theorem zR_01 {c : Prop} [Decidable c] {o : Option Int32} : zR (if c then 1 else 0) o = o := by
  by_cases h : c
  · rw [if_pos h]; rfl
  · rw [if_neg h]; rfl
theorem mSm (G : Hp) (x : Int32) : f_Mo_isSmall G x = some (if nI 97 ≤ x ∧ x ≤ nI 122 then 1 else 0) := by
  unfold f_Mo_isSmall
  rw [mwi_c x (c := 97) (d := 122) (lo := 97) (hi := 122) rfl rfl (by omega) (by omega), cP_s]
  by_cases h : nI 97 ≤ x ∧ x ≤ nI 122
  · rw [if_pos h]; rfl
  · rw [if_neg h]; rfl
theorem mFi (G : Hp) (x : Int32) : f_Mo_isFigure G x = some (if nI 48 ≤ x ∧ x ≤ nI 57 then 1 else 0) := by
  unfold f_Mo_isFigure
  rw [mwi_c x (c := 48) (d := 57) (lo := 48) (hi := 57) rfl rfl (by omega) (by omega), cP_s]
  by_cases h : nI 48 ≤ x ∧ x ≤ nI 57
  · rw [if_pos h]; rfl
  · rw [if_neg h]; rfl
/-- the text as the class has it, and as the reference has it -/
def TX (g : Nat → Int32) (bl : Nat) (i a : Nat → Nat → Int32) : Prop := bl ≤ 250 ∧ i 104 1 = nI bl ∧ ∀ j, j < bl → a 105 j = g j ∧ ¬ g j = -1
def TM (g : Nat → Int32) (bl : Nat) (i a : Nat → Nat → Int32) : Prop := bl ≤ 250 ∧ i 136 17 = nI bl ∧ ∀ j, j < bl → a 148 j = g j
theorem at_in (hT : TX g bl i a) {j : Nat} (hj : j < bl) : f_Te_at (mkH i l a) 104 (nI j) = some (g j) := by
  obtain ⟨h1, h2, h3⟩ := hT
  unfold f_Te_at f_Te_at_b31
  rw [if_neg (by rw [nI_lt0 (by omega)]; exact id), g_104_1, h2, ifn_n (by omega) (by omega) (by omega), r_104_0, z_105, ifn_n (by omega) (by omega) (by omega), r_104_0, a_105 (by omega), (h3 j hj).1]
theorem at_out (hT : TX g bl i a) {j : Nat} (hj : bl ≤ j) (hj2 : j < 2147483648) : f_Te_at (mkH i l a) 104 (nI j) = some (-1) := by
  obtain ⟨h1, h2, h3⟩ := hT
  unfold f_Te_at f_Te_at_b30 f_Te_at_b31
  rw [if_neg (by rw [nI_lt0 (by omega)]; exact id), g_104_1, h2, ifn_y (by omega) (by omega) (by omega)]
theorem TX.c {i' : Nat → Nat → Int32} (hT : TX g bl i a) (h : i' 104 1 = i 104 1) : TX g bl i' a := ⟨hT.1, h.trans hT.2.1, hT.2.2⟩
theorem TM.c {i' a' : Nat → Nat → Int32} (hT : TM g bl i a) (h : i' 136 17 = i 136 17) (h2 : a' 148 = a 148) : TM g bl i' a' := ⟨hT.1, h.trans hT.2.1, fun j hj => by rw [h2]; exact hT.2.2 j hj⟩
/-- the token that the class holds; the reference -/
def CTk (g : Nat → Int32) (bl : Nat) (i : Nat → Nat → Int32) (s : Nat) : Prop := s ≤ bl ∧ i 103 4 = nI s ∧ i 103 3 = nI (knd g bl s) ∧ (s < bl → i 103 5 = nI (nxt g bl s)) ∧ (knd g bl s = 2 → i 103 6 = nI (numN g bl s))
def RTk (g : Nat → Int32) (bl : Nat) (i : Nat → Nat → Int32) (s : Nat) : Prop := s ≤ bl ∧ i 136 18 = nI s ∧ i 136 20 = nI (knd g bl s) ∧ i 136 19 = nI (nxt g bl s - s) ∧ (knd g bl s = 2 → i 136 21 = nI (numN g bl s))
def CQk (g : Nat → Int32) (bl : Nat) (i0 i : Nat → Nat → Int32) (s : Nat) : Prop := CTk g bl i s ∧ ∀ b k, ¬ (b = 103 ∧ 3 ≤ k ∧ k ≤ 6) → i b k = i0 b k
def MQk (g : Nat → Int32) (bl : Nat) (i0 i : Nat → Nat → Int32) (s : Nat) : Prop := RTk g bl i s ∧ ∀ b k, ¬ (b = 136 ∧ 18 ≤ k ∧ k ≤ 21) → i b k = i0 b k
theorem st_b8 : ∀ (fu e : Nat) (i : Nat → Nat → Int32), TX g bl i a → e ≤ bl → bl - e < fu → i 103 4 = nI e → f_Re_step_b8 fu (mkH i l a) 103 = f_Re_step_b51 (mkH (up2 i 103 4 (nI (skF g (bl - e) e))) l a) 103 := by
  intro fu
  induction fu with
  | zero => intro e _ _ _ h; omega
  | succ fu ih =>
    intro e i hT he hf h4
    have hb := hT.1
    show f_Re_step_b8_k (f_Re_step_b8 fu) _ _ = _
    unfold f_Re_step_b8_k
    by_cases h : e = bl
    · subst h
      rw [g_103_4, h4, r_103_0, g_104_1, hT.2.1, ifn_y (by omega) (by omega) (by omega), Nat.sub_self, show skF g 0 e = e from rfl, up2_id h4]
    · rw [g_103_4, h4, r_103_0, g_104_1, hT.2.1, ifn_n (by omega) (by omega) (by omega), r_103_0, g_103_4, h4, o_104, at_in hT (by omega), cP_s, show bl - e = (bl - (e + 1)) + 1 by omega]
      unfold skF
      by_cases c : g e = 32
      · rw [if_pos c, if_pos c, g_103_4, h4, p_103_4, nI_s1, ih (e + 1) (up2 i 103 4 (nI (e + 1))) (hT.c (up2_n (by omega))) (by omega) (by omega) up2_s, up2_u]
      · rw [if_neg c, if_neg c, up2_id h4]
theorem run_c (hT : TX g bl i a) {c d : Int32} {lo hi : Nat} (hc : c = nI lo) (hd : d = nI hi) (hl : lo ≤ hi) (hh : hi < 2147483647) : ∀ (fu e : Nat), e ≤ bl → bl - e < fu → f_Re_endOfRun_b5 (mkH i l a) fu 103 c d (nI e) = some (nI (runE g lo hi (bl - e) e)) := by
  have hb := hT.1
  intro fu
  induction fu with
  | zero => intro e _ h; omega
  | succ fu ih =>
    intro e he hf
    show f_Re_endOfRun_b5_k _ (f_Re_endOfRun_b5 _ fu) _ _ _ _ = _
    unfold f_Re_endOfRun_b5_k f_Re_endOfRun_b38
    by_cases h : e = bl
    · subst h
      rw [r_103_0, g_104_1, hT.2.1, ifn_y (by omega) (by omega) (by omega), Nat.sub_self]
      rfl
    · rw [r_103_0, g_104_1, hT.2.1, ifn_n (by omega) (by omega) (by omega), r_103_0, o_104, at_in hT (by omega), cP_s, wi_c _ hc hd hl hh, cP_s, show bl - e = (bl - (e + 1)) + 1 by omega]
      unfold runE
      by_cases q : nI lo ≤ g e ∧ g e ≤ nI hi
      · rw [if_pos q, if_neg n10, if_pos q, nI_s1]
        exact ih (e + 1) (by omega) (by omega)
      · rw [if_neg q, if_pos rfl, if_neg q]
theorem nI_dif {x y : Nat} (h : y ≤ x) : nI x - nI y = nI (x - y) := nI_sub h
theorem fig_d {x : Int32} (h : nI 48 ≤ x ∧ x ≤ nI 57) : x - 48 = nI (x.toNatClampNeg - 48) := by
  obtain ⟨d, d1, d2, d3⟩ := fig_n h
  rw [d3, d2]
  exact (nI_sub (a := 48 + d) (b := 48) (by omega)).trans (by rw [Nat.add_sub_cancel_left])
/-- the class's step -/
theorem b51_ok {s : Nat} (hT : TX g bl i a) (hs : s ≤ bl) (h4 : i 103 4 = nI s) : ∃ i', f_Re_step_b51 (mkH i l a) 103 = some (mkH i' l a) ∧ CQk g bl i i' s := by
  have hb := hT.1
  unfold f_Re_step_b51 f_Re_step_b159 f_Re_step_b162
  by_cases h : s = bl
  · subst h
    have k0 : knd g s s = 0 := if_pos (Nat.le_refl _)
    refine ⟨up2 (up2 i 103 5 (nI s + 1)) 103 3 0, ?_, ⟨hs, (up2_n (by omega)).trans ((up2_n (by omega)).trans h4), by rw [up2_s, k0]; rfl, fun x => by omega, fun x => by omega⟩, fun b k hk => by rw [up2_n (by omega), up2_n (by omega)]⟩
    rw [r_103_0, g_103_4, h4, o_104, at_out hT (Nat.le_refl _) (by omega), cP_s, g_103_4, h4, p_103_5, if_pos rfl, p_103_3]
  · have hsl : s < bl := by omega
    have hT5 : TX g bl (up2 i 103 5 (nI (s + 1))) a := hT.c (up2_n (by omega))
    rw [r_103_0, g_103_4, h4, o_104, at_in hT hsl, cP_s, g_103_4, h4, p_103_5, if_neg (hT.2.2 s hsl).2, wi_c _ (c := 97) (d := 122) (lo := 97) (hi := 122) rfl rfl (by omega) (by omega), cP_s, nI_s1]
    by_cases h1 : nI 97 ≤ g s ∧ g s ≤ nI 122
    · have K : knd g bl s = 1 := by unfold knd; rw [if_neg (by omega), if_pos h1]
      have N : nxt g bl s = runE g 97 122 (bl - s) s := by unfold nxt; rw [if_neg (by omega), if_pos h1]
      have hT6 : TX g bl (up2 (up2 i 103 5 (nI (s + 1))) 103 3 1) a := hT5.c (up2_n (by omega))
      refine ⟨up2 (up2 (up2 i 103 5 (nI (s + 1))) 103 3 1) 103 5 (nI (nxt g bl s)), ?_, ⟨hs, (up2_n (by omega)).trans ((up2_n (by omega)).trans ((up2_n (by omega)).trans h4)), by rw [up2_n (by omega), up2_s, K]; rfl, fun _ => up2_s, fun x => by omega⟩, fun b k hk => by rw [up2_n (by omega), up2_n (by omega), up2_n (by omega)]⟩
      have R := run_c (l := l) hT6 (c := 97) (d := 122) (lo := 97) (hi := 122) rfl rfl (by omega) (by omega) FU s hs (FU_lt (by omega))
      rw [if_pos h1, if_neg n10, p_103_3]
      unfold f_Re_endOfRun
      rw [g_103_4, up2_n (by omega), up2_n (by omega), h4, R, o_103, cP_s, p_103_5, N]
    · rw [if_neg h1, if_pos rfl, wi_c _ (c := 48) (d := 57) (lo := 48) (hi := 57) rfl rfl (by omega) (by omega), cP_s]
      by_cases h2 : nI 48 ≤ g s ∧ g s ≤ nI 57
      · have N : nxt g bl s = runE g 48 57 (bl - s) s := by unfold nxt; rw [if_neg (by omega), if_neg h1, if_pos h2]
        have hn := nxt_p (g := g) hsl
        have R := run_c (l := l) hT5 (c := 48) (d := 57) (lo := 48) (hi := 57) rfl rfl (by omega) (by omega) FU s hs (FU_lt (by omega))
        have h54 : up2 i 103 5 (nI (s + 1)) 103 4 = nI s := (up2_n (by omega)).trans h4
        have hT7 : TX g bl (up2 (up2 i 103 5 (nI (s + 1))) 103 5 (nI (nxt g bl s))) a := hT5.c (up2_n (by omega))
        have R3 := run_p g 48 57 (bl - s) s
        rw [← N] at R3
        rw [if_pos h2, if_neg n10]
        unfold f_Re_endOfRun f_Re_takeFigures f_Re_takeFigures_b54 f_Re_takeFigures_b76
        rw [g_103_4, h54, R, o_103, cP_s, p_103_5, ← N, r_103_0, g_103_5, up2_s, show nI (nxt g bl s) - 1 = nI (nxt g bl s - 1) from nI_sub (a := nxt g bl s) (b := 1) (by omega), o_104, at_in hT7 (by omega), cP_s, lt_e, fig_d (R3.2.2 _ (by omega) (by omega)), g_103_5, up2_s, g_103_4, up2_n (by omega), h54, nI_dif (by omega)]
        have K : knd g bl s = if nxt g bl s ≤ s + 2 then 2 else 4 := by
          unfold knd
          rw [if_neg (by omega), if_neg h1, if_pos h2, ← N]
        have FIN : ∀ x : Int32, (knd g bl s = 2 → x = nI (numN g bl s)) → ∃ i', (vP (mkH (up2 i 103 5 (nI (s + 1))) l a) 5 103 (pI (mkH (up2 (up2 i 103 5 (nI (s + 1))) 103 5 (nI (nxt g bl s))) l a) 5 6 103 x fun G1 => gI G1 5 5 103 fun x2 => gI G1 5 4 103 fun x3 => if 2 < x2 - x3 then pI G1 5 3 103 4 fun G1 => some G1 else pI G1 5 3 103 2 fun G1 => some G1) fun G10 => some G10) = some (mkH i' l a) ∧ CQk g bl i i' s := by
          intro x hx
          refine ⟨up2 (up2 (up2 (up2 i 103 5 (nI (s + 1))) 103 5 (nI (nxt g bl s))) 103 6 x) 103 3 (nI (knd g bl s)), ?_, ⟨hs, ?_, up2_s, fun _ => ?_, fun q => ?_⟩, fun b k hk => ?_⟩
          · rw [o_103, p_103_6, g_103_5, up2_n (by omega), up2_s, g_103_4, up2_n (by omega), up2_n (by omega), h54, nI_dif (by omega)]
            by_cases c : nxt g bl s ≤ s + 2
            · rw [if_neg (c := (2 : Int32) < nI (nxt g bl s - s)) (show ¬ nI 2 < nI (nxt g bl s - s) by rw [nI_lt' (by omega) (by omega)]; omega), p_103_3, cP_s, K, if_pos c]
              rfl
            · rw [if_pos (c := (2 : Int32) < nI (nxt g bl s - s)) (show nI 2 < nI (nxt g bl s - s) by rw [nI_lt' (by omega) (by omega)]; omega), p_103_3, cP_s, K, if_neg c]
              rfl
          · rw [up2_n (by omega), up2_n (by omega), up2_n (by omega)]
            exact h54
          · rw [up2_n (by omega), up2_n (by omega), up2_s]
          · rw [up2_n (by omega), up2_s]
            exact hx q
          · rw [up2_n (by omega), up2_n (by omega), up2_n (by omega), up2_n (by omega)]
        by_cases c2 : nxt g bl s = s + 2
        · rw [if_pos (c := nI (nxt g bl s - s) = 2) (show nI (nxt g bl s - s) = nI 2 by rw [nI_eq' (by omega) (by omega)]; omega), r_103_0, g_103_4, up2_n (by omega), h54, o_104, at_in hT7 hsl, cP_s, fig_d h2, show (10 : Int32) = nI 10 from rfl, nI_mul, nI_add]
          exact FIN _ (fun _ => by
            unfold numN dgN
            rw [if_pos c2, show nxt g bl s - 1 = s + 1 by omega])
        · rw [if_neg (c := nI (nxt g bl s - s) = 2) (show ¬ nI (nxt g bl s - s) = nI 2 by rw [nI_eq' (by omega) (by omega)]; omega)]
          refine FIN _ (fun q => ?_)
          have := (num_fig q).2.2.2
          unfold numN dgN
          rw [if_neg c2, show nxt g bl s - 1 = s by omega]
      · have N : nxt g bl s = s + 1 := by unfold nxt; rw [if_neg (by omega), if_neg h1, if_neg h2]
        have FIN : ∀ x : Nat, knd g bl s = x → x ≠ 2 → ∃ i', (pI (mkH (up2 i 103 5 (nI (s + 1))) l a) 5 3 103 (nI x) fun G1 => some G1) = some (mkH i' l a) ∧ CQk g bl i i' s := by
          intro x hx hx2
          refine ⟨up2 (up2 i 103 5 (nI (s + 1))) 103 3 (nI x), by rw [p_103_3], ⟨hs, (up2_n (by omega)).trans ((up2_n (by omega)).trans h4), by rw [up2_s, hx], fun _ => by rw [up2_n (by omega), up2_s, N], fun q => by omega⟩, fun b k hk => by rw [up2_n (by omega), up2_n (by omega)]⟩
        rw [if_neg h2, if_pos rfl]
        by_cases h3 : g s = 59
        · rw [if_pos h3]
          exact FIN 3 (by unfold knd; rw [if_neg (by omega), if_neg h1, if_neg h2, if_pos h3]) (by omega)
        · rw [if_neg h3]
          exact FIN 4 (by unfold knd; rw [if_neg (by omega), if_neg h1, if_neg h2, if_neg h3]) (by omega)
theorem step_ok (hT : TX g bl i a) {p : Nat} (hp : p ≤ bl) (h5 : i 103 5 = nI p) : ∃ i', f_Re_step (mkH i l a) 103 = some (mkH i' l a) ∧ CQk g bl i i' (skp g bl p) := by
  have hb := hT.1
  have S := skp_p (g := g) hp
  have hT4 : TX g bl (up2 i 103 4 (nI p)) a := hT.c (up2_n (by omega))
  have B := st_b8 (l := l) FU p (up2 i 103 4 (nI p)) hT4 hp (FU_lt (by omega)) up2_s
  rw [up2_u] at B
  obtain ⟨i', f1, q1, q2⟩ := b51_ok (l := l) (i := up2 i 103 4 (nI (skp g bl p))) (hT.c (up2_n (by omega))) S.2 up2_s
  refine ⟨i', ?_, q1, fun b k hk => (q2 b k hk).trans (up2_n (by omega))⟩
  unfold f_Re_step
  rw [g_103_5, h5, p_103_4]
  exact B.trans f1
end TK
