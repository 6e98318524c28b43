/-! ===== fewest: zero sums, by chains and apart ===== -/
def sbT (t m : Nat) : Prop := ∀ p, t.testBit p = true → m.testBit p = true
def sM (N : Nat → Int32) (m : Nat) : Nat → Int32
  | 0 => 0
  | k + 1 => if m.testBit k = true then sM N m k + N k else sM N m k
theorem sb_and {t m : Nat} (h : sbT t m) : t &&& m = t := by
  apply Nat.eq_of_testBit_eq
  intro p
  rw [Nat.testBit_and]
  by_cases e : t.testBit p = true
  · rw [h p e, e]; rfl
  · rw [Bool.not_eq_true] at e
    rw [e]; rfl
theorem sb_of {t m : Nat} (h : t &&& m = t) : sbT t m := fun p e => by
  rw [← h, Nat.testBit_and, Bool.and_eq_true] at e
  exact e.2
theorem sb_le {t m : Nat} (h : sbT t m) : t ≤ m := by
  rw [← sb_and h]
  exact Nat.and_le_right
theorem xb {t m : Nat} (h : sbT t m) (p : Nat) : (m ^^^ t).testBit p = true ↔ m.testBit p = true ∧ ¬ t.testBit p = true := by
  have := h p
  rw [Nat.testBit_xor]
  revert this
  cases m.testBit p <;> cases t.testBit p <;> simp
theorem x_lt : ∀ m, m < 64 → ∀ t, t < 64 → t &&& m = t → ¬ t = 0 → m ^^^ t < m := by decide +kernel
theorem sb_lt {t m : Nat} (hm : m < 64) (h : sbT t m) (h0 : ¬ t = 0) : m ^^^ t < m := x_lt m hm t (by have := sb_le h; omega) (sb_and h) h0
theorem sb_x {t m : Nat} (h : sbT t m) : sbT (m ^^^ t) m := fun p e => ((xb h p).mp e).1
theorem bit_ex {t : Nat} (h : ¬ t = 0) : ∃ p, t.testBit p = true := by
  apply Classical.byContradiction
  intro hc
  apply h
  apply Nat.eq_of_testBit_eq
  intro p
  rw [Nat.zero_testBit]
  cases e : t.testBit p
  · rfl
  · exact absurd ⟨p, e⟩ hc
theorem bit_lt {n t p : Nat} (ht : t < 2 ^ n) (h : t.testBit p = true) : p < n := by
  apply Classical.byContradiction
  intro hc
  have : 2 ^ n ≤ 2 ^ p := Nat.pow_le_pow_right (by omega) (by omega)
  rw [Nat.testBit_lt_two_pow (by omega)] at h
  exact absurd h (by decide)
theorem p_bit (p q : Nat) : (2 ^ p).testBit q = true ↔ p = q := by
  rw [Nat.testBit_two_pow]
  exact decide_eq_true_iff
theorem sb_p {p m : Nat} (h : m.testBit p = true) : sbT (2 ^ p) m := fun q e => by
  rw [p_bit] at e
  rw [← e]
  exact h
theorem p_ne (p : Nat) : ¬ 2 ^ p = 0 := by
  have := Nat.two_pow_pos p
  omega
theorem i_sw (x y z : Int32) : x + y + z = x + z + y := by rw [Int32.add_assoc, Int32.add_comm y z, ← Int32.add_assoc]
theorem sM_add (N : Nat → Int32) {t m : Nat} (h : sbT t m) : ∀ k, sM N m k = sM N t k + sM N (m ^^^ t) k
  | 0 => (Int32.add_zero 0).symm
  | k + 1 => by
    have I := sM_add N h k
    unfold sM
    by_cases e : t.testBit k = true
    · rw [if_pos (h k e), if_pos e, if_neg (fun x => ((xb h k).mp x).2 e), I, i_sw]
    · by_cases e2 : m.testBit k = true
      · rw [if_pos e2, if_neg e, if_pos ((xb h k).mpr ⟨e2, e⟩), I, Int32.add_assoc]
      · rw [if_neg e2, if_neg e, if_neg (fun x => e2 ((xb h k).mp x).1), I]
/-- what both tables say -/
def Gok (N : Nat → Int32) (n : Nat) (g : Nat → Nat) : Prop := (∀ m, m < 2 ^ n → ∀ p, m.testBit p = true → g (m ^^^ 2 ^ p) + (if sM N m n = 0 then 1 else 0) ≤ g m) ∧ g 0 = 0 ∧ ∀ m, m < 2 ^ n → ¬ m = 0 → ∃ p, m.testBit p = true ∧ g m = g (m ^^^ 2 ^ p) + (if sM N m n = 0 then 1 else 0)
def Hok (N : Nat → Int32) (n : Nat) (h : Nat → Nat) : Prop := (∀ m, m < 2 ^ n → ∀ t, ¬ t = 0 → sbT t m → sM N t n = 0 → h (m ^^^ t) + 1 ≤ h m) ∧ ∀ m, m < 2 ^ n → h m = 0 ∨ ∃ t, ¬ t = 0 ∧ sbT t m ∧ sM N t n = 0 ∧ h m = h (m ^^^ t) + 1
section FW
variable {N : Nat → Int32} {n : Nat} {g h : Nat → Nat}
theorem g_mono (hn : n ≤ 6) (hG : Gok N n g) : ∀ (b m s : Nat), m ≤ b → m < 2 ^ n → sbT s m → g s ≤ g m := by
  have h64 := pw64 hn
  intro b
  induction b with
  | zero =>
    intro m s hb hm hs
    have := sb_le hs
    rw [show s = m by omega]
    exact Nat.le_refl _
  | succ b ih =>
    intro m s hb hm hs
    by_cases e : s = m
    · rw [e]
      exact Nat.le_refl _
    · have : ∃ p, m.testBit p = true ∧ ¬ s.testBit p = true := by
        apply Classical.byContradiction
        intro hc
        apply e
        apply Nat.eq_of_testBit_eq
        intro p
        have hsp := hs p
        cases e1 : m.testBit p
        · cases e2 : s.testBit p
          · rfl
          · rw [e1] at hsp
            exact absurd (hsp e2) (by decide)
        · cases e2 : s.testBit p
          · exact absurd ⟨p, e1, by rw [e2]; decide⟩ hc
          · rfl
      obtain ⟨p, e1, e2⟩ := this
      have l1 := sb_lt (by omega) (sb_p e1) (p_ne p)
      have I := ih (m ^^^ 2 ^ p) s (by omega) (by omega) (fun q eq => (xb (sb_p e1) q).mpr ⟨hs q eq, fun x => e2 (by rw [(p_bit p q).mp x]; exact eq)⟩)
      have J := hG.1 m hm p e1
      omega
theorem x_x {m t p : Nat} (ht : sbT t m) (hp : m.testBit p = true) : (m ^^^ 2 ^ p) ^^^ t = (m ^^^ t) ^^^ 2 ^ p := by rw [Nat.xor_assoc, Nat.xor_comm (2 ^ p), ← Nat.xor_assoc]
theorem g_A (hn : n ≤ 6) (hG : Gok N n g) : ∀ (b m t : Nat), m ≤ b → m < 2 ^ n → sbT t m → ¬ t = 0 → sM N t n = 0 → g (m ^^^ t) + 1 ≤ g m := by
  have h64 := pw64 hn
  intro b
  induction b with
  | zero =>
    intro m t hb hm ht h0
    have := sb_le ht
    omega
  | succ b ih =>
    intro m t hb hm ht h0 hs
    have hadd := sM_add N ht n
    rw [hs, Int32.zero_add] at hadd
    by_cases e : sM N m n = 0
    · obtain ⟨p, hp⟩ := bit_ex h0
      have hmp := ht p hp
      have J := hG.1 m hm p hmp
      rw [if_pos e] at J
      have l1 := sb_lt (by omega) (sb_p hmp) (p_ne p)
      have M := g_mono hn hG _ (m ^^^ 2 ^ p) (m ^^^ t) (Nat.le_refl _) (by omega) (fun q eq => by
        have := (xb ht q).mp eq
        exact (xb (sb_p hmp) q).mpr ⟨this.1, fun x => this.2 (by rw [← (p_bit p q).mp x]; exact hp)⟩)
      omega
    · have hR0 : ¬ m ^^^ t = 0 := fun x => by
        rw [x] at hadd
        have z : ∀ k, sM N 0 k = 0 := fun k => by
          induction k with
          | zero => rfl
          | succ k ihk =>
            unfold sM
            rw [if_neg (by rw [Nat.zero_testBit]; decide), ihk]
        rw [z] at hadd
        exact e hadd
      have hRl := sb_lt (by omega) ht h0
      obtain ⟨p, hp, eg⟩ := hG.2.2 (m ^^^ t) (by omega) hR0
      rw [← hadd, if_neg e, Nat.add_zero] at eg
      have hmp := ((xb ht p).mp hp)
      have l1 := sb_lt (by omega) (sb_p hmp.1) (p_ne p)
      have ht' : sbT t (m ^^^ 2 ^ p) := fun q eq => (xb (sb_p hmp.1) q).mpr ⟨ht q eq, fun x => hmp.2 (by rw [(p_bit p q).mp x]; exact eq)⟩
      have I := ih (m ^^^ 2 ^ p) t (by omega) (by omega) ht' h0 hs
      rw [x_x ht hmp.1] at I
      have J := hG.1 m hm p hmp.1
      omega
theorem h_mono (hn : n ≤ 6) (hH : Hok N n h) : ∀ (b s m : Nat), s ≤ b → m < 2 ^ n → sbT s m → h s ≤ h m := by
  have h64 := pw64 hn
  intro b
  induction b with
  | zero =>
    intro s m hb hm hs
    have hs0 : s = 0 := by omega
    rcases hH.2 s (by have := sb_le hs; omega) with e | ⟨t, t1, t2, -, -⟩
    · omega
    · have := sb_le t2
      omega
  | succ b ih =>
    intro s m hb hm hs
    have hsm := sb_le hs
    rcases hH.2 s (by omega) with e | ⟨t, t1, t2, t3, t4⟩
    · omega
    · have htm : sbT t m := fun q eq => hs q (t2 q eq)
      have l1 := sb_lt (by omega) t2 t1
      have l2 := sb_lt (by omega) htm t1
      have I := ih (s ^^^ t) (m ^^^ t) (by omega) (by omega) (fun q eq => by
        have := (xb t2 q).mp eq
        exact (xb htm q).mpr ⟨hs q this.1, this.2⟩)
      have J := hH.1 m hm t t1 htm t3
      omega
theorem h_B (hn : n ≤ 6) (hH : Hok N n h) : ∀ (b s m : Nat), s ≤ b → m < 2 ^ n → sbT s m → ¬ s = m → sM N m n = 0 → h s + 1 ≤ h m := by
  have h64 := pw64 hn
  intro b
  induction b with
  | zero =>
    intro s m hb hm hs hne hz
    have hs0 : s = 0 := by omega
    subst hs0
    have J := hH.1 m hm m (by omega) (fun q e => e) hz
    rw [Nat.xor_self] at J
    exact J
  | succ b ih =>
    intro s m hb hm hs hne hz
    have hsm := sb_le hs
    rcases hH.2 s (by omega) with e | ⟨t, t1, t2, t3, t4⟩
    · have J := hH.1 m hm m (by omega) (fun q e => e) hz
      omega
    · have htm : sbT t m := fun q eq => hs q (t2 q eq)
      have l1 := sb_lt (by omega) t2 t1
      have l2 := sb_lt (by omega) htm t1
      have hadd := sM_add N htm n
      rw [t3, Int32.zero_add, hz] at hadd
      have I := ih (s ^^^ t) (m ^^^ t) (by omega) (by omega) (fun q eq => by
        have := (xb t2 q).mp eq
        exact (xb htm q).mpr ⟨hs q this.1, this.2⟩) (fun e => hne (by
        have := congrArg (fun x => x ^^^ t) e
        simp only [Nat.xor_assoc, Nat.xor_self, Nat.xor_zero] at this
        exact this)) hadd.symm
      have J := hH.1 m hm t t1 htm t3
      omega
theorem g_h (hn : n ≤ 6) (hG : Gok N n g) (hH : Hok N n h) : ∀ (b m : Nat), m ≤ b → m < 2 ^ n → g m = h m := by
  have h64 := pw64 hn
  intro b
  have Z : g 0 = h 0 := by
    rcases hH.2 0 (Nat.two_pow_pos n) with e | ⟨t, t1, t2, -, -⟩
    · rw [e]
      exact hG.2.1
    · have := sb_le t2
      omega
  induction b with
  | zero =>
    intro m hb hm
    rw [show m = 0 by omega]
    exact Z
  | succ b ih =>
    intro m hb hm
    by_cases e0 : m = 0
    · rw [e0]
      exact Z
    · have A : g m ≤ h m := by
        obtain ⟨p, hp, eg⟩ := hG.2.2 m hm e0
        have l1 := sb_lt (by omega) (sb_p hp) (p_ne p)
        have I := ih (m ^^^ 2 ^ p) (by omega) (by omega)
        by_cases ez : sM N m n = 0
        · rw [if_pos ez] at eg
          have J := h_B hn hH _ (m ^^^ 2 ^ p) m (Nat.le_refl _) hm (sb_x (sb_p hp)) (by omega) ez
          omega
        · rw [if_neg ez] at eg
          have J := h_mono hn hH _ (m ^^^ 2 ^ p) m (Nat.le_refl _) hm (sb_x (sb_p hp))
          omega
      have B : h m ≤ g m := by
        rcases hH.2 m hm with e | ⟨t, t1, t2, t3, t4⟩
        · omega
        · have l1 := sb_lt (by omega) t2 t1
          have I := ih (m ^^^ t) (by omega) (by omega)
          have J := g_A hn hG _ m t (Nat.le_refl _) hm t2 t1 t3
          omega
      omega
/-- a table filled from 1 on, 0 at 0 -/
def tabF (F : (Nat → Nat) → Nat → Nat) : Nat → Nat → Nat
  | 0 => fun _ => 0
  | k + 1 => fun m => if m = k + 1 then F (tabF F k) (k + 1) else tabF F k m
theorem tab_0 (F : (Nat → Nat) → Nat → Nat) : ∀ k, tabF F k 0 = 0
  | 0 => rfl
  | k + 1 => by
    show (if 0 = k + 1 then F (tabF F k) (k + 1) else tabF F k 0) = 0
    rw [if_neg (by omega), tab_0 F k]
theorem tab_s (F : (Nat → Nat) → Nat → Nat) {m k : Nat} (h : m ≤ k) : tabF F (k + 1) m = tabF F k m := if_neg (by omega)
theorem tab_eq {F : (Nat → Nat) → Nat → Nat} (hF : ∀ g g' m, (∀ j, j < m → g j = g' j) → F g m = F g' m) : ∀ k m, 1 ≤ m → m ≤ k → tabF F k m = F (tabF F k) m
  | 0, m, h1, h2 => by omega
  | k + 1, m, h1, h2 => by
    by_cases e : m = k + 1
    · subst e
      show (if k + 1 = k + 1 then F (tabF F k) (k + 1) else tabF F k (k + 1)) = _
      rw [if_pos rfl]
      exact hF _ _ _ (fun j hj => (tab_s F (by omega)).symm)
    · rw [tab_s F (by omega), tab_eq hF k m h1 (by omega)]
      exact hF _ _ _ (fun j hj => (tab_s F (by omega)).symm)
/-- the class's table -/
def mxG (g : Nat → Nat) (m : Nat) : Nat → Nat
  | 0 => 0
  | k + 1 => if m.testBit k = true then max (mxG g m k) (g (m ^^^ 2 ^ k)) else mxG g m k
def FG (N : Nat → Int32) (n : Nat) (g : Nat → Nat) (m : Nat) : Nat := if sM N m n = 0 then mxG g m n + 1 else mxG g m n
theorem mxG_le {m : Nat} : ∀ k p, p < k → m.testBit p = true → g (m ^^^ 2 ^ p) ≤ mxG g m k
  | 0, p, h, _ => by omega
  | k + 1, p, h, hb => by
    unfold mxG
    by_cases e : p = k
    · subst e
      rw [if_pos hb]
      exact Nat.le_max_right _ _
    · have I := mxG_le k p (by omega) hb
      split
      · exact Nat.le_trans I (Nat.le_max_left _ _)
      · exact I
theorem mxG_ex {m : Nat} : ∀ k, mxG g m k = 0 ∨ ∃ p, p < k ∧ m.testBit p = true ∧ mxG g m k = g (m ^^^ 2 ^ p)
  | 0 => Or.inl rfl
  | k + 1 => by
    have I := mxG_ex (m := m) k
    unfold mxG
    by_cases e : m.testBit k = true
    · rw [if_pos e]
      rcases Nat.le_total (mxG g m k) (g (m ^^^ 2 ^ k)) with q | q
      · rw [Nat.max_eq_right q]
        exact Or.inr ⟨k, by omega, e, rfl⟩
      · rw [Nat.max_eq_left q]
        rcases I with I | ⟨p, h1, h2, h3⟩
        · exact Or.inl I
        · exact Or.inr ⟨p, by omega, h2, h3⟩
    · rw [if_neg e]
      rcases I with I | ⟨p, h1, h2, h3⟩
      · exact Or.inl I
      · exact Or.inr ⟨p, by omega, h2, h3⟩
theorem mxG_c {g' : Nat → Nat} {m : Nat} (hm : m < 64) (h : ∀ j, j < m → g j = g' j) : ∀ k, mxG g m k = mxG g' m k
  | 0 => rfl
  | k + 1 => by
    unfold mxG
    rw [mxG_c hm h k]
    by_cases e : m.testBit k = true
    · rw [if_pos e, if_pos e, h _ (sb_lt hm (sb_p e) (p_ne k))]
    · rw [if_neg e, if_neg e]
def FG' (N : Nat → Int32) (n : Nat) (g : Nat → Nat) (m : Nat) : Nat := if m < 64 then FG N n g m else 0
theorem FG_c (g g' : Nat → Nat) (m : Nat) (h : ∀ j, j < m → g j = g' j) : FG' N n g m = FG' N n g' m := by
  unfold FG' FG
  by_cases e : m < 64
  · rw [if_pos e, if_pos e, mxG_c e h]
  · rw [if_neg e, if_neg e]
theorem G_ok (hn : n ≤ 6) : Gok N n (tabF (FG' N n) (2 ^ n - 1)) := by
  have h64 := pw64 hn
  have E : ∀ m, m < 2 ^ n → ¬ m = 0 → tabF (FG' N n) (2 ^ n - 1) m = FG N n (tabF (FG' N n) (2 ^ n - 1)) m := fun m hm h0 => by
    rw [tab_eq FG_c (2 ^ n - 1) m (by omega) (by omega)]
    exact if_pos (by omega)
  refine ⟨fun m hm p hp => ?_, tab_0 _ _, fun m hm h0 => ?_⟩
  · have h0 : ¬ m = 0 := fun e => by
      rw [e, Nat.zero_testBit] at hp
      exact absurd hp (by decide)
    rw [E m hm h0]
    have := mxG_le (g := tabF (FG' N n) (2 ^ n - 1)) n p (bit_lt hm hp) hp
    unfold FG
    split <;> omega
  · rw [E m hm h0]
    obtain ⟨q, hq⟩ := bit_ex h0
    have hqn := bit_lt hm hq
    have hle := mxG_le (g := tabF (FG' N n) (2 ^ n - 1)) n q hqn hq
    rcases mxG_ex (g := tabF (FG' N n) (2 ^ n - 1)) (m := m) n with e | ⟨p, h1, h2, h3⟩
    · refine ⟨q, hq, ?_⟩
      unfold FG
      split <;> omega
    · refine ⟨p, h2, ?_⟩
      unfold FG
      split <;> omega
/-- the reference's table -/
def vlH (N : Nat → Int32) (n : Nat) (h : Nat → Nat) (m t : Nat) : Nat := if t &&& m = t ∧ sM N t n = 0 then h (m ^^^ t) + 1 else 0
def mxH (N : Nat → Int32) (n : Nat) (h : Nat → Nat) (m : Nat) : Nat → Nat
  | 0 => 0
  | k + 1 => if vlH N n h m (k + 1) ≤ mxH N n h m k then mxH N n h m k else vlH N n h m (k + 1)
theorem mxH_le {m : Nat} : ∀ k t, 1 ≤ t → t ≤ k → t &&& m = t → sM N t n = 0 → h (m ^^^ t) + 1 ≤ mxH N n h m k
  | 0, t, h1, h2, _, _ => by omega
  | k + 1, t, h1, h2, h3, h4 => by
    unfold mxH
    by_cases e : t = k + 1
    · subst e
      have : vlH N n h m (k + 1) = h (m ^^^ (k + 1)) + 1 := if_pos ⟨h3, h4⟩
      split <;> omega
    · have I := mxH_le k t h1 (by omega) h3 h4
      split <;> omega
theorem mxH_ex {m : Nat} : ∀ k, mxH N n h m k = 0 ∨ ∃ t, 1 ≤ t ∧ t ≤ k ∧ t &&& m = t ∧ sM N t n = 0 ∧ mxH N n h m k = h (m ^^^ t) + 1
  | 0 => Or.inl rfl
  | k + 1 => by
    have I := mxH_ex (m := m) k
    unfold mxH
    by_cases c : (k + 1) &&& m = k + 1 ∧ sM N (k + 1) n = 0
    · have E : vlH N n h m (k + 1) = h (m ^^^ (k + 1)) + 1 := if_pos c
      split
      · rcases I with I | ⟨t, h1, h2, h3⟩
        · exact Or.inl I
        · exact Or.inr ⟨t, h1, by omega, h3⟩
      · exact Or.inr ⟨k + 1, by omega, Nat.le_refl _, c.1, c.2, E⟩
    · have E : vlH N n h m (k + 1) = 0 := if_neg c
      rw [if_pos (by omega)]
      rcases I with I | ⟨t, h1, h2, h3⟩
      · exact Or.inl I
      · exact Or.inr ⟨t, h1, by omega, h3⟩
theorem mxH_c {h' : Nat → Nat} {m : Nat} (hm : m < 64) (hh : ∀ j, j < m → h j = h' j) : ∀ k, mxH N n h m k = mxH N n h' m k
  | 0 => rfl
  | k + 1 => by
    have E : vlH N n h m (k + 1) = vlH N n h' m (k + 1) := by
      unfold vlH
      by_cases c : (k + 1) &&& m = k + 1 ∧ sM N (k + 1) n = 0
      · rw [if_pos c, if_pos c, hh _ (sb_lt hm (sb_of c.1) (by omega))]
      · rw [if_neg c, if_neg c]
    unfold mxH
    rw [mxH_c hm hh k, E]
def FH (N : Nat → Int32) (n : Nat) (h : Nat → Nat) (m : Nat) : Nat := if m < 64 then mxH N n h m m else 0
theorem FH_c (h h' : Nat → Nat) (m : Nat) (hh : ∀ j, j < m → h j = h' j) : FH N n h m = FH N n h' m := by
  unfold FH
  by_cases e : m < 64
  · rw [if_pos e, if_pos e, mxH_c e hh]
  · rw [if_neg e, if_neg e]
theorem H_ok (hn : n ≤ 6) : Hok N n (tabF (FH N n) (2 ^ n - 1)) := by
  have h64 := pw64 hn
  have E : ∀ m, m < 2 ^ n → ¬ m = 0 → tabF (FH N n) (2 ^ n - 1) m = mxH N n (tabF (FH N n) (2 ^ n - 1)) m m := fun m hm h0 => by
    rw [tab_eq FH_c (2 ^ n - 1) m (by omega) (by omega)]
    exact if_pos (by omega)
  refine ⟨fun m hm t h0 ht hs => ?_, fun m hm => ?_⟩
  · have := sb_le ht
    rw [E m hm (by omega)]
    exact mxH_le m t (by omega) this (sb_and ht) hs
  · by_cases e0 : m = 0
    · rw [e0]
      exact Or.inl (tab_0 _ _)
    · rw [E m hm e0]
      rcases mxH_ex (N := N) (n := n) (h := tabF (FH N n) (2 ^ n - 1)) (m := m) m with e | ⟨t, h1, h2, h3, h4, h5⟩
      · exact Or.inl e
      · exact Or.inr ⟨t, by omega, sb_of h3, h4, h5⟩
theorem few_eq (hn : n ≤ 6) : tabF (FG' N n) (2 ^ n - 1) (2 ^ n - 1) = tabF (FH N n) (2 ^ n - 1) (2 ^ n - 1) := g_h hn (G_ok hn) (H_ok hn) _ (2 ^ n - 1) (Nat.le_refl _) (by have := Nat.two_pow_pos n; omega)
/-- no count is above 7 -/
theorem mxG_b {m b : Nat} (hb : ∀ j, j < 64 → g j ≤ b) (hm : m < 64) : ∀ k, mxG g m k ≤ b
  | 0 => Nat.zero_le _
  | k + 1 => by
    unfold mxG
    have I := mxG_b hb hm k
    split
    · next c =>
      have := hb _ (show m ^^^ 2 ^ k < 64 by have := sb_lt hm (sb_p c) (p_ne k); omega)
      exact Nat.max_le.mpr ⟨I, this⟩
    · exact I
theorem FG_b {m b : Nat} (hb : ∀ j, g j ≤ b) : FG' N n g m ≤ b + 1 := by
  unfold FG' FG
  by_cases c : m < 64
  · have := mxG_b (fun j _ => hb j) c n
    rw [if_pos c]
    split <;> omega
  · rw [if_neg c]
    omega
theorem tabG_b : ∀ k m, tabF (FG' N n) k m ≤ k
  | 0, m => Nat.le_refl _
  | k + 1, m => by
    show (if m = k + 1 then FG' N n (tabF (FG' N n) k) (k + 1) else tabF (FG' N n) k m) ≤ k + 1
    have I := tabG_b k m
    split
    · exact FG_b (tabG_b k)
    · omega
theorem mxH_b {m b : Nat} (hb : ∀ j, h j ≤ b) : ∀ k, mxH N n h m k ≤ b + 1
  | 0 => Nat.zero_le _
  | k + 1 => by
    have I := mxH_b (m := m) hb k
    have J := hb (m ^^^ (k + 1))
    have E : vlH N n h m (k + 1) ≤ b + 1 := by
      unfold vlH
      split <;> omega
    unfold mxH
    split
    · exact I
    · exact E
theorem FH_b {m b : Nat} (hb : ∀ j, h j ≤ b) : FH N n h m ≤ b + 1 := by
  unfold FH
  split
  · exact mxH_b hb m
  · omega
theorem tabH_b : ∀ k m, tabF (FH N n) k m ≤ k
  | 0, m => Nat.le_refl _
  | k + 1, m => by
    show (if m = k + 1 then FH N n (tabF (FH N n) k) (k + 1) else tabF (FH N n) k m) ≤ k + 1
    have I := tabH_b k m
    split
    · exact FH_b (tabH_b k)
    · omega
end FW
