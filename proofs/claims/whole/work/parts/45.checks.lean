/-! ===== the checks of both; the reference's small methods ===== -/
theorem rng2 (x : Int32) {lo hi : Nat} (hh : hi < 2147483647) (hl : lo ≤ hi) : (∃ p, lo ≤ p ∧ p ≤ hi ∧ x = nI p) ∨ (x < nI lo ∨ nI hi < x) := by
  rcases rng x (n := hi + 1) (by omega) with ⟨p, hp, rfl⟩ | ⟨-, h | h⟩
  · by_cases hlp : lo ≤ p
    · exact Or.inl ⟨p, hlp, by omega, rfl⟩
    · right; left
      rw [nI_lt' (by omega) (by omega)]
      omega
  · right; left
    have h1 : (0 : Int32) ≤ nI lo := by rw [nI_0le (by omega)]; trivial
    exact Int32.lt_of_lt_of_le h h1
  · right; right
    refine Int32.lt_of_lt_of_le ?_ h
    rw [nI_lt' (by omega) (by omega)]
    omega
theorem Fa_wi_in {G : Hp} {p lo hi : Nat} {x y : Int32} (hx : x = nI lo) (hy : y = nI hi) (h1 : lo ≤ p) (h2 : p ≤ hi) (hh : hi < 2147483647) : f_Fa_isWithin G (nI p) x y = some 1 := by
  subst hx hy
  unfold f_Fa_isWithin
  rw [if_neg (by rw [nI_lt' (by omega) (by omega)]; omega), if_neg (by rw [nI_lt' (by omega) (by omega)]; omega)]
  rfl
theorem Fa_wi_out {G : Hp} {p x y : Int32} (h : p < x ∨ y < p) : f_Fa_isWithin G p x y = some 0 := by
  unfold f_Fa_isWithin
  by_cases h1 : p < x
  · rw [if_pos h1]
    rfl
  · rw [if_neg h1, if_pos (by rcases h with h | h; exact absurd h h1; exact h)]
    rfl
theorem Fa_day_in {G : Hp} {p : Nat} (h : p ≤ 99) : f_Fa_isDay G (nI p) = some 1 := by
  unfold f_Fa_isDay
  rw [Fa_wi_in (x := 0) (y := 99) (lo := 0) (hi := 99) rfl rfl (by omega) h (by omega), cP_s]
  rfl
theorem Fa_day_out {G : Hp} {x : Int32} (h : x < nI 0 ∨ nI 99 < x) : f_Fa_isDay G x = some 0 := by
  unfold f_Fa_isDay
  rw [Fa_wi_out (x := 0) (y := 99) h, cP_s]
  rfl
theorem Fa_thing_in {G : Hp} {p : Nat} (h : p ≤ 3) : f_Fa_isThing G (nI p) = some 1 := by
  unfold f_Fa_isThing
  rw [Fa_wi_in (x := 0) (y := 3) (lo := 0) (hi := 3) rfl rfl (by omega) h (by omega), cP_s]
  rfl
theorem Fa_thing_out {G : Hp} {x : Int32} (h : x < nI 0 ∨ nI 3 < x) : f_Fa_isThing G x = some 0 := by
  unfold f_Fa_isThing
  rw [Fa_wi_out (x := 0) (y := 3) h, cP_s]
  rfl
theorem lg_lt (x y : Int64) : (lg_cmp x y < 0) ↔ x < y := by
  have h := lg_cmp_ge x y
  constructor
  · intro h1
    by_cases h2 : x < y
    · exact h2
    · exact absurd (h.mpr (Int64.not_lt.mp h2)) (Int32.not_le.mpr h1)
  · intro h1
    by_cases h2 : lg_cmp x y < 0
    · exact h2
    · exact absurd (h.mp (Int32.not_lt.mp h2)) (Int64.not_le.mpr h1)
theorem lg_gt (x y : Int64) : (0 < lg_cmp x y) ↔ y < x := by
  unfold lg_cmp
  by_cases h : x > y
  · rw [if_pos h]
    exact ⟨fun _ => h, fun _ => by decide⟩
  · rw [if_neg h]
    by_cases h2 : x = y
    · rw [if_pos h2]
      exact ⟨fun h3 => absurd h3 (by decide), fun h3 => absurd h3 h⟩
    · rw [if_neg h2]
      exact ⟨fun h3 => absurd h3 (by decide), fun h3 => absurd h3 h⟩
theorem lg_eq (x y : Int64) : (lg_cmp x y = 0) ↔ x = y := by
  unfold lg_cmp
  by_cases h : x > y
  · rw [if_pos h]
    exact ⟨fun h3 => absurd h3 (by decide), fun h3 => absurd (h3 ▸ h) (Int64.lt_irrefl)⟩
  · rw [if_neg h]
    by_cases h2 : x = y
    · rw [if_pos h2]
      exact ⟨fun _ => h2, fun _ => rfl⟩
    · rw [if_neg h2]
      exact ⟨fun h3 => absurd h3 (by decide), fun h3 => absurd h3 h2⟩
theorem i64_lt (x y : Int32) : x.toInt64 < y.toInt64 ↔ x < y := by
  rw [Int64.lt_iff_toInt_lt, Int32.lt_iff_toInt_lt, Int32.toInt_toInt64, Int32.toInt_toInt64]
theorem Mo_in_in {G : Hp} {p lo hi : Nat} {y z : Int64} (hy : y = (nI lo).toInt64) (hz : z = (nI hi).toInt64) (h1 : lo ≤ p) (h2 : p ≤ hi) (hh : hi < 2147483647) : f_Mo_in G (nI p).toInt64 y z = some 1 := by
  subst hy hz
  unfold f_Mo_in
  rw [if_neg (by rw [lg_lt, i64_lt, nI_lt' (by omega) (by omega)]; omega), if_neg (by rw [lg_gt, i64_lt, nI_lt' (by omega) (by omega)]; omega)]
  rfl
theorem Mo_in_out {G : Hp} {x y z : Int32} {y' z' : Int64} (hy : y' = y.toInt64) (hz : z' = z.toInt64) (h : x < y ∨ z < x) : f_Mo_in G x.toInt64 y' z' = some 0 := by
  subst hy hz
  unfold f_Mo_in
  by_cases h1 : x < y
  · rw [if_pos (by rw [lg_lt, i64_lt]; exact h1)]
    rfl
  · rw [if_neg (by rw [lg_lt, i64_lt]; exact h1), if_pos (by rw [lg_gt, i64_lt]; rcases h with h | h; exact absurd h h1; exact h)]
    rfl
section MB
variable {i : Nat → Nat → Int32} {l : Nat → Nat → Int64} {a : Nat → Nat → Int32}
/-- an element of now[] at a place that is told as a sum -/
theorem b_137 {β : Type} {κ : Int32 → Option β} {x : Int32} {m : Nat} (hx : x = nI m) (hm : m < 484) : aI (mkH i l a) 11 137 x κ = κ (a 137 m) := by
  subst hx
  exact a_137 hm
theorem t_137 {β : Type} {v : Int32} {κ : Hp → Option β} {x : Int32} {m : Nat} (hx : x = nI m) (hm : m < 484) : sI (mkH i l a) 11 137 x v κ = κ (mkH i l (va_up a 137 (upd (a 137) m v))) := by
  subst hx
  exact s_137 hm
theorem b_140 {β : Type} {κ : Int32 → Option β} {x : Int32} {m : Nat} (hx : x = nI m) (hm : m < 3) : aI (mkH i l a) 11 140 x κ = κ (a 140 m) := by
  subst hx
  exact a_140 hm
theorem t_140 {β : Type} {v : Int32} {κ : Hp → Option β} {x : Int32} {m : Nat} (hx : x = nI m) (hm : m < 3) : sI (mkH i l a) 11 140 x v κ = κ (mkH i l (va_up a 140 (upd (a 140) m v))) := by
  subst hx
  exact s_140 hm
theorem Mo_bad_ok (r : Int32) : f_Mo_bad (mkH i l a) 136 r = some (r, mkH i l (va_up a 140 (upd (a 140) 0 (a 140 0 + 1)))) := by
  unfold f_Mo_bad
  rw [r_136_3, b_140 (x := 0) (m := 0) rfl (by omega), t_140 (x := 0) (m := 0) rfl (by omega)]
theorem Mo_no_ok (r : Int32) : f_Mo_no (mkH i l a) 136 r = some (r, mkH i l (va_up a 140 (upd (a 140) 1 (a 140 1 + 1)))) := by
  unfold f_Mo_no
  rw [r_136_3, b_140 (x := 1) (m := 1) rfl (by omega), t_140 (x := 1) (m := 1) rfl (by omega)]
theorem Mo_full_ok : f_Mo_full (mkH i l a) 136 = some (-4, mkH i l (va_up a 140 (upd (a 140) 2 (a 140 2 + 1)))) := by
  unfold f_Mo_full
  rw [r_136_3, b_140 (x := 2) (m := 2) rfl (by omega), t_140 (x := 2) (m := 2) rfl (by omega)]
theorem Fa_bad_ok (r : Int32) : f_Fa_bad (mkH i l a) 0 r = some (r, mkH (up2 i 0 10 (i 0 10 + 1)) l a) := by
  unfold f_Fa_bad
  rw [g_0_10, p_0_10]
theorem Fa_no_ok (r : Int32) : f_Fa_no (mkH i l a) 0 r = some (r, mkH (up2 i 0 11 (i 0 11 + 1)) l a) := by
  unfold f_Fa_no
  rw [g_0_11, p_0_11]
theorem Fa_full_ok : f_Fa_full (mkH i l a) 0 = some (-4, mkH (up2 i 0 12 (i 0 12 + 1)) l a) := by
  unfold f_Fa_full
  rw [g_0_12, p_0_12]
theorem Mo_day_ok : f_Mo_day (mkH i l a) 136 = some (a 137 0) := by
  unfold f_Mo_day
  rw [r_136_0, b_137 (x := 0) (m := 0) rfl (by omega)]
theorem Mo_many_ok : f_Mo_many (mkH i l a) 136 = some (a 137 1) := by
  unfold f_Mo_many
  rw [r_136_0, b_137 (x := 1) (m := 1) rfl (by omega)]
theorem Mo_one_in {n p : Nat} (hn : a 137 1 = nI n) (hn6 : n ≤ 1000) (hp : p < n) : f_Mo_isOne (mkH i l a) 136 (nI p) = some 1 := by
  unfold f_Mo_isOne
  rw [o_136, Mo_many_ok, cP_s, hn, Mo_in_in (y := 0) (z := (nI n - 1).toInt64) (lo := 0) (hi := n - 1) rfl (by rw [← nI_sub (by omega)]; rfl) (by omega) (by omega) (by omega), cP_s]
  rfl
theorem nI_pre {n : Nat} (hn6 : n ≤ 1000) {x : Int32} (h : x < 0 ∨ nI n ≤ x) : x < 0 ∨ nI n - 1 < x := by
  by_cases h1 : x < 0
  · exact Or.inl h1
  · right
    have h : nI n ≤ x := by rcases h with h | h; exact absurd h h1; exact h
    by_cases hn0 : n = 0
    · subst hn0
      exact Int32.lt_of_lt_of_le (by decide : nI 0 - 1 < 0) (Int32.not_lt.mp h1)
    · rw [show (1 : Int32) = nI 1 from rfl, nI_sub (by omega)]
      refine Int32.lt_of_lt_of_le ?_ h
      rw [nI_lt' (by omega) (by omega)]
      omega
theorem Mo_one_out {n : Nat} {x : Int32} (hn : a 137 1 = nI n) (hn6 : n ≤ 1000) (h : x < 0 ∨ nI n ≤ x) : f_Mo_isOne (mkH i l a) 136 x = some 0 := by
  unfold f_Mo_isOne
  rw [o_136, Mo_many_ok, cP_s, hn, Mo_in_out (y := 0) (z := nI n - 1) (y' := 0) (z' := (nI n - 1).toInt64) rfl rfl (nI_pre hn6 h), cP_s]
  rfl
theorem Mo_fav_in {n p : Nat} (hn : a 137 158 = nI n) (hn6 : n ≤ 1000) (hp : p < n) : f_Mo_isFavour (mkH i l a) 136 (nI p) = some 1 := by
  unfold f_Mo_isFavour
  rw [r_136_0, b_137 (x := 158) (m := 158) rfl (by omega), hn, Mo_in_in (y := 0) (z := (nI n - 1).toInt64) (lo := 0) (hi := n - 1) rfl (by rw [← nI_sub (by omega)]; rfl) (by omega) (by omega) (by omega), cP_s]
  rfl
theorem Mo_fav_out {n : Nat} {x : Int32} (hn : a 137 158 = nI n) (hn6 : n ≤ 1000) (h : x < 0 ∨ nI n ≤ x) : f_Mo_isFavour (mkH i l a) 136 x = some 0 := by
  unfold f_Mo_isFavour
  rw [r_136_0, b_137 (x := 158) (m := 158) rfl (by omega), hn, Mo_in_out (y := 0) (z := nI n - 1) (y' := 0) (z' := (nI n - 1).toInt64) rfl rfl (nI_pre hn6 h), cP_s]
  rfl
theorem Mo_day_in {G : Hp} {p : Nat} (h : p ≤ 99) : f_Mo_isDay G (nI p) = some 1 := by
  unfold f_Mo_isDay
  rw [Mo_in_in (y := 0) (z := 99) (lo := 0) (hi := 99) rfl rfl (by omega) h (by omega), cP_s]
  rfl
theorem Mo_day_out {G : Hp} {x : Int32} (h : x < nI 0 ∨ nI 99 < x) : f_Mo_isDay G x = some 0 := by
  unfold f_Mo_isDay
  rw [Mo_in_out (y := nI 0) (z := nI 99) (y' := 0) (z' := 99) rfl rfl h, cP_s]
  rfl
theorem Mo_thing_in {G : Hp} {p : Nat} (h : p ≤ 3) : f_Mo_isThing G (nI p) = some 1 := by
  unfold f_Mo_isThing
  rw [Mo_in_in (y := 0) (z := 3) (lo := 0) (hi := 3) rfl rfl (by omega) h (by omega), cP_s]
  rfl
theorem Mo_thing_out {G : Hp} {x : Int32} (h : x < nI 0 ∨ nI 3 < x) : f_Mo_isThing G x = some 0 := by
  unfold f_Mo_isThing
  rw [Mo_in_out (y := nI 0) (z := nI 3) (y' := 0) (z' := 3) rfl rfl h, cP_s]
  rfl
theorem ix7 {f k : Nat} : (14 : Int32) + 7 * nI f + nI k = nI (14 + (f * 7 + k)) := by
  rw [show (14 : Int32) = nI 14 from rfl, show (7 : Int32) = nI 7 from rfl, nI_mul, nI_add, nI_add]
  congr 1
  omega
theorem Mo_told_ok {f k : Nat} {c : Int32} (hc : c = nI k) (hf : f < 12) (hk : k < 7) : f_Mo_told0 (mkH i l a) 136 (nI f) c = some (a 137 (14 + (f * 7 + k))) := by
  subst hc
  unfold f_Mo_told0
  rw [r_136_0, b_137 (x := 14 + 7 * nI f + nI k) ix7 (by omega)]
theorem Mo_nb0 {G : Hp} (x : Int32) : f_Mo_notBelow0 G x = some (mx 0 x) := by
  unfold f_Mo_notBelow0 mx
  by_cases h : 0 ≤ x
  · rw [if_pos h]
    by_cases h2 : 0 < x
    · rw [if_pos h2]
      rfl
    · rw [if_neg h2, Int32.le_antisymm (Int32.not_lt.mp h2) h]
      rfl
  · rw [if_neg h, if_neg (fun h2 => h (Int32.le_of_lt h2))]
    rfl
theorem holy_eq {w t d : Nat} (ht : t ≤ 99) (hd : d ≤ 99) : (if nI d ≤ nI t then nI w else nI w + (nI d - nI t) / 10) = nI w + mx 0 (nI d - nI t) / 10 := by
  by_cases h : d ≤ t
  · rw [if_pos (by rw [nI_le' (by omega) (by omega)]; exact h)]
    have e : mx 0 (nI d - nI t) = 0 := by
      have : ∀ d, d ≤ 99 → ∀ t, t ≤ 99 → d ≤ t → mx 0 (nI d - nI t) = 0 := by decide +kernel
      exact this d hd t ht h
    rw [e, show (0 : Int32) / 10 = 0 from rfl, Int32.add_zero]
  · rw [if_neg (by rw [nI_le' (by omega) (by omega)]; exact h), nI_sub (by omega), show (0 : Int32) = nI 0 from rfl, nI_mx (by omega) (by omega), Nat.max_eq_right (Nat.zero_le _)]
end MB
/-- the reference's street at place o of a row v: n people, nf favours, nn needs, np passes, day dy -/
def WFb (v : Nat → Int32) (o n nf nn np dy : Nat) : Prop :=
  ((v (o + 0) = nI dy ∧ dy ≤ 99) ∧ (v (o + 1) = nI n ∧ 2 ≤ n ∧ n ≤ 6) ∧ (v (o + 158) = nI nf ∧ nf ≤ 12) ∧ (v (o + 159) = nI nn ∧ nn ≤ 5) ∧ (v (o + 160) = nI np ∧ np ≤ 12)) ∧
  (∀ p, p < n → ∃ s d : Nat, v (o + (2 + p)) = nI s ∧ s ≤ 99 ∧ v (o + (8 + p)) = nI d ∧ d ≤ 99) ∧
  (∀ f, f < nf → ∃ k b t w tl m : Nat, (v (o + (14 + (f * 7 + 0))) = nI k ∧ k ≤ 4) ∧ (v (o + (14 + (f * 7 + 1))) = nI b ∧ b < n) ∧ (v (o + (14 + (f * 7 + 2))) = -1 ∨ ∃ c, v (o + (14 + (f * 7 + 2))) = nI c ∧ c < n ∧ c ≠ b) ∧ (v (o + (14 + (f * 7 + 3))) = nI t ∧ t ≤ 3) ∧ (v (o + (14 + (f * 7 + 4))) = nI w ∧ 1 ≤ w ∧ w ≤ 40) ∧ (v (o + (14 + (f * 7 + 5))) = nI tl ∧ tl ≤ 99) ∧ (v (o + (14 + (f * 7 + 6))) = nI m ∧ m ≤ 99)) ∧
  (∀ k, k < nn → ∃ p t s d : Nat, (v (o + (98 + (k * 4 + 0))) = nI p ∧ p < n) ∧ (v (o + (98 + (k * 4 + 1))) = nI t ∧ t ≤ 3) ∧ (v (o + (98 + (k * 4 + 2))) = nI s ∧ 1 ≤ s ∧ s ≤ 40) ∧ (v (o + (98 + (k * 4 + 3))) = nI d ∧ d ≤ 99)) ∧
  (∀ k, k < np → ∃ f b c : Nat, (v (o + (118 + (k * 3 + 0))) = nI f ∧ f < nf) ∧ (v (o + (118 + (k * 3 + 1))) = nI b ∧ b < n) ∧ (v (o + (118 + (k * 3 + 2))) = nI c ∧ c < n)) ∧
  (∀ t, t < 4 → ∃ r : Nat, v (o + (154 + t)) = nI r ∧ 1 ≤ r ∧ r ≤ 99)
/-- the class's street at q is the reference's at place o of v -/
def SR (i : Nat → Nat → Int32) (a : Nat → Nat → Int32) (q : Nat) (v : Nat → Int32) (o n nf nn np : Nat) : Prop :=
  Cn i q n nf nn np ∧ i q 5 = v (o + 0) ∧ (∀ p, p < n → a (q + 2) (p * 2 + 0) = v (o + (2 + p)) ∧ a (q + 2) (p * 2 + 1) = v (o + (8 + p))) ∧ (∀ j, j < nf * 7 → a (q + 4) j = v (o + (14 + j))) ∧ (∀ j, j < nn * 4 → a (q + 6) j = v (o + (98 + j))) ∧ (∀ j, j < np * 3 → a (q + 8) j = v (o + (118 + j))) ∧ (∀ j, j < 4 → a (q + 10) j = v (o + (154 + j)))
def SW (i : Nat → Nat → Int32) (a : Nat → Nat → Int32) (q : Nat) (v : Nat → Int32) (o : Nat) : Prop := ∃ n nf nn np dy, WFb v o n nf nn np dy ∧ SR i a q v o n nf nn np
