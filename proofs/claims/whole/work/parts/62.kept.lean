/-! ===== what kept is made of: powers, choices ===== -/
def pw (b : Int32) : Nat → Int64
  | 0 => 1
  | e + 1 => pw b e * b.toInt64
theorem pow_loop {G : Hp} (b : Int32) {e : Nat} (he : e ≤ 1000) : ∀ (fu j : Nat), j ≤ e → e - j < fu → f_Fa_power_b5 G fu b (nI e) (pw b j) (nI j) = some (pw b e) := by
  intro fu
  induction fu with
  | zero => intro j _ h; omega
  | succ fu ih =>
    intro j hj hfu
    show f_Fa_power_b5_k _ (f_Fa_power_b5 _ fu) _ _ _ _ = _
    unfold f_Fa_power_b5_k
    by_cases h : j = e
    · subst h
      rw [ifn_y (by omega) (by omega) (by omega)]
    · rw [ifn_n (by omega) (by omega) (by omega), lt_e, nI_1]
      exact ih (j + 1) (by omega) (by omega)
theorem pow_ok {G : Hp} (b : Int32) {e : Nat} (he : e ≤ 1000) : f_Fa_power G b (nI e) = some (pw b e) := pow_loop b he FU 0 (by omega) (FU_lt (by omega))
def chs (s k : Int32) : Nat → Int64
  | 0 => 1
  | j + 1 => (chs s k j * ((s - k) + nI (j + 1)).toInt64) / (nI (j + 1)).toInt64
theorem cho_loop {G : Hp} (s : Int32) {k : Nat} (hk : k ≤ 1000) : ∀ (fu j : Nat), j ≤ k → k - j < fu → f_Fa_choices_b5 G fu s (nI k) (chs s (nI k) j) (nI (j + 1)) = some (chs s (nI k) k) := by
  intro fu
  induction fu with
  | zero => intro j _ h; omega
  | succ fu ih =>
    intro j hj hfu
    show f_Fa_choices_b5_k _ (f_Fa_choices_b5 _ fu) _ _ _ _ = _
    unfold f_Fa_choices_b5_k
    by_cases h : j = k
    · subst h
      rw [if_pos (by rw [nI_lt' (by omega) (by omega)]; omega)]
    · have hz : ¬ (nI (j + 1)).toInt64 = 0 := by
        intro e
        have e2 : (nI (j + 1)).toInt64 = (nI 0).toInt64 := e
        have := congrArg Int64.toInt e2
        rw [Int32.toInt_toInt64, Int32.toInt_toInt64, nI_toInt (by omega), nI_toInt (by omega)] at this
        omega
      rw [if_neg (by rw [nI_lt' (by omega) (by omega)]; omega)]
      unfold dL
      rw [if_neg hz, lt_e, nI_1]
      exact ih (j + 1) (by omega) (by omega)
theorem cho_ok {G : Hp} (s : Int32) {k : Nat} (hk : k ≤ 1000) : f_Fa_choices G s (nI k) = some (chs s (nI k) k) := cho_loop s hk FU 0 (by omega) (FU_lt (by omega))
