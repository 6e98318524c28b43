/-! ===== what kept is made of: powers, choices ===== -/
def pw (b : Int32) : Nat → Int64
  | 0 => 1
  | e + 1 => pw b e * b.toInt64
theorem pow_loop {G : Hp} (b : Int32) {e : Nat} (he : e ≤ 1000) : ∀ (fu j : Nat), j ≤ e → e - j < fu → f_Fa_power_b5 G fu b (nI e) (pw b j) (nI j) = some (pw b e) := by
  intro fu
  induction fu with
  | zero => intro j _ h; omega
  | succ fu ih =>
    intro j hj hfu
    show f_Fa_power_b5_k _ (f_Fa_power_b5 _ fu) _ _ _ _ = _
    unfold f_Fa_power_b5_k
    by_cases h : j = e
    · subst h
      rw [ifn_y (by omega) (by omega) (by omega)]
    · rw [ifn_n (by omega) (by omega) (by omega), lt_e, nI_1]
      exact ih (j + 1) (by omega) (by omega)
theorem pow_ok {G : Hp} (b : Int32) {e : Nat} (he : e ≤ 1000) : f_Fa_power G b (nI e) = some (pw b e) := pow_loop b he FU 0 (by omega) (FU_lt (by omega))
def chs (s k : Int32) : Nat → Int64
  | 0 => 1
  | j + 1 => (chs s k j * ((s - k) + nI (j + 1)).toInt64) / (nI (j + 1)).toInt64
theorem cho_loop {G : Hp} (s : Int32) {k : Nat} (hk : k ≤ 1000) : ∀ (fu j : Nat), j ≤ k → k - j < fu → f_Fa_choices_b5 G fu s (nI k) (chs s (nI k) j) (nI (j + 1)) = some (chs s (nI k) k) := by
  intro fu
  induction fu with
  | zero => intro j _ h; omega
  | succ fu ih =>
    intro j hj hfu
    show f_Fa_choices_b5_k _ (f_Fa_choices_b5 _ fu) _ _ _ _ = _
    unfold f_Fa_choices_b5_k
    by_cases h : j = k
    · subst h
      rw [if_pos (by rw [nI_lt' (by omega) (by omega)]; omega)]
    · have hz : ¬ (nI (j + 1)).toInt64 = 0 := by
        intro e
        have e2 : (nI (j + 1)).toInt64 = (nI 0).toInt64 := e
        have := congrArg Int64.toInt e2
        rw [Int32.toInt_toInt64, Int32.toInt_toInt64, nI_toInt (by omega), nI_toInt (by omega)] at this
        omega
      rw [if_neg (by rw [nI_lt' (by omega) (by omega)]; omega)]
      unfold dL
      rw [if_neg hz, lt_e, nI_1]
      exact ih (j + 1) (by omega) (by omega)
theorem cho_ok {G : Hp} (s : Int32) {k : Nat} (hk : k ≤ 1000) : f_Fa_choices G s (nI k) = some (chs s (nI k) k) := cho_loop s hk FU 0 (by omega) (FU_lt (by omega))
/-- the first m terms of the sum from k on -/
def fsm (w : Int32) (s k : Nat) : Nat → Int64
  | 0 => 0
  | m + 1 => fsm w s k m + chs (nI s) (nI (k + m)) (k + m) * pw w (k + m) * pw (10 - w) (s - (k + m))
def cdP : Nat → Int64 → Int64 → Option Int64
  | 0, _, _ => none
  | n + 1, a, b => if 0 < b then cdP n b (a - a / b * b) else some a
theorem lg_le (x y : Int64) : (lg_cmp x y ≤ 0) ↔ ¬ y < x := by
  rw [← lg_gt x y]
  exact Int32.not_lt.symm
theorem cd_loop {G : Hp} : ∀ (m fu j : Nat) (a b g : Int64), m ≤ fu → j + m ≤ 100 → cdP m a b = some g → f_Fr_commonDivisor_b3 G fu a b (nI j) = some g := by
  intro m
  induction m with
  | zero => intro fu j a b g _ _ h; exact absurd h (by unfold cdP; exact fun e => nomatch e)
  | succ m ih =>
    intro fu j a b g hf hj h
    cases fu with
    | zero => omega
    | succ fu =>
      show f_Fr_commonDivisor_b3_k _ (f_Fr_commonDivisor_b3 _ fu) _ _ _ = _
      unfold f_Fr_commonDivisor_b3_k f_Fr_commonDivisor_b32
      unfold cdP at h
      rw [ifle_n (K := 100) (k := 100) (j := j) rfl (by omega) (by omega) (by omega)]
      by_cases e : 0 < b
      · rw [if_pos e] at h
        have hb : ¬ b = 0 := fun x => by
          rw [x] at e
          exact absurd e (by decide)
        rw [if_neg (fun x => (lg_le b 0).mp x e)]
        unfold dL
        rw [if_neg hb, lt_e, nI_1]
        exact ih fu (j + 1) b _ g (by omega) (by omega) h
      · rw [if_neg e] at h
        rw [if_pos ((lg_le b 0).mpr e)]
        exact h
section KP
variable {i : Nat → Nat → Int32} {l : Nat → Nat → Int64} {a : Nat → Nat → Int32}
theorem become_ok {t b g : Int64} (h : cdP 50 t b = some g) (hg : 0 < g) : f_Fr_become (mkH i l a) 135 t b = some (mkH i (up2 (up2 l 135 0 (t / g)) 135 1 (b / g)) a) := by
  have hg0 : ¬ g = 0 := fun x => by
    rw [x] at hg
    exact absurd hg (by decide)
  have C : f_Fr_commonDivisor (mkH i l a) t b = some g := cd_loop 50 FU 0 t b g (by unfold FU; omega) (by omega) h
  unfold f_Fr_become f_Fr_become_b30
  rw [C, cP_s, if_neg (fun x => (lg_le g 0).mp x hg)]
  unfold dL
  rw [if_neg hg0, pl_135_0, if_neg hg0, pl_135_1]
theorem kept_Fa {w s k : Nat} (hw : w ≤ 10) (hs : s ≤ 5) (hk : k ≤ 5) {g : Int64} (hc : cdP 50 (fsm (nI w) s k (s + 1 - k)) (pw 10 s) = some g) (hg : 0 < g) : ∀ (fu m : Nat), m ≤ s + 1 - k → s + 1 - k - m < fu → f_Fa_kept_b51 fu (mkH i l a) 0 (nI w) (nI s) (fsm (nI w) s k m) (nI (k + m)) = some (1, mkH i (up2 (up2 l 135 0 (fsm (nI w) s k (s + 1 - k) / g)) 135 1 (pw 10 s / g)) a) := by
  intro fu
  induction fu with
  | zero => intro j _ h; omega
  | succ fu ih =>
    intro m hm hfu
    show f_Fa_kept_b51_k (f_Fa_kept_b51 fu) _ _ _ _ _ _ = _
    unfold f_Fa_kept_b51_k
    by_cases h : m = s + 1 - k
    · subst h
      rw [if_pos (by rw [nI_lt' (by omega) (by omega)]; omega), r_0_9, pow_ok 10 (by omega), cP_s, o_135, become_ok hc hg, cP_s]
    · rw [if_neg (by rw [nI_lt' (by omega) (by omega)]; omega), cho_ok (nI s) (by omega), cP_s, pow_ok (nI w) (by omega), cP_s, nI_sub (by omega), pow_ok (10 - nI w) (by omega), cP_s, lt_e, nI_1]
      exact ih (m + 1) (by omega) (by omega)
end KP
