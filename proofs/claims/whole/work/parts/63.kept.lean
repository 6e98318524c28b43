/-! ===== kept: the reference's half, and that both are one ===== -/
def bnK (s : Nat) : Nat → Int64
  | 0 => 1
  | j + 1 => (bnK s j * (nI s - nI j).toInt64) / (nI (j + 1)).toInt64
def prK (w : Int32) (s j : Nat) : Nat → Int64
  | 0 => bnK s j
  | m + 1 => prK w s j m * (if j ≤ m then (10 - w).toInt64 else w.toInt64)
def tpK (w : Int32) (s k : Nat) : Nat → Int64
  | 0 => 0
  | j + 1 => tpK w s k j + (if k ≤ j then prK w s j s else 0)
def btK (s : Nat) : Nat → Int64
  | 0 => 1
  | j + 1 => btK s j * (if s ≤ j then 1 else 10)
def cdM : Nat → Int64 → Int64 → Option Int64
  | 0, _, _ => none
  | n + 1, a, b => if b = 0 then some a else cdM n b (a - a / b * b)
def gdK (t b : Int64) : Option Int64 → Bool
  | none => false
  | some g => decide (0 < g) && decide (cdM 50 t b = some g)
def okK (w s k : Nat) : Bool := decide (fsm (nI w) s k (s + 1 - k) = tpK (nI w) s k (s + 1)) && decide (pw 10 s = btK s (s + 1)) && gdK (fsm (nI w) s k (s + 1 - k)) (pw 10 s) (cdP 50 (fsm (nI w) s k (s + 1 - k)) (pw 10 s))
theorem okK_all : ∀ w, w < 11 → ∀ s, s < 6 → ∀ k, k < 6 → okK w s k = true := by decide +kernel
theorem kept_pure {w s k : Nat} (hw : w ≤ 10) (hs : s ≤ 5) (hk : k ≤ 5) : fsm (nI w) s k (s + 1 - k) = tpK (nI w) s k (s + 1) ∧ pw 10 s = btK s (s + 1) ∧ ∃ g, 0 < g ∧ cdP 50 (fsm (nI w) s k (s + 1 - k)) (pw 10 s) = some g ∧ cdM 50 (fsm (nI w) s k (s + 1 - k)) (pw 10 s) = some g := by
  have h := okK_all w (by omega) s (by omega) k (by omega)
  unfold okK at h
  simp only [Bool.and_eq_true, decide_eq_true_eq] at h
  obtain ⟨⟨h1, h2⟩, h3⟩ := h
  refine ⟨h1, h2, ?_⟩
  cases e : cdP 50 (fsm (nI w) s k (s + 1 - k)) (pw 10 s) with
  | none =>
    rw [e] at h3
    exact absurd (show false = true from h3) (by decide)
  | some g =>
    rw [e] at h3
    unfold gdK at h3
    simp only [Bool.and_eq_true, decide_eq_true_eq] at h3
    exact ⟨g, h3.1, rfl, h3.2⟩
section KM
variable {i : Nat → Nat → Int32} {l : Nat → Nat → Int64} {a : Nat → Nat → Int32}
theorem tells_loop {t b g : Int64} (hg : ¬ g = 0) : ∀ (m fu : Nat) (x y : Int64), m ≤ fu → cdM m x y = some g → f_Mo_tells_b6 fu (mkH i l a) 136 t b x y = some (1, mkH i (up2 (up2 l 136 4 (t / g)) 136 5 (b / g)) a) := by
  intro m
  induction m with
  | zero => intro fu x y _ h; exact absurd h (by unfold cdM; exact fun e => nomatch e)
  | succ m ih =>
    intro fu x y hf h
    cases fu with
    | zero => omega
    | succ fu =>
      show f_Mo_tells_b6_k (f_Mo_tells_b6 fu) _ _ _ _ _ _ = _
      unfold f_Mo_tells_b6_k
      unfold cdM at h
      by_cases e : y = 0
      · rw [if_pos e] at h
        have hx : x = g := Option.some.inj h
        subst hx
        rw [if_pos ((lg_eq y 0).mpr e)]
        unfold dL
        rw [if_neg hg, pl_136_4, if_neg hg, pl_136_5]
      · rw [if_neg e] at h
        rw [if_neg (fun z => e ((lg_eq y 0).mp z))]
        unfold dL
        rw [if_neg e, lt_e]
        exact ih fu y _ (by omega) h
theorem to64_ne {j : Nat} (hj : j < 1000) : ¬ (nI (j + 1)).toInt64 = 0 := by
  intro e
  have e2 : (nI (j + 1)).toInt64 = (nI 0).toInt64 := e
  have := congrArg Int64.toInt e2
  rw [Int32.toInt_toInt64, Int32.toInt_toInt64, nI_toInt (by omega), nI_toInt (by omega)] at this
  omega
theorem kept_in {w s k : Nat} (hs : s ≤ 5) (hk : k ≤ 5) (hS : i 136 12 = nI s) (K : Hp → Nat → Int32 → Int32 → Int64 → Int64 → Int64 → Int32 → Option (Int32 × Hp)) {j : Nat} (hj : j ≤ 5) : ∀ (fu m : Nat), m ≤ s → s - m < fu → f_Mo_kept_b62 K fu (mkH i l a) 136 (nI w) (nI k) (tpK (nI w) s k j) (btK s j) (bnK s j) (nI j) (prK (nI w) s j m) (nI m) = K (mkH i l a) 136 (nI w) (nI k) (tpK (nI w) s k (j + 1)) (btK s (j + 1)) (bnK s (j + 1)) (nI (j + 1)) := by
  intro fu
  induction fu with
  | zero => intro m _ h; omega
  | succ fu ih =>
    intro m hm hfu
    show f_Mo_kept_b62_k K (f_Mo_kept_b62 K fu) _ _ _ _ _ _ _ _ _ _ = _
    unfold f_Mo_kept_b62_k f_Mo_kept_b90 f_Mo_kept_b112 f_Mo_kept_b151
    by_cases h : m = s
    · subst h
      have E1 : bnK m (j + 1) = (bnK m j * (nI m - nI j).toInt64) / (nI (j + 1)).toInt64 := rfl
      have E2 : btK m (j + 1) = btK m j * (if m ≤ j then 1 else 10) := rfl
      have E3 : tpK (nI w) m k (j + 1) = tpK (nI w) m k j + (if k ≤ j then prK (nI w) m j m else 0) := rfl
      rw [g_136_12, hS, ifn_y (by omega) (by omega) (Nat.le_refl _)]
      by_cases hkj : k ≤ j
      · rw [if_pos hkj] at E3
        rw [ifn_y (by omega) (by omega) hkj, lt_e, g_136_12, hS, nI_s1]
        unfold dL
        rw [if_neg (to64_ne (by omega)), lt_e, g_136_12, hS]
        by_cases hsj : m ≤ j
        · rw [if_pos hsj] at E2
          rw [ifn_y (by omega) (by omega) hsj, lt_e, ← E1, ← E2, ← E3]
        · rw [if_neg hsj] at E2
          rw [ifn_n (by omega) (by omega) hsj, lt_e, ← E1, ← E2, ← E3]
      · rw [if_neg hkj] at E3
        rw [ifn_n (by omega) (by omega) hkj, lt_e, g_136_12, hS, nI_s1]
        unfold dL
        rw [if_neg (to64_ne (by omega)), lt_e, g_136_12, hS]
        by_cases hsj : m ≤ j
        · rw [if_pos hsj] at E2
          rw [ifn_y (by omega) (by omega) hsj, lt_e, ← E1, ← E2, ← E3]
        · rw [if_neg hsj] at E2
          rw [ifn_n (by omega) (by omega) hsj, lt_e, ← E1, ← E2, ← E3]
    · have I := ih (m + 1) (by omega) (by omega)
      have E : prK (nI w) s j (m + 1) = prK (nI w) s j m * (if j ≤ m then (10 - nI w).toInt64 else (nI w).toInt64) := rfl
      rw [g_136_12, hS, ifn_n (by omega) (by omega) (by omega)]
      by_cases hjm : j ≤ m
      · rw [if_pos hjm] at E
        rw [ifn_y (by omega) (by omega) hjm, lt_e, nI_1, ← E]
        exact I
      · rw [if_neg hjm] at E
        rw [ifn_n (by omega) (by omega) hjm, lt_e, nI_1, ← E]
        exact I
theorem kept_Mo {w s k : Nat} (hs : s ≤ 5) (hk : k ≤ 5) (hS : i 136 12 = nI s) {g : Int64} (hg : ¬ g = 0) (hc : cdM 50 (tpK (nI w) s k (s + 1)) (btK s (s + 1)) = some g) : ∀ (fu j : Nat), j ≤ s + 1 → s + 1 - j < fu → f_Mo_kept_b46 fu (mkH i l a) 136 (nI w) (nI k) (tpK (nI w) s k j) (btK s j) (bnK s j) (nI j) = some (1, mkH i (up2 (up2 l 136 4 (tpK (nI w) s k (s + 1) / g)) 136 5 (btK s (s + 1) / g)) a) := by
  intro fu
  induction fu with
  | zero => intro m _ h; omega
  | succ fu ih =>
    intro j hj hfu
    show f_Mo_kept_b46_k (f_Mo_kept_b46 fu) _ _ _ _ _ _ _ _ = _
    unfold f_Mo_kept_b46_k
    by_cases h : j = s + 1
    · subst h
      rw [g_136_12, hS, if_pos (by rw [nI_lt' (by omega) (by omega)]; omega), O_136, cH_id]
      exact tells_loop hg 50 FU _ _ (by unfold FU; omega) hc
    · rw [g_136_12, hS, if_neg (by rw [nI_lt' (by omega) (by omega)]; omega)]
      have L := kept_in (i := i) (l := l) (a := a) (w := w) hs hk hS (f_Mo_kept_b46 fu) (show j ≤ 5 by omega) FU 0 (by omega) (FU_lt (by omega))
      exact L.trans (ih (j + 1) (by omega) (by omega))
end KM
