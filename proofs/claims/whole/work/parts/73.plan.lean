/-! ===== plans, without the machine ===== -/
def stp (p : Nat → Nat) (k x : Nat) : Nat → Nat := fun j => if j = k then x else p j
theorem stp_s {p : Nat → Nat} {k x : Nat} : stp p k x k = x := if_pos rfl
theorem stp_n {p : Nat → Nat} {k x j : Nat} (h : ¬ j = k) : stp p k x j = p j := if_neg h
/-- c comes ahead of what begins with p's first k and x -/
def bef (k : Nat) (p : Nat → Nat) (x : Nat) (c : Nat → Nat) : Prop := (∃ j, j < k ∧ (∀ e, e < j → c e = p e) ∧ c j < p j) ∨ ((∀ e, e < k → c e = p e) ∧ c k < x)
theorem bef_up {k : Nat} {p : Nat → Nat} {x : Nat} {c : Nat → Nat} : bef (k + 1) (stp p k x) 0 c ↔ bef k p x c := by
  constructor
  · rintro (⟨j, hj, h1, h2⟩ | ⟨-, h⟩)
    · by_cases e : j = k
      · subst e
        rw [stp_s] at h2
        exact Or.inr ⟨fun e he => by have := h1 e he; rwa [stp_n (by omega)] at this, h2⟩
      · rw [stp_n e] at h2
        exact Or.inl ⟨j, by omega, fun e' he => by have := h1 e' he; rwa [stp_n (by omega)] at this, h2⟩
    · omega
  · rintro (⟨j, hj, h1, h2⟩ | ⟨h1, h2⟩)
    · exact Or.inl ⟨j, by omega, fun e he => by rw [stp_n (by omega)]; exact h1 e he, by rw [stp_n (by omega)]; exact h2⟩
    · exact Or.inl ⟨k, by omega, fun e he => by rw [stp_n (by omega)]; exact h1 e he, by rw [stp_s]; exact h2⟩
theorem bef_s {k : Nat} {p : Nat → Nat} {x : Nat} {c : Nat → Nat} : bef k p (x + 1) c ↔ bef k p x c ∨ ((∀ e, e < k → c e = p e) ∧ c k = x) := by
  constructor
  · rintro (h | ⟨h1, h2⟩)
    · exact Or.inl (Or.inl h)
    · by_cases e : c k = x
      · exact Or.inr ⟨h1, e⟩
      · exact Or.inl (Or.inr ⟨h1, by omega⟩)
  · rintro ((h | ⟨h1, h2⟩) | ⟨h1, h2⟩)
    · exact Or.inl h
    · exact Or.inr ⟨h1, by omega⟩
    · exact Or.inr ⟨h1, by omega⟩
theorem bef_d {k nf : Nat} {p : Nat → Nat} {c : Nat → Nat} (hc : c (k + 1) ≤ nf) : bef (k + 1) p (nf + 1) c ↔ bef k p (p k + 1) c := by
  constructor
  · rintro (⟨j, hj, h1, h2⟩ | ⟨h1, h2⟩)
    · by_cases e : j = k
      · subst e
        exact Or.inr ⟨h1, by omega⟩
      · exact Or.inl ⟨j, by omega, h1, h2⟩
    · exact Or.inr ⟨fun e he => h1 e (by omega), by have := h1 k (by omega); omega⟩
  · rintro (⟨j, hj, h1, h2⟩ | ⟨h1, h2⟩)
    · exact Or.inl ⟨j, by omega, h1, h2⟩
    · by_cases e : c k = p k
      · refine Or.inr ⟨fun e' he => ?_, by omega⟩
        by_cases ee : e' = k
        · rw [ee]; exact e
        · exact h1 e' (by omega)
      · exact Or.inl ⟨k, by omega, h1, by omega⟩
theorem bef_lex {nn : Nat} {q c : Nat → Nat} (h : bef nn q 0 c) : lexN c q nn := by
  rcases h with ⟨j, hj, h1, h2⟩ | ⟨-, h⟩
  · exact Or.inr ⟨j, hj, h1, h2⟩
  · omega
theorem bef_pre {k nn : Nat} {p c c' : Nat → Nat} (hk : k ≤ nn) (h : bef k p 0 c) (h' : ∀ e, e < k → c' e = p e) : lexN c c' nn := by
  rcases h with ⟨j, hj, h1, h2⟩ | ⟨-, h⟩
  · exact Or.inr ⟨j, by omega, fun e he => (h1 e he).trans (h' e (by omega)).symm, by rw [h' j hj]; exact h2⟩
  · omega
def okA (v : Nat → Int32) (nf nn : Nat) (c : Nat → Nat) : Prop := ∀ k, k < nn → okN v nf c k
def btr (v : Nat → Int32) (nf nn : Nat) (c c' : Nat → Nat) : Prop := cntN nf c' nn < cntN nf c nn ∨ (cntN nf c' nn = cntN nf c nn ∧ (spnN v nf c nn < spnN v nf c' nn ∨ (spnN v nf c' nn = spnN v nf c nn ∧ lexN c c' nn)))
/-- what was best of S: its needs, its value, its row -/
def Bst (v : Nat → Int32) (nf nn : Nat) (enc : Nat → Int32) (S : (Nat → Nat) → Prop) (m w : Int32) (row : Nat → Int32) : Prop := (m = -1 ∧ w = 0 ∧ ∀ c, S c → ¬ okA v nf nn c) ∨ ∃ c, S c ∧ okA v nf nn c ∧ m = nI (cntN nf c nn) ∧ w = nI (spnN v nf c nn) ∧ (∀ k, k < nn → row k = enc (c k)) ∧ ∀ c', S c' → okA v nf nn c' → btr v nf nn c c'
section PP
variable {v : Nat → Int32} {nf nn : Nat} {enc : Nat → Int32} {S S' T : (Nat → Nat) → Prop} {m w : Int32} {row row' : Nat → Int32}
theorem cntN_c {c c' : Nat → Nat} : ∀ j, (∀ e, e < j → c e = c' e) → cntN nf c j = cntN nf c' j
  | 0, _ => rfl
  | j + 1, h => by
    unfold cntN
    rw [cntN_c j (fun e he => h e (by omega)), h j (by omega)]
theorem spnN_c {c c' : Nat → Nat} : ∀ j, (∀ e, e < j → c e = c' e) → spnN v nf c j = spnN v nf c' j
  | 0, _ => rfl
  | j + 1, h => by
    unfold spnN
    rw [spnN_c j (fun e he => h e (by omega)), h j (by omega)]
theorem sumN_c {c c' : Nat → Nat} {k : Nat} (hk : c k = c' k) : ∀ j, (∀ e, e < j → c e = c' e) → sumN v nf c k j = sumN v nf c' k j
  | 0, _ => rfl
  | j + 1, h => by
    unfold sumN
    rw [sumN_c hk j (fun e he => h e (by omega)), h j (by omega), hk]
theorem okN_c {c c' : Nat → Nat} {k : Nat} (h : ∀ e, e ≤ k → c e = c' e) (ho : okN v nf c k) : okN v nf c' k := by
  unfold okN at ho ⊢
  rw [← h k (Nat.le_refl _), ← sumN_c (h k (Nat.le_refl _)) k (fun e he => h e (by omega))]
  rcases ho with ho | ⟨h1, h2, h3, h4⟩
  · exact Or.inl ho
  · exact Or.inr ⟨h1, h2, fun j hj => by rw [← h j (by omega)]; exact h3 j hj, h4⟩
theorem okA_c {c c' : Nat → Nat} (h : ∀ e, e < nn → c e = c' e) (ho : okA v nf nn c) : okA v nf nn c' := fun k hk => okN_c (fun e he => h e (by omega)) (ho k hk)
theorem okA_le {c : Nat → Nat} (h : okA v nf nn c) {k : Nat} (hk : k < nn) : c k ≤ nf := by
  rcases h k hk with e | ⟨e, -⟩ <;> omega
theorem cntN_b {c : Nat → Nat} : ∀ j, cntN nf c j ≤ j
  | 0 => Nat.le_refl _
  | j + 1 => by
    have := cntN_b (c := c) j
    unfold cntN
    split <;> omega
theorem spnN_b {c : Nat → Nat} (hw : ∀ k f, k < nn → f < nf → wthN v k f ≤ 49) : ∀ j, j ≤ nn → spnN v nf c j ≤ 49 * j
  | 0, _ => Nat.le_refl _
  | j + 1, hj => by
    have I := spnN_b (c := c) hw j (by omega)
    unfold spnN
    split
    · next h =>
      have := hw j _ (by omega) h
      omega
    · omega
theorem Bst.mono (h : Bst v nf nn enc S m w row) (hS : ∀ c, okA v nf nn c → (S c ↔ S' c)) : Bst v nf nn enc S' m w row := by
  rcases h with ⟨h1, h2, h3⟩ | ⟨c, h1, h2, h3, h4, h5, h6⟩
  · exact Or.inl ⟨h1, h2, fun c hc ho => h3 c ((hS c ho).mpr hc) ho⟩
  · exact Or.inr ⟨c, (hS c h2).mp h1, h2, h3, h4, h5, fun c' hc' ho => h6 c' ((hS c' ho).mpr hc') ho⟩
/-- those of T are no better -/
theorem Bst.skip (h : Bst v nf nn enc S m w row) (hw : ∀ k f, k < nn → f < nf → wthN v k f ≤ 49) (hnn : nn ≤ 5) (hT : ∀ c', T c' → okA v nf nn c' → nI (cntN nf c' nn) < m ∨ (nI (cntN nf c' nn) = m ∧ w ≤ nI (spnN v nf c' nn))) (hl : ∀ c c', S c → T c' → lexN c c' nn) : Bst v nf nn enc (fun c => S c ∨ T c) m w row := by
  rcases h with ⟨h1, h2, h3⟩ | ⟨c, h1, h2, h3, h4, h5, h6⟩
  · refine Or.inl ⟨h1, h2, fun c hc ho => ?_⟩
    rcases hc with hc | hc
    · exact h3 c hc ho
    · have hb := cntN_b (nf := nf) (c := c) nn
      rcases hT c hc ho with q | ⟨q, -⟩
      · rw [h1] at q
        have : (0 : Int32) ≤ nI (cntN nf c nn) := by rw [nI_0le (by omega)]; exact trivial
        exact absurd (Int32.lt_of_le_of_lt this q) (by decide)
      · rw [h1, nI_neg1 (by omega)] at q
        exact q
  · refine Or.inr ⟨c, Or.inl h1, h2, h3, h4, h5, fun c' hc' ho => ?_⟩
    rcases hc' with hc' | hc'
    · exact h6 c' hc' ho
    · have hb := cntN_b (nf := nf) (c := c) nn
      have hb' := cntN_b (nf := nf) (c := c') nn
      have hs := spnN_b (c := c) hw nn (Nat.le_refl _)
      have hs' := spnN_b (c := c') hw nn (Nat.le_refl _)
      rcases hT c' hc' ho with q | ⟨q, q2⟩
      · rw [h3, nI_lt' (by omega) (by omega)] at q
        exact Or.inl q
      · rw [h3, nI_eq' (by omega) (by omega)] at q
        rw [h4, nI_le' (by omega) (by omega)] at q2
        refine Or.inr ⟨q, ?_⟩
        by_cases e : spnN v nf c nn < spnN v nf c' nn
        · exact Or.inl e
        · exact Or.inr ⟨by omega, hl c c' h1 hc'⟩
/-- c is better -/
theorem Bst.new (h : Bst v nf nn enc S m w row) (hw : ∀ k f, k < nn → f < nf → wthN v k f ≤ 49) (hnn : nn ≤ 5) {c : Nat → Nat} (hc : okA v nf nn c) (hr : ∀ k, k < nn → row' k = enc (c k)) (hT : m < nI (cntN nf c nn) ∨ (m = nI (cntN nf c nn) ∧ nI (spnN v nf c nn) < w)) : Bst v nf nn enc (fun c' => S c' ∨ ∀ e, e < nn → c' e = c e) (nI (cntN nf c nn)) (nI (spnN v nf c nn)) row' := by
  refine Or.inr ⟨c, Or.inr fun _ _ => rfl, hc, rfl, rfl, hr, fun c' hc' ho => ?_⟩
  rcases hc' with hc' | hc'
  · rcases h with ⟨h1, h2, h3⟩ | ⟨c0, h1, h2, h3, h4, h5, h6⟩
    · exact absurd ho (h3 c' hc')
    · have hb := cntN_b (nf := nf) (c := c) nn
      have hb' := cntN_b (nf := nf) (c := c0) nn
      have hs := spnN_b (c := c) hw nn (Nat.le_refl _)
      have hs' := spnN_b (c := c0) hw nn (Nat.le_refl _)
      rw [h3, h4, nI_lt' (by omega) (by omega), nI_lt' (by omega) (by omega), nI_eq' (by omega) (by omega)] at hT
      have B := h6 c' hc' ho
      unfold btr at B ⊢
      rcases B with B | ⟨B1, B2⟩
      · left
        omega
      · rcases hT with q | ⟨q1, q2⟩
        · left
          omega
        · right
          refine ⟨by omega, Or.inl ?_⟩
          rcases B2 with B2 | ⟨B2, -⟩ <;> omega
  · exact Or.inr ⟨cntN_c nn hc', Or.inr ⟨spnN_c nn hc', Or.inl fun e he => (hc' e he).symm⟩⟩
theorem Bst.fin (h : Bst v nf nn enc S m w row) (hS : ∀ c, okA v nf nn c → S c) : ∃ c, bestN v nf nn c ∧ m = nI (cntN nf c nn) ∧ w = nI (spnN v nf c nn) ∧ ∀ k, k < nn → row k = enc (c k) := by
  rcases h with ⟨-, -, h3⟩ | ⟨c, h1, h2, h3, h4, h5, h6⟩
  · have ho : okA v nf nn (fun _ => nf) := fun k hk => Or.inl rfl
    exact absurd ho (h3 _ (hS _ ho))
  · exact ⟨c, ⟨h2, fun c' hc' => h6 c' (hS c' hc') hc'⟩, h3, h4, h5⟩
theorem best_u {c c' : Nat → Nat} (h : bestN v nf nn c) (h' : bestN v nf nn c') : cntN nf c nn = cntN nf c' nn ∧ spnN v nf c nn = spnN v nf c' nn ∧ ∀ k, k < nn → c k = c' k := by
  have A := h.2 c' h'.1
  have B := h'.2 c h.1
  rcases A with A | ⟨A1, A2⟩
  · rcases B with B | ⟨B1, B2⟩ <;> omega
  · rcases B with B | ⟨B1, B2⟩
    · omega
    · rcases A2 with A2 | ⟨A2, A3⟩
      · rcases B2 with B2 | ⟨B2, -⟩ <;> omega
      · rcases B2 with B2 | ⟨B2, B3⟩
        · omega
        · exact ⟨by omega, by omega, lexN_as A3 B3⟩
end PP
/-! ===== values for a need; what can be hoped for ===== -/
def vlN (v : Nat → Int32) (k f : Nat) : Nat := if v (14 + (f * 7 + 2)) = v (98 + (k * 4 + 0)) ∧ v (14 + (f * 7 + 3)) = v (98 + (k * 4 + 1)) ∧ v (98 + (k * 4 + 2)) ≤ valF (fv v) f (v (98 + (k * 4 + 3))) then wthN v k f else 0
def lvN (v : Nat → Int32) (k : Nat) : Nat → Nat
  | 0 => 0
  | f + 1 => if 0 < vlN v k f ∧ (lvN v k f = 0 ∨ vlN v k f < lvN v k f) then vlN v k f else lvN v k f
def hopD (v : Nat → Int32) (nf nn : Nat) : Nat → Nat
  | 0 => 0
  | d + 1 => hopD v nf nn d + if 0 < lvN v (nn - (d + 1)) nf then 1 else 0
def cstD (v : Nat → Int32) (nf nn : Nat) : Nat → Nat
  | 0 => 0
  | d + 1 => cstD v nf nn d + lvN v (nn - (d + 1)) nf
theorem lvN_le {v : Nat → Int32} {k : Nat} : ∀ nf f, f < nf → 0 < vlN v k f → 0 < lvN v k nf ∧ lvN v k nf ≤ vlN v k f
  | 0, f, h, _ => by omega
  | nf + 1, f, h, h0 => by
    unfold lvN
    by_cases e : f = nf
    · subst e
      split
      · omega
      · next c =>
        by_cases z : lvN v k f = 0
        · exact absurd ⟨h0, Or.inl z⟩ c
        · by_cases z2 : vlN v k f < lvN v k f
          · exact absurd ⟨h0, Or.inr z2⟩ c
          · omega
    · have I := lvN_le nf f (by omega) h0
      split
      · next c => omega
      · exact I
theorem lvN_b {v : Nat → Int32} {k b : Nat} : ∀ nf, (∀ f, f < nf → vlN v k f ≤ b) → lvN v k nf ≤ b
  | 0, _ => Nat.zero_le _
  | nf + 1, h => by
    have I := lvN_b nf (fun f hf => h f (by omega))
    unfold lvN
    split
    · exact h nf (by omega)
    · exact I
section PH
variable {i a : Nat → Nat → Int32} {v : Nat → Int32} {n nf nn np dy : Nat}
theorem wth_ok (hN : Now i a v n nf nn np dy) {k f : Nat} (hk : k < nn) (hf : f < nf) : valF (fv v) f (v (98 + (k * 4 + 3))) = nI (wthN v k f) ∧ wthN v k f ≤ 49 := by
  obtain ⟨p, t, s, d, -, -, -, ⟨e, hd⟩⟩ := hN.2.2.1.2.2.1 k hk
  have := uN_ok hN hf hd
  unfold wthN
  rw [e]
  exact this
theorem may_vl (hN : Now i a v n nf nn np dy) {k f : Nat} (hk : k < nn) (hf : f < nf) : (mayN v k f ∧ vlN v k f = wthN v k f ∧ 0 < vlN v k f) ∨ (¬ mayN v k f ∧ vlN v k f = 0) := by
  obtain ⟨p, t, s, d, -, -, ⟨e2, hs⟩, ⟨e, hd⟩⟩ := hN.2.2.1.2.2.1 k hk
  have W := wth_ok hN hk hf
  by_cases c : v (14 + (f * 7 + 2)) = v (98 + (k * 4 + 0)) ∧ v (14 + (f * 7 + 3)) = v (98 + (k * 4 + 1)) ∧ v (98 + (k * 4 + 2)) ≤ valF (fv v) f (v (98 + (k * 4 + 3)))
  · have E : vlN v k f = wthN v k f := if_pos c
    refine Or.inl ⟨c, E, ?_⟩
    have := c.2.2
    rw [W.1, e2, nI_le' (by omega) (by omega)] at this
    omega
  · exact Or.inr ⟨c, if_neg c⟩
theorem vlN_b (hN : Now i a v n nf nn np dy) {k f : Nat} (hk : k < nn) (hf : f < nf) : vlN v k f ≤ 49 := by
  have W := wth_ok hN hk hf
  rcases may_vl hN hk hf with ⟨-, e, -⟩ | ⟨-, e⟩ <;> omega
theorem hop_ok (hN : Now i a v n nf nn np dy) {c : Nat → Nat} (hc : okA v nf nn c) : ∀ d, d ≤ nn → cntN nf c nn ≤ cntN nf c (nn - d) + hopD v nf nn d ∧ (cntN nf c nn = cntN nf c (nn - d) + hopD v nf nn d → spnN v nf c (nn - d) + cstD v nf nn d ≤ spnN v nf c nn)
  | 0, _ => ⟨by rw [Nat.sub_zero]; exact Nat.le_add_right _ _, fun _ => by rw [Nat.sub_zero]; exact Nat.le_refl _⟩
  | d + 1, hd => by
    obtain ⟨I1, I2⟩ := hop_ok hN hc d (by omega)
    have hk : nn - (d + 1) < nn := by omega
    have e1 : nn - d = nn - (d + 1) + 1 := by omega
    have C : cntN nf c (nn - d) = cntN nf c (nn - (d + 1)) + if c (nn - (d + 1)) < nf then 1 else 0 := by
      rw [e1]
      rfl
    have P : spnN v nf c (nn - d) = spnN v nf c (nn - (d + 1)) + if c (nn - (d + 1)) < nf then wthN v (nn - (d + 1)) (c (nn - (d + 1))) else 0 := by
      rw [e1]
      rfl
    have H : hopD v nf nn (d + 1) = hopD v nf nn d + if 0 < lvN v (nn - (d + 1)) nf then 1 else 0 := rfl
    have Q : cstD v nf nn (d + 1) = cstD v nf nn d + lvN v (nn - (d + 1)) nf := rfl
    rw [H, Q]
    rcases hc _ hk with e | ⟨e, hm, -, -⟩
    · rw [if_neg (by omega)] at C P
      by_cases z : 0 < lvN v (nn - (d + 1)) nf
      · rw [if_pos z]
        exact ⟨by omega, fun x => by omega⟩
      · rw [if_neg z]
        exact ⟨by omega, fun x => by have := I2 (by omega); omega⟩
    · rw [if_pos e] at C P
      rcases may_vl hN hk e with ⟨-, q1, q2⟩ | ⟨q, -⟩
      · have L := lvN_le nf _ e q2
        rw [if_pos L.1]
        exact ⟨by omega, fun x => by have := I2 (by omega); omega⟩
      · exact absurd hm q
end PH
