/-! ===== the street now, in its parts ===== -/
def wP (v : Nat → Int32) (n : Nat) : Prop := ∀ p, p < n → ∃ s d : Nat, v (2 + p) = nI s ∧ s ≤ 99 ∧ v (8 + p) = nI d ∧ d ≤ 99
def favK (v : Nat → Int32) (n f : Nat) : Prop := ∃ k b t w tl m : Nat, (v (14 + (f * 7 + 0)) = nI k ∧ k ≤ 4) ∧ (v (14 + (f * 7 + 1)) = nI b ∧ b < n) ∧ (v (14 + (f * 7 + 2)) = -1 ∨ ∃ c, v (14 + (f * 7 + 2)) = nI c ∧ c < n ∧ c ≠ b) ∧ (v (14 + (f * 7 + 3)) = nI t ∧ t ≤ 3) ∧ (v (14 + (f * 7 + 4)) = nI w ∧ 1 ≤ w ∧ w ≤ 40) ∧ (v (14 + (f * 7 + 5)) = nI tl ∧ tl ≤ 99) ∧ (v (14 + (f * 7 + 6)) = nI m ∧ m ≤ 99)
def wF (v : Nat → Int32) (n nf : Nat) : Prop := ∀ f, f < nf → favK v n f
def wN (v : Nat → Int32) (n nn : Nat) : Prop := ∀ k, k < nn → ∃ p t s d : Nat, (v (98 + (k * 4 + 0)) = nI p ∧ p < n) ∧ (v (98 + (k * 4 + 1)) = nI t ∧ t ≤ 3) ∧ (v (98 + (k * 4 + 2)) = nI s ∧ 1 ≤ s ∧ s ≤ 40) ∧ (v (98 + (k * 4 + 3)) = nI d ∧ d ≤ 99)
def wT (v : Nat → Int32) (n nf np : Nat) : Prop := ∀ k, k < np → ∃ f b c : Nat, (v (118 + (k * 3 + 0)) = nI f ∧ f < nf) ∧ (v (118 + (k * 3 + 1)) = nI b ∧ b < n) ∧ (v (118 + (k * 3 + 2)) = nI c ∧ c < n)
def wR (v : Nat → Int32) : Prop := ∀ t, t < 4 → ∃ r : Nat, v (154 + t) = nI r ∧ 1 ≤ r ∧ r ≤ 99
/-- the class's cells are the reference's -/
def sP (g v : Nat → Int32) (n : Nat) : Prop := ∀ p, p < n → g (p * 2 + 0) = v (2 + p) ∧ g (p * 2 + 1) = v (8 + p)
def sF (g v : Nat → Int32) (nf : Nat) : Prop := ∀ j, j < nf * 7 → g j = v (14 + j)
def sN (g v : Nat → Int32) (nn : Nat) : Prop := ∀ j, j < nn * 4 → g j = v (98 + j)
def sT (g v : Nat → Int32) (np : Nat) : Prop := ∀ j, j < np * 3 → g j = v (118 + j)
def sR (g v : Nat → Int32) : Prop := ∀ j, j < 4 → g j = v (154 + j)
/-- the street now, with its numbers -/
def Now (i a : Nat → Nat → Int32) (v : Nat → Int32) (n nf nn np dy : Nat) : Prop :=
  ((v 0 = nI dy ∧ dy ≤ 99) ∧ (v 1 = nI n ∧ 2 ≤ n ∧ n ≤ 6) ∧ (v 158 = nI nf ∧ nf ≤ 12) ∧ (v 159 = nI nn ∧ nn ≤ 5) ∧ (v 160 = nI np ∧ np ≤ 12)) ∧
  (i 2 5 = nI dy ∧ i 3 2 = nI n ∧ i 5 2 = nI nf ∧ i 7 2 = nI nn ∧ i 9 2 = nI np ∧ i 11 2 = nI 4) ∧
  (wP v n ∧ wF v n nf ∧ wN v n nn ∧ wT v n nf np ∧ wR v) ∧
  (sP (a 4) v n ∧ sF (a 6) v nf ∧ sN (a 8) v nn ∧ sT (a 10) v np ∧ sR (a 12) v)
theorem Now.sw {i a : Nat → Nat → Int32} {v : Nat → Int32} {n nf nn np dy : Nat} (h : Now i a v n nf nn np dy) : WFb v 0 n nf nn np dy ∧ SR i a 2 v 0 n nf nn np := by
  obtain ⟨⟨a1, a2, a3, a4, a5⟩, ⟨b1, b2, b3, b4, b5, b6⟩, ⟨c1, c2, c3, c4, c5⟩, ⟨d1, d2, d3, d4, d5⟩⟩ := h
  constructor
  · unfold WFb
    simp only [Nat.zero_add]
    exact ⟨⟨a1, a2, a3, a4, a5⟩, c1, c2, c3, c4, c5⟩
  · unfold SR Cn
    simp only [Nat.zero_add]
    exact ⟨⟨by decide, ⟨b2, a2.2.2⟩, ⟨b3, a3.2⟩, ⟨b4, a4.2⟩, ⟨b5, a5.2⟩, b6⟩, b1.trans a1.1.symm, d1, d2, d3, d4, d5⟩
theorem Now.of {i a : Nat → Nat → Int32} {v : Nat → Int32} {n nf nn np dy : Nat} (hW : WFb v 0 n nf nn np dy) (hS : SR i a 2 v 0 n nf nn np) : Now i a v n nf nn np dy := by
  unfold WFb at hW
  unfold SR Cn at hS
  simp only [Nat.zero_add] at hW hS
  obtain ⟨⟨a1, a2, a3, a4, a5⟩, c1, c2, c3, c4, c5⟩ := hW
  obtain ⟨⟨b0, b1, b2, b3, b4, b5⟩, b6, d1, d2, d3, d4, d5⟩ := hS
  exact ⟨⟨a1, a2, a3, a4, a5⟩, ⟨b6.trans a1.1, b1.1, b2.1, b3.1, b4.1, b5⟩, ⟨c1, c2, c3, c4, c5⟩, ⟨d1, d2, d3, d4, d5⟩⟩
theorem now_of {i a : Nat → Nat → Int32} {l : Nat → Nat → Int64} (H : Inv i l a) : ∃ n nf nn np dy, Now i a (a 137) n nf nn np dy := by
  obtain ⟨n, nf, nn, np, dy, hW, hS⟩ := H.1
  exact ⟨n, nf, nn, np, dy, Now.of hW hS⟩
theorem Now.SW {i a : Nat → Nat → Int32} {v : Nat → Int32} {n nf nn np dy : Nat} (h : Now i a v n nf nn np dy) : SW i a 2 v 0 := ⟨n, nf, nn, np, dy, h.sw.1, h.sw.2⟩
section WC
variable {v v' : Nat → Int32} {n nf nn np : Nat}
theorem wP.c (hv : ∀ j, 2 ≤ j → j < 14 → v' j = v j) (hn : n ≤ 6) (h : wP v n) : wP v' n := fun p hp => by
  rw [hv _ (by omega) (by omega), hv _ (by omega) (by omega)]
  exact h p hp
theorem favK.c {f : Nat} (hv : ∀ j, 14 ≤ j → j < 98 → v' j = v j) (hf : f < 12) (h : favK v n f) : favK v' n f := by
  unfold favK
  rw [hv _ (by omega) (by omega), hv _ (by omega) (by omega), hv _ (by omega) (by omega), hv _ (by omega) (by omega), hv _ (by omega) (by omega), hv _ (by omega) (by omega), hv _ (by omega) (by omega)]
  exact h
theorem wF.c (hv : ∀ j, 14 ≤ j → j < 98 → v' j = v j) (hn : nf ≤ 12) (h : wF v n nf) : wF v' n nf := fun f hf => (h f hf).c hv (by omega)
theorem wN.c (hv : ∀ j, 98 ≤ j → j < 118 → v' j = v j) (hn : nn ≤ 5) (h : wN v n nn) : wN v' n nn := fun f hf => by
  rw [hv _ (by omega) (by omega), hv _ (by omega) (by omega), hv _ (by omega) (by omega), hv _ (by omega) (by omega)]
  exact h f hf
theorem wT.c (hv : ∀ j, 118 ≤ j → j < 154 → v' j = v j) (hn : np ≤ 12) (h : wT v n nf np) : wT v' n nf np := fun f hf => by
  rw [hv _ (by omega) (by omega), hv _ (by omega) (by omega), hv _ (by omega) (by omega)]
  exact h f hf
theorem wR.c (hv : ∀ j, 154 ≤ j → j < 158 → v' j = v j) (h : wR v) : wR v' := fun f hf => by
  rw [hv _ (by omega) (by omega)]
  exact h f hf
theorem sP.c {g : Nat → Int32} (hv : ∀ j, 2 ≤ j → j < 14 → v' j = v j) (hn : n ≤ 6) (h : sP g v n) : sP g v' n := fun p hp => by
  rw [hv _ (by omega) (by omega), hv _ (by omega) (by omega)]
  exact h p hp
theorem sF.c {g : Nat → Int32} (hv : ∀ j, 14 ≤ j → j < 98 → v' j = v j) (hn : nf ≤ 12) (h : sF g v nf) : sF g v' nf := fun f hf => by
  rw [hv _ (by omega) (by omega)]
  exact h f hf
theorem sN.c {g : Nat → Int32} (hv : ∀ j, 98 ≤ j → j < 118 → v' j = v j) (hn : nn ≤ 5) (h : sN g v nn) : sN g v' nn := fun f hf => by
  rw [hv _ (by omega) (by omega)]
  exact h f hf
theorem sT.c {g : Nat → Int32} (hv : ∀ j, 118 ≤ j → j < 154 → v' j = v j) (hn : np ≤ 12) (h : sT g v np) : sT g v' np := fun f hf => by
  rw [hv _ (by omega) (by omega)]
  exact h f hf
theorem sR.c {g : Nat → Int32} (hv : ∀ j, 154 ≤ j → j < 158 → v' j = v j) (h : sR g v) : sR g v' := fun f hf => by
  rw [hv _ (by omega) (by omega)]
  exact h f hf
end WC
/-- the end of a call that changes the street now alone, and makes the plan old -/
theorem fin_now {i a i' a' : Nat → Nat → Int32} {l : Nat → Nat → Int64} {n nf nn np dy : Nat} (H : Inv i l a) (hE : Eq2 Away i a i' a') (hN : Now i' a' (a' 137) n nf nn np dy) (hP : ∀ j, 161 ≤ j → j < 484 → a' 137 j = a 137 j) (hT : i' 136 17 = i 136 17) (hD : i' 115 2 = i 115 2) (h0 : ∀ k, 10 ≤ k → i' 0 k = i 0 k) (h140 : a' 140 = a 140) (hPl : Pln i' a' (a' 137)) : Inv i' l a' := by
  obtain ⟨-, -, -, -, hRR, -, ⟨r0, r1, r2⟩, hF, -⟩ := id H
  exact inv_now H hE hN.SW hP hT ⟨hN.2.1.2.2.2.2.2, by rw [hD]; exact hRR.2.2.2.2.2.2.2.2.2⟩ ⟨by rw [h0 _ (by omega), h140]; exact r0, by rw [h0 _ (by omega), h140]; exact r1, by rw [h0 _ (by omega), h140]; exact r2⟩ hF hPl
/-- the cells of the street now but one table's -/
def I6 (i i' : Nat → Nat → Int32) (t : Nat) : Prop := i' 2 5 = i 2 5 ∧ (t ≠ 3 → i' 3 2 = i 3 2) ∧ (t ≠ 5 → i' 5 2 = i 5 2) ∧ (t ≠ 7 → i' 7 2 = i 7 2) ∧ (t ≠ 9 → i' 9 2 = i 9 2) ∧ i' 11 2 = i 11 2
section NC
variable {i a i' a' : Nat → Nat → Int32} {v v' : Nat → Int32} {n nf nn np dy : Nat}
theorem Now.P (h : Now i a v n nf nn np dy) (hv : ∀ j, j < 161 → (j < 2 ∨ 14 ≤ j) → v' j = v j) (hi : I6 i i' 0) (ha : a' 6 = a 6 ∧ a' 8 = a 8 ∧ a' 10 = a 10 ∧ a' 12 = a 12) (g1 : wP v' n) (g2 : sP (a' 4) v' n) : Now i' a' v' n nf nn np dy := by
  obtain ⟨⟨a1, a2, a3, a4, a5⟩, ⟨b1, b2, b3, b4, b5, b6⟩, ⟨c1, c2, c3, c4, c5⟩, ⟨d1, d2, d3, d4, d5⟩⟩ := h
  obtain ⟨i1, i2, i3, i4, i5, i6⟩ := hi
  exact ⟨⟨by rw [hv _ (by omega) (by omega)]; exact a1, by rw [hv _ (by omega) (by omega)]; exact a2, by rw [hv _ (by omega) (by omega)]; exact a3, by rw [hv _ (by omega) (by omega)]; exact a4, by rw [hv _ (by omega) (by omega)]; exact a5⟩, ⟨i1.trans b1, (i2 (by omega)).trans b2, (i3 (by omega)).trans b3, (i4 (by omega)).trans b4, (i5 (by omega)).trans b5, i6.trans b6⟩, ⟨g1, c2.c (fun j _ _ => hv j (by omega) (by omega)) a3.2, c3.c (fun j _ _ => hv j (by omega) (by omega)) a4.2, c4.c (fun j _ _ => hv j (by omega) (by omega)) a5.2, c5.c (fun j _ _ => hv j (by omega) (by omega))⟩, ⟨g2, by rw [ha.1]; exact d2.c (fun j _ _ => hv j (by omega) (by omega)) a3.2, by rw [ha.2.1]; exact d3.c (fun j _ _ => hv j (by omega) (by omega)) a4.2, by rw [ha.2.2.1]; exact d4.c (fun j _ _ => hv j (by omega) (by omega)) a5.2, by rw [ha.2.2.2]; exact d5.c (fun j _ _ => hv j (by omega) (by omega))⟩⟩
theorem Now.F {nf' : Nat} (h : Now i a v n nf nn np dy) (hv : ∀ j, j < 161 → (j < 14 ∨ 98 ≤ j) → j ≠ 158 → v' j = v j) (hi : I6 i i' 5) (ha : a' 4 = a 4 ∧ a' 8 = a 8 ∧ a' 10 = a 10 ∧ a' 12 = a 12) (g0 : v' 158 = nI nf' ∧ nf' ≤ 12) (g1 : i' 5 2 = nI nf') (g2 : wF v' n nf') (g3 : nf ≤ nf') (g4 : sF (a' 6) v' nf') : Now i' a' v' n nf' nn np dy := by
  obtain ⟨⟨a1, a2, a3, a4, a5⟩, ⟨b1, b2, b3, b4, b5, b6⟩, ⟨c1, c2, c3, c4, c5⟩, ⟨d1, d2, d3, d4, d5⟩⟩ := h
  obtain ⟨i1, i2, i3, i4, i5, i6⟩ := hi
  refine ⟨⟨by rw [hv _ (by omega) (by omega) (by omega)]; exact a1, by rw [hv _ (by omega) (by omega) (by omega)]; exact a2, g0, by rw [hv _ (by omega) (by omega) (by omega)]; exact a4, by rw [hv _ (by omega) (by omega) (by omega)]; exact a5⟩, ⟨i1.trans b1, (i2 (by omega)).trans b2, g1, (i4 (by omega)).trans b4, (i5 (by omega)).trans b5, i6.trans b6⟩, ⟨c1.c (fun j _ _ => hv j (by omega) (by omega) (by omega)) a2.2.2, g2, c3.c (fun j _ _ => hv j (by omega) (by omega) (by omega)) a4.2, fun k hk => ?_, c5.c (fun j _ _ => hv j (by omega) (by omega) (by omega))⟩, ⟨by rw [ha.1]; exact d1.c (fun j _ _ => hv j (by omega) (by omega) (by omega)) a2.2.2, g4, by rw [ha.2.1]; exact d3.c (fun j _ _ => hv j (by omega) (by omega) (by omega)) a4.2, by rw [ha.2.2.1]; exact d4.c (fun j _ _ => hv j (by omega) (by omega) (by omega)) a5.2, by rw [ha.2.2.2]; exact d5.c (fun j _ _ => hv j (by omega) (by omega) (by omega))⟩⟩
  obtain ⟨f, b, c, ⟨e1, h1⟩, h2, h3⟩ := c4.c (v' := v') (fun j _ _ => hv j (by omega) (by omega) (by omega)) a5.2 k hk
  exact ⟨f, b, c, ⟨e1, by omega⟩, h2, h3⟩
theorem Now.N {nn' : Nat} (h : Now i a v n nf nn np dy) (hv : ∀ j, j < 161 → (j < 98 ∨ 118 ≤ j) → j ≠ 159 → v' j = v j) (hi : I6 i i' 7) (ha : a' 4 = a 4 ∧ a' 6 = a 6 ∧ a' 10 = a 10 ∧ a' 12 = a 12) (g0 : v' 159 = nI nn' ∧ nn' ≤ 5) (g1 : i' 7 2 = nI nn') (g2 : wN v' n nn') (g4 : sN (a' 8) v' nn') : Now i' a' v' n nf nn' np dy := by
  obtain ⟨⟨a1, a2, a3, a4, a5⟩, ⟨b1, b2, b3, b4, b5, b6⟩, ⟨c1, c2, c3, c4, c5⟩, ⟨d1, d2, d3, d4, d5⟩⟩ := h
  obtain ⟨i1, i2, i3, i4, i5, i6⟩ := hi
  exact ⟨⟨by rw [hv _ (by omega) (by omega) (by omega)]; exact a1, by rw [hv _ (by omega) (by omega) (by omega)]; exact a2, by rw [hv _ (by omega) (by omega) (by omega)]; exact a3, g0, by rw [hv _ (by omega) (by omega) (by omega)]; exact a5⟩, ⟨i1.trans b1, (i2 (by omega)).trans b2, (i3 (by omega)).trans b3, g1, (i5 (by omega)).trans b5, i6.trans b6⟩, ⟨c1.c (fun j _ _ => hv j (by omega) (by omega) (by omega)) a2.2.2, c2.c (fun j _ _ => hv j (by omega) (by omega) (by omega)) a3.2, g2, c4.c (fun j _ _ => hv j (by omega) (by omega) (by omega)) a5.2, c5.c (fun j _ _ => hv j (by omega) (by omega) (by omega))⟩, ⟨by rw [ha.1]; exact d1.c (fun j _ _ => hv j (by omega) (by omega) (by omega)) a2.2.2, by rw [ha.2.1]; exact d2.c (fun j _ _ => hv j (by omega) (by omega) (by omega)) a3.2, g4, by rw [ha.2.2.1]; exact d4.c (fun j _ _ => hv j (by omega) (by omega) (by omega)) a5.2, by rw [ha.2.2.2]; exact d5.c (fun j _ _ => hv j (by omega) (by omega) (by omega))⟩⟩
theorem Now.T {np' : Nat} (h : Now i a v n nf nn np dy) (hv : ∀ j, j < 161 → (j < 118 ∨ 154 ≤ j) → j ≠ 160 → v' j = v j) (hi : I6 i i' 9) (ha : a' 4 = a 4 ∧ a' 6 = a 6 ∧ a' 8 = a 8 ∧ a' 12 = a 12) (g0 : v' 160 = nI np' ∧ np' ≤ 12) (g1 : i' 9 2 = nI np') (g2 : wT v' n nf np') (g4 : sT (a' 10) v' np') : Now i' a' v' n nf nn np' dy := by
  obtain ⟨⟨a1, a2, a3, a4, a5⟩, ⟨b1, b2, b3, b4, b5, b6⟩, ⟨c1, c2, c3, c4, c5⟩, ⟨d1, d2, d3, d4, d5⟩⟩ := h
  obtain ⟨i1, i2, i3, i4, i5, i6⟩ := hi
  exact ⟨⟨by rw [hv _ (by omega) (by omega) (by omega)]; exact a1, by rw [hv _ (by omega) (by omega) (by omega)]; exact a2, by rw [hv _ (by omega) (by omega) (by omega)]; exact a3, by rw [hv _ (by omega) (by omega) (by omega)]; exact a4, g0⟩, ⟨i1.trans b1, (i2 (by omega)).trans b2, (i3 (by omega)).trans b3, (i4 (by omega)).trans b4, g1, i6.trans b6⟩, ⟨c1.c (fun j _ _ => hv j (by omega) (by omega) (by omega)) a2.2.2, c2.c (fun j _ _ => hv j (by omega) (by omega) (by omega)) a3.2, c3.c (fun j _ _ => hv j (by omega) (by omega) (by omega)) a4.2, g2, c5.c (fun j _ _ => hv j (by omega) (by omega) (by omega))⟩, ⟨by rw [ha.1]; exact d1.c (fun j _ _ => hv j (by omega) (by omega) (by omega)) a2.2.2, by rw [ha.2.1]; exact d2.c (fun j _ _ => hv j (by omega) (by omega) (by omega)) a3.2, by rw [ha.2.2.1]; exact d3.c (fun j _ _ => hv j (by omega) (by omega) (by omega)) a4.2, g4, by rw [ha.2.2.2]; exact d5.c (fun j _ _ => hv j (by omega) (by omega) (by omega))⟩⟩
theorem Now.R (h : Now i a v n nf nn np dy) (hv : ∀ j, j < 161 → (j < 154 ∨ 158 ≤ j) → v' j = v j) (hi : I6 i i' 0) (ha : a' 4 = a 4 ∧ a' 6 = a 6 ∧ a' 8 = a 8 ∧ a' 10 = a 10) (g2 : wR v') (g4 : sR (a' 12) v') : Now i' a' v' n nf nn np dy := by
  obtain ⟨⟨a1, a2, a3, a4, a5⟩, ⟨b1, b2, b3, b4, b5, b6⟩, ⟨c1, c2, c3, c4, c5⟩, ⟨d1, d2, d3, d4, d5⟩⟩ := h
  obtain ⟨i1, i2, i3, i4, i5, i6⟩ := hi
  exact ⟨⟨by rw [hv _ (by omega) (by omega)]; exact a1, by rw [hv _ (by omega) (by omega)]; exact a2, by rw [hv _ (by omega) (by omega)]; exact a3, by rw [hv _ (by omega) (by omega)]; exact a4, by rw [hv _ (by omega) (by omega)]; exact a5⟩, ⟨i1.trans b1, (i2 (by omega)).trans b2, (i3 (by omega)).trans b3, (i4 (by omega)).trans b4, (i5 (by omega)).trans b5, i6.trans b6⟩, ⟨c1.c (fun j _ _ => hv j (by omega) (by omega)) a2.2.2, c2.c (fun j _ _ => hv j (by omega) (by omega)) a3.2, c3.c (fun j _ _ => hv j (by omega) (by omega)) a4.2, c4.c (fun j _ _ => hv j (by omega) (by omega)) a5.2, g2⟩, ⟨by rw [ha.1]; exact d1.c (fun j _ _ => hv j (by omega) (by omega)) a2.2.2, by rw [ha.2.1]; exact d2.c (fun j _ _ => hv j (by omega) (by omega)) a3.2, by rw [ha.2.2.1]; exact d3.c (fun j _ _ => hv j (by omega) (by omega)) a4.2, by rw [ha.2.2.2]; exact d4.c (fun j _ _ => hv j (by omega) (by omega)) a5.2, g4⟩⟩
end NC
section BC
variable {i : Nat → Nat → Int32} {l : Nat → Nat → Int64} {a : Nat → Nat → Int32} {r : Int32}
theorem bad9 : (vH (mkH i l a) 9 0 (f_Fa_bad (mkH i l a) 0 r) fun x G => some (x, G)) = f_Fa_bad (mkH i l a) 0 r := by rw [O_0, Fa_bad_ok, cH_s]
theorem no9 : (vH (mkH i l a) 9 0 (f_Fa_no (mkH i l a) 0 r) fun x G => some (x, G)) = f_Fa_no (mkH i l a) 0 r := by rw [O_0, Fa_no_ok, cH_s]
theorem full9 : (vH (mkH i l a) 9 0 (f_Fa_full (mkH i l a) 0) fun x G => some (x, G)) = f_Fa_full (mkH i l a) 0 := by rw [O_0, Fa_full_ok, cH_s]
theorem bad10 : (vH (mkH i l a) 10 136 (f_Mo_bad (mkH i l a) 136 r) fun x G => some (x, G)) = f_Mo_bad (mkH i l a) 136 r := by rw [O_136, Mo_bad_ok, cH_s]
theorem no10 : (vH (mkH i l a) 10 136 (f_Mo_no (mkH i l a) 136 r) fun x G => some (x, G)) = f_Mo_no (mkH i l a) 136 r := by rw [O_136, Mo_no_ok, cH_s]
theorem full10 : (vH (mkH i l a) 10 136 (f_Mo_full (mkH i l a) 136) fun x G => some (x, G)) = f_Mo_full (mkH i l a) 136 := by rw [O_136, Mo_full_ok, cH_s]
theorem n10 : ¬ (1 : Int32) = 0 := by decide
end BC
