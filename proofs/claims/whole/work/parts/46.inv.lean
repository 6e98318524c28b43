/-! ===== values as numbers; what holds between the calls ===== -/
def fv (v : Nat → Int32) : Nat → Int32 := fun j => v (14 + j)
def valN (k w tl m d : Nat) : Nat :=
  if k = 1 then (if tl < d then 0 else w) - (d - m)
  else if k = 2 then w + (d - tl) / 10
  else if k = 3 then (if tl ≤ d then w else 0)
  else if k = 4 then (if tl < d then 0 else w) - 2 * (d - m)
  else (if tl < d then 0 else w)
theorem valN_le {k w tl m d : Nat} (hw : w ≤ 40) (hd : d ≤ 99) : valN k w tl m d ≤ 49 := by
  unfold valN
  split
  · split <;> omega
  · split
    · omega
    · split
      · split <;> omega
      · split
        · split <;> omega
        · split <;> omega
theorem mx_sub {x y : Nat} (hx : x < 2147483648) (hy : y < 2147483648) : mx 0 (nI x - nI y) = nI (x - y) := by
  by_cases h : y ≤ x
  · rw [nI_sub h, show (0 : Int32) = nI 0 from rfl, nI_mx (by omega) (by omega), Nat.max_eq_right (Nat.zero_le _)]
  · have e : nI x - nI y < 0 ∨ nI x - nI y = 0 := by
      left
      rw [Int32.lt_iff_toInt_lt, Int32.toInt_sub, nI_toInt (by omega), nI_toInt (by omega), Int32.toInt_zero]
      have h1 : (-2147483648 : Int) ≤ (x : Int) - y := by omega
      have h2 : (x : Int) - y < 0 := by omega
      rw [Int.bmod_eq_of_le (by omega) (by omega)]
      exact h2
    have e2 : ¬ 0 < nI x - nI y := by
      rcases e with e | e
      · exact fun h => absurd (Int32.lt_trans e h) (Int32.lt_irrefl)
      · rw [e]
        decide
    unfold mx
    rw [if_neg e2, Nat.sub_eq_zero_of_le (by omega)]
    rfl
theorem nI_div10 {x : Nat} (hx : x ≤ 99) : nI x / 10 = nI (x / 10) := by
  have : ∀ x, x ≤ 99 → nI x / 10 = nI (x / 10) := by decide +kernel
  exact this x hx
theorem valC_n {k w tl m d : Nat} {o : Int32} (hk : k ≤ 4) (hw : w ≤ 40) (ht : tl ≤ 99) (hm : m ≤ 99) (hd : d ≤ 99) : valC (nI k) o (nI w) (nI tl) (nI m) (nI d) = if o = -1 then 0 else nI (valN k w tl m d) := by
  unfold valC
  by_cases h0 : o = -1
  · rw [if_pos h0, if_pos h0]
  · rw [if_neg h0, if_neg h0]
    have p : (if nI tl < nI d then (0 : Int32) else nI w) = nI (if tl < d then 0 else w) := by
      by_cases h : tl < d
      · rw [if_pos h, if_pos (by rw [nI_lt' (by omega) (by omega)]; exact h)]
        rfl
      · rw [if_neg h, if_neg (by rw [nI_lt' (by omega) (by omega)]; exact h)]
    have hp : (if tl < d then 0 else w) ≤ 40 := by split <;> omega
    rw [p, mx_sub (by omega) (by omega), show (2 : Int32) = nI 2 from rfl, nI_mul, mx_sub (by omega) (by omega), mx_sub (by omega) (by omega), mx_sub (by omega) (by omega), nI_div10 (by omega), nI_add]
    have k1 : (nI k = 1) = (k = 1) := by rw [show (1 : Int32) = nI 1 from rfl, nI_eq' (by omega) (by omega)]
    have k2 : (nI k = nI 2) = (k = 2) := by rw [nI_eq' (by omega) (by omega)]
    have k3 : (nI k = 3) = (k = 3) := by rw [show (3 : Int32) = nI 3 from rfl, nI_eq' (by omega) (by omega)]
    have k4 : (nI k = 4) = (k = 4) := by rw [show (4 : Int32) = nI 4 from rfl, nI_eq' (by omega) (by omega)]
    have h3 : (if nI tl ≤ nI d then nI w else (0 : Int32)) = nI (if tl ≤ d then w else 0) := by
      by_cases h : tl ≤ d
      · rw [if_pos h, if_pos (by rw [nI_le' (by omega) (by omega)]; exact h)]
      · rw [if_neg h, if_neg (by rw [nI_le' (by omega) (by omega)]; exact h)]
        rfl
    rw [h3]
    simp only [k1, k2, k3, k4]
    unfold valN
    split
    · rfl
    · split
      · rfl
      · split
        · rfl
        · split
          · rfl
          · rfl
theorem valF_c {g g' : Nat → Int32} {f : Nat} {d : Int32} (h : ∀ k, k < 7 → g (f * 7 + k) = g' (f * 7 + k)) : valF g f d = valF g' f d := by
  unfold valF
  rw [h 0 (by omega), h 2 (by omega), h 4 (by omega), h 5 (by omega), h 6 (by omega)]
/-- a favour's worth by a row of the reference -/
theorem val_n {v : Nat → Int32} {n nf nn np dy f d : Nat} (hW : WFb v 0 n nf nn np dy) (hf : f < nf) (hd : d ≤ 99) : ∃ u, u ≤ 49 ∧ valF (fv v) f (nI d) = nI u := by
  obtain ⟨k, b, t, w, tl, m, ⟨e0, h0⟩, -, -, -, ⟨e4, -, h4⟩, ⟨e5, h5⟩, ⟨e6, h6⟩⟩ := hW.2.2.1 f hf
  simp only [Nat.zero_add] at e0 e4 e5 e6
  unfold valF fv
  rw [e0, e4, e5, e6, valC_n h0 h4 h5 h6 hd]
  split
  · exact ⟨0, by omega, rfl⟩
  · exact ⟨_, valN_le h4 hd, rfl⟩
section MV
variable {i : Nat → Nat → Int32} {l : Nat → Nat → Int64} {a : Nat → Nat → Int32} {n nf nn np dy : Nat}
theorem Mo_valueOf_ok (hW : WFb (a 137) 0 n nf nn np dy) {f d : Nat} (hf : f < nf) (hd : d ≤ 99) : f_Mo_valueOf (mkH i l a) 136 (nI f) (nI d) = some (valF (fv (a 137)) f (nI d)) := by
  have hnf : nf ≤ 12 := hW.1.2.2.1.2
  obtain ⟨k, b, t, w, tl, m, ⟨e0, h0⟩, -, -, -, ⟨e4, -, h4⟩, ⟨e5, h5⟩, ⟨e6, h6⟩⟩ := hW.2.2.1 f hf
  simp only [Nat.zero_add] at e0 e4 e5 e6
  unfold f_Mo_valueOf valF valC fv
  rw [o_136, Mo_told_ok (c := 2) (k := 2) rfl (by omega) (by omega), cP_s]
  by_cases h : a 137 (14 + (f * 7 + 2)) = -1
  · rw [if_pos h, if_pos h]
  · rw [if_neg h, if_neg h, o_136, Mo_told_ok (c := 4) (k := 4) rfl (by omega) (by omega), cP_s, o_136, Mo_told_ok (c := 5) (k := 5) rfl (by omega) (by omega), cP_s]
    have key : ∀ p : Int32, f_Mo_valueOf_b38 (mkH i l a) 136 (nI f) (nI d) (a 137 (14 + (f * 7 + 4))) (a 137 (14 + (f * 7 + 5))) p = some (if a 137 (14 + (f * 7 + 0)) = 1 then mx 0 (p - mx 0 (nI d - a 137 (14 + (f * 7 + 6)))) else if a 137 (14 + (f * 7 + 0)) = 2 then a 137 (14 + (f * 7 + 4)) + mx 0 (nI d - a 137 (14 + (f * 7 + 5))) / 10 else if a 137 (14 + (f * 7 + 0)) = 3 then (if a 137 (14 + (f * 7 + 5)) ≤ nI d then a 137 (14 + (f * 7 + 4)) else 0) else if a 137 (14 + (f * 7 + 0)) = 4 then mx 0 (p - 2 * mx 0 (nI d - a 137 (14 + (f * 7 + 6)))) else p) := by
      intro p
      unfold f_Mo_valueOf_b38
      rw [o_136, Mo_told_ok (c := 6) (k := 6) rfl (by omega) (by omega), cP_s, Mo_nb0, cP_s, o_136, Mo_told_ok (c := 0) (k := 0) rfl (by omega) (by omega), cP_s]
      by_cases h1 : a 137 (14 + (f * 7 + 0)) = 1
      · rw [if_pos h1, if_pos h1, Mo_nb0, cP_s]
      · rw [if_neg h1, if_neg h1]
        by_cases h2 : a 137 (14 + (f * 7 + 0)) = 2
        · rw [if_pos h2, if_pos h2, e4, e5, ← holy_eq h5 hd]
          by_cases h3 : nI d ≤ nI tl
          · rw [if_pos h3, if_pos h3]
            rfl
          · rw [if_neg h3, if_neg h3]
            rfl
        · rw [if_neg h2, if_neg h2]
          by_cases h3 : a 137 (14 + (f * 7 + 0)) = 3
          · rw [if_pos h3, if_pos h3]
            by_cases h4 : a 137 (14 + (f * 7 + 5)) ≤ nI d
            · rw [if_pos h4, if_pos h4]
              rfl
            · rw [if_neg h4, if_neg h4]
              rfl
          · rw [if_neg h3, if_neg h3]
            by_cases h4 : a 137 (14 + (f * 7 + 0)) = 4
            · rw [if_pos h4, if_pos h4, Mo_nb0, cP_s]
            · rw [if_neg h4, if_neg h4]
    by_cases h1 : a 137 (14 + (f * 7 + 5)) < nI d
    · rw [if_pos h1, key]
      simp only [if_pos h1]
    · rw [if_neg h1, key]
      simp only [if_neg h1]
theorem Mo_valueNow_ok (hW : WFb (a 137) 0 n nf nn np dy) {f : Nat} (hf : f < nf) : f_Mo_valueNow (mkH i l a) 136 (nI f) = some (valF (fv (a 137)) f (nI dy)) := by
  have hd := hW.1.1
  simp only [Nat.zero_add] at hd
  unfold f_Mo_valueNow
  rw [o_136, Mo_day_ok, cP_s, hd.1, o_136, Mo_valueOf_ok hW hf hd.2, cP_s]
end MV
/-! ===== the plan, as a predicate ===== -/
/-- need k can be met by favour f -/
def mayN (v : Nat → Int32) (k f : Nat) : Prop := v (14 + (f * 7 + 2)) = v (98 + (k * 4 + 0)) ∧ v (14 + (f * 7 + 3)) = v (98 + (k * 4 + 1)) ∧ v (98 + (k * 4 + 2)) ≤ valF (fv v) f (v (98 + (k * 4 + 3)))
/-- what favour f is worth for need k, as a number -/
def wthN (v : Nat → Int32) (k f : Nat) : Nat := (valF (fv v) f (v (98 + (k * 4 + 3)))).toNatClampNeg
/-- what who does the favour of need k does on its day for the needs ahead of j (nf: no favour) -/
def sumN (v : Nat → Int32) (nf : Nat) (c : Nat → Nat) (k : Nat) : Nat → Nat
  | 0 => 0
  | j + 1 => sumN v nf c k j + if c j < nf ∧ v (98 + (j * 4 + 3)) = v (98 + (k * 4 + 3)) ∧ v (14 + (c j * 7 + 1)) = v (14 + (c k * 7 + 1)) then wthN v j (c j) else 0
/-- need k's choice goes with those ahead of it -/
def okN (v : Nat → Int32) (nf : Nat) (c : Nat → Nat) (k : Nat) : Prop := c k = nf ∨ (c k < nf ∧ mayN v k (c k) ∧ (∀ j, j < k → c j ≠ c k) ∧ nI (sumN v nf c k k + wthN v k (c k)) ≤ v (2 + (v (14 + (c k * 7 + 1))).toNatClampNeg))
def cntN (nf : Nat) (c : Nat → Nat) : Nat → Nat
  | 0 => 0
  | j + 1 => cntN nf c j + if c j < nf then 1 else 0
def spnN (v : Nat → Int32) (nf : Nat) (c : Nat → Nat) : Nat → Nat
  | 0 => 0
  | j + 1 => spnN v nf c j + if c j < nf then wthN v j (c j) else 0
/-- c is not behind c' in the order of choices -/
def lexN (c c' : Nat → Nat) (nn : Nat) : Prop := (∀ k, k < nn → c k = c' k) ∨ ∃ k, k < nn ∧ (∀ j, j < k → c j = c' j) ∧ c k < c' k
def bestN (v : Nat → Int32) (nf nn : Nat) (c : Nat → Nat) : Prop := (∀ k, k < nn → okN v nf c k) ∧ ∀ c' : Nat → Nat, (∀ k, k < nn → okN v nf c' k) → cntN nf c' nn < cntN nf c nn ∨ (cntN nf c' nn = cntN nf c nn ∧ (spnN v nf c nn < spnN v nf c' nn ∨ (spnN v nf c' nn = spnN v nf c nn ∧ lexN c c' nn)))
def Pln (i : Nat → Nat → Int32) (a : Nat → Nat → Int32) (v : Nat → Int32) : Prop := i 124 0 = 1 ∨ (i 124 0 = 0 ∧ ∃ (nf nn : Nat) (c : Nat → Nat), v 158 = nI nf ∧ nf ≤ 12 ∧ v 159 = nI nn ∧ nn ≤ 5 ∧ bestN v nf nn c ∧ i 124 1 = nI (cntN nf c nn) ∧ i 124 2 = nI (spnN v nf c nn) ∧ ∀ k, k < nn → a 134 k = if c k < nf then nI (c k) else -1)
/-! ===== between the calls ===== -/
def Past (i a : Nat → Nat → Int32) (h : Nat) (w : Nat → Int32) (ow : Nat) : Prop := ∃ u : Nat, i h 3 = nI u ∧ w (ow + 161) = nI u ∧ u ≤ 2 ∧ (1 ≤ u → SW i a (h + 12) w (ow + (162 + 161 * (u - 1)))) ∧ (u = 2 → SW i a (h + 23) w (ow + 162))
def Img (i a : Nat → Nat → Int32) (h : Nat) (w : Nat → Int32) (ow j : Nat) : Prop := i h 4 = a 139 j ∧ (a 139 j = 0 ∨ (a 139 j = 1 ∧ SW i a (h + 1) w ow ∧ Past i a h w ow))
def Txt (i a : Nat → Nat → Int32) : Prop := ∃ bl : Nat, bl ≤ 250 ∧ i 104 1 = nI bl ∧ i 136 17 = nI bl ∧ (∀ j, j < bl → a 105 j = a 148 j ∧ ¬ a 105 j = -1) ∧ a 121 0 = 0
def Ref (i a : Nat → Nat → Int32) : Prop := i 0 10 = a 140 0 ∧ i 0 11 = a 140 1 ∧ i 0 12 = a 140 2
def Fra (l : Nat → Nat → Int64) : Prop := l 135 0 = l 136 4 ∧ l 135 1 = l 136 5
def RR (i : Nat → Nat → Int32) : Prop := i 11 2 = nI 4 ∧ i 22 2 = nI 4 ∧ i 33 2 = nI 4 ∧ i 45 2 = nI 4 ∧ i 56 2 = nI 4 ∧ i 67 2 = nI 4 ∧ i 79 2 = nI 4 ∧ i 90 2 = nI 4 ∧ i 101 2 = nI 4 ∧ i 115 2 = nI 4
def Inv (i : Nat → Nat → Int32) (l : Nat → Nat → Int64) (a : Nat → Nat → Int32) : Prop := SW i a 2 (a 137) 0 ∧ Past i a 1 (a 137) 0 ∧ Img i a 35 (a 138) 0 0 ∧ Img i a 69 (a 138) 484 1 ∧ RR i ∧ Txt i a ∧ Ref i a ∧ Fra l ∧ Pln i a (a 137)
/-- two pictures are alike on these cells -/
def Eq2 (P : Nat → Prop) (i a i' a' : Nat → Nat → Int32) : Prop := ∀ b, P b → (∀ k, i' b k = i b k) ∧ a' b = a b
theorem WFb.c {v v' : Nat → Int32} {o n nf nn np dy : Nat} (hv : ∀ j, j < 161 → v' (o + j) = v (o + j)) (h : WFb v o n nf nn np dy) : WFb v' o n nf nn np dy := by
  obtain ⟨⟨⟨a1, a2⟩, ⟨b1, b2⟩, ⟨c1, c2⟩, ⟨d1, d2⟩, ⟨e1, e2⟩⟩, h1, h2, h3, h4, h5⟩ := h
  refine ⟨⟨⟨by rw [hv _ (by omega)]; exact a1, a2⟩, ⟨by rw [hv _ (by omega)]; exact b1, b2⟩, ⟨by rw [hv _ (by omega)]; exact c1, c2⟩, ⟨by rw [hv _ (by omega)]; exact d1, d2⟩, ⟨by rw [hv _ (by omega)]; exact e1, e2⟩⟩, fun p hp => ?_, fun f hf => ?_, fun k hk => ?_, fun k hk => ?_, fun t ht => ?_⟩
  · rw [hv _ (by omega), hv _ (by omega)]
    exact h1 p hp
  · rw [hv _ (by omega), hv _ (by omega), hv _ (by omega), hv _ (by omega), hv _ (by omega), hv _ (by omega), hv _ (by omega)]
    exact h2 f hf
  · rw [hv _ (by omega), hv _ (by omega), hv _ (by omega), hv _ (by omega)]
    exact h3 k hk
  · rw [hv _ (by omega), hv _ (by omega), hv _ (by omega)]
    exact h4 k hk
  · rw [hv _ (by omega)]
    exact h5 t ht
theorem SR.c {i a i' a' : Nat → Nat → Int32} {q o n nf nn np : Nat} {v v' : Nat → Int32} (hE : Eq2 (fun b => q ≤ b ∧ b ≤ q + 10) i a i' a') (hv : ∀ j, j < 161 → v' (o + j) = v (o + j)) (h : SR i a q v o n nf nn np) : SR i' a' q v' o n nf nn np := by
  obtain ⟨⟨c0, c1, c2, c3, c4, c5⟩, h0, h1, h2, h3, h4, h5⟩ := h
  have hi : ∀ b k, q ≤ b → b ≤ q + 10 → i' b k = i b k := fun b k x y => (hE b ⟨x, y⟩).1 k
  have ha : ∀ b, q ≤ b → b ≤ q + 10 → a' b = a b := fun b x y => (hE b ⟨x, y⟩).2
  have b1 : n ≤ 6 := c1.2
  have b2 : nf ≤ 12 := c2.2
  have b3 : nn ≤ 5 := c3.2
  have b4 : np ≤ 12 := c4.2
  refine ⟨⟨c0, by rw [hi _ _ (by omega) (by omega)]; exact c1, by rw [hi _ _ (by omega) (by omega)]; exact c2, by rw [hi _ _ (by omega) (by omega)]; exact c3, by rw [hi _ _ (by omega) (by omega)]; exact c4, by rw [hi _ _ (by omega) (by omega)]; exact c5⟩, by rw [hi _ _ (by omega) (by omega), hv _ (by omega)]; exact h0, fun p hp => ?_, fun j hj => ?_, fun j hj => ?_, fun j hj => ?_, fun j hj => ?_⟩
  · rw [ha _ (by omega) (by omega), hv _ (by omega), hv _ (by omega)]
    exact h1 p hp
  · rw [ha _ (by omega) (by omega), hv _ (by omega)]
    exact h2 j hj
  · rw [ha _ (by omega) (by omega), hv _ (by omega)]
    exact h3 j hj
  · rw [ha _ (by omega) (by omega), hv _ (by omega)]
    exact h4 j hj
  · rw [ha _ (by omega) (by omega), hv _ (by omega)]
    exact h5 j hj
theorem SW.c {i a i' a' : Nat → Nat → Int32} {q o : Nat} {v v' : Nat → Int32} (hE : Eq2 (fun b => q ≤ b ∧ b ≤ q + 10) i a i' a') (hv : ∀ j, j < 161 → v' (o + j) = v (o + j)) (h : SW i a q v o) : SW i' a' q v' o := by
  obtain ⟨n, nf, nn, np, dy, h1, h2⟩ := h
  exact ⟨n, nf, nn, np, dy, h1.c hv, h2.c hE hv⟩
theorem Eq2.mono {P Q : Nat → Prop} {i a i' a' : Nat → Nat → Int32} (h : Eq2 P i a i' a') (hPQ : ∀ b, Q b → P b) : Eq2 Q i a i' a' := fun b hb => h b (hPQ b hb)
theorem Past.c {i a i' a' : Nat → Nat → Int32} {h ow : Nat} {w w' : Nat → Int32} (hE : Eq2 (fun b => b = h ∨ (h + 12 ≤ b ∧ b ≤ h + 33)) i a i' a') (hv : ∀ j, 161 ≤ j → j < 484 → w' (ow + j) = w (ow + j)) (H : Past i a h w ow) : Past i' a' h w' ow := by
  obtain ⟨u, h1, h2, h3, h4, h5⟩ := H
  refine ⟨u, by rw [(hE h (Or.inl rfl)).1]; exact h1, by rw [hv _ (by omega) (by omega)]; exact h2, h3, fun hu => (h4 hu).c (hE.mono fun b hb => Or.inr ⟨by omega, by omega⟩) (fun j hj => ?_), fun hu => (h5 hu).c (hE.mono fun b hb => Or.inr ⟨by omega, by omega⟩) (fun j hj => ?_)⟩
  · rw [Nat.add_assoc]
    exact hv _ (by omega) (by omega)
  · rw [Nat.add_assoc]
    exact hv _ (by omega) (by omega)
theorem Img.c {i a i' a' : Nat → Nat → Int32} {h ow j : Nat} {w w' : Nat → Int32} (hE : Eq2 (fun b => h ≤ b ∧ b ≤ h + 33) i a i' a') (hk : a' 139 = a 139) (hv : ∀ j, j < 484 → w' (ow + j) = w (ow + j)) (H : Img i a h w ow j) : Img i' a' h w' ow j := by
  obtain ⟨h1, h2⟩ := H
  refine ⟨by rw [(hE h ⟨by omega, by omega⟩).1, hk]; exact h1, ?_⟩
  rw [hk]
  rcases h2 with h2 | ⟨h2, h3, h4⟩
  · exact Or.inl h2
  · exact Or.inr ⟨h2, h3.c (hE.mono fun b hb => ⟨by omega, by omega⟩) (fun j hj => hv j (by omega)), h4.c (hE.mono fun b hb => by constructor <;> omega) (fun j _ hj => hv j hj)⟩
/-- the cells that a call on the street alone leaves as they are -/
def Away (b : Nat) : Prop := b = 1 ∨ (13 ≤ b ∧ b ≤ 102) ∨ b = 104 ∨ b = 105 ∨ b = 138 ∨ b = 139 ∨ b = 148 ∨ b = 121
theorem inv_now {i a i' a' : Nat → Nat → Int32} {l l' : Nat → Nat → Int64} (H : Inv i l a) (hE : Eq2 Away i a i' a') (hN : SW i' a' 2 (a' 137) 0) (hP : ∀ j, 161 ≤ j → j < 484 → a' 137 j = a 137 j) (hT : i' 136 17 = i 136 17) (hR : i' 11 2 = nI 4 ∧ i' 115 2 = nI 4) (hRf : Ref i' a') (hF : Fra l') (hPl : Pln i' a' (a' 137)) : Inv i' l' a' := by
  obtain ⟨h1, h2, h3, h4, h5, h6, h7, h8, h9⟩ := H
  refine ⟨hN, h2.c (hE.mono fun b hb => ?_) (fun j x y => by rw [Nat.zero_add]; exact hP j x y), h3.c (hE.mono fun b hb => ?_) (hE 139 (by unfold Away; omega)).2 (fun j _ => by rw [(hE 138 (by unfold Away; omega)).2]), h4.c (hE.mono fun b hb => ?_) (hE 139 (by unfold Away; omega)).2 (fun j _ => by rw [(hE 138 (by unfold Away; omega)).2]), ?_, ?_, hRf, hF, hPl⟩
  · unfold Away; omega
  · unfold Away; omega
  · unfold Away; omega
  · obtain ⟨g1, g2, g3, g4, g5, g6, g7, g8, g9, g10⟩ := h5
    refine ⟨hR.1, ?_, ?_, ?_, ?_, ?_, ?_, ?_, ?_, hR.2⟩ <;> (rw [(hE _ (by unfold Away; omega)).1]; assumption)
  · obtain ⟨bl, g1, g2, g3, g4, g5⟩ := h6
    exact ⟨bl, g1, by rw [(hE 104 (by unfold Away; omega)).1]; exact g2, by rw [hT]; exact g3, fun j hj => by rw [(hE 105 (by unfold Away; omega)).2, (hE 148 (by unfold Away; omega)).2]; exact g4 j hj, by rw [(hE 121 (by unfold Away; omega)).2]; exact g5⟩
