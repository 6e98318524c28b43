/-! ===== plans: the class's search ===== -/
def enC (nf x : Nat) : Int32 := if x < nf then nI x else -1
def pJ (i : Nat → Nat → Int32) (m w : Int32) : Nat → Nat → Int32 := up2 (up2 i 124 1 m) 124 2 w
theorem pJ_u {i : Nat → Nat → Int32} {m w m' w' : Int32} : up2 (up2 (pJ i m w) 124 1 m') 124 2 w' = pJ i m' w' := by
  unfold pJ
  rw [up2_ck (b := 124) (k := 2) (k' := 1) (by omega), up2_u, up2_u]
theorem pJ_1 {i : Nat → Nat → Int32} {m w : Int32} : pJ i m w 124 1 = m := (up2_n (by omega)).trans up2_s
theorem pJ_2 {i : Nat → Nat → Int32} {m w : Int32} : pJ i m w 124 2 = w := up2_s
theorem pJ_n {i : Nat → Nat → Int32} {m w : Int32} {b k : Nat} (h : ¬ (b = 124 ∧ (k = 1 ∨ k = 2))) : pJ i m w b k = i b k := by
  unfold pJ
  rw [up2_n (by omega), up2_n (by omega)]
/-- the first row from r on, of m rows at most, that has day d -/
def frs (v : Nat → Int32) (d : Int32) : Nat → Nat → Nat
  | 0, r => r
  | m + 1, r => if v (98 + (r * 4 + 3)) = d then r else frs v d m (r + 1)
def drN (v : Nat → Int32) (k : Nat) : Nat := frs v (v (98 + (k * 4 + 3))) k 0
theorem frs_p (v : Nat → Int32) (d : Int32) : ∀ m r, r ≤ frs v d m r ∧ frs v d m r ≤ r + m ∧ (∀ e, r ≤ e → e < frs v d m r → ¬ v (98 + (e * 4 + 3)) = d) ∧ (frs v d m r < r + m → v (98 + (frs v d m r * 4 + 3)) = d)
  | 0, r => ⟨Nat.le_refl _, Nat.le_refl _, fun e h1 h2 => by unfold frs at h2; omega, fun h => by unfold frs at h; omega⟩
  | m + 1, r => by
    unfold frs
    by_cases h : v (98 + (r * 4 + 3)) = d
    · rw [if_pos h]
      exact ⟨Nat.le_refl _, by omega, fun e h1 h2 => by omega, fun _ => h⟩
    · rw [if_neg h]
      obtain ⟨h1, h2, h3, h4⟩ := frs_p v d m (r + 1)
      refine ⟨by omega, by omega, fun e q1 q2 => ?_, fun q => h4 (by omega)⟩
      by_cases e0 : e = r
      · rw [e0]; exact h
      · exact h3 e (by omega) q2
theorem dr_day (v : Nat → Int32) (k : Nat) : drN v k ≤ k ∧ v (98 + (drN v k * 4 + 3)) = v (98 + (k * 4 + 3)) ∧ ∀ e, e < drN v k → ¬ v (98 + (e * 4 + 3)) = v (98 + (k * 4 + 3)) := by
  obtain ⟨h1, h2, h3, h4⟩ := frs_p v (v (98 + (k * 4 + 3))) k 0
  have e : drN v k = frs v (v (98 + (k * 4 + 3))) k 0 := rfl
  rw [← e] at h1 h2 h3 h4
  refine ⟨by omega, ?_, fun e he => h3 e (by omega) he⟩
  by_cases q : drN v k < 0 + k
  · exact h4 q
  · rw [show drN v k = k by omega]
theorem dr_iff (v : Nat → Int32) (j k : Nat) : drN v j = drN v k ↔ v (98 + (j * 4 + 3)) = v (98 + (k * 4 + 3)) := by
  obtain ⟨-, a2, a3⟩ := dr_day v j
  obtain ⟨-, b2, b3⟩ := dr_day v k
  constructor
  · intro h
    rw [← a2, ← b2, h]
  · intro h
    rcases Nat.lt_trichotomy (drN v j) (drN v k) with e | e | e
    · exact absurd (a2.trans h) (b3 _ e)
    · exact e
    · exact absurd (b2.trans h.symm) (a3 _ e)
def sumR (v : Nat → Int32) (nf : Nat) (p : Nat → Nat) (r q : Nat) : Nat → Nat
  | 0 => 0
  | j + 1 => sumR v nf p r q j + if p j < nf ∧ drN v j = r ∧ v (14 + (p j * 7 + 1)) = nI q then wthN v j (p j) else 0
theorem sumR_c {v : Nat → Int32} {nf r q : Nat} {p p' : Nat → Nat} : ∀ j, (∀ e, e < j → p e = p' e) → sumR v nf p r q j = sumR v nf p' r q j
  | 0, _ => rfl
  | j + 1, h => by
    unfold sumR
    rw [sumR_c j (fun e he => h e (by omega)), h j (by omega)]
theorem sumR_N {v : Nat → Int32} {nf k f b : Nat} {p : Nat → Nat} (hb : v (14 + (f * 7 + 1)) = nI b) : ∀ j, j ≤ k → sumR v nf p (drN v k) b j = sumN v nf (stp p k f) k j
  | 0, _ => rfl
  | j + 1, hj => by
    have I := sumR_N (k := k) (nf := nf) (p := p) hb j (by omega)
    unfold sumR sumN
    rw [I, stp_n (p := p) (k := k) (x := f) (j := j) (by omega), stp_s, hb]
    simp only [dr_iff]
theorem bt_g {m f : Nat} (hm : m < 4096) (hf : f < 12) : (nI m &&& (1 <<< (nI f &&& 31))) = 0 ↔ ¬ m.testBit f = true := by
  have e : ∀ f, f < 12 → (1 : Int32) <<< (nI f &&& 31) = nI (2 ^ f) := by decide +kernel
  have hp : m &&& 2 ^ f ≤ m := Nat.and_le_left
  rw [e f hf, ← nI_and, nI_z (by omega)]
  constructor
  · intro h hb
    have := congrArg (fun x => x.testBit f) h
    simp only [Nat.testBit_and, hb, Nat.testBit_two_pow_self, Nat.zero_testBit] at this
    exact absurd this (by decide)
  · intro h
    apply Nat.eq_of_testBit_eq
    intro q
    rw [Nat.testBit_and, Nat.zero_testBit]
    by_cases eq : f = q
    · subst eq
      rw [Bool.not_eq_true] at h
      rw [h]
      rfl
    · rw [Nat.testBit_two_pow_of_ne eq, Bool.and_false]
theorem bt_h {m f : Nat} (hm : m < 4096) (hf : f < 12) : nI m ||| (1 <<< (nI f &&& 31)) = nI (m ||| 2 ^ f) ∧ m ||| 2 ^ f < 4096 := by
  have e : ∀ f, f < 12 → (1 : Int32) <<< (nI f &&& 31) = nI (2 ^ f) := by decide +kernel
  rw [e f hf, nI_or]
  exact ⟨rfl, or_lt2 (n := 12) hm (Nat.pow_lt_pow_right (by omega) hf)⟩
theorem room_lt {s t w : Nat} (hs : s < 10000) (ht : t < 10000) (hw : w < 10000) : (nI s - nI t < nI w) = (s < t + w) := by
  rw [Int32.lt_iff_toInt_lt, Int32.toInt_sub, nI_toInt (by omega), nI_toInt (by omega), nI_toInt (by omega), Int.bmod_eq_of_le (by omega) (by omega)]
  apply propext
  omega
/-- the class's tables of a plan -/
def PlS (i a : Nat → Nat → Int32) (v : Nat → Int32) (nf nn : Nat) : Prop := (i 124 3 = nI nn ∧ i 124 4 = nI nf ∧ i 125 2 = nI nn ∧ i 127 2 = nI nn) ∧ (∀ f, f < nf → a 130 f = v (14 + (f * 7 + 1))) ∧ (∀ k, k < nn → a 129 k = nI (drN v k)) ∧ (∀ k, k < nn → ∀ f, f < nf → a 126 (k * 12 + f) = nI (vlN v k f)) ∧ ∀ k, k ≤ nn → a 131 k = nI (hopD v nf nn (nn - k)) ∧ a 132 k = nI (cstD v nf nn (nn - k))
def SrSt (i a : Nat → Nat → Int32) (v : Nat → Int32) (n nf nn k : Nat) (p : Nat → Nat) (mk : Nat) : Prop := PlS i a v nf nn ∧ (∀ r q, r < nn → q < n → a 128 (r * 6 + q) = v (2 + q) - nI (sumR v nf p r q k)) ∧ (∀ j, j < k → p j ≤ nf ∧ okN v nf p j) ∧ mk < 4096 ∧ (∀ f, f < nf → (mk.testBit f = true ↔ ∃ j, j < k ∧ p j = f)) ∧ ∀ j, j < k → a 133 j = enC nf (p j)
def SrRes (l : Nat → Nat → Int64) (v : Nat → Int32) (nf nn : Nat) (out : Option Hp) (i a : Nat → Nat → Int32) (k : Nat) (p : Nat → Nat) : Prop := ∃ a2 m2 w2, out = some (mkH (pJ i m2 w2) l a2) ∧ (∀ b, b ≠ 133 → b ≠ 134 → a2 b = a b) ∧ (∀ j, j < k → a2 133 j = a 133 j) ∧ Bst v nf nn (enC nf) (fun c => bef k p 0 c ∨ ∀ e, e < k → c e = p e) m2 w2 (a2 134)
theorem SrSt.c {i a a' : Nat → Nat → Int32} {v : Nat → Int32} {n nf nn k mk : Nat} {p : Nat → Nat} (h1 : ∀ b, b ≠ 133 → b ≠ 134 → a' b = a b) (h2 : ∀ j, j < k → a' 133 j = a 133 j) (h : SrSt i a v n nf nn k p mk) : SrSt i a' v n nf nn k p mk := by
  obtain ⟨⟨g1, g2, g3, g4, g5⟩, g6, g7, g8, g9, g10⟩ := h
  refine ⟨⟨g1, ?_, ?_, ?_, ?_⟩, ?_, g7, g8, g9, fun j hj => by rw [h2 j hj]; exact g10 j hj⟩
  · rw [h1 130 (by omega) (by omega)]; exact g2
  · rw [h1 129 (by omega) (by omega)]; exact g3
  · rw [h1 126 (by omega) (by omega)]; exact g4
  · rw [h1 131 (by omega) (by omega), h1 132 (by omega) (by omega)]; exact g5
  · rw [h1 128 (by omega) (by omega)]; exact g6
theorem SrRes.c {l : Nat → Nat → Int64} {i a a' : Nat → Nat → Int32} {v : Nat → Int32} {nf nn k : Nat} {p : Nat → Nat} {out : Option Hp} (h1 : ∀ b, b ≠ 133 → b ≠ 134 → a' b = a b) (h2 : ∀ j, j < k → a' 133 j = a 133 j) (h : SrRes l v nf nn out i a' k p) : SrRes l v nf nn out i a k p := by
  obtain ⟨a2, m2, w2, g1, g2, g3, g4⟩ := h
  exact ⟨a2, m2, w2, g1, fun b q1 q2 => (g2 b q1 q2).trans (h1 b q1 q2), fun j hj => (g3 j hj).trans (h2 j hj), g4⟩
theorem sumN_b {v : Nat → Int32} {nf nn k : Nat} {c : Nat → Nat} (hw : ∀ k f, k < nn → f < nf → wthN v k f ≤ 49) : ∀ j, j ≤ nn → sumN v nf c k j ≤ 49 * j
  | 0, _ => Nat.le_refl _
  | j + 1, hj => by
    have I := sumN_b (k := k) (c := c) hw j (by omega)
    unfold sumN
    split
    · next h =>
      have := hw j _ (by omega) h.1
      omega
    · omega
theorem hopD_b {v : Nat → Int32} {nf nn : Nat} : ∀ d, hopD v nf nn d ≤ d
  | 0 => Nat.le_refl _
  | d + 1 => by
    have := hopD_b (v := v) (nf := nf) (nn := nn) d
    unfold hopD
    split <;> omega
section CS
variable {i : Nat → Nat → Int32} {l : Nat → Nat → Int64} {a i0 a0' : Nat → Nat → Int32} {v : Nat → Int32} {n nf nn np dy : Nat}
theorem cstD_b (hN : Now i0 a0' v n nf nn np dy) : ∀ d, d ≤ nn → cstD v nf nn d ≤ 49 * d
  | 0, _ => Nat.le_refl _
  | d + 1, hd => by
    have I := cstD_b hN d (by omega)
    have J := lvN_b (v := v) (k := nn - (d + 1)) (b := 49) nf (fun f hf => vlN_b hN (by omega) hf)
    unfold cstD
    omega
theorem nob_ok (m w x y : Int32) : ((x < m ∨ (x = m ∧ w ≤ y)) ∧ f_Pl_isNoBetter (mkH (pJ i m w) l a) 124 x y = some 1) ∨ ((m < x ∨ (m = x ∧ y < w)) ∧ f_Pl_isNoBetter (mkH (pJ i m w) l a) 124 x y = some 0) := by
  unfold f_Pl_isNoBetter f_Pl_isNoBetter_b24 f_Pl_isNoBetter_b28 f_Pl_isNoBetter_b29
  simp only [g_124_1, g_124_2, pJ_1, pJ_2, zR_0, zR_1]
  by_cases e1 : x < m
  · rw [if_pos e1]
    exact Or.inl ⟨Or.inl e1, rfl⟩
  · rw [if_neg e1]
    by_cases e2 : x = m
    · rw [if_pos e2]
      by_cases e3 : y < w
      · rw [if_pos e3]
        exact Or.inr ⟨Or.inr ⟨e2.symm, e3⟩, rfl⟩
      · rw [if_neg e3]
        exact Or.inl ⟨Or.inr ⟨e2, Int32.not_lt.mp e3⟩, rfl⟩
    · rw [if_neg e2]
      exact Or.inr ⟨Or.inl (Int32.lt_of_le_of_ne (Int32.not_lt.mp e1) (fun h => e2 h.symm)), rfl⟩
theorem keep_loop (hnn : nn ≤ 5) (h3 : i 124 3 = nI nn) : ∀ (fu j : Nat) (a : Nat → Nat → Int32), j ≤ nn → nn - j < fu → (∀ e, e < j → a 134 e = a 133 e) → ∃ g, f_Pl_keepIfBetter_b22 fu (mkH i l a) 124 (nI j) = some (mkH i l (va_up a 134 g)) ∧ ∀ e, e < nn → g e = a 133 e := by
  intro fu
  induction fu with
  | zero => intro j _ _ h; omega
  | succ fu ih =>
    intro j a hj hf hE
    show ∃ g, f_Pl_keepIfBetter_b22_k (f_Pl_keepIfBetter_b22 fu) _ _ _ = _ ∧ _
    unfold f_Pl_keepIfBetter_b22_k
    by_cases h : j = nn
    · subst h
      exact ⟨a 134, by rw [g_124_3, h3, ifn_y (by omega) (by omega) (by omega), vu_id (f := a) (b := 134) rfl], hE⟩
    · rw [g_124_3, h3, ifn_n (by omega) (by omega) (by omega), r_124_12, r_124_11, a_133 (by omega), s_134 (by omega), nI_s1]
      obtain ⟨g, g1, g2⟩ := ih (j + 1) (va_up a 134 (upd (a 134) j (a 133 j))) (by omega) (by omega) (fun e he => by
        rw [vu_s, vu_n (by omega)]
        by_cases ee : e = j
        · rw [ee, ud_s]
        · rw [ud_n ee]
          exact hE e (by omega))
      rw [vu_u] at g1
      exact ⟨g, g1, fun e he => (g2 e he).trans (by rw [vu_n (by omega)])⟩
/-- a row that can't be taken changes nothing -/
theorem no_more {k f : Nat} {p : Nat → Nat} {m w : Int32} {row : Nat → Int32} (hk : k < nn) (hO : ¬ okN v nf (stp p k f) k) (hB : Bst v nf nn (enC nf) (bef k p f) m w row) : Bst v nf nn (enC nf) (bef k p (f + 1)) m w row := by
  refine hB.mono fun c' ho => ?_
  rw [bef_s]
  constructor
  · exact Or.inl
  · rintro (h | h)
    · exact h
    · refine absurd (okN_c (fun e he => ?_) (ho k hk)) hO
      by_cases ee : e = k
      · rw [ee, stp_s]; exact h.2
      · rw [stp_n ee]; exact h.1 e (by omega)
theorem sr_loop (hN : Now i0 a0' v n nf nn np dy) {k : Nat} (hk : k < nn) (sf : Hp → Nat → Int32 → Int32 → Int32 → Int32 → Option Hp) (hsf : ∀ (p : Nat → Nat) (mk : Nat) (a : Nat → Nat → Int32) (m w : Int32), SrSt i a v n nf nn (k + 1) p mk → Bst v nf nn (enC nf) (bef (k + 1) p 0) m w (a 134) → SrRes l v nf nn (sf (mkH (pJ i m w) l a) 124 (nI (k + 1)) (nI mk) (nI (cntN nf p (k + 1))) (nI (spnN v nf p (k + 1)))) i a (k + 1) p) {p : Nat → Nat} {mk : Nat} : ∀ (fu f : Nat) (a : Nat → Nat → Int32) (m w : Int32), f ≤ nf → nf - f < fu → SrSt i a v n nf nn k p mk → Bst v nf nn (enC nf) (bef k p f) m w (a 134) → SrRes l v nf nn (f_Pl_search_b56 sf fu (mkH (pJ i m w) l a) 124 (nI k) (nI mk) (nI (cntN nf p k)) (nI (spnN v nf p k)) (nI (drN v k)) (nI f)) i a k p := by
  have hn := hN.1.2.1
  have hnf := hN.1.2.2.1
  have hnn := hN.1.2.2.2.1
  have hw : ∀ k f, k < nn → f < nf → wthN v k f ≤ 49 := fun k f hk hf => (wth_ok hN hk hf).2
  intro fu
  induction fu with
  | zero => intro f _ _ _ _ h; omega
  | succ fu ih =>
    intro f a m w hf hfu hS hB
    obtain ⟨⟨⟨t1, t2, t3, t4⟩, g2, g3, g4, g5⟩, g6, g7, g8, g9, g10⟩ := id hS
    have T3 : pJ i m w 124 3 = nI nn := (pJ_n (by omega)).trans t1
    have T4 : pJ i m w 124 4 = nI nf := (pJ_n (by omega)).trans t2
    have T5 : pJ i m w 125 2 = nI nn := (pJ_n (by omega)).trans t3
    have T7 : pJ i m w 127 2 = nI nn := (pJ_n (by omega)).trans t4
    show SrRes l v nf nn (f_Pl_search_b56_k sf (f_Pl_search_b56 sf fu) _ _ _ _ _ _ _ _) i a k p
    unfold f_Pl_search_b56_k
    by_cases h : f = nf
    · subst h
      rw [g_124_4, T4, ifn_y (by omega) (by omega) (by omega), r_124_11, s_133 (by omega), nI_s1]
      have hC : cntN f (stp p k f) (k + 1) = cntN f p k := by
        show cntN f (stp p k f) k + (if stp p k f k < f then 1 else 0) = _
        rw [stp_s, if_neg (by omega), cntN_c k (fun e he => stp_n (by omega))]
        rfl
      have hP : spnN v f (stp p k f) (k + 1) = spnN v f p k := by
        show spnN v f (stp p k f) k + (if stp p k f k < f then wthN v k (stp p k f k) else 0) = _
        rw [stp_s, if_neg (by omega), spnN_c k (fun e he => stp_n (by omega))]
        rfl
      have hS1 : SrSt i (va_up a 133 (upd (a 133) k (-1))) v n f nn (k + 1) (stp p k f) mk := by
        refine ⟨⟨⟨t1, t2, t3, t4⟩, ?_, ?_, ?_, ?_⟩, fun r q hr hq => ?_, fun j hj => ?_, g8, fun x hx => ?_, fun j hj => ?_⟩
        · rw [vu_n (by omega)]; exact g2
        · rw [vu_n (by omega)]; exact g3
        · rw [vu_n (by omega)]; exact g4
        · rw [vu_n (by omega), vu_n (by omega)]; exact g5
        · rw [vu_n (by omega), g6 r q hr hq]
          have : sumR v f (stp p k f) r q (k + 1) = sumR v f p r q k := by
            show sumR v f (stp p k f) r q k + (if stp p k f k < f ∧ _ then _ else 0) = _
            rw [stp_s, if_neg (fun x => by omega), sumR_c k (fun e he => stp_n (by omega))]
            rfl
          rw [this]
        · by_cases e : j = k
          · rw [e]
            exact ⟨by rw [stp_s]; exact Nat.le_refl _, Or.inl stp_s⟩
          · exact ⟨by rw [stp_n e]; exact (g7 j (by omega)).1, okN_c (fun e' he => (stp_n (by omega)).symm) (g7 j (by omega)).2⟩
        · rw [g9 x hx]
          constructor
          · rintro ⟨j, hj, e⟩
            exact ⟨j, by omega, (stp_n (by omega)).trans e⟩
          · rintro ⟨j, hj, e⟩
            by_cases ee : j = k
            · rw [ee, stp_s] at e
              omega
            · exact ⟨j, by omega, (stp_n ee).symm.trans e⟩
        · rw [vu_s]
          by_cases e : j = k
          · rw [e, ud_s, stp_s]
            exact (if_neg (by omega)).symm
          · rw [ud_n e, stp_n e]
            exact g10 j (by omega)
      have R := hsf (stp p k f) mk _ m w hS1 (by rw [vu_n (by omega)]; exact hB.mono fun c' _ => bef_up.symm)
      rw [hC, hP] at R
      obtain ⟨a2, m2, w2, k1, k2, k3, k4⟩ := R
      rw [k1, cP_s]
      refine ⟨a2, m2, w2, rfl, fun b h1 h2 => (k2 b h1 h2).trans (vu_n h1), fun j hj => (k3 j (by omega)).trans (by rw [vu_s, ud_n (by omega)]), k4.mono fun c' ho => ?_⟩
      rw [bef_up]
      have hck := okA_le ho hk
      constructor
      · rintro ((h1 | ⟨h1, h2⟩) | h1)
        · exact Or.inl (Or.inl h1)
        · exact Or.inr h1
        · exact Or.inr fun e he => (h1 e (by omega)).trans (stp_n (by omega))
      · rintro ((h1 | ⟨h1, h2⟩) | h1)
        · exact Or.inl (Or.inl h1)
        · omega
        · by_cases e : c' k = f
          · right
            intro e' he
            by_cases ee : e' = k
            · rw [ee, stp_s]; exact e
            · rw [stp_n ee]; exact h1 e' (by omega)
          · exact Or.inl (Or.inr ⟨h1, by omega⟩)
    · have hfn : f < nf := by omega
      have W := wth_ok hN hk hfn
      have NEXT : ¬ okN v nf (stp p k f) k → SrRes l v nf nn (f_Pl_search_b56 sf fu (mkH (pJ i m w) l a) 124 (nI k) (nI mk) (nI (cntN nf p k)) (nI (spnN v nf p k)) (nI (drN v k)) (nI (f + 1))) i a k p := fun hO => ih (f + 1) a m w (by omega) (by omega) hS (no_more hk hO hB)
      have V126 : a (125 + 1) (k * 12 + f) = nI (vlN v k f) := g4 k hk f hfn
      have VB := vlN_b hN hk hfn
      rw [g_124_4, T4, ifn_n (by omega) (by omega) (by omega), r_124_5, o_125, Ta_at_in (t := 125) (m := 5) (w := 12) (by decide) T5 (by omega) hk (by omega), cP_s, V126]
      unfold f_Pl_search_b95 f_Pl_search_b96 f_Pl_search_b190
      simp only [if_true, n10, if_false, nI_s1]
      rcases may_vl hN hk hfn with ⟨hm, ev, hv0⟩ | ⟨hm, ev⟩
      · rw [ev] at hv0 ⊢
        rw [if_neg (c := nI (wthN v k f) ≤ 0) (show ¬ nI (wthN v k f) ≤ nI 0 by rw [nI_le' (by omega) (by omega)]; omega)]
        by_cases eu : (nI mk &&& (1 <<< (nI f &&& 31))) = 0
        · obtain ⟨b, eb, hb, -⟩ := by_n hN.sw.1 hfn
          have hfree : ¬ mk.testBit f = true := (bt_g g8 (by omega)).mp eu
          have hne : ∀ j, j < k → p j ≠ f := fun j hj e => hfree ((g9 f hfn).mpr ⟨j, hj, e⟩)
          obtain ⟨s, d, es, hs, -⟩ := hN.2.2.1.1 b hb
          have hdr := (dr_day v k).1
          have SR1 : sumR v nf p (drN v k) b k = sumN v nf (stp p k f) k k := sumR_N eb k (Nat.le_refl _)
          have SB := sumN_b (k := k) (c := stp p k f) hw k (by omega)
          have A130 : a 130 f = nI b := (g2 f hfn).trans eb
          have A128 : a (127 + 1) (drN v k * 6 + b) = nI s - nI (sumN v nf (stp p k f) k k) := by
            rw [← SR1, ← es]
            exact g6 _ b (by omega) hb
          have ORM : okN v nf (stp p k f) k ↔ sumN v nf (stp p k f) k k + wthN v k f ≤ s := by
            unfold okN
            rw [stp_s, eb, nI_cl (by omega), es, nI_le' (by omega) (by omega)]
            constructor
            · rintro (x | x)
              · omega
              · exact x.2.2.2
            · exact fun x => Or.inr ⟨hfn, hm, fun j hj => by rw [stp_n (by omega)]; exact hne j hj, x⟩
          rw [if_pos eu]
          simp only [r_124_6, r_124_8, a_130 (i := pJ i m w) (l := l) (a := a) (show f < 12 by omega), A130, o_127]
          rw [Ta_at_in (t := 127) (m := 5) (w := 6) (by decide) T7 (by omega) (by omega) (by omega), cP_s, A128]
          by_cases er : s < sumN v nf (stp p k f) k k + wthN v k f
          · rw [if_pos (by rw [room_lt (by omega) (by omega) (by omega)]; exact er)]
            exact NEXT (fun x => by have := ORM.mp x; omega)
          · have hO : okN v nf (stp p k f) k := ORM.mpr (by omega)
            rw [if_neg (by rw [room_lt (by omega) (by omega) (by omega)]; exact er), Ta_more_in (t := 127) (m := 5) (w := 6) (by decide) T7 (by omega) (by omega) (by omega), cP_s, r_124_11, s_133 (by omega), (bt_h g8 (show f < 12 by omega)).1, nI_add]
            have hC : cntN nf (stp p k f) (k + 1) = cntN nf p k + 1 := by
              show cntN nf (stp p k f) k + (if stp p k f k < nf then 1 else 0) = _
              rw [stp_s, if_pos hfn, cntN_c k (fun e he => stp_n (by omega))]
            have hP : spnN v nf (stp p k f) (k + 1) = spnN v nf p k + wthN v k f := by
              show spnN v nf (stp p k f) k + (if stp p k f k < nf then wthN v k (stp p k f k) else 0) = _
              rw [stp_s, if_pos hfn, spnN_c k (fun e he => stp_n (by omega))]
            rw [← hC, ← hP]
            have E128 : va_up a (127 + 1) (upd (a (127 + 1)) (drN v k * 6 + b) (a (127 + 1) (drN v k * 6 + b) + -nI (wthN v k f))) 128 = upd (a 128) (drN v k * 6 + b) (a 128 (drN v k * 6 + b) + -nI (wthN v k f)) := vu_s
            have hS1 : SrSt i (va_up (va_up a (127 + 1) (upd (a (127 + 1)) (drN v k * 6 + b) (a (127 + 1) (drN v k * 6 + b) + -nI (wthN v k f)))) 133 (upd (va_up a (127 + 1) (upd (a (127 + 1)) (drN v k * 6 + b) (a (127 + 1) (drN v k * 6 + b) + -nI (wthN v k f))) 133) k (nI f))) v n nf nn (k + 1) (stp p k f) (mk ||| 2 ^ f) := by
              refine ⟨⟨⟨t1, t2, t3, t4⟩, ?_, ?_, ?_, ?_⟩, fun r q hr hq => ?_, fun j hj => ?_, (bt_h g8 (show f < 12 by omega)).2, fun x hx => ?_, fun j hj => ?_⟩
              · rw [vu_n (by omega), vu_n (by omega)]; exact g2
              · rw [vu_n (by omega), vu_n (by omega)]; exact g3
              · rw [vu_n (by omega), vu_n (by omega)]; exact g4
              · rw [vu_n (by omega), vu_n (by omega), vu_n (by omega), vu_n (by omega)]; exact g5
              · have SP : sumR v nf (stp p k f) r q (k + 1) = sumR v nf p r q k + if drN v k = r ∧ b = q then wthN v k f else 0 := by
                  show sumR v nf (stp p k f) r q k + (if stp p k f k < nf ∧ drN v k = r ∧ v (14 + (stp p k f k * 7 + 1)) = nI q then wthN v k (stp p k f k) else 0) = _
                  rw [stp_s, sumR_c k (fun e he => stp_n (by omega)), eb]
                  congr 1
                  by_cases c : drN v k = r ∧ b = q
                  · rw [if_pos c, if_pos ⟨hfn, c.1, by rw [c.2]⟩]
                  · rw [if_neg c, if_neg (fun x => c ⟨x.2.1, ?_⟩)]
                    have := x.2.2
                    rw [nI_eq' (by omega) (by omega)] at this
                    exact this
                rw [vu_n (by omega), E128, SP]
                by_cases c : drN v k = r ∧ b = q
                · rw [if_pos c, ← c.1, ← c.2, ud_s, g6 _ b (by omega) hb, ← nI_add, Int32.sub_eq_add_neg, Int32.sub_eq_add_neg, Int32.neg_add, Int32.sub_eq_add_neg, Int32.add_assoc]
                · rw [if_neg c, ud_n (by omega), g6 r q hr hq]
                  rfl
              · by_cases e : j = k
                · rw [e]
                  exact ⟨by rw [stp_s]; omega, hO⟩
                · exact ⟨by rw [stp_n e]; exact (g7 j (by omega)).1, okN_c (fun e' he => (stp_n (by omega)).symm) (g7 j (by omega)).2⟩
              · rw [Nat.testBit_or, Bool.or_eq_true, g9 x hx, p_bit]
                constructor
                · rintro (⟨j, hj, e⟩ | e)
                  · exact ⟨j, by omega, (stp_n (by omega)).trans e⟩
                  · exact ⟨k, by omega, stp_s.trans e⟩
                · rintro ⟨j, hj, e⟩
                  by_cases ee : j = k
                  · rw [ee, stp_s] at e
                    exact Or.inr e
                  · exact Or.inl ⟨j, by omega, (stp_n ee).symm.trans e⟩
              · rw [vu_s]
                by_cases e : j = k
                · rw [e, ud_s, stp_s]
                  exact (if_pos hfn).symm
                · rw [ud_n e, stp_n e, vu_n (by omega)]
                  exact g10 j (by omega)
            obtain ⟨a2, m2, w2, k1, k2, k3, k4⟩ := hsf (stp p k f) (mk ||| 2 ^ f) _ m w hS1 (by rw [vu_n (by omega), vu_n (by omega)]; exact hB.mono fun c' _ => bef_up.symm)
            have K2 : ∀ b', b' ≠ 133 → b' ≠ 134 → b' ≠ 128 → a2 b' = a b' := fun b' h1 h2 h3 => (k2 b' h1 h2).trans ((vu_n h1).trans (vu_n h3))
            have K128 : a2 128 = upd (a 128) (drN v k * 6 + b) (a 128 (drN v k * 6 + b) + -nI (wthN v k f)) := (k2 128 (by omega) (by omega)).trans ((vu_n (by omega)).trans E128)
            have A130' : a2 130 f = nI b := by rw [K2 130 (by omega) (by omega) (by omega)]; exact A130
            rw [k1, cP_s, r_124_6, r_124_8, a_130 (show f < 12 by omega), A130', o_127, Ta_more_in (t := 127) (m := 5) (w := 6) (by decide) ((pJ_n (by omega)).trans t4) (by omega) (by omega) (by omega), cP_s]
            have F128 : upd (a2 (127 + 1)) (drN v k * 6 + b) (a2 (127 + 1) (drN v k * 6 + b) + nI (wthN v k f)) = a 128 := by
              show upd (a2 128) (drN v k * 6 + b) (a2 128 (drN v k * 6 + b) + nI (wthN v k f)) = a 128
              rw [K128]
              funext x
              by_cases e : x = drN v k * 6 + b
              · rw [e, ud_s, ud_s, Int32.add_assoc, Int32.add_left_neg, Int32.add_zero]
              · rw [ud_n e, ud_n e]
            rw [F128]
            have J1 : ∀ b', b' ≠ 133 → b' ≠ 134 → va_up a2 (127 + 1) (a 128) b' = a b' := fun b' h1 h2 => by
              by_cases e : b' = 128
              · subst e
                exact vu_s
              · rw [vu_n e]
                exact K2 b' h1 h2 e
            have J2 : ∀ j, j < k → va_up a2 (127 + 1) (a 128) 133 j = a 133 j := fun j hj => by
              rw [vu_n (by omega), k3 j (by omega), vu_s, ud_n (by omega), vu_n (by omega)]
            refine SrRes.c J1 J2 (ih (f + 1) (va_up a2 (127 + 1) (a 128)) m2 w2 (by omega) (by omega) (hS.c J1 J2) ?_)
            rw [vu_n (by omega)]
            refine k4.mono fun c' ho => ?_
            rw [bef_up, bef_s]
            constructor
            · rintro (h1 | h1)
              · exact Or.inl h1
              · exact Or.inr ⟨fun e he => (h1 e (by omega)).trans (stp_n (by omega)), (h1 k (by omega)).trans stp_s⟩
            · rintro (h1 | h1)
              · exact Or.inl h1
              · right
                intro e' he
                by_cases ee : e' = k
                · rw [ee, stp_s]; exact h1.2
                · rw [stp_n ee]; exact h1.1 e' (by omega)
        · rw [if_neg eu]
          refine NEXT (fun x => ?_)
          have : mk.testBit f = true := Classical.byContradiction fun hc => eu ((bt_g g8 (by omega)).mpr hc)
          obtain ⟨j, hj, e⟩ := (g9 f hfn).mp this
          rcases x with x | x
          · rw [stp_s] at x
            omega
          · exact x.2.2.1 j hj (by rw [stp_s, stp_n (by omega)]; exact e)
      · rw [ev, if_pos (show nI 0 ≤ 0 by decide)]
        refine NEXT (fun x => ?_)
        rcases x with x | x
        · rw [stp_s] at x
          omega
        · have := x.2.1
          rw [stp_s] at this
          exact hm this
theorem search_ok (hN : Now i0 a0' v n nf nn np dy) : ∀ (rr k : Nat) (p : Nat → Nat) (mk : Nat) (a : Nat → Nat → Int32) (m w : Int32), k ≤ nn → nn - k < rr → SrSt i a v n nf nn k p mk → Bst v nf nn (enC nf) (bef k p 0) m w (a 134) → SrRes l v nf nn (f_Pl_search rr (mkH (pJ i m w) l a) 124 (nI k) (nI mk) (nI (cntN nf p k)) (nI (spnN v nf p k))) i a k p := by
  have hn := hN.1.2.1
  have hnf := hN.1.2.2.1
  have hnn := hN.1.2.2.2.1
  have hw : ∀ k f, k < nn → f < nf → wthN v k f ≤ 49 := fun k f hk hf => (wth_ok hN hk hf).2
  intro rr
  induction rr with
  | zero => intro k _ _ _ _ _ _ h; omega
  | succ rr ih =>
    intro k p mk a m w hk hrr hS hB
    obtain ⟨⟨⟨t1, t2, t3, t4⟩, g2, g3, g4, g5⟩, g6, g7, g8, g9, g10⟩ := id hS
    have T3 : pJ i m w 124 3 = nI nn := (pJ_n (by omega)).trans t1
    show SrRes l v nf nn (f_Pl_search_r (f_Pl_search rr) _ _ _ _ _ _) i a k p
    unfold f_Pl_search_r f_Pl_search_b12
    rw [if_neg (by rw [nI_lt0 (by omega)]; exact id), g_124_3, T3]
    by_cases h : k < nn
    · obtain ⟨h1, h2⟩ := g5 k hk
      have HB := hopD_b (v := v) (nf := nf) (nn := nn) (nn - k)
      have CB := cstD_b hN (nn - k) (by omega)
      have PC := cntN_b (nf := nf) (c := p) k
      have PS := spnN_b (c := p) hw k hk
      rw [if_pos (by rw [nI_lt' (by omega) (by omega)]; exact h), r_124_9, a_131 (by omega), h1, r_124_10, a_132 (by omega), h2, o_124, nI_add, nI_add]
      rcases nob_ok (i := i) (l := l) (a := a) m w (nI (cntN nf p k + hopD v nf nn (nn - k))) (nI (spnN v nf p k + cstD v nf nn (nn - k))) with ⟨q, f1⟩ | ⟨q, f1⟩
      · rw [f1, cP_s, if_neg n10]
        refine ⟨a, m, w, rfl, fun _ _ _ => rfl, fun _ _ => rfl, hB.skip hw hnn.2 (fun c' hc' ho => ?_) (fun c c' hc hc' => bef_pre hk hc hc')⟩
        have Q := hop_ok hN ho (nn - k) (by omega)
        rw [show nn - (nn - k) = k by omega, cntN_c k hc', spnN_c k hc'] at Q
        have CC := cntN_b (nf := nf) (c := c') nn
        have SS := spnN_b (c := c') hw nn (Nat.le_refl _)
        rcases q with q | ⟨q1, q2⟩
        · left
          refine Int32.lt_of_le_of_lt ?_ q
          rw [nI_le' (by omega) (by omega)]
          exact Q.1
        · by_cases e : cntN nf c' nn = cntN nf p k + hopD v nf nn (nn - k)
          · right
            rw [e]
            refine ⟨q1, Int32.le_trans q2 ?_⟩
            rw [nI_le' (by omega) (by omega)]
            exact Q.2 e
          · left
            rw [← q1, nI_lt' (by omega) (by omega)]
            omega
      · rw [f1, cP_s, if_pos rfl, r_124_7, a_129 (by omega), g3 k h]
        exact sr_loop hN h (f_Pl_search rr) (fun p' mk' a' m' w' s1 s2 => ih (k + 1) p' mk' a' m' w' (by omega) (by omega) s1 s2) FU 0 a m w (Nat.zero_le _) (FU_lt (by omega)) hS hB
    · have ek : k = nn := by omega
      subst ek
      rw [if_neg (by rw [nI_lt' (by omega) (by omega)]; exact h), o_124]
      unfold f_Pl_keepIfBetter
      have hok : okA v nf k p := fun j hj => (g7 j hj).2
      rcases nob_ok (i := i) (l := l) (a := a) m w (nI (cntN nf p k)) (nI (spnN v nf p k)) with ⟨q, f1⟩ | ⟨q, f1⟩
      · rw [o_124, f1, cP_s, if_neg n10, cP_s]
        exact ⟨a, m, w, rfl, fun _ _ _ => rfl, fun _ _ => rfl, hB.skip (T := fun c => ∀ e, e < k → c e = p e) hw hnn.2 (fun c' hc' _ => by rw [cntN_c k hc', spnN_c k hc']; exact q) (fun c c' hc hc' => bef_pre hk hc hc')⟩
      · obtain ⟨g, G1, G2⟩ := keep_loop (i := pJ i (nI (cntN nf p k)) (nI (spnN v nf p k))) (l := l) hnn.2 ((pJ_n (by omega)).trans t1) FU 0 a (Nat.zero_le _) (FU_lt (by omega)) (fun e he => by omega)
        have G1' : f_Pl_keepIfBetter_b22 FU (mkH (pJ i (nI (cntN nf p k)) (nI (spnN v nf p k))) l a) 124 0 = some (mkH (pJ i (nI (cntN nf p k)) (nI (spnN v nf p k))) l (va_up a 134 g)) := G1
        rw [o_124, f1, cP_s, if_pos rfl, p_124_1, p_124_2, pJ_u, G1', cP_s]
        refine ⟨va_up a 134 g, nI (cntN nf p k), nI (spnN v nf p k), rfl, fun b _ h2 => vu_n h2, fun j hj => by rw [vu_n (by omega)], ?_⟩
        rw [vu_s]
        exact hB.new hw hnn.2 hok (fun j hj => (G2 j hj).trans (g10 j hj)) q
end CS
