/-! ===== tables ===== -/
/-- t is a table of at most m rows of width w -/
def tok (t m w : Nat) : Bool := gok t 7 && rok t 1 7 && gok (t + 1) 11 && Nat.beq (RDf t 1) (t + 1) && Nat.beq (WDn t) w && Nat.beq (ZD (t + 1)) (m * w) && Nat.ble 1 w && Nat.ble (m * w) 1000
theorem tok_k {t m w : Nat} (h : tok t m w = true) : gok t 7 = true ∧ rok t 1 7 = true ∧ gok (t + 1) 11 = true ∧ RDf t 1 = t + 1 ∧ WDn t = w ∧ ZD (t + 1) = m * w ∧ 1 ≤ w ∧ m * w ≤ 1000 := by
  unfold tok at h
  simp only [Bool.and_eq_true] at h
  obtain ⟨⟨⟨⟨⟨⟨⟨h1, h2⟩, h3⟩, h4⟩, h5⟩, h6⟩, h7⟩, h8⟩ := h
  exact ⟨h1, h2, h3, Nat.eq_of_beq_eq_true h4, Nat.eq_of_beq_eq_true h5, Nat.eq_of_beq_eq_true h6, Nat.le_of_ble_eq_true h7, Nat.le_of_ble_eq_true h8⟩
/-- a row's place -/
theorem row_lt {p m k w : Nat} (hp : p < m) (hk : k < w) : p * w + k < m * w := by
  have h1 : (p + 1) * w ≤ m * w := Nat.mul_le_mul_right w hp
  rw [Nat.add_mul, Nat.one_mul] at h1
  omega
section TB
variable {i : Nat → Nat → Int32} {l : Nat → Nat → Int64} {a : Nat → Nat → Int32} {t m w : Nat}
theorem Ta_place_in (hT : tok t m w = true) {R p k : Nat} (hR : i t 2 = nI R) (hm : R ≤ m) (hp : p < R) (hk : k < w) : f_Ta_placeOf (mkH i l a) t (nI p) (nI k) = some (nI (p * w + k)) := by
  obtain ⟨h1, h2, h3, h4, h5, h6, h7, h8⟩ := tok_k hT
  have hw : w ≤ 1000 := by
    have : 1 * w ≤ m * w := Nat.mul_le_mul_right w (by omega)
    omega
  have hR2 : R ≤ 1000 := by
    have : R * 1 ≤ m * w := Nat.mul_le_mul hm h7
    omega
  unfold f_Ta_placeOf
  rw [if_neg (by rw [nI_lt0 (by omega)]; exact id), m_gI h1 rfl, hR, if_neg (by rw [nI_le' (by omega) (by omega)]; omega), if_neg (by rw [nI_lt0 (by omega)]; exact id), m_gW h1, h5, if_neg (by rw [nI_le' (by omega) (by omega)]; omega)]
  unfold f_Ta_placeOf_b29
  rw [if_neg (by decide), m_gW h1, h5]
  unfold f_Ta_placeOf_b46
  rw [nI_mul, nI_add]
theorem Ta_place_out (hT : tok t m w = true) {r c : Int32} (hr : r < 0 ∨ i t 2 ≤ r) : f_Ta_placeOf (mkH i l a) t r c = some (-1) := by
  obtain ⟨h1, h2, h3, h4, h5, h6, h7, h8⟩ := tok_k hT
  have hb : f_Ta_placeOf_b28 (mkH i l a) t r c = some (-1) := by
    unfold f_Ta_placeOf_b28 f_Ta_placeOf_b29
    rw [if_pos rfl]
    rfl
  unfold f_Ta_placeOf
  by_cases h : r < 0
  · rw [if_pos h, hb]
  · rw [if_neg h, m_gI h1 rfl, if_pos (by rcases hr with h' | h'; exact absurd h' h; exact h'), hb]
theorem Ta_at_in (hT : tok t m w = true) {R p k : Nat} (hR : i t 2 = nI R) (hm : R ≤ m) (hp : p < R) (hk : k < w) : f_Ta_at (mkH i l a) t (nI p) (nI k) = some (a (t + 1) (p * w + k)) := by
  obtain ⟨h1, h2, h3, h4, h5, h6, h7, h8⟩ := tok_k hT
  have hq := row_lt (Nat.lt_of_lt_of_le hp hm) hk
  unfold f_Ta_at
  rw [m_vP h1, Ta_place_in hT hR hm hp hk, cP_s, if_neg (by rw [nI_lt0 (by omega)]; exact id), m_gR h2, h4, m_aL h3, h6, if_neg (by rw [nI_le' (by omega) (by omega)]; omega), m_gR h2, h4, m_aI h3 (zok_of h6 hq (by omega))]
  rfl
theorem Ta_at_out (hT : tok t m w = true) {r c : Int32} (hr : r < 0 ∨ i t 2 ≤ r) : f_Ta_at (mkH i l a) t r c = some 0 := by
  obtain ⟨h1, -⟩ := tok_k hT
  unfold f_Ta_at
  rw [m_vP h1, Ta_place_out hT hr, cP_s, if_pos (by decide)]
  rfl
theorem Ta_put_in (hT : tok t m w = true) {R p k : Nat} {v : Int32} (hR : i t 2 = nI R) (hm : R ≤ m) (hp : p < R) (hk : k < w) : f_Ta_put (mkH i l a) t (nI p) (nI k) v = some (mkH i l (va_up a (t + 1) (upd (a (t + 1)) (p * w + k) v))) := by
  obtain ⟨h1, h2, h3, h4, h5, h6, h7, h8⟩ := tok_k hT
  have hq := row_lt (Nat.lt_of_lt_of_le hp hm) hk
  unfold f_Ta_put
  rw [m_vP h1, Ta_place_in hT hR hm hp hk, cP_s, if_neg (by rw [nI_lt0 (by omega)]; exact id), m_gR h2, h4, m_aL h3, h6, if_neg (by rw [nI_le' (by omega) (by omega)]; omega), m_gR h2, h4, m_sI h3 (zok_of h6 hq (by omega))]
  rfl
theorem Ta_put_out (hT : tok t m w = true) {r c v : Int32} (hr : r < 0 ∨ i t 2 ≤ r) : f_Ta_put (mkH i l a) t r c v = some (mkH i l a) := by
  obtain ⟨h1, -⟩ := tok_k hT
  unfold f_Ta_put
  rw [m_vP h1, Ta_place_out hT hr, cP_s, if_pos (by decide)]
  rfl
theorem Ta_more_in (hT : tok t m w = true) {R p k : Nat} {v : Int32} (hR : i t 2 = nI R) (hm : R ≤ m) (hp : p < R) (hk : k < w) : f_Ta_more (mkH i l a) t (nI p) (nI k) v = some (mkH i l (va_up a (t + 1) (upd (a (t + 1)) (p * w + k) (a (t + 1) (p * w + k) + v)))) := by
  obtain ⟨h1, -⟩ := tok_k hT
  unfold f_Ta_more
  rw [m_vP h1, Ta_at_in hT hR hm hp hk, cP_s, m_vP h1, Ta_put_in hT hR hm hp hk, cP_s]
/-- a column that isn't there -/
theorem Ta_place_col (hT : tok t m w = true) {r : Int32} : f_Ta_placeOf (mkH i l a) t r (-1) = some (-1) := by
  obtain ⟨h1, h2, h3, h4, h5, h6, h7, h8⟩ := tok_k hT
  have hb : f_Ta_placeOf_b28 (mkH i l a) t r (-1) = some (-1) := by
    unfold f_Ta_placeOf_b28 f_Ta_placeOf_b29
    rw [if_pos rfl]
    rfl
  unfold f_Ta_placeOf
  by_cases h : r < 0
  · rw [if_pos h, hb]
  · rw [if_neg h, m_gI h1 rfl]
    by_cases h' : i t 2 ≤ r
    · rw [if_pos h', hb]
    · rw [if_neg h', if_pos (by decide), hb]
theorem Ta_more_col (hT : tok t m w = true) {r v : Int32} : f_Ta_more (mkH i l a) t r (-1) v = some (mkH i l a) := by
  obtain ⟨h1, -⟩ := tok_k hT
  unfold f_Ta_more
  rw [m_vP h1, show f_Ta_at (mkH i l a) t r (-1) = some 0 by
    unfold f_Ta_at
    rw [m_vP h1, Ta_place_col hT, cP_s, if_pos (by decide)]
    rfl, cP_s, m_vP h1, show f_Ta_put (mkH i l a) t r (-1) (0 + v) = some (mkH i l a) by
    unfold f_Ta_put
    rw [m_vP h1, Ta_place_col hT, cP_s, if_pos (by decide)]
    rfl, cP_s]
theorem Ta_has_in (hT : tok t m w = true) {R p : Nat} (hR : i t 2 = nI R) (hm : R ≤ m) (hp : p < R) : f_Ta_has (mkH i l a) t (nI p) = some 1 := by
  obtain ⟨h1, h2, h3, h4, h5, h6, h7, h8⟩ := tok_k hT
  have hR2 : R ≤ 1000 := by
    have : R * 1 ≤ m * w := Nat.mul_le_mul hm h7
    omega
  unfold f_Ta_has
  rw [if_neg (by rw [nI_lt0 (by omega)]; exact id), m_gI h1 rfl, hR, if_neg (by rw [nI_le' (by omega) (by omega)]; omega)]
  rfl
theorem Ta_has_out (hT : tok t m w = true) {r : Int32} (hr : r < 0 ∨ i t 2 ≤ r) : f_Ta_has (mkH i l a) t r = some 0 := by
  obtain ⟨h1, -⟩ := tok_k hT
  unfold f_Ta_has
  by_cases h : r < 0
  · rw [if_pos h]
    rfl
  · rw [if_neg h, m_gI h1 rfl, if_pos (by rcases hr with h' | h'; exact absurd h' h; exact h')]
    rfl
theorem Ta_full_no (hT : tok t m w = true) {R : Nat} (hR : i t 2 = nI R) (hm : R < m) : f_Ta_isFull (mkH i l a) t = some 0 := by
  obtain ⟨h1, h2, h3, h4, h5, h6, h7, h8⟩ := tok_k hT
  have hq : (R + 1) * w ≤ m * w := Nat.mul_le_mul_right w hm
  unfold f_Ta_isFull
  rw [m_gI h1 rfl, hR, m_gW h1, m_gR h2, h4, m_aL h3, h6, h5, nI_1, nI_mul, if_pos (by rw [nI_le' (by omega) (by omega)]; exact hq)]
  rfl
theorem Ta_full_yes (hT : tok t m w = true) (hR : i t 2 = nI m) : f_Ta_isFull (mkH i l a) t = some 1 := by
  obtain ⟨h1, h2, h3, h4, h5, h6, h7, h8⟩ := tok_k hT
  have hq : (m + 1) * w = m * w + w := by rw [Nat.add_mul, Nat.one_mul]
  have hw : w ≤ 1000 := by
    by_cases hm : m = 0
    · have h9 := (gok_k h1).1
      have h10 : ∀ t, t < 151 → WDn t ≤ 1000 := by decide +kernel
      rw [← h5]
      exact h10 t h9
    · have : 1 * w ≤ m * w := Nat.mul_le_mul_right w (by omega)
      omega
  unfold f_Ta_isFull
  rw [m_gI h1 rfl, hR, m_gW h1, m_gR h2, h4, m_aL h3, h6, h5, nI_1, nI_mul, if_neg (by rw [nI_le' (by omega) (by omega)]; omega)]
  rfl
theorem Ta_add_ok (hT : tok t m w = true) {R : Nat} (hR : i t 2 = nI R) (hm : R < m) : f_Ta_add (mkH i l a) t = some (nI R, mkH (up2 i t 2 (nI (R + 1))) l a) := by
  obtain ⟨h1, h2, h3, h4, h5, h6, h7, h8⟩ := tok_k hT
  unfold f_Ta_add
  rw [m_vP h1, Ta_full_no hT hR hm, cP_s, if_pos rfl, m_gI h1 rfl, hR, nI_1, m_pI h1 rfl, m_gI h1 rfl, up2_s, show (1 : Int32) = nI 1 from rfl, nI_sub (by omega), Nat.add_sub_cancel]
theorem Ta_empty_ok (hT : tok t m w = true) : f_Ta_empty (mkH i l a) t = some (i t 2, mkH (up2 i t 2 0) l a) := by
  obtain ⟨h1, -⟩ := tok_k hT
  unfold f_Ta_empty
  rw [m_gI h1 rfl, m_pI h1 rfl]
theorem m_cA {β : Type} {b b' n : Nat} {κ : Hp → Option β} (h : gok b 11 = true) (h' : gok b' 11 = true) (hz : n ≤ ZD b) (hz' : n ≤ ZD b') (hn : n < 2000) : cA (mkH i l a) b 0 b' 0 (nI n) κ = κ (mkH i l (va_up a b' (va_cpy (a b) (a b') 0 0 n))) := by
  unfold cA
  have e : (nI n).toNatClampNeg = n := nI_cl (by omega)
  have e0 : (0 : Int32).toNatClampNeg = 0 := rfl
  rw [if_pos ⟨m_g h, m_g h', ⟨by decide, by decide, by rw [nI_lt0 (by omega)]; exact id⟩, by rw [e, e0, Nat.zero_add]; exact hz, by rw [e, e0, Nat.zero_add]; exact hz'⟩, e, e0]
  rfl
theorem Ta_copy_ok (hT : tok t m w = true) {t' : Nat} (hT' : tok t' m w = true) : f_Ta_copyFrom (mkH i l a) t t' = some (mkH (up2 i t 2 (i t' 2)) l (va_up a (t + 1) (va_cpy (a (t' + 1)) (a (t + 1)) 0 0 (m * w)))) := by
  obtain ⟨h1, h2, h3, h4, h5, h6, h7, h8⟩ := tok_k hT
  obtain ⟨g1, g2, g3, g4, g5, g6, g7, g8⟩ := tok_k hT'
  unfold f_Ta_copyFrom
  rw [m_gR g2, g4, m_gR h2, h4, m_gR g2, g4, m_aL g3, g6, m_gR h2, h4, m_aL h3, h6, nI_mn (by omega) (by omega), Nat.min_self, m_cA g3 h3 (by omega) (by omega) (by omega), m_gI g1 rfl, m_pI h1 rfl]
/-- the digest's mixing of the first n cells -/
def mixI (f : Nat → Int32) (h : Int64) : Nat → Int64
  | 0 => h
  | n + 1 => 31 * mixI f h n + (f n).toInt64
theorem Ta_mix_loop (hT : tok t m w = true) (h0 : Int64) {e : Nat} (he : e ≤ m * w) : ∀ (nn j : Nat), j ≤ e → e - j < nn → f_Ta_mixedInto_b21 (mkH i l a) nn t (mixI (a (t + 1)) h0 j) (nI e) (nI j) = some (mixI (a (t + 1)) h0 e) := by
  obtain ⟨h1, h2, h3, h4, h5, h6, h7, h8⟩ := tok_k hT
  intro nn
  induction nn with
  | zero => intro j _ h; omega
  | succ nn ih =>
    intro j hj hn
    show f_Ta_mixedInto_b21_k (mkH i l a) (f_Ta_mixedInto_b21 (mkH i l a) nn) t (mixI (a (t + 1)) h0 j) (nI e) (nI j) = _
    unfold f_Ta_mixedInto_b21_k
    by_cases hje : j = e
    · subst hje
      rw [if_pos (by rw [nI_le' (by omega) (by omega)]; omega)]
    · rw [if_neg (by rw [nI_le' (by omega) (by omega)]; omega), m_gR h2, h4, m_aI h3 (zok_of h6 (by omega) (by omega)), lt_e, nI_1]
      exact ih (j + 1) (by omega) (by omega)
theorem FU_lt {n : Nat} (h : n < 1000000000) : n < FU := h
theorem Ta_mix_ok (hT : tok t m w = true) {R : Nat} (hR : i t 2 = nI R) (hm : R ≤ m) (h0 : Int64) : f_Ta_mixedInto (mkH i l a) t h0 = some (mixI (a (t + 1)) h0 (R * w)) := by
  obtain ⟨h1, h2, h3, h4, h5, h6, h7, h8⟩ := tok_k hT
  have hq : R * w ≤ m * w := Nat.mul_le_mul_right w hm
  unfold f_Ta_mixedInto
  rw [m_gI h1 rfl, hR, m_gW h1, h5, m_gR h2, h4, m_aL h3, h6, lt_e, nI_mul, nI_mn (by omega) (by omega), Nat.min_eq_left hq]
  exact Ta_mix_loop hT h0 hq FU 0 (Nat.zero_le _) (FU_lt (by omega))
end TB
