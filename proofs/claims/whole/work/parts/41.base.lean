/-! ===== pictures over the layout; numbers ===== -/
theorem nI_mul (a b : Nat) : nI a * nI b = nI (a * b) := by
  show Int32.ofNat a * Int32.ofNat b = Int32.ofNat (a * b)
  simp
theorem nI_sub {a b : Nat} (h : b ≤ a) : nI a - nI b = nI (a - b) := by
  have e : nI a = nI (a - b) + nI b := by rw [nI_add, Nat.sub_add_cancel h]
  rw [e, Int32.add_sub_cancel]
theorem nI_lt' {a b : Nat} (ha : a < 2147483648) (hb : b < 2147483648) : (nI a < nI b) = (a < b) := propext (nI_ltI ha hb)
theorem nI_le' {a b : Nat} (ha : a < 2147483648) (hb : b < 2147483648) : (nI a ≤ nI b) = (a ≤ b) := propext (nI_leI ha hb)
theorem nI_eq' {a b : Nat} (ha : a < 2147483648) (hb : b < 2147483648) : (nI a = nI b) = (a = b) := propext (nI_eq ha hb)
theorem nI_lt0 {a : Nat} (ha : a < 2147483648) : (nI a < 0) = False := by
  rw [show (0 : Int32) = nI 0 from rfl, nI_lt' ha (by omega)]
  simp
theorem nI_0le {a : Nat} (ha : a < 2147483648) : (0 ≤ nI a) = True := by
  rw [show (0 : Int32) = nI 0 from rfl, nI_le' (by omega) ha]
  simp
theorem nI_cl {a : Nat} (ha : a < 2147483648) : (nI a).toNatClampNeg = a := nI_clamp ha
theorem nI_neg1 {a : Nat} (ha : a < 2147483648) : (nI a = -1) = False := by
  apply eq_false
  intro h
  have h1 : nI a < 0 := by rw [h]; decide
  rw [nI_lt0 ha] at h1
  exact h1
theorem nI_mx {a b : Nat} (ha : a < 2147483648) (hb : b < 2147483648) : mx (nI a) (nI b) = nI (max a b) := by
  unfold mx
  by_cases h : a < b
  · rw [if_pos ((nI_ltI ha hb).mpr h), Nat.max_eq_right (by omega)]
  · rw [if_neg (fun h' => h ((nI_ltI ha hb).mp h')), Nat.max_eq_left (by omega)]
theorem nI_mn {a b : Nat} (ha : a < 2147483648) (hb : b < 2147483648) : mn (nI a) (nI b) = nI (min a b) := by
  unfold mn
  by_cases h : b < a
  · rw [if_pos ((nI_ltI hb ha).mpr h), Nat.min_eq_right (by omega)]
  · rw [if_neg (fun h' => h ((nI_ltI hb ha).mp h')), Nat.min_eq_left (by omega)]
/-- a number of the caller's, held against 0 and an upper bound: in it, or not -/
theorem rng (x : Int32) {n : Nat} (hn : n < 2147483648) : (∃ p, p < n ∧ x = nI p) ∨ (¬ (0 ≤ x ∧ x < nI n) ∧ (x < 0 ∨ nI n ≤ x)) := by
  by_cases h0 : x < 0
  · right
    refine ⟨fun h => ?_, Or.inl h0⟩
    rw [Int32.lt_iff_toInt_lt] at h0
    have := Int32.le_iff_toInt_le.mp h.1
    omega
  · obtain ⟨j, hj, rfl⟩ := nI_of h0
    have hj : j < 2147483648 := hj
    by_cases hjn : j < n
    · exact Or.inl ⟨j, hjn, rfl⟩
    · right
      rw [nI_lt' hj hn, nI_le' hn hj]
      exact ⟨fun h => hjn h.2, Or.inr (by omega)⟩
theorem lt_asym {x y : Int32} : x < y → ¬ y ≤ x := fun h => Int32.not_le.mpr h
def mkH (i : Nat → Nat → Int32) (l : Nat → Nat → Int64) (a : Nat → Nat → Int32) : Hp := (151, KD, fun b k => if k = 0 ∧ KD b = 7 then WD b else i b k, l, RD, ZD, a)
def gok (b ci : Nat) : Bool := Nat.blt b 151 && Nat.beq (KD b) ci
def rok (b k ci : Nat) : Bool := gok b ci && !(Nat.beq (RDf b k) 0)
/-- not a table's width -/
def nwd (k ci : Nat) : Bool := !(Nat.beq k 0 && Nat.beq ci 7)
theorem gok_k {b ci : Nat} (h : gok b ci = true) : b < 151 ∧ KD b = ci := by
  unfold gok at h
  rw [Bool.and_eq_true] at h
  exact ⟨by simpa using h.1, Nat.eq_of_beq_eq_true h.2⟩
section MH
variable {β α : Type} {i : Nat → Nat → Int32} {l : Nat → Nat → Int64} {a : Nat → Nat → Int32} {b ci k : Nat}
theorem m_g (h : gok b ci = true) : b < h_n (mkH i l a) ∧ h_k (mkH i l a) b = ci := gok_k h
theorem nwd_k (h : nwd k ci = true) : ¬ (k = 0 ∧ ci = 7) := by
  rintro ⟨rfl, rfl⟩
  exact absurd h (by decide)
theorem m_gI {κ : Int32 → Option β} (h : gok b ci = true) (hw : nwd k ci = true) : gI (mkH i l a) ci k b κ = κ (i b k) := by
  unfold gI
  rw [if_pos (m_g h)]
  congr 1
  refine if_neg (fun hc => nwd_k hw ⟨hc.1, ?_⟩)
  rw [← (gok_k h).2, hc.2]
theorem m_gW {κ : Int32 → Option β} (h : gok b 7 = true) : gI (mkH i l a) 7 0 b κ = κ (nI (WDn b)) := by
  unfold gI
  rw [if_pos (m_g h)]
  congr 1
  exact if_pos ⟨rfl, (gok_k h).2⟩
theorem m_gL {κ : Int64 → Option β} (h : gok b ci = true) : gL (mkH i l a) ci k b κ = κ (l b k) := by
  unfold gL
  rw [if_pos (m_g h)]
  rfl
theorem m_gR {κ : Nat → Option β} (h : rok b k ci = true) : gR (mkH i l a) ci k b κ = κ (RDf b k) := by
  unfold rok at h
  rw [Bool.and_eq_true] at h
  have hr : ¬ RDf b k = 0 := fun e => by rw [e] at h; exact absurd h.2 (by decide)
  unfold gR
  rw [if_pos (m_g h.1), show h_r (mkH i l a) b k = some (RDf b k) from if_neg hr]
theorem m_pI {v : Int32} {κ : Hp → Option β} (h : gok b ci = true) (hw : nwd k ci = true) : pI (mkH i l a) ci k b v κ = κ (mkH (up2 i b k v) l a) := by
  unfold pI
  rw [if_pos (m_g h)]
  congr 1
  unfold s_i mkH
  congr 1
  congr 1
  congr 1
  funext a' k'
  show (if a' = b ∧ k' = k then v else if k' = 0 ∧ KD a' = 7 then WD a' else i a' k') = (if k' = 0 ∧ KD a' = 7 then WD a' else if a' = b ∧ k' = k then v else i a' k')
  by_cases h1 : a' = b ∧ k' = k
  · have h2 : ¬ (k' = 0 ∧ KD a' = 7) := fun hc => nwd_k hw ⟨h1.2 ▸ hc.1, by rw [← (gok_k h).2, ← h1.1, hc.2]⟩
    rw [if_pos h1, if_neg h2, if_pos h1]
  · rw [if_neg h1, if_neg h1]
theorem m_pL {v : Int64} {κ : Hp → Option β} (h : gok b ci = true) : pL (mkH i l a) ci k b v κ = κ (mkH i (up2 l b k v) a) := by
  unfold pL
  rw [if_pos (m_g h)]
  rfl
theorem m_aL {κ : Int32 → Option β} (h : gok b 11 = true) : aL (mkH i l a) b κ = κ (nI (ZD b)) := by
  unfold aL
  rw [if_pos (m_g h)]
  rfl
/-- a length, where it is asked for -/
def zok (b m : Nat) : Bool := Nat.blt m (ZD b) && Nat.blt (ZD b) 2000
theorem zok_of {b m z : Nat} (hz : ZD b = z) (hm : m < z) (hl : z < 2000) : zok b m = true := by
  unfold zok
  rw [hz, Bool.and_eq_true]
  exact ⟨by simpa using hm, by simpa using hl⟩
theorem zok_k {b m : Nat} (h : zok b m = true) : m < ZD b ∧ ZD b < 2000 := by
  unfold zok at h
  rw [Bool.and_eq_true] at h
  exact ⟨by simpa using h.1, by simpa using h.2⟩
theorem zok_in {b m : Nat} (h : zok b m = true) : ¬ (nI m < 0 ∨ ZD b ≤ (nI m).toNatClampNeg) := by
  obtain ⟨h1, h2⟩ := zok_k h
  rw [nI_lt0 (by omega), nI_cl (by omega)]
  exact fun h => h.elim id (fun h => by omega)
theorem m_aI {κ : Int32 → Option β} {m : Nat} (h : gok b ci = true) (hm : zok b m = true) : aI (mkH i l a) ci b (nI m) κ = κ (a b m) := by
  unfold aI
  rw [if_pos ⟨m_g h, zok_in hm⟩, nI_cl (by have := zok_k hm; omega)]
  rfl
theorem m_sI {v : Int32} {κ : Hp → Option β} {m : Nat} (h : gok b ci = true) (hm : zok b m = true) : sI (mkH i l a) ci b (nI m) v κ = κ (mkH i l (va_up a b (upd (a b) m v))) := by
  unfold sI
  rw [if_pos ⟨m_g h, zok_in hm⟩, nI_cl (by have := zok_k hm; omega)]
  rfl
theorem m_vP {o : Option α} {κ : α → Option β} (h : gok b ci = true) : vP (mkH i l a) ci b o κ = cP o κ := by
  unfold vP
  rw [if_pos (m_g h)]
theorem m_vH {o : Option (α × Hp)} {κ : α → Hp → Option β} (h : gok b ci = true) : vH (mkH i l a) ci b o κ = cH o κ := by
  unfold vH
  rw [if_pos (m_g h)]
theorem cP_s {x : α} {κ : α → Option β} : cP (some x) κ = κ x := rfl
theorem cH_s {x : α} {G : Hp} {κ : α → Hp → Option β} : cH (some (x, G)) κ = κ x G := rfl
theorem zR_0 {o : Option β} : zR 0 o = o := rfl
theorem zR_1 {o : Option β} : zR 1 o = o := rfl
theorem lt_e {e : α} {κ : α → Option β} : lt e κ = κ e := rfl
theorem up2_s {f : Nat → Nat → α} {v : α} : up2 f b k v b k = v := if_pos ⟨rfl, rfl⟩
theorem up2_n {f : Nat → Nat → α} {v : α} {b' k' : Nat} (h : ¬ (b' = b ∧ k' = k)) : up2 f b k v b' k' = f b' k' := if_neg h
theorem vu_s {f : Nat → α} {v : α} : va_up f b v b = v := if_pos rfl
theorem vu_n {f : Nat → α} {v : α} {b' : Nat} (h : ¬ b' = b) : va_up f b v b' = f b' := if_neg h
theorem ud_s {f : Nat → Int32} {v : Int32} : upd f b v b = v := if_pos rfl
theorem ud_n {f : Nat → Int32} {v : Int32} {b' : Nat} (h : ¬ b' = b) : upd f b v b' = f b' := if_neg h
end MH
