/-! ===== a street: eleven cells from q on ===== -/
def sok (q : Nat) : Bool := gok q 6 && (rok q 0 6 && rok q 1 6 && rok q 2 6 && rok q 3 6 && rok q 4 6) && (Nat.beq (RDf q 0) (q + 1) && Nat.beq (RDf q 1) (q + 3) && Nat.beq (RDf q 2) (q + 5) && Nat.beq (RDf q 3) (q + 7) && Nat.beq (RDf q 4) (q + 9)) && (tok (q + 1) 6 2 && tok (q + 3) 12 7 && tok (q + 5) 5 4 && tok (q + 7) 12 3 && tok (q + 9) 4 1)
theorem sok_g {q : Nat} (h : sok q = true) : gok q 6 = true := by
  unfold sok at h
  simp only [Bool.and_eq_true] at h
  exact h.1.1.1
theorem sok_r {q : Nat} (h : sok q = true) : (rok q 0 6 = true ∧ rok q 1 6 = true ∧ rok q 2 6 = true ∧ rok q 3 6 = true ∧ rok q 4 6 = true) ∧ RDf q 0 = q + 1 ∧ RDf q 1 = q + 3 ∧ RDf q 2 = q + 5 ∧ RDf q 3 = q + 7 ∧ RDf q 4 = q + 9 := by
  unfold sok at h
  simp only [Bool.and_eq_true] at h
  obtain ⟨⟨⟨h0, ⟨⟨⟨⟨h1, h2⟩, h3⟩, h4⟩, h5⟩⟩, ⟨⟨⟨⟨g1, g2⟩, g3⟩, g4⟩, g5⟩⟩, -⟩ := h
  exact ⟨⟨h1, h2, h3, h4, h5⟩, Nat.eq_of_beq_eq_true g1, Nat.eq_of_beq_eq_true g2, Nat.eq_of_beq_eq_true g3, Nat.eq_of_beq_eq_true g4, Nat.eq_of_beq_eq_true g5⟩
theorem sok_t {q : Nat} (h : sok q = true) : tok (q + 1) 6 2 = true ∧ tok (q + 3) 12 7 = true ∧ tok (q + 5) 5 4 = true ∧ tok (q + 7) 12 3 = true ∧ tok (q + 9) 4 1 = true := by
  unfold sok at h
  simp only [Bool.and_eq_true] at h
  obtain ⟨-, ⟨⟨⟨⟨h1, h2⟩, h3⟩, h4⟩, h5⟩⟩ := h
  exact ⟨h1, h2, h3, h4, h5⟩
/-- how many people, favours, needs, passes a street has -/
def Cn (i : Nat → Nat → Int32) (q n nf nn np : Nat) : Prop := sok q = true ∧ (i (q + 1) 2 = nI n ∧ n ≤ 6) ∧ (i (q + 3) 2 = nI nf ∧ nf ≤ 12) ∧ (i (q + 5) 2 = nI nn ∧ nn ≤ 5) ∧ (i (q + 7) 2 = nI np ∧ np ≤ 12) ∧ i (q + 9) 2 = nI 4
section ST
variable {β : Type} {i : Nat → Nat → Int32} {l : Nat → Nat → Int64} {a : Nat → Nat → Int32} {q n nf nn np : Nat}
theorem vu_u {α : Type} {f : Nat → α} {b : Nat} {v w : α} : va_up (va_up f b v) b w = va_up f b w := by
  funext j
  unfold va_up
  by_cases h : j = b
  · rw [if_pos h, if_pos h]
  · rw [if_neg h, if_neg h, if_neg h]
theorem up2_u {α : Type} {f : Nat → Nat → α} {b k : Nat} {v w : α} : up2 (up2 f b k v) b k w = up2 f b k w := by
  funext j j'
  unfold up2
  by_cases h : j = b ∧ j' = k
  · rw [if_pos h, if_pos h]
  · rw [if_neg h, if_neg h, if_neg h]
theorem c_at {t m w : Nat} (hT : tok t m w = true) {c : Int32} {R p k : Nat} (hc : c = nI k) (hR : i t 2 = nI R) (hm : R ≤ m) (hp : p < R) (hk : k < w) : f_Ta_at (mkH i l a) t (nI p) c = some (a (t + 1) (p * w + k)) := by
  subst hc
  exact Ta_at_in hT hR hm hp hk
theorem c_put {t m w : Nat} (hT : tok t m w = true) {c v : Int32} {R p k : Nat} (hc : c = nI k) (hR : i t 2 = nI R) (hm : R ≤ m) (hp : p < R) (hk : k < w) : f_Ta_put (mkH i l a) t (nI p) c v = some (mkH i l (va_up a (t + 1) (upd (a (t + 1)) (p * w + k) v))) := by
  subst hc
  exact Ta_put_in hT hR hm hp hk
/-- reading a favour's number k -/
theorem rdF (hC : Cn i q n nf nn np) {f k : Nat} {c : Int32} {κ : Int32 → Option β} (hf : f < nf) (hc : c = nI k) (hk : k < 7) : (gR (mkH i l a) 6 1 q fun x1 => vP (mkH i l a) 7 x1 (f_Ta_at (mkH i l a) x1 (nI f) c) κ) = κ (a (q + 4) (f * 7 + k)) := by
  obtain ⟨h0, h1, h2, h3, h4, h5⟩ := hC
  rw [m_gR (sok_r h0).1.2.1, (sok_r h0).2.2.1, m_vP (tok_k (sok_t h0).2.1).1, c_at (sok_t h0).2.1 hc h2.1 h2.2 hf hk, cP_s]
/-- what the favour with these numbers is worth on day d -/
def valC (kd own worth till made d : Int32) : Int32 :=
  if own = -1 then 0
  else if kd = 1 then mx 0 ((if till < d then 0 else worth) - mx 0 (d - made))
  else if kd = 2 then worth + mx 0 (d - till) / 10
  else if kd = 3 then (if till ≤ d then worth else 0)
  else if kd = 4 then mx 0 ((if till < d then 0 else worth) - 2 * mx 0 (d - made))
  else (if till < d then 0 else worth)
/-- the same out of a row of cells, seven to a favour -/
def valF (g : Nat → Int32) (f : Nat) (d : Int32) : Int32 := valC (g (f * 7 + 0)) (g (f * 7 + 2)) (g (f * 7 + 4)) (g (f * 7 + 5)) (g (f * 7 + 6)) d
theorem St_valueOn_ok (hC : Cn i q n nf nn np) {f : Nat} (hf : f < nf) (d : Int32) : f_St_valueOn (mkH i l a) q (nI f) d = some (valF (a (q + 4)) f d) := by
  unfold f_St_valueOn valF valC
  rw [rdF hC hf (c := 2) (k := 2) rfl (by omega)]
  by_cases h0 : a (q + 4) (f * 7 + 2) = -1
  · rw [if_pos h0, if_pos h0]
  · rw [if_neg h0, if_neg h0, rdF hC hf (c := 4) (k := 4) rfl (by omega), rdF hC hf (c := 5) (k := 5) rfl (by omega)]
    have key : ∀ p : Int32, f_St_valueOn_b47 (mkH i l a) q (nI f) d (a (q + 4) (f * 7 + 4)) (a (q + 4) (f * 7 + 5)) p = some (if a (q + 4) (f * 7 + 0) = 1 then mx 0 (p - mx 0 (d - a (q + 4) (f * 7 + 6))) else if a (q + 4) (f * 7 + 0) = 2 then a (q + 4) (f * 7 + 4) + mx 0 (d - a (q + 4) (f * 7 + 5)) / 10 else if a (q + 4) (f * 7 + 0) = 3 then (if a (q + 4) (f * 7 + 5) ≤ d then a (q + 4) (f * 7 + 4) else 0) else if a (q + 4) (f * 7 + 0) = 4 then mx 0 (p - 2 * mx 0 (d - a (q + 4) (f * 7 + 6))) else p) := by
      intro p
      unfold f_St_valueOn_b47
      rw [rdF hC hf (c := 6) (k := 6) rfl (by omega), lt_e, rdF hC hf (c := 0) (k := 0) rfl (by omega)]
      by_cases h1 : a (q + 4) (f * 7 + 0) = 1
      · rw [if_pos h1, if_pos h1]
      · rw [if_neg h1, if_neg h1]
        by_cases h2 : a (q + 4) (f * 7 + 0) = 2
        · rw [if_pos h2, if_pos h2]
          rfl
        · rw [if_neg h2, if_neg h2]
          by_cases h3 : a (q + 4) (f * 7 + 0) = 3
          · rw [if_pos h3, if_pos h3]
            by_cases h4 : a (q + 4) (f * 7 + 5) ≤ d
            · rw [if_pos h4, if_pos h4]
              rfl
            · rw [if_neg h4, if_neg h4]
              rfl
          · rw [if_neg h3, if_neg h3]
            by_cases h4 : a (q + 4) (f * 7 + 0) = 4
            · rw [if_pos h4, if_pos h4]
            · rw [if_neg h4, if_neg h4]
    by_cases h1 : a (q + 4) (f * 7 + 5) < d
    · rw [if_pos h1, key]
      simp only [if_pos h1]
    · rw [if_neg h1, key]
      simp only [if_neg h1]
theorem St_valueNow_ok (hC : Cn i q n nf nn np) {f : Nat} (hf : f < nf) : f_St_valueNow (mkH i l a) q (nI f) = some (valF (a (q + 4)) f (i q 5)) := by
  unfold f_St_valueNow
  rw [m_gI (sok_g hC.1) rfl, m_vP (sok_g hC.1), St_valueOn_ok hC hf, cP_s]
/-- seven numbers laid from place 7 f on -/
def row7 (g : Nat → Int32) (f : Nat) (k b o t w d m : Int32) : Nat → Int32 := upd (upd (upd (upd (upd (upd (upd g (f * 7 + 0) k) (f * 7 + 1) b) (f * 7 + 2) o) (f * 7 + 3) t) (f * 7 + 4) w) (f * 7 + 5) d) (f * 7 + 6) m
def row4 (g : Nat → Int32) (f : Nat) (p t s d : Int32) : Nat → Int32 := upd (upd (upd (upd g (f * 4 + 0) p) (f * 4 + 1) t) (f * 4 + 2) s) (f * 4 + 3) d
def row3 (g : Nat → Int32) (f : Nat) (p t s : Int32) : Nat → Int32 := upd (upd (upd g (f * 3 + 0) p) (f * 3 + 1) t) (f * 3 + 2) s
/-- writing number k of a row of the table at place j of the street -/
theorem wrT {t m w j : Nat} (h0 : sok q = true) (hr : rok q j 6 = true) (hj : RDf q j = t) (hT : tok t m w = true) {R f k : Nat} {c v : Int32} {κ : Hp → Option β} (hR : i t 2 = nI R) (hm : R ≤ m) (hf : f < R) (hc : c = nI k) (hk : k < w) : (gR (mkH i l a) 6 j q fun x1 => vP (mkH i l a) 7 x1 (f_Ta_put (mkH i l a) x1 (nI f) c v) κ) = κ (mkH i l (va_up a (t + 1) (upd (a (t + 1)) (f * w + k) v))) := by
  rw [m_gR hr, hj, m_vP (tok_k hT).1, c_put hT hc hR hm hf hk, cP_s]
theorem St_addFavour_ok (h0 : sok q = true) (hR : i (q + 3) 2 = nI nf) (hf : nf < 12) (k b o t w d : Int32) : f_St_addFavour (mkH i l a) q k b o t w d = some (nI nf, mkH (up2 i (q + 3) 2 (nI (nf + 1))) l (va_up a (q + 4) (row7 (a (q + 4)) nf k b o t w d (i q 5)))) := by
  obtain ⟨⟨r0, r1, r2, r3, r4⟩, e0, e1, e2, e3, e4⟩ := sok_r h0
  obtain ⟨t0, t1, t2, t3, t4⟩ := sok_t h0
  have hR' : up2 i (q + 3) 2 (nI (nf + 1)) (q + 3) 2 = nI (nf + 1) := up2_s
  unfold f_St_addFavour
  rw [m_gR r1, e1, m_vH (tok_k t1).1, Ta_add_ok t1 hR hf, cH_s]
  rw [wrT h0 r1 e1 t1 hR' (by omega) (by omega) (c := 0) (k := 0) rfl (by omega), wrT h0 r1 e1 t1 hR' (by omega) (by omega) (c := 1) (k := 1) rfl (by omega), wrT h0 r1 e1 t1 hR' (by omega) (by omega) (c := 2) (k := 2) rfl (by omega), wrT h0 r1 e1 t1 hR' (by omega) (by omega) (c := 3) (k := 3) rfl (by omega), wrT h0 r1 e1 t1 hR' (by omega) (by omega) (c := 4) (k := 4) rfl (by omega), wrT h0 r1 e1 t1 hR' (by omega) (by omega) (c := 5) (k := 5) rfl (by omega)]
  rw [m_gR r1, e1, m_gI (sok_g h0) rfl, m_vP (tok_k t1).1, c_put t1 (c := 6) (k := 6) rfl hR' (by omega) (by omega) (by omega), cP_s]
  rw [up2_n (show ¬ (q = q + 3 ∧ 5 = 2) by omega)]
  simp only [vu_s, vu_u]
  rfl
theorem St_addNeed_ok (h0 : sok q = true) (hR : i (q + 5) 2 = nI nn) (hf : nn < 5) (p t s d : Int32) : f_St_addNeed (mkH i l a) q p t s d = some (nI nn, mkH (up2 i (q + 5) 2 (nI (nn + 1))) l (va_up a (q + 6) (row4 (a (q + 6)) nn p t s d))) := by
  obtain ⟨⟨r0, r1, r2, r3, r4⟩, e0, e1, e2, e3, e4⟩ := sok_r h0
  obtain ⟨t0, t1, t2, t3, t4⟩ := sok_t h0
  have hR' : up2 i (q + 5) 2 (nI (nn + 1)) (q + 5) 2 = nI (nn + 1) := up2_s
  unfold f_St_addNeed
  rw [m_gR r2, e2, m_vH (tok_k t2).1, Ta_add_ok t2 hR hf, cH_s]
  rw [wrT h0 r2 e2 t2 hR' (by omega) (by omega) (c := 0) (k := 0) rfl (by omega), wrT h0 r2 e2 t2 hR' (by omega) (by omega) (c := 1) (k := 1) rfl (by omega), wrT h0 r2 e2 t2 hR' (by omega) (by omega) (c := 2) (k := 2) rfl (by omega), wrT h0 r2 e2 t2 hR' (by omega) (by omega) (c := 3) (k := 3) rfl (by omega)]
  simp only [vu_s, vu_u]
  rfl
theorem St_addPass_ok (h0 : sok q = true) (hR : i (q + 7) 2 = nI np) (hf : np < 12) (p t s : Int32) : f_St_addPass (mkH i l a) q p t s = some (nI np, mkH (up2 i (q + 7) 2 (nI (np + 1))) l (va_up a (q + 8) (row3 (a (q + 8)) np p t s))) := by
  obtain ⟨⟨r0, r1, r2, r3, r4⟩, e0, e1, e2, e3, e4⟩ := sok_r h0
  obtain ⟨t0, t1, t2, t3, t4⟩ := sok_t h0
  have hR' : up2 i (q + 7) 2 (nI (np + 1)) (q + 7) 2 = nI (np + 1) := up2_s
  unfold f_St_addPass
  rw [m_gR r3, e3, m_vH (tok_k t3).1, Ta_add_ok t3 hR hf, cH_s]
  rw [wrT h0 r3 e3 t3 hR' (by omega) (by omega) (c := 0) (k := 0) rfl (by omega), wrT h0 r3 e3 t3 hR' (by omega) (by omega) (c := 1) (k := 1) rfl (by omega), wrT h0 r3 e3 t3 hR' (by omega) (by omega) (c := 2) (k := 2) rfl (by omega)]
  simp only [vu_s, vu_u]
  rfl
end ST
