/-! ===== a street copied, a life copied ===== -/
/-- the street at q in the second picture is that at q' in the first -/
def Cp (i a i1 a1 : Nat → Nat → Int32) (q q' : Nat) : Prop :=
  (i1 q 5 = i q' 5 ∧ i1 (q + 1) 2 = i (q' + 1) 2 ∧ i1 (q + 3) 2 = i (q' + 3) 2 ∧ i1 (q + 5) 2 = i (q' + 5) 2 ∧ i1 (q + 7) 2 = i (q' + 7) 2 ∧ i1 (q + 9) 2 = i (q' + 9) 2) ∧
  (∀ j, j < 12 → a1 (q + 2) j = a (q' + 2) j) ∧ (∀ j, j < 84 → a1 (q + 4) j = a (q' + 4) j) ∧ (∀ j, j < 20 → a1 (q + 6) j = a (q' + 6) j) ∧ (∀ j, j < 36 → a1 (q + 8) j = a (q' + 8) j) ∧ (∀ j, j < 4 → a1 (q + 10) j = a (q' + 10) j)
theorem SR.cp {i a i1 a1 : Nat → Nat → Int32} {q q' o n nf nn np : Nat} {v : Nat → Int32} (hs : sok q = true) (hC : Cp i a i1 a1 q q') (h : SR i a q' v o n nf nn np) : SR i1 a1 q v o n nf nn np := by
  obtain ⟨⟨c0, c1, c2, c3, c4, c5⟩, h0, h1, h2, h3, h4, h5⟩ := h
  obtain ⟨⟨e0, e1, e2, e3, e4, e5⟩, g1, g2, g3, g4, g5⟩ := hC
  have b1 : n ≤ 6 := c1.2
  have b2 : nf ≤ 12 := c2.2
  have b3 : nn ≤ 5 := c3.2
  have b4 : np ≤ 12 := c4.2
  refine ⟨⟨hs, by rw [e1]; exact c1, by rw [e2]; exact c2, by rw [e3]; exact c3, by rw [e4]; exact c4, by rw [e5]; exact c5⟩, e0.trans h0, fun p hp => ?_, fun j hj => ?_, fun j hj => ?_, fun j hj => ?_, fun j hj => ?_⟩
  · rw [g1 _ (by omega), g1 _ (by omega)]
    exact h1 p hp
  · rw [g2 _ (by omega)]
    exact h2 j hj
  · rw [g3 _ (by omega)]
    exact h3 j hj
  · rw [g4 _ (by omega)]
    exact h4 j hj
  · rw [g5 _ (by omega)]
    exact h5 j hj
theorem SW.cp {i a i1 a1 : Nat → Nat → Int32} {q q' o : Nat} {v : Nat → Int32} (hs : sok q = true) (hC : Cp i a i1 a1 q q') (h : SW i a q' v o) : SW i1 a1 q v o := by
  obtain ⟨n, nf, nn, np, dy, h1, h2⟩ := h
  exact ⟨n, nf, nn, np, dy, h1, h2.cp hs hC⟩
theorem cpy_at {f g : Nat → Int32} {n j : Nat} (hj : j < n) : va_cpy f g 0 0 n j = f j := by
  unfold va_cpy
  rw [if_pos ⟨Nat.zero_le _, by omega⟩]
  congr 1
  omega
section SC
variable {i : Nat → Nat → Int32} {l : Nat → Nat → Int64} {a : Nat → Nat → Int32} {q q' : Nat}
theorem St_copy_ok (h : sok q = true) (h' : sok q' = true) (hd : q + 11 ≤ q' ∨ q' + 11 ≤ q) : ∃ i1 a1, f_St_copyFrom (mkH i l a) q q' = some (mkH i1 l a1) ∧ Eq2 (fun b => b < q ∨ q + 10 < b) i a i1 a1 ∧ Cp i a i1 a1 q q' := by
  obtain ⟨⟨r0, r1, r2, r3, r4⟩, e0, e1, e2, e3, e4⟩ := sok_r h
  obtain ⟨⟨s0, s1, s2, s3, s4⟩, f0, f1, f2, f3, f4⟩ := sok_r h'
  obtain ⟨t0, t1, t2, t3, t4⟩ := sok_t h
  obtain ⟨u0, u1, u2, u3, u4⟩ := sok_t h'
  unfold f_St_copyFrom f_St_takeAllButRates
  rw [m_vP (sok_g h)]
  rw [m_gR r0, e0, m_gR s0, f0, m_vP (tok_k t0).1, Ta_copy_ok t0 u0, cP_s]
  rw [m_gR r1, e1, m_gR s1, f1, m_vP (tok_k t1).1, Ta_copy_ok t1 u1, cP_s]
  rw [m_gR r2, e2, m_gR s2, f2, m_vP (tok_k t2).1, Ta_copy_ok t2 u2, cP_s]
  rw [m_gR r3, e3, m_gR s3, f3, m_vP (tok_k t3).1, Ta_copy_ok t3 u3, cP_s]
  rw [m_gI (sok_g h') rfl, m_pI (sok_g h) rfl, cP_s]
  rw [m_gR r4, e4, m_gR s4, f4, m_vP (tok_k t4).1, Ta_copy_ok t4 u4, cP_s]
  refine ⟨_, _, rfl, fun b hb => ⟨fun k => ?_, ?_⟩, ⟨?_, ?_, ?_, ?_, ?_, ?_⟩, fun j hj => ?_, fun j hj => ?_, fun j hj => ?_, fun j hj => ?_, fun j hj => ?_⟩
  · simp (disch := omega) only [up2_n]
  · simp (disch := omega) only [vu_n]
  · simp (disch := omega) only [up2_n, up2_s]
  · simp (disch := omega) only [up2_n, up2_s]
  · simp (disch := omega) only [up2_n, up2_s]
  · simp (disch := omega) only [up2_n, up2_s]
  · simp (disch := omega) only [up2_n, up2_s]
  · simp (disch := omega) only [up2_n, up2_s]
  · simp (disch := omega) only [vu_n, vu_s, cpy_at]
  · simp (disch := omega) only [vu_n, vu_s, cpy_at]
  · simp (disch := omega) only [vu_n, vu_s, cpy_at]
  · simp (disch := omega) only [vu_n, vu_s, cpy_at]
  · simp (disch := omega) only [vu_n, vu_s, cpy_at]
theorem Eq2.tr {P : Nat → Prop} {i a i1 a1 i2 a2 : Nat → Nat → Int32} (h : Eq2 P i a i1 a1) (h' : Eq2 P i1 a1 i2 a2) : Eq2 P i a i2 a2 := fun b hb => ⟨fun k => ((h' b hb).1 k).trans ((h b hb).1 k), (h' b hb).2.trans (h b hb).2⟩
theorem Cp.lf {i0 a0 i1 a1 : Nat → Nat → Int32} (hE : Eq2 (fun b => q' ≤ b ∧ b ≤ q' + 10) i a i0 a0) (h : Cp i0 a0 i1 a1 q q') : Cp i a i1 a1 q q' := by
  obtain ⟨⟨e0, e1, e2, e3, e4, e5⟩, g1, g2, g3, g4, g5⟩ := h
  refine ⟨⟨?_, ?_, ?_, ?_, ?_, ?_⟩, fun j hj => ?_, fun j hj => ?_, fun j hj => ?_, fun j hj => ?_, fun j hj => ?_⟩
  · exact e0.trans ((hE _ ⟨by omega, by omega⟩).1 _)
  · exact e1.trans ((hE _ ⟨by omega, by omega⟩).1 _)
  · exact e2.trans ((hE _ ⟨by omega, by omega⟩).1 _)
  · exact e3.trans ((hE _ ⟨by omega, by omega⟩).1 _)
  · exact e4.trans ((hE _ ⟨by omega, by omega⟩).1 _)
  · exact e5.trans ((hE _ ⟨by omega, by omega⟩).1 _)
  · exact (g1 j hj).trans (congrFun (hE _ ⟨by omega, by omega⟩).2 _)
  · exact (g2 j hj).trans (congrFun (hE _ ⟨by omega, by omega⟩).2 _)
  · exact (g3 j hj).trans (congrFun (hE _ ⟨by omega, by omega⟩).2 _)
  · exact (g4 j hj).trans (congrFun (hE _ ⟨by omega, by omega⟩).2 _)
  · exact (g5 j hj).trans (congrFun (hE _ ⟨by omega, by omega⟩).2 _)
theorem Cp.rt {i1 a1 i2 a2 : Nat → Nat → Int32} (hE : Eq2 (fun b => q ≤ b ∧ b ≤ q + 10) i1 a1 i2 a2) (h : Cp i a i1 a1 q q') : Cp i a i2 a2 q q' := by
  obtain ⟨⟨e0, e1, e2, e3, e4, e5⟩, g1, g2, g3, g4, g5⟩ := h
  refine ⟨⟨?_, ?_, ?_, ?_, ?_, ?_⟩, fun j hj => ?_, fun j hj => ?_, fun j hj => ?_, fun j hj => ?_, fun j hj => ?_⟩
  · exact ((hE _ ⟨by omega, by omega⟩).1 _).trans e0
  · exact ((hE _ ⟨by omega, by omega⟩).1 _).trans e1
  · exact ((hE _ ⟨by omega, by omega⟩).1 _).trans e2
  · exact ((hE _ ⟨by omega, by omega⟩).1 _).trans e3
  · exact ((hE _ ⟨by omega, by omega⟩).1 _).trans e4
  · exact ((hE _ ⟨by omega, by omega⟩).1 _).trans e5
  · exact (congrFun (hE _ ⟨by omega, by omega⟩).2 _).trans (g1 j hj)
  · exact (congrFun (hE _ ⟨by omega, by omega⟩).2 _).trans (g2 j hj)
  · exact (congrFun (hE _ ⟨by omega, by omega⟩).2 _).trans (g3 j hj)
  · exact (congrFun (hE _ ⟨by omega, by omega⟩).2 _).trans (g4 j hj)
  · exact (congrFun (hE _ ⟨by omega, by omega⟩).2 _).trans (g5 j hj)
/-- a life at h: its three streets -/
def hok (h : Nat) : Bool := (gok h 3 && rok h 0 3 && rok h 1 3 && rok h 2 3) && (Nat.beq (RDf h 0) (h + 1) && Nat.beq (RDf h 1) (h + 12) && Nat.beq (RDf h 2) (h + 23)) && (sok (h + 1) && sok (h + 12) && sok (h + 23))
theorem hok_k {h : Nat} (H : hok h = true) : (gok h 3 = true ∧ rok h 0 3 = true ∧ rok h 1 3 = true ∧ rok h 2 3 = true) ∧ (RDf h 0 = h + 1 ∧ RDf h 1 = h + 12 ∧ RDf h 2 = h + 23) ∧ sok (h + 1) = true ∧ sok (h + 12) = true ∧ sok (h + 23) = true := by
  unfold hok at H
  simp only [Bool.and_eq_true] at H
  obtain ⟨⟨⟨⟨⟨h1, h2⟩, h3⟩, h4⟩, ⟨⟨h5, h6⟩, h7⟩⟩, ⟨⟨h8, h9⟩, h10⟩⟩ := H
  exact ⟨⟨h1, h2, h3, h4⟩, ⟨Nat.eq_of_beq_eq_true h5, Nat.eq_of_beq_eq_true h6, Nat.eq_of_beq_eq_true h7⟩, h8, h9, h10⟩
theorem Hi_copy_ok {h h' : Nat} (H : hok h = true) (H' : hok h' = true) (hd : h + 34 ≤ h' ∨ h' + 34 ≤ h) : ∃ i1 a1, f_Hi_copyFrom (mkH i l a) h h' = some (mkH i1 l a1) ∧ Eq2 (fun b => b < h ∨ h + 33 < b) i a i1 a1 ∧ (i1 h 3 = i h' 3 ∧ ∀ k, k ≠ 3 → i1 h k = i h k) ∧ Cp i a i1 a1 (h + 1) (h' + 1) ∧ Cp i a i1 a1 (h + 12) (h' + 12) ∧ Cp i a i1 a1 (h + 23) (h' + 23) := by
  obtain ⟨⟨g0, r0, r1, r2⟩, ⟨e0, e1, e2⟩, s0, s1, s2⟩ := hok_k H
  obtain ⟨⟨g0', r0', r1', r2'⟩, ⟨e0', e1', e2'⟩, s0', s1', s2'⟩ := hok_k H'
  obtain ⟨i1, a1, f1, E1, C1⟩ := St_copy_ok (i := i) (l := l) (a := a) s0 s0' (by omega)
  obtain ⟨i2, a2, f2, E2, C2⟩ := St_copy_ok (i := i1) (l := l) (a := a1) s1 s1' (by omega)
  obtain ⟨i3, a3, f3, E3, C3⟩ := St_copy_ok (i := i2) (l := l) (a := a2) s2 s2' (by omega)
  refine ⟨up2 i3 h 3 (i h' 3), a3, ?_, ?_, ⟨up2_s, fun k hk => ?_⟩, ?_, ?_, ?_⟩
  · unfold f_Hi_copyFrom
    rw [m_gR r0, e0, m_gR r0', e0', m_vP (sok_g s0), f1, cP_s, m_gR r1, e1, m_gR r1', e1', m_vP (sok_g s1), f2, cP_s, m_gR r2, e2, m_gR r2', e2', m_vP (sok_g s2), f3, cP_s, m_gI g0' rfl, m_pI g0 rfl]
    rw [(E3 h' (by omega)).1, (E2 h' (by omega)).1, (E1 h' (by omega)).1]
  · intro b hb
    refine ⟨fun k => ?_, ?_⟩
    · rw [up2_n (by omega), (E3 b (by omega)).1, (E2 b (by omega)).1, (E1 b (by omega)).1]
    · rw [(E3 b (by omega)).2, (E2 b (by omega)).2, (E1 b (by omega)).2]
  · rw [up2_n (by omega), (E3 h (by omega)).1, (E2 h (by omega)).1, (E1 h (by omega)).1]
  · refine Cp.rt (fun b hb => ⟨fun k => up2_n (by omega), rfl⟩) (Cp.rt (E3.mono fun b hb => by omega) (Cp.rt (E2.mono fun b hb => by omega) C1))
  · refine Cp.rt (fun b hb => ⟨fun k => up2_n (by omega), rfl⟩) (Cp.rt (E3.mono fun b hb => by omega) (Cp.lf (E1.mono fun b hb => by omega) C2))
  · refine Cp.rt (fun b hb => ⟨fun k => up2_n (by omega), rfl⟩) (Cp.lf ((E1.mono fun b hb => by omega).tr (E2.mono fun b hb => by omega)) C3)
end SC
