/-! ===== the picture behind the two constructors ===== -/
def chkR (G : Hp) : Bool := (List.range 151).all fun b => (List.range 24).all fun k => !(decide ((fty (KD b))[k]? = some 2)) || h_r G b k == RD b k
def chkI (o : Option Hp) : Bool := match o with
  | some G => chkS G && chkV G && (chkR G && h_a G 121 0 == 0)
  | none => false
set_option maxRecDepth 100000 in
theorem init_is : chkI g_init = true := by decide +kernel
set_option maxRecDepth 100000 in
theorem init_n : (f_Fa_init (s_new Hp0 9) 0).map h_n = some 136 := by decide +kernel
theorem fty_len : ∀ c, c < 13 → (fty c).length ≤ 24 := by decide
theorem fty_0 : ∀ b, b < 151 → KD b < 13 ∧ (KD b = 11 ∨ KD b = 12 → 10 < KD b) := by decide +kernel
theorem f_go_c {g g' : Nat → Nat → Value} {l : List Nat} (h : ∀ k t, l[k]? = some t → g' t k = g t k) : f_go g' l 0 = f_go g l 0 := by
  apply List.ext_getElem?
  intro j
  rw [f_go_get, f_go_get]
  cases hj : l[j]? with
  | none => rfl
  | some t =>
    show some (g' t (0 + j)) = some (g t (0 + j))
    rw [Nat.zero_add, h j t hj]
theorem fty_t : ∀ c, c < 13 → ∀ k, k < 24 → (fty c)[k]? = some 0 ∨ (fty c)[k]? = some 1 ∨ (fty c)[k]? = some 2 ∨ (fty c)[k]? = none := by decide
/-- the picture, over the one layout -/
theorem ent_sw {G : Hp} (hS : chkS G = true) (hR : chkR G = true) (E : EE) {b : Nat} (hb : b < 151) : g_ent E (mkH (h_i G) (h_l G) (h_a G)) b = g_ent E G b := by
  unfold chkS at hS
  rw [Bool.and_eq_true, List.all_eq_true] at hS
  have S := hS.2 b (List.mem_range.mpr hb)
  simp only [Bool.and_eq_true, Bool.or_eq_true, beq_iff_eq, Bool.not_eq_true'] at S
  obtain ⟨⟨⟨s1, s2⟩, s3⟩, -⟩ := S
  have F := fty_0 b hb
  have hk : h_k (mkH (h_i G) (h_l G) (h_a G)) b = h_k G b := s1.symm
  have hz : (KD b = 11 ∨ KD b = 12) → h_z (mkH (h_i G) (h_l G) (h_a G)) b = h_z G b := fun h => by
    rcases s2 with s2 | s2
    · have := Nat.le_of_ble_eq_true s2
      omega
    · exact s2.symm
  unfold g_ent
  rw [hk, s1]
  by_cases h1 : KD b = 11
  · rw [if_pos h1, if_pos h1, hz (Or.inl h1)]
    rfl
  · rw [if_neg h1, if_neg h1]
    by_cases h2 : KD b = 12
    · rw [if_pos h2, if_pos h2, hz (Or.inr h2)]
      rfl
    · rw [if_neg h2, if_neg h2]
      congr 2
      refine f_go_c fun k t hk => ?_
      have hkl : k < 24 := by
        have h3 := (List.getElem?_eq_some_iff.mp hk).1
        have h4 := fty_len (KD b) F.1
        omega
      unfold f_v
      by_cases t0 : t = 0
      · rw [if_pos t0, if_pos t0]
        congr 1
        show (if k = 0 ∧ KD b = 7 then WD b else h_i G b k) = h_i G b k
        by_cases h5 : k = 0 ∧ KD b = 7
        · rw [if_pos h5, h5.1]
          rcases s3 with s3 | s3
          · rw [h5.2] at s3
            exact absurd s3 (by decide)
          · exact s3.symm
        · rw [if_neg h5]
      · rw [if_neg t0, if_neg t0]
        by_cases t1 : t = 1
        · rw [if_pos t1, if_pos t1]
          rfl
        · rw [if_neg t1, if_neg t1]
          have t2 : t = 2 := by
            rcases fty_t (KD b) F.1 k hkl with e | e | e | e
            · rw [e] at hk; exact absurd (Option.some.inj hk).symm t0
            · rw [e] at hk; exact absurd (Option.some.inj hk).symm t1
            · rw [e] at hk; exact (Option.some.inj hk).symm
            · rw [e] at hk; exact nomatch hk
          unfold chkR at hR
          rw [List.all_eq_true] at hR
          have R1 := hR b (List.mem_range.mpr hb)
          rw [List.all_eq_true] at R1
          have R := R1 k (List.mem_range.mpr hkl)
          rw [t2] at hk
          rw [decide_eq_true hk] at R
          have R' : h_r G b k = RD b k := by simpa using R
          rw [R']
          rfl
theorem inv_0 {G : Hp} (hV : chkV G = true) (h0 : h_a G 121 0 = 0) : Inv (h_i G) (h_l G) (h_a G) := by
  unfold chkV at hV
  simp only [Bool.and_eq_true, beq_iff_eq, List.all_eq_true, List.mem_range] at hV
  obtain ⟨⟨⟨⟨⟨⟨⟨⟨⟨⟨⟨⟨⟨⟨⟨⟨⟨⟨⟨⟨⟨⟨⟨⟨⟨⟨⟨⟨⟨⟨⟨⟨⟨⟨⟨⟨⟨⟨⟨⟨k1, k2⟩, k3⟩, k4⟩, k5⟩, k6⟩, k7⟩, k8⟩, k9⟩, k10⟩, k11⟩, k12⟩, k13⟩, k14⟩, k15⟩, k16⟩, k17⟩, k18⟩, k19⟩, k20⟩, k21⟩, k22⟩, k23⟩, k24⟩, k25⟩, k26⟩, k27⟩, k28⟩, k29⟩, k30⟩, k31⟩, k32⟩, k33⟩, k34⟩, k35⟩, k36⟩, k37⟩, k38⟩, k39⟩, kP⟩, kQ⟩ := hV
  have hN : Now (h_i G) (h_a G) (h_a G 137) 4 0 0 0 0 := by
    refine ⟨⟨⟨k34, by omega⟩, ⟨k35, by omega, by omega⟩, ⟨k36, by omega⟩, ⟨k37, by omega⟩, ⟨k38, by omega⟩⟩, ⟨k11, k12, k13, k14, k15, k1⟩, ⟨fun p hp => ⟨20, 0, (kP p (by omega)).1, by omega, (kP p (by omega)).2, by omega⟩, fun f hf => by omega, fun f hf => by omega, fun f hf => by omega, fun t ht => ⟨10, (kQ t ht).2, by omega, by omega⟩⟩, ⟨fun p hp => ?_, fun j hj => by omega, fun j hj => by omega, fun j hj => by omega, fun j hj => ?_⟩⟩
    · rw [(kP p (by omega)).1, (kP p (by omega)).2, Nat.mul_comm p 2]
      exact ⟨(kQ p hp).1.1.1, (kQ p hp).1.1.2⟩
    · rw [(kQ j hj).2]
      exact (kQ j hj).1.2
  exact ⟨hN.SW, ⟨0, k16, k39, by omega, fun h => by omega, fun h => by omega⟩, ⟨k17.trans k19.symm, Or.inl k19⟩, ⟨k18.trans k20.symm, Or.inl k20⟩, ⟨k1, k2, k3, k4, k5, k6, k7, k8, k9, k10⟩, ⟨0, by omega, k31, k32, fun j hj => by omega, h0⟩, ⟨k21.trans k24.symm, k22.trans k25.symm, k23.trans k26.symm⟩, ⟨k27.trans k29.symm, k28.trans k30.symm⟩, Or.inl k33⟩
theorem pure_law (nS : Nat) (xS : Nat → Int32) (h : nS ≤ 3584) : ∃ G3 G6 Gm G', f_Fa_init (s_new Hp0 9) 0 = some G3 ∧ h_n G3 = 136 ∧ f_Mo_init (s_new G3 10) 136 = some G6 ∧ h_n G6 = h_n Gm ∧ (∀ E b, b < h_n Gm → g_ent E Gm b = g_ent E G6 b) ∧ f_La_law_b18 nS xS FU Gm 0 136 0 = some (1, G') := by
  have I := init_is
  have N := init_n
  unfold g_init at I
  cases h3 : f_Fa_init (s_new Hp0 9) 0 with
  | none =>
    rw [h3] at N
    exact nomatch N
  | some G3 =>
    rw [h3] at N I
    have hn : h_n G3 = 136 := Option.some.inj N
    rw [cP_s, hn] at I
    cases h6 : f_Mo_init (s_new G3 10) 136 with
    | none =>
      rw [h6] at I
      exact absurd I (by decide)
    | some G6 =>
      rw [h6] at I
      have I : (chkS G6 && chkV G6 && (chkR G6 && h_a G6 121 0 == 0)) = true := I
      simp only [Bool.and_eq_true, beq_iff_eq] at I
      obtain ⟨⟨i1, i2⟩, i3, i4⟩ := I
      have n6 : h_n G6 = 151 := by
        have := i1
        unfold chkS at this
        rw [Bool.and_eq_true, beq_iff_eq] at this
        exact this.1
      obtain ⟨G', hG⟩ := lw_loop (xS := xS) h FU 0 (h_i G6) (h_l G6) (h_a G6) (Nat.zero_le _) (FU_lt (by omega)) (inv_0 i2 i4)
      exact ⟨G3, G6, mkH (h_i G6) (h_l G6) (h_a G6), G', rfl, hn, h6, n6, fun E b hb => ent_sw i1 i3 E hb, hG⟩
