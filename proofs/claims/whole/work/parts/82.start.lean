/-! ===== the start of the law, up to its loop ===== -/
theorem gV_swap {E : EE} {X : CT} {q n : Nat} {G Gm : Hp} {pc : Nat} {lv : List (Option Value)} {st : List Value} (hn : h_n G = h_n Gm) (he : ∀ b, b < h_n Gm → g_ent E Gm b = g_ent E G b) (k : gV E X q n Gm pc lv st) : gV E X q n G pc lv st := by
  obtain ⟨p, e, R, s, m, args, below, meth, c, Q, nL⟩ := X
  intro H locs ls hW hS hl
  refine k H locs ls ⟨?_, ?_⟩ hS hl
  · have h : g_wl E Gm = g_wl E G := by
      unfold g_wl
      rw [hn]
      apply List.map_congr_left
      intro b hb
      rw [he b (List.mem_range.mp hb)]
    rw [h]
    exact hW.1
  · rw [← hn]
    exact hW.2
set_option maxRecDepth 20000 in
theorem l_start {E : EE} {X : CT} {G3 G6 Gm : Hp} {nS : Nat} {xS : Nat → Int32} {bs : Nat} (hX : gScr E X bs nS xS) (C : gCx E X cL_law "FavoursGoOffLaw" (some .boolean) 15 641 151 55703 false 4) {G' : Hp} (HR : ∀ {pc : Nat} {lv : List (Option Value)}, decode cL_law pc = .ok (.ireturn, 1) → gV E X 151 55703 G' pc lv [.int 1]) (h3 : f_Fa_init (s_new Hp0 9) 0 = some G3) (hn3 : h_n G3 = 136) (h6 : f_Mo_init (s_new G3 10) 136 = some G6) (hn6 : h_n G6 = h_n Gm) (he6 : ∀ b, b < h_n Gm → g_ent E Gm b = g_ent E G6 b) (hf : f_La_law_b18 nS xS FU Gm 0 136 0 = some ((1 : Int32), G')) : gV E X 0 0 Hp0 0 [some (.ref bs), none, none, none] [] := by
  refine e_new C tyX9 (rfl : vwCl[9]? = some ("FavoursGoOff", TX9, 13)) (by decide) ul_9 tyX9_ok rfl ft_9 cl_La_7 in_Fa it_Fa (by omega) dL_law_0 (rfl : (0 : Nat) = h_n Hp0) (rfl : s_new Hp0 9 = s_new Hp0 9) ?_
  refine g_dup C dL_law_3 rfl ?_
  refine g_invI (As := []) (st := [.ref (E.2.1 + 0)]) C (c_Fa_init E h3) ml_La_9 cm_Fa_init.1 cm_Fa_init.2.1 cm_Fa_init.2.2.1 cm_Fa_init.2.2.2.1 cm_Fa_init.2.2.2.2 rfl ⟨by omega, by omega, by omega, by omega⟩ (by exact Nat.le_of_ble_eq_true rfl) rfl dL_law_4 ?_
  refine g_astore_n (lv' := [some (.ref bs), some (.ref (E.2.1 + 0)), none, none]) C dL_law_7 (by decide) rfl ?_
  refine e_new C tyX10 (rfl : vwCl[10]? = some ("FavoursGoOffModel", TX10, 24)) (by decide) ul_10 tyX10_ok rfl ft_10 cl_La_10 in_Mo it_Mo (by omega) dL_law_8 hn3.symm (rfl : s_new G3 10 = s_new G3 10) ?_
  refine g_dup C dL_law_11 rfl ?_
  refine g_invI (As := []) (st := [.ref (E.2.1 + 136)]) C (c_Mo_init E h6) ml_La_12 cm_Mo_init.1 cm_Mo_init.2.1 cm_Mo_init.2.2.1 cm_Mo_init.2.2.2.1 cm_Mo_init.2.2.2.2 rfl ⟨by omega, by omega, by omega, by omega⟩ (by exact Nat.le_of_ble_eq_true rfl) rfl dL_law_12 ?_
  refine g_astore_n (lv' := [some (.ref bs), some (.ref (E.2.1 + 0)), some (.ref (E.2.1 + 136)), none]) C dL_law_15 (by decide) rfl ?_
  refine g_iconst (v := (0 : Int32)) C dL_law_16 (by decide) ?_
  refine g_istore_n (lv' := [some (.ref bs), some (.ref (E.2.1 + 0)), some (.ref (E.2.1 + 136)), some (.int (0 : Int32))]) C dL_law_17 (by decide) rfl ?_
  refine g_sub (lv' := [some (.ref bs), some (.ref (E.2.1 + 0)), some (.ref (E.2.1 + 136)), some (.int (0 : Int32))]) ⟨rfl, ⟨rfl, ⟨rfl, ⟨rfl, trivial⟩⟩⟩⟩ ?_
  refine gV_swap hn6 he6 ?_
  exact l_La_law_b18 hX C HR  FU hf
