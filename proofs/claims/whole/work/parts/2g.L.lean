/-! ===== each method does as its function says ===== -/
set_option maxRecDepth 20000 in
theorem l_Mo_init_b122k {E : EE} {X : CT} {G : Hp} (C : gCx E X cX10_init "FavoursGoOffModel" none 1 30 14 2034 true 2) {G' : Hp} (HR : gRet E X cX10_init none 14 2034 none G') {k122 : Hp → Nat → Int32 → Option Hp} (K122 : ∀ {G : Hp} {l0 : Nat} {l1 : Int32}, k122 G l0 l1 = some G' → gV E X 14 2034 G 122 [some (.ref (E.2.1 + l0)), some (.int l1)] []) {l0 : Nat} {l1 : Int32} (hf : f_Mo_init_b122_k k122 G l0 l1 = some G') : gV E X 14 2034 G 122 [some (.ref (E.2.1 + l0)), some (.int l1)] [] := by
  unfold f_Mo_init_b122_k at hf
  refine g_iload_n C dX10_init_122 rfl ?_
  refine g_iconst (v := (4 : Int32)) C dX10_init_123 (by decide) ?_
  refine g_icmp_ge (tgt := 145) C dX10_init_124 (by decide) (fun hc => ?_) (fun hc => ?_)
  · have hf := iteT hf hc
    refine g_aload_n C dX10_init_145 rfl ?_
    obtain ⟨x1, hg, hf⟩ := gR_ok hf
    refine g_getR C fl_Mo_7 dX10_init_146 hg ?_
    refine g_iconst (v := (4 : Int32)) C dX10_init_149 (by decide) ?_
    obtain ⟨G2, h1, hf⟩ := cP_ok hf
    refine g_invS (As := [.ref (E.2.1 + x1), .int (4 : Int32)]) (st := []) C (c_Mo_begin E h1) ml_Mo_57 cm_Mo_begin.1 cm_Mo_begin.2.1 cm_Mo_begin.2.2.1 cm_Mo_begin.2.2.2 rfl ⟨by omega, by omega, by omega, by omega⟩ (by exact Nat.le_of_ble_eq_true rfl) rfl dX10_init_150 ?_
    obtain rfl := rP_ok hf
    exact g_vret HR dX10_init_153
  · have hf := iteF hf hc
    refine g_aload_n C dX10_init_127 rfl ?_
    obtain ⟨x3, hg, hf⟩ := gR_ok hf
    refine g_getR C fl_Mo_7 dX10_init_128 hg ?_
    refine g_sipush (v := (154 : Int32)) C dX10_init_131 (by decide) ?_
    refine g_iload_n C dX10_init_134 rfl ?_
    refine g_iadd C dX10_init_135 ?_
    refine g_bipush (v := (10 : Int32)) C dX10_init_136 (by decide) ?_
    obtain ⟨G4, hG4, hg, hf⟩ := sI_ok hf
    refine e_iast C dX10_init_138 hG4 hg ?_
    refine g_iinc (v := (l1 + 1)) (lv' := [some (.ref (E.2.1 + l0)), some (.int (l1 + 1))]) C dX10_init_139 (by decide) rfl rfl rfl ?_
    refine g_goto (tgt := 122) C dX10_init_142 (by decide) ?_
    refine g_sub (lv' := [some (.ref (E.2.1 + l0)), some (.int (l1 + 1))]) ⟨rfl, ⟨rfl, trivial⟩⟩ ?_
    exact K122 hf
theorem l_Mo_init_b122 {E : EE} {X : CT} (C : gCx E X cX10_init "FavoursGoOffModel" none 1 30 14 2034 true 2) {G' : Hp} (HR : gRet E X cX10_init none 14 2034 none G') : ∀ (nn : Nat) {G : Hp} {l0 : Nat} {l1 : Int32}, f_Mo_init_b122 nn G l0 l1 = some G' → gV E X 14 2034 G 122 [some (.ref (E.2.1 + l0)), some (.int l1)] []
  | 0, _, _, _, hf => by have h0 : (none : Option Hp) = some G' := hf; cases h0
  | nn + 1, _, _, _, hf => l_Mo_init_b122k C HR (fun h => l_Mo_init_b122 C HR nn h) hf
set_option maxRecDepth 20000 in
theorem l_Mo_init {E : EE} {X : CT} {G : Hp} (C : gCx E X cX10_init "FavoursGoOffModel" none 1 30 14 2034 true 2) {G' : Hp} (HR : gRet E X cX10_init none 14 2034 none G') {l0 : Nat} (hf : f_Mo_init G l0 = some G') : gV E X 0 0 G 0 [some (.ref (E.2.1 + l0)), none] [] := by
  unfold f_Mo_init at hf
  refine g_aload_n C dX10_init_0 rfl ?_
  refine g_objInit C ml_Mo_1 cm_obj.1 cm_obj.2 (by omega) (Nat.le_trans (m := 30) (by exact Nat.le_of_ble_eq_true rfl) (by omega)) dX10_init_1 ?_
  refine g_aload_n C dX10_init_4 rfl ?_
  refine g_sipush (v := (484 : Int32)) C dX10_init_5 (by decide) ?_
  obtain ⟨a2, G1, ha2, hG1, hz, hf⟩ := nA_ok hf
  refine e_newa (sl := 484) C (Or.inl ⟨rfl, rfl⟩) ac_int hz (by decide) (by omega) dX10_init_8 ha2 hG1 ?_
  obtain ⟨G3, hG3, hg, hf⟩ := pR_ok hf
  refine e_putR C fl_Mo_7 dX10_init_10 hG3 hg (Or.inr ⟨rfl, rfl⟩) rfl rfl ?_
  refine g_aload_n C dX10_init_13 rfl ?_
  refine g_sipush (v := (968 : Int32)) C dX10_init_14 (by decide) ?_
  obtain ⟨a5, G4, ha5, hG4, hz, hf⟩ := nA_ok hf
  refine e_newa (sl := 968) C (Or.inl ⟨rfl, rfl⟩) ac_int hz (by decide) (by omega) dX10_init_17 ha5 hG4 ?_
  obtain ⟨G6, hG6, hg, hf⟩ := pR_ok hf
  refine e_putR C fl_Mo_13 dX10_init_19 hG6 hg (Or.inr ⟨rfl, rfl⟩) rfl rfl ?_
  refine g_aload_n C dX10_init_22 rfl ?_
  refine g_iconst (v := (2 : Int32)) C dX10_init_23 (by decide) ?_
  obtain ⟨a8, G7, ha8, hG7, hz, hf⟩ := nA_ok hf
  refine e_newa (sl := 2) C (Or.inr ⟨rfl, rfl⟩) ac_boolean hz (by decide) (by omega) dX10_init_24 ha8 hG7 ?_
  obtain ⟨G9, hG9, hg, hf⟩ := pR_ok hf
  refine e_putR C fl_Mo_16 dX10_init_26 hG9 hg (Or.inr ⟨rfl, rfl⟩) rfl rfl ?_
  refine g_aload_n C dX10_init_29 rfl ?_
  refine g_iconst (v := (3 : Int32)) C dX10_init_30 (by decide) ?_
  obtain ⟨a11, G10, ha11, hG10, hz, hf⟩ := nA_ok hf
  refine e_newa (sl := 3) C (Or.inl ⟨rfl, rfl⟩) ac_int hz (by decide) (by omega) dX10_init_31 ha11 hG10 ?_
  obtain ⟨G12, hG12, hg, hf⟩ := pR_ok hf
  refine e_putR C fl_Mo_20 dX10_init_33 hG12 hg (Or.inr ⟨rfl, rfl⟩) rfl rfl ?_
  refine g_aload_n C dX10_init_36 rfl ?_
  refine g_lconst (v := (1 : Int64)) C dX10_init_37 (by decide) ?_
  obtain ⟨G13, hG13, hg, hf⟩ := pL_ok hf
  refine e_putL C fl_Mo_23 dX10_init_38 hG13 hg (Or.inl rfl) ?_
  refine g_aload_n C dX10_init_41 rfl ?_
  refine g_bipush (v := (6 : Int32)) C dX10_init_42 (by decide) ?_
  obtain ⟨a15, G14, ha15, hG14, hz, hf⟩ := nA_ok hf
  refine e_newa (sl := 6) C (Or.inl ⟨rfl, rfl⟩) ac_int hz (by decide) (by omega) dX10_init_44 ha15 hG14 ?_
  obtain ⟨G16, hG16, hg, hf⟩ := pR_ok hf
  refine e_putR C fl_Mo_27 dX10_init_46 hG16 hg (Or.inr ⟨rfl, rfl⟩) rfl rfl ?_
  refine g_aload_n C dX10_init_49 rfl ?_
  refine g_bipush (v := (64 : Int32)) C dX10_init_50 (by decide) ?_
  obtain ⟨a18, G17, ha18, hG17, hz, hf⟩ := nA_ok hf
  refine e_newa (sl := 64) C (Or.inl ⟨rfl, rfl⟩) ac_int hz (by decide) (by omega) dX10_init_52 ha18 hG17 ?_
  obtain ⟨G19, hG19, hg, hf⟩ := pR_ok hf
  refine e_putR C fl_Mo_30 dX10_init_54 hG19 hg (Or.inr ⟨rfl, rfl⟩) rfl rfl ?_
  refine g_aload_n C dX10_init_57 rfl ?_
  refine g_bipush (v := (64 : Int32)) C dX10_init_58 (by decide) ?_
  obtain ⟨a21, G20, ha21, hG20, hz, hf⟩ := nA_ok hf
  refine e_newa (sl := 64) C (Or.inl ⟨rfl, rfl⟩) ac_int hz (by decide) (by omega) dX10_init_60 ha21 hG20 ?_
  obtain ⟨G22, hG22, hg, hf⟩ := pR_ok hf
  refine e_putR C fl_Mo_33 dX10_init_62 hG22 hg (Or.inr ⟨rfl, rfl⟩) rfl rfl ?_
  refine g_aload_n C dX10_init_65 rfl ?_
  refine g_iconst (v := (5 : Int32)) C dX10_init_66 (by decide) ?_
  obtain ⟨a24, G23, ha24, hG23, hz, hf⟩ := nA_ok hf
  refine e_newa (sl := 5) C (Or.inl ⟨rfl, rfl⟩) ac_int hz (by decide) (by omega) dX10_init_67 ha24 hG23 ?_
  obtain ⟨G25, hG25, hg, hf⟩ := pR_ok hf
  refine e_putR C fl_Mo_36 dX10_init_69 hG25 hg (Or.inr ⟨rfl, rfl⟩) rfl rfl ?_
  refine g_aload_n C dX10_init_72 rfl ?_
  refine g_iconst (v := (5 : Int32)) C dX10_init_73 (by decide) ?_
  obtain ⟨a27, G26, ha27, hG26, hz, hf⟩ := nA_ok hf
  refine e_newa (sl := 5) C (Or.inl ⟨rfl, rfl⟩) ac_int hz (by decide) (by omega) dX10_init_74 ha27 hG26 ?_
  obtain ⟨G28, hG28, hg, hf⟩ := pR_ok hf
  refine e_putR C fl_Mo_39 dX10_init_76 hG28 hg (Or.inr ⟨rfl, rfl⟩) rfl rfl ?_
  refine g_aload_n C dX10_init_79 rfl ?_
  refine g_iconst (v := (4 : Int32)) C dX10_init_80 (by decide) ?_
  obtain ⟨a30, G29, ha30, hG29, hz, hf⟩ := nA_ok hf
  refine e_newa (sl := 4) C (Or.inl ⟨rfl, rfl⟩) ac_int hz (by decide) (by omega) dX10_init_81 ha30 hG29 ?_
  obtain ⟨G31, hG31, hg, hf⟩ := pR_ok hf
  refine e_putR C fl_Mo_42 dX10_init_83 hG31 hg (Or.inr ⟨rfl, rfl⟩) rfl rfl ?_
  refine g_aload_n C dX10_init_86 rfl ?_
  refine g_bipush (v := (12 : Int32)) C dX10_init_87 (by decide) ?_
  obtain ⟨a33, G32, ha33, hG32, hz, hf⟩ := nA_ok hf
  refine e_newa (sl := 12) C (Or.inl ⟨rfl, rfl⟩) ac_int hz (by decide) (by omega) dX10_init_89 ha33 hG32 ?_
  obtain ⟨G34, hG34, hg, hf⟩ := pR_ok hf
  refine e_putR C fl_Mo_45 dX10_init_91 hG34 hg (Or.inr ⟨rfl, rfl⟩) rfl rfl ?_
  refine g_aload_n C dX10_init_94 rfl ?_
  refine g_sipush (v := (250 : Int32)) C dX10_init_95 (by decide) ?_
  obtain ⟨a36, G35, ha36, hG35, hz, hf⟩ := nA_ok hf
  refine e_newa (sl := 250) C (Or.inl ⟨rfl, rfl⟩) ac_int hz (by decide) (by omega) dX10_init_98 ha36 hG35 ?_
  obtain ⟨G37, hG37, hg, hf⟩ := pR_ok hf
  refine e_putR C fl_Mo_48 dX10_init_100 hG37 hg (Or.inr ⟨rfl, rfl⟩) rfl rfl ?_
  refine g_aload_n C dX10_init_103 rfl ?_
  refine g_sipush (v := (161 : Int32)) C dX10_init_104 (by decide) ?_
  obtain ⟨a39, G38, ha39, hG38, hz, hf⟩ := nA_ok hf
  refine e_newa (sl := 161) C (Or.inl ⟨rfl, rfl⟩) ac_int hz (by decide) (by omega) dX10_init_107 ha39 hG38 ?_
  obtain ⟨G40, hG40, hg, hf⟩ := pR_ok hf
  refine e_putR C fl_Mo_51 dX10_init_109 hG40 hg (Or.inr ⟨rfl, rfl⟩) rfl rfl ?_
  refine g_aload_n C dX10_init_112 rfl ?_
  refine g_bipush (v := (6 : Int32)) C dX10_init_113 (by decide) ?_
  obtain ⟨a42, G41, ha42, hG41, hz, hf⟩ := nA_ok hf
  refine e_newa (sl := 6) C (Or.inl ⟨rfl, rfl⟩) ac_int hz (by decide) (by omega) dX10_init_115 ha42 hG41 ?_
  obtain ⟨G43, hG43, hg, hf⟩ := pR_ok hf
  refine e_putR C fl_Mo_54 dX10_init_117 hG43 hg (Or.inr ⟨rfl, rfl⟩) rfl rfl ?_
  refine g_iconst (v := (0 : Int32)) C dX10_init_120 (by decide) ?_
  refine g_istore_n (lv' := [some (.ref (E.2.1 + l0)), some (.int (0 : Int32))]) C dX10_init_121 (by decide) rfl ?_
  refine g_sub (lv' := [some (.ref (E.2.1 + l0)), some (.int (0 : Int32))]) ⟨rfl, ⟨rfl, trivial⟩⟩ ?_
  exact l_Mo_init_b122 C HR  FU hf
theorem c_Mo_init (E : EE) {G : Hp} {l0 : Nat} {G' : Hp} (h : f_Mo_init G l0 = some G') : gCt E y_Mo_init cX10_init 2 none 1 30 14 2034 [.ref (E.2.1 + l0)] G none G' := gCt_of (own := "FavoursGoOffModel") (ini := true) [some (.ref (E.2.1 + l0)), none] (by decide +kernel) rfl (fun _ => rfl) (Nat.le_of_ble_eq_true rfl) ⟨rfl, trivial⟩ (fun X C HR => l_Mo_init C HR h)
set_option maxRecDepth 20000 in
theorem l_Mo_in_b18 {E : EE} {X : CT} {G : Hp} (C : gCx E X cX10_in "FavoursGoOffModel" (some .boolean) 0 0 0 0 false 6) {r : Int32} (HR : gRet E X cX10_in (some .boolean) 0 0 (some (.int r)) G) {s0 : Int32} (hf : f_Mo_in_b18 G s0 = some r) : gV E X 0 0 G 18 [none, none, none, none, none, none] [.int s0] := by
  unfold f_Mo_in_b18 at hf
  obtain ⟨hv, hf⟩ := zR_ok hf
  obtain rfl := rP_ok hf
  exact g_zret HR hv dX10_in_18
set_option maxRecDepth 20000 in
theorem l_Mo_in_b17 {E : EE} {X : CT} {G : Hp} (C : gCx E X cX10_in "FavoursGoOffModel" (some .boolean) 0 0 0 0 false 6) {r : Int32} (HR : gRet E X cX10_in (some .boolean) 0 0 (some (.int r)) G) (hf : f_Mo_in_b17 G = some r) : gV E X 0 0 G 17 [none, none, none, none, none, none] [] := by
  unfold f_Mo_in_b17 at hf
  refine g_iconst (v := (0 : Int32)) C dX10_in_17 (by decide) ?_
  refine g_sub (lv' := [none, none, none, none, none, none]) trivial ?_
  exact l_Mo_in_b18 C HR  hf
set_option maxRecDepth 20000 in
theorem l_Mo_in {E : EE} {X : CT} {G : Hp} (C : gCx E X cX10_in "FavoursGoOffModel" (some .boolean) 0 0 0 0 false 6) {r : Int32} (HR : gRet E X cX10_in (some .boolean) 0 0 (some (.int r)) G) {l0 : Int64} {l2 : Int64} {l4 : Int64} (hf : f_Mo_in G l0 l2 l4 = some r) : gV E X 0 0 G 0 [some (.long l0), none, some (.long l2), none, some (.long l4), none] [] := by
  unfold f_Mo_in at hf
  refine g_lload_n C dX10_in_0 rfl ?_
  refine g_lload_n C dX10_in_1 rfl ?_
  refine g_lcmp C dX10_in_2 ?_
  refine g_if_lt (tgt := 17) C dX10_in_3 (by decide) (fun hc => ?_) (fun hc => ?_)
  · have hf := iteT hf hc
    refine g_sub (lv' := [none, none, none, none, none, none]) trivial ?_
    exact l_Mo_in_b17 C HR  hf
  · have hf := iteF hf hc
    refine g_lload_n C dX10_in_6 rfl ?_
    refine g_lload C dX10_in_7 rfl ?_
    refine g_lcmp C dX10_in_9 ?_
    refine g_if_gt (tgt := 17) C dX10_in_10 (by decide) (fun hc => ?_) (fun hc => ?_)
    · have hf := iteT hf hc
      refine g_sub (lv' := [none, none, none, none, none, none]) trivial ?_
      exact l_Mo_in_b17 C HR  hf
    · have hf := iteF hf hc
      refine g_iconst (v := (1 : Int32)) C dX10_in_13 (by decide) ?_
      refine g_goto (tgt := 18) C dX10_in_14 (by decide) ?_
      refine g_sub (lv' := [none, none, none, none, none, none]) trivial ?_
      exact l_Mo_in_b18 C HR  hf
theorem c_Mo_in (E : EE) {G : Hp} {l0 : Int64} {l2 : Int64} {l4 : Int64} {r : Int32} (h : f_Mo_in G l0 l2 l4 = some r) : gCt E y_Mo_in cX10_in 6 (some .boolean) 0 0 0 0 [.long l0, .long l2, .long l4] G (some (.int r)) G := gCt_of (own := "FavoursGoOffModel") (ini := false) [some (.long l0), none, some (.long l2), none, some (.long l4), none] (by decide +kernel) rfl (fun h => by cases h) (Nat.le_of_ble_eq_true rfl) ⟨rfl, ⟨rfl, ⟨rfl, trivial⟩⟩⟩ (fun X C HR => l_Mo_in C HR h)
set_option maxRecDepth 20000 in
theorem l_Mo_bad {E : EE} {X : CT} {G : Hp} (C : gCx E X cX10_bad "FavoursGoOffModel" (some .int) 0 0 0 0 false 2) {r : Int32} {G' : Hp} (HR : gRet E X cX10_bad (some .int) 0 0 (some (.int r)) G') {l0 : Nat} {l1 : Int32} (hf : f_Mo_bad G l0 l1 = some (r, G')) : gV E X 0 0 G 0 [some (.ref (E.2.1 + l0)), some (.int l1)] [] := by
  unfold f_Mo_bad at hf
  refine g_aload_n C dX10_bad_0 rfl ?_
  obtain ⟨x1, hg, hf⟩ := gR_ok hf
  refine g_getR C fl_Mo_20 dX10_bad_1 hg ?_
  refine g_iconst (v := (0 : Int32)) C dX10_bad_4 (by decide) ?_
  refine g_dup2 C dX10_bad_5 rfl rfl ?_
  obtain ⟨x2, hx2, hg, hf⟩ := aI_ok hf
  refine e_iald C dX10_bad_6 hx2 hg ?_
  refine g_iconst (v := (1 : Int32)) C dX10_bad_7 (by decide) ?_
  refine g_iadd C dX10_bad_8 ?_
  obtain ⟨G3, hG3, hg, hf⟩ := sI_ok hf
  refine e_iast C dX10_bad_9 hG3 hg ?_
  refine g_iload_n C dX10_bad_10 rfl ?_
  obtain ⟨rfl, rfl⟩ := rH_ok hf
  exact g_iret HR dX10_bad_11
theorem c_Mo_bad (E : EE) {G : Hp} {l0 : Nat} {l1 : Int32} {r : Int32} {G' : Hp} (h : f_Mo_bad G l0 l1 = some (r, G')) : gCt E y_Mo_bad cX10_bad 2 (some .int) 0 0 0 0 [.ref (E.2.1 + l0), .int l1] G (some (.int r)) G' := gCt_of (own := "FavoursGoOffModel") (ini := false) [some (.ref (E.2.1 + l0)), some (.int l1)] (by decide +kernel) rfl (fun h => by cases h) (Nat.le_of_ble_eq_true rfl) ⟨rfl, ⟨rfl, trivial⟩⟩ (fun X C HR => l_Mo_bad C HR h)
set_option maxRecDepth 20000 in
theorem l_Mo_no {E : EE} {X : CT} {G : Hp} (C : gCx E X cX10_no "FavoursGoOffModel" (some .int) 0 0 0 0 false 2) {r : Int32} {G' : Hp} (HR : gRet E X cX10_no (some .int) 0 0 (some (.int r)) G') {l0 : Nat} {l1 : Int32} (hf : f_Mo_no G l0 l1 = some (r, G')) : gV E X 0 0 G 0 [some (.ref (E.2.1 + l0)), some (.int l1)] [] := by
  unfold f_Mo_no at hf
  refine g_aload_n C dX10_no_0 rfl ?_
  obtain ⟨x1, hg, hf⟩ := gR_ok hf
  refine g_getR C fl_Mo_20 dX10_no_1 hg ?_
  refine g_iconst (v := (1 : Int32)) C dX10_no_4 (by decide) ?_
  refine g_dup2 C dX10_no_5 rfl rfl ?_
  obtain ⟨x2, hx2, hg, hf⟩ := aI_ok hf
  refine e_iald C dX10_no_6 hx2 hg ?_
  refine g_iconst (v := (1 : Int32)) C dX10_no_7 (by decide) ?_
  refine g_iadd C dX10_no_8 ?_
  obtain ⟨G3, hG3, hg, hf⟩ := sI_ok hf
  refine e_iast C dX10_no_9 hG3 hg ?_
  refine g_iload_n C dX10_no_10 rfl ?_
  obtain ⟨rfl, rfl⟩ := rH_ok hf
  exact g_iret HR dX10_no_11
theorem c_Mo_no (E : EE) {G : Hp} {l0 : Nat} {l1 : Int32} {r : Int32} {G' : Hp} (h : f_Mo_no G l0 l1 = some (r, G')) : gCt E y_Mo_no cX10_no 2 (some .int) 0 0 0 0 [.ref (E.2.1 + l0), .int l1] G (some (.int r)) G' := gCt_of (own := "FavoursGoOffModel") (ini := false) [some (.ref (E.2.1 + l0)), some (.int l1)] (by decide +kernel) rfl (fun h => by cases h) (Nat.le_of_ble_eq_true rfl) ⟨rfl, ⟨rfl, trivial⟩⟩ (fun X C HR => l_Mo_no C HR h)
set_option maxRecDepth 20000 in
theorem l_Mo_full {E : EE} {X : CT} {G : Hp} (C : gCx E X cX10_full "FavoursGoOffModel" (some .int) 0 0 0 0 false 1) {r : Int32} {G' : Hp} (HR : gRet E X cX10_full (some .int) 0 0 (some (.int r)) G') {l0 : Nat} (hf : f_Mo_full G l0 = some (r, G')) : gV E X 0 0 G 0 [some (.ref (E.2.1 + l0))] [] := by
  unfold f_Mo_full at hf
  refine g_aload_n C dX10_full_0 rfl ?_
  obtain ⟨x1, hg, hf⟩ := gR_ok hf
  refine g_getR C fl_Mo_20 dX10_full_1 hg ?_
  refine g_iconst (v := (2 : Int32)) C dX10_full_4 (by decide) ?_
  refine g_dup2 C dX10_full_5 rfl rfl ?_
  obtain ⟨x2, hx2, hg, hf⟩ := aI_ok hf
  refine e_iald C dX10_full_6 hx2 hg ?_
  refine g_iconst (v := (1 : Int32)) C dX10_full_7 (by decide) ?_
  refine g_iadd C dX10_full_8 ?_
  obtain ⟨G3, hG3, hg, hf⟩ := sI_ok hf
  refine e_iast C dX10_full_9 hG3 hg ?_
  refine g_bipush (v := (-4 : Int32)) C dX10_full_10 (by decide) ?_
  obtain ⟨rfl, rfl⟩ := rH_ok hf
  exact g_iret HR dX10_full_12
theorem c_Mo_full (E : EE) {G : Hp} {l0 : Nat} {r : Int32} {G' : Hp} (h : f_Mo_full G l0 = some (r, G')) : gCt E y_Mo_full cX10_full 1 (some .int) 0 0 0 0 [.ref (E.2.1 + l0)] G (some (.int r)) G' := gCt_of (own := "FavoursGoOffModel") (ini := false) [some (.ref (E.2.1 + l0))] (by decide +kernel) rfl (fun h => by cases h) (Nat.le_of_ble_eq_true rfl) ⟨rfl, trivial⟩ (fun X C HR => l_Mo_full C HR h)
set_option maxRecDepth 20000 in
theorem l_Mo_tells_b6k {E : EE} {X : CT} {G : Hp} (C : gCx E X cX10_tells "FavoursGoOffModel" (some .int) 0 0 0 0 false 11) {r : Int32} {G' : Hp} (HR : gRet E X cX10_tells (some .int) 0 0 (some (.int r)) G') {k6 : Hp → Nat → Int64 → Int64 → Int64 → Int64 → Option (Int32 × Hp)} (K6 : ∀ {G : Hp} {l0 : Nat} {l1 : Int64} {l3 : Int64} {l5 : Int64} {l7 : Int64}, k6 G l0 l1 l3 l5 l7 = some (r, G') → gV E X 0 0 G 6 [some (.ref (E.2.1 + l0)), some (.long l1), none, some (.long l3), none, some (.long l5), none, some (.long l7), none, none, none] []) {l0 : Nat} {l1 : Int64} {l3 : Int64} {l5 : Int64} {l7 : Int64} (hf : f_Mo_tells_b6_k k6 G l0 l1 l3 l5 l7 = some (r, G')) : gV E X 0 0 G 6 [some (.ref (E.2.1 + l0)), some (.long l1), none, some (.long l3), none, some (.long l5), none, some (.long l7), none, none, none] [] := by
  unfold f_Mo_tells_b6_k at hf
  refine g_lload C dX10_tells_6 rfl ?_
  refine g_lconst (v := (0 : Int64)) C dX10_tells_8 (by decide) ?_
  refine g_lcmp C dX10_tells_9 ?_
  refine g_if_eq (tgt := 31) C dX10_tells_10 (by decide) (fun hc => ?_) (fun hc => ?_)
  · have hf := iteT hf hc
    refine g_aload_n C dX10_tells_31 rfl ?_
    refine g_lload_n C dX10_tells_32 rfl ?_
    refine g_lload C dX10_tells_33 rfl ?_
    obtain ⟨hy, hf⟩ := dL_ok hf
    refine g_ldiv C dX10_tells_35 hy ?_
    obtain ⟨G1, hG1, hg, hf⟩ := pL_ok hf
    refine e_putL C fl_Mo_61 dX10_tells_36 hG1 hg (Or.inl rfl) ?_
    refine g_aload_n C dX10_tells_39 rfl ?_
    refine g_lload_n C dX10_tells_40 rfl ?_
    refine g_lload C dX10_tells_41 rfl ?_
    obtain ⟨hy, hf⟩ := dL_ok hf
    refine g_ldiv C dX10_tells_43 hy ?_
    obtain ⟨G2, hG2, hg, hf⟩ := pL_ok hf
    refine e_putL C fl_Mo_23 dX10_tells_44 hG2 hg (Or.inl rfl) ?_
    refine g_iconst (v := (1 : Int32)) C dX10_tells_47 (by decide) ?_
    obtain ⟨rfl, rfl⟩ := rH_ok hf
    exact g_iret HR dX10_tells_48
  · have hf := iteF hf hc
    refine g_lload C dX10_tells_13 rfl ?_
    refine g_lload C dX10_tells_15 rfl ?_
    obtain ⟨hy, hf⟩ := dL_ok hf
    refine g_lrem C dX10_tells_17 hy ?_
    obtain ⟨x3, hx3, hf⟩ := lt_ok hf
    refine e_topl hx3 ?_
    refine g_lstore (lv' := [some (.ref (E.2.1 + l0)), some (.long l1), none, some (.long l3), none, some (.long l5), none, some (.long l7), none, some (.long x3), none]) C dX10_tells_18 (by decide) rfl ?_
    refine g_lload C dX10_tells_20 rfl ?_
    refine g_lstore (lv' := [some (.ref (E.2.1 + l0)), some (.long l1), none, some (.long l3), none, some (.long l7), none, some (.long l7), none, some (.long x3), none]) C dX10_tells_22 (by decide) rfl ?_
    refine g_lload C dX10_tells_24 rfl ?_
    refine g_lstore (lv' := [some (.ref (E.2.1 + l0)), some (.long l1), none, some (.long l3), none, some (.long l7), none, some (.long x3), none, some (.long x3), none]) C dX10_tells_26 (by decide) rfl ?_
    refine g_goto (tgt := 6) C dX10_tells_28 (by decide) ?_
    refine g_sub (lv' := [some (.ref (E.2.1 + l0)), some (.long l1), none, some (.long l3), none, some (.long l7), none, some (.long x3), none, none, none]) ⟨rfl, ⟨rfl, ⟨rfl, ⟨rfl, ⟨rfl, trivial⟩⟩⟩⟩⟩ ?_
    exact K6 hf
theorem l_Mo_tells_b6 {E : EE} {X : CT} (C : gCx E X cX10_tells "FavoursGoOffModel" (some .int) 0 0 0 0 false 11) {r : Int32} {G' : Hp} (HR : gRet E X cX10_tells (some .int) 0 0 (some (.int r)) G') : ∀ (nn : Nat) {G : Hp} {l0 : Nat} {l1 : Int64} {l3 : Int64} {l5 : Int64} {l7 : Int64}, f_Mo_tells_b6 nn G l0 l1 l3 l5 l7 = some (r, G') → gV E X 0 0 G 6 [some (.ref (E.2.1 + l0)), some (.long l1), none, some (.long l3), none, some (.long l5), none, some (.long l7), none, none, none] []
  | 0, _, _, _, _, _, _, hf => by have h0 : (none : Option (Int32 × Hp)) = some (r, G') := hf; cases h0
  | nn + 1, _, _, _, _, _, _, hf => l_Mo_tells_b6k C HR (fun h => l_Mo_tells_b6 C HR nn h) hf
set_option maxRecDepth 20000 in
theorem l_Mo_tells {E : EE} {X : CT} {G : Hp} (C : gCx E X cX10_tells "FavoursGoOffModel" (some .int) 0 0 0 0 false 11) {r : Int32} {G' : Hp} (HR : gRet E X cX10_tells (some .int) 0 0 (some (.int r)) G') {l0 : Nat} {l1 : Int64} {l3 : Int64} (hf : f_Mo_tells G l0 l1 l3 = some (r, G')) : gV E X 0 0 G 0 [some (.ref (E.2.1 + l0)), some (.long l1), none, some (.long l3), none, none, none, none, none, none, none] [] := by
  unfold f_Mo_tells at hf
  refine g_lload_n C dX10_tells_0 rfl ?_
  refine g_lstore (lv' := [some (.ref (E.2.1 + l0)), some (.long l1), none, some (.long l3), none, some (.long l1), none, none, none, none, none]) C dX10_tells_1 (by decide) rfl ?_
  refine g_lload_n C dX10_tells_3 rfl ?_
  refine g_lstore (lv' := [some (.ref (E.2.1 + l0)), some (.long l1), none, some (.long l3), none, some (.long l1), none, some (.long l3), none, none, none]) C dX10_tells_4 (by decide) rfl ?_
  refine g_sub (lv' := [some (.ref (E.2.1 + l0)), some (.long l1), none, some (.long l3), none, some (.long l1), none, some (.long l3), none, none, none]) ⟨rfl, ⟨rfl, ⟨rfl, ⟨rfl, ⟨rfl, trivial⟩⟩⟩⟩⟩ ?_
  exact l_Mo_tells_b6 C HR  FU hf
theorem c_Mo_tells (E : EE) {G : Hp} {l0 : Nat} {l1 : Int64} {l3 : Int64} {r : Int32} {G' : Hp} (h : f_Mo_tells G l0 l1 l3 = some (r, G')) : gCt E y_Mo_tells cX10_tells 11 (some .int) 0 0 0 0 [.ref (E.2.1 + l0), .long l1, .long l3] G (some (.int r)) G' := gCt_of (own := "FavoursGoOffModel") (ini := false) [some (.ref (E.2.1 + l0)), some (.long l1), none, some (.long l3), none, none, none, none, none, none, none] (by decide +kernel) rfl (fun h => by cases h) (Nat.le_of_ble_eq_true rfl) ⟨rfl, ⟨rfl, ⟨rfl, trivial⟩⟩⟩ (fun X C HR => l_Mo_tells C HR h)
set_option maxRecDepth 20000 in
theorem l_Mo_day {E : EE} {X : CT} {G : Hp} (C : gCx E X cX10_day "FavoursGoOffModel" (some .int) 0 0 0 0 false 1) {r : Int32} (HR : gRet E X cX10_day (some .int) 0 0 (some (.int r)) G) {l0 : Nat} (hf : f_Mo_day G l0 = some r) : gV E X 0 0 G 0 [some (.ref (E.2.1 + l0))] [] := by
  unfold f_Mo_day at hf
  refine g_aload_n C dX10_day_0 rfl ?_
  obtain ⟨x1, hg, hf⟩ := gR_ok hf
  refine g_getR C fl_Mo_7 dX10_day_1 hg ?_
  refine g_iconst (v := (0 : Int32)) C dX10_day_4 (by decide) ?_
  obtain ⟨x2, hx2, hg, hf⟩ := aI_ok hf
  refine e_iald C dX10_day_5 hx2 hg ?_
  obtain rfl := rP_ok hf
  exact g_iret HR dX10_day_6
theorem c_Mo_day (E : EE) {G : Hp} {l0 : Nat} {r : Int32} (h : f_Mo_day G l0 = some r) : gCt E y_Mo_day cX10_day 1 (some .int) 0 0 0 0 [.ref (E.2.1 + l0)] G (some (.int r)) G := gCt_of (own := "FavoursGoOffModel") (ini := false) [some (.ref (E.2.1 + l0))] (by decide +kernel) rfl (fun h => by cases h) (Nat.le_of_ble_eq_true rfl) ⟨rfl, trivial⟩ (fun X C HR => l_Mo_day C HR h)
set_option maxRecDepth 20000 in
theorem l_Mo_many {E : EE} {X : CT} {G : Hp} (C : gCx E X cX10_many "FavoursGoOffModel" (some .int) 0 0 0 0 false 1) {r : Int32} (HR : gRet E X cX10_many (some .int) 0 0 (some (.int r)) G) {l0 : Nat} (hf : f_Mo_many G l0 = some r) : gV E X 0 0 G 0 [some (.ref (E.2.1 + l0))] [] := by
  unfold f_Mo_many at hf
  refine g_aload_n C dX10_many_0 rfl ?_
  obtain ⟨x1, hg, hf⟩ := gR_ok hf
  refine g_getR C fl_Mo_7 dX10_many_1 hg ?_
  refine g_iconst (v := (1 : Int32)) C dX10_many_4 (by decide) ?_
  obtain ⟨x2, hx2, hg, hf⟩ := aI_ok hf
  refine e_iald C dX10_many_5 hx2 hg ?_
  obtain rfl := rP_ok hf
  exact g_iret HR dX10_many_6
theorem c_Mo_many (E : EE) {G : Hp} {l0 : Nat} {r : Int32} (h : f_Mo_many G l0 = some r) : gCt E y_Mo_many cX10_many 1 (some .int) 0 0 0 0 [.ref (E.2.1 + l0)] G (some (.int r)) G := gCt_of (own := "FavoursGoOffModel") (ini := false) [some (.ref (E.2.1 + l0))] (by decide +kernel) rfl (fun h => by cases h) (Nat.le_of_ble_eq_true rfl) ⟨rfl, trivial⟩ (fun X C HR => l_Mo_many C HR h)
set_option maxRecDepth 20000 in
theorem l_Mo_isOne {E : EE} {X : CT} {G : Hp} (C : gCx E X cX10_isOne "FavoursGoOffModel" (some .boolean) 1 25 0 0 false 2) {r : Int32} (HR : gRet E X cX10_isOne (some .boolean) 0 0 (some (.int r)) G) {l0 : Nat} {l1 : Int32} (hf : f_Mo_isOne G l0 l1 = some r) : gV E X 0 0 G 0 [some (.ref (E.2.1 + l0)), some (.int l1)] [] := by
  unfold f_Mo_isOne at hf
  refine g_iload_n C dX10_isOne_0 rfl ?_
  refine g_i2l C dX10_isOne_1 ?_
  refine g_lconst (v := (0 : Int64)) C dX10_isOne_2 (by decide) ?_
  refine g_aload_n C dX10_isOne_3 rfl ?_
  obtain ⟨x1, hg, h1, hf⟩ := vP_ok hf
  refine g_invV (As := []) (st := [.long (0 : Int64), .long l1.toInt64]) C (c_Mo_many E h1) (rfl : vwCl[10]? = some (y_Mo_many.cls, TX10, 24)) (by decide) hg ml_Mo_64 cm_Mo_many.1 cm_Mo_many.2.1 cm_Mo_many.2.2.1 cm_Mo_many.2.2.2.1 cm_Mo_many.2.2.2.2 rfl ⟨by omega, by omega, by omega, by omega⟩ (by exact Nat.le_of_ble_eq_true rfl) rfl dX10_isOne_4 ?_
  refine g_iconst (v := (1 : Int32)) C dX10_isOne_7 (by decide) ?_
  refine g_isub C dX10_isOne_8 ?_
  refine g_i2l C dX10_isOne_9 ?_
  obtain ⟨x2, h1, hf⟩ := cP_ok hf
  refine g_invS (As := [.long l1.toInt64, .long (0 : Int64), .long ((x1 - (1 : Int32)).toInt64)]) (st := []) C (c_Mo_in E h1) ml_Mo_68 cm_Mo_in.1 cm_Mo_in.2.1 cm_Mo_in.2.2.1 cm_Mo_in.2.2.2 rfl ⟨by omega, by omega, by omega, by omega⟩ (by exact Nat.le_of_ble_eq_true rfl) rfl dX10_isOne_10 ?_
  obtain ⟨hv, hf⟩ := zR_ok hf
  obtain rfl := rP_ok hf
  exact g_zret HR hv dX10_isOne_13
theorem c_Mo_isOne (E : EE) {G : Hp} {l0 : Nat} {l1 : Int32} {r : Int32} (h : f_Mo_isOne G l0 l1 = some r) : gCt E y_Mo_isOne cX10_isOne 2 (some .boolean) 1 25 0 0 [.ref (E.2.1 + l0), .int l1] G (some (.int r)) G := gCt_of (own := "FavoursGoOffModel") (ini := false) [some (.ref (E.2.1 + l0)), some (.int l1)] (by decide +kernel) rfl (fun h => by cases h) (Nat.le_of_ble_eq_true rfl) ⟨rfl, ⟨rfl, trivial⟩⟩ (fun X C HR => l_Mo_isOne C HR h)
set_option maxRecDepth 20000 in
theorem l_Mo_isDay {E : EE} {X : CT} {G : Hp} (C : gCx E X cX10_isDay "FavoursGoOffModel" (some .boolean) 1 25 0 0 false 1) {r : Int32} (HR : gRet E X cX10_isDay (some .boolean) 0 0 (some (.int r)) G) {l0 : Int32} (hf : f_Mo_isDay G l0 = some r) : gV E X 0 0 G 0 [some (.int l0)] [] := by
  unfold f_Mo_isDay at hf
  refine g_iload_n C dX10_isDay_0 rfl ?_
  refine g_i2l C dX10_isDay_1 ?_
  refine g_lconst (v := (0 : Int64)) C dX10_isDay_2 (by decide) ?_
  refine g_ldc2 (v := (99 : Int64)) C dX10_isDay_3 kl_Mo_72 ?_
  obtain ⟨x1, h1, hf⟩ := cP_ok hf
  refine g_invS (As := [.long l0.toInt64, .long (0 : Int64), .long (99 : Int64)]) (st := []) C (c_Mo_in E h1) ml_Mo_68 cm_Mo_in.1 cm_Mo_in.2.1 cm_Mo_in.2.2.1 cm_Mo_in.2.2.2 rfl ⟨by omega, by omega, by omega, by omega⟩ (by exact Nat.le_of_ble_eq_true rfl) rfl dX10_isDay_6 ?_
  obtain ⟨hv, hf⟩ := zR_ok hf
  obtain rfl := rP_ok hf
  exact g_zret HR hv dX10_isDay_9
theorem c_Mo_isDay (E : EE) {G : Hp} {l0 : Int32} {r : Int32} (h : f_Mo_isDay G l0 = some r) : gCt E y_Mo_isDay cX10_isDay 1 (some .boolean) 1 25 0 0 [.int l0] G (some (.int r)) G := gCt_of (own := "FavoursGoOffModel") (ini := false) [some (.int l0)] (by decide +kernel) rfl (fun h => by cases h) (Nat.le_of_ble_eq_true rfl) ⟨rfl, trivial⟩ (fun X C HR => l_Mo_isDay C HR h)
set_option maxRecDepth 20000 in
theorem l_Mo_isThing {E : EE} {X : CT} {G : Hp} (C : gCx E X cX10_isThing "FavoursGoOffModel" (some .boolean) 1 25 0 0 false 1) {r : Int32} (HR : gRet E X cX10_isThing (some .boolean) 0 0 (some (.int r)) G) {l0 : Int32} (hf : f_Mo_isThing G l0 = some r) : gV E X 0 0 G 0 [some (.int l0)] [] := by
  unfold f_Mo_isThing at hf
  refine g_iload_n C dX10_isThing_0 rfl ?_
  refine g_i2l C dX10_isThing_1 ?_
  refine g_lconst (v := (0 : Int64)) C dX10_isThing_2 (by decide) ?_
  refine g_ldc2 (v := (3 : Int64)) C dX10_isThing_3 kl_Mo_74 ?_
  obtain ⟨x1, h1, hf⟩ := cP_ok hf
  refine g_invS (As := [.long l0.toInt64, .long (0 : Int64), .long (3 : Int64)]) (st := []) C (c_Mo_in E h1) ml_Mo_68 cm_Mo_in.1 cm_Mo_in.2.1 cm_Mo_in.2.2.1 cm_Mo_in.2.2.2 rfl ⟨by omega, by omega, by omega, by omega⟩ (by exact Nat.le_of_ble_eq_true rfl) rfl dX10_isThing_6 ?_
  obtain ⟨hv, hf⟩ := zR_ok hf
  obtain rfl := rP_ok hf
  exact g_zret HR hv dX10_isThing_9
theorem c_Mo_isThing (E : EE) {G : Hp} {l0 : Int32} {r : Int32} (h : f_Mo_isThing G l0 = some r) : gCt E y_Mo_isThing cX10_isThing 1 (some .boolean) 1 25 0 0 [.int l0] G (some (.int r)) G := gCt_of (own := "FavoursGoOffModel") (ini := false) [some (.int l0)] (by decide +kernel) rfl (fun h => by cases h) (Nat.le_of_ble_eq_true rfl) ⟨rfl, trivial⟩ (fun X C HR => l_Mo_isThing C HR h)
set_option maxRecDepth 20000 in
theorem l_Mo_isFavour {E : EE} {X : CT} {G : Hp} (C : gCx E X cX10_isFavour "FavoursGoOffModel" (some .boolean) 1 25 0 0 false 2) {r : Int32} (HR : gRet E X cX10_isFavour (some .boolean) 0 0 (some (.int r)) G) {l0 : Nat} {l1 : Int32} (hf : f_Mo_isFavour G l0 l1 = some r) : gV E X 0 0 G 0 [some (.ref (E.2.1 + l0)), some (.int l1)] [] := by
  unfold f_Mo_isFavour at hf
  refine g_iload_n C dX10_isFavour_0 rfl ?_
  refine g_i2l C dX10_isFavour_1 ?_
  refine g_lconst (v := (0 : Int64)) C dX10_isFavour_2 (by decide) ?_
  refine g_aload_n C dX10_isFavour_3 rfl ?_
  obtain ⟨x1, hg, hf⟩ := gR_ok hf
  refine g_getR C fl_Mo_7 dX10_isFavour_4 hg ?_
  refine g_sipush (v := (158 : Int32)) C dX10_isFavour_7 (by decide) ?_
  obtain ⟨x2, hx2, hg, hf⟩ := aI_ok hf
  refine e_iald C dX10_isFavour_10 hx2 hg ?_
  refine g_iconst (v := (1 : Int32)) C dX10_isFavour_11 (by decide) ?_
  refine g_isub C dX10_isFavour_12 ?_
  refine g_i2l C dX10_isFavour_13 ?_
  obtain ⟨x3, h1, hf⟩ := cP_ok hf
  refine g_invS (As := [.long l1.toInt64, .long (0 : Int64), .long ((x2 - (1 : Int32)).toInt64)]) (st := []) C (c_Mo_in E h1) ml_Mo_68 cm_Mo_in.1 cm_Mo_in.2.1 cm_Mo_in.2.2.1 cm_Mo_in.2.2.2 rfl ⟨by omega, by omega, by omega, by omega⟩ (by exact Nat.le_of_ble_eq_true rfl) rfl dX10_isFavour_14 ?_
  obtain ⟨hv, hf⟩ := zR_ok hf
  obtain rfl := rP_ok hf
  exact g_zret HR hv dX10_isFavour_17
theorem c_Mo_isFavour (E : EE) {G : Hp} {l0 : Nat} {l1 : Int32} {r : Int32} (h : f_Mo_isFavour G l0 l1 = some r) : gCt E y_Mo_isFavour cX10_isFavour 2 (some .boolean) 1 25 0 0 [.ref (E.2.1 + l0), .int l1] G (some (.int r)) G := gCt_of (own := "FavoursGoOffModel") (ini := false) [some (.ref (E.2.1 + l0)), some (.int l1)] (by decide +kernel) rfl (fun h => by cases h) (Nat.le_of_ble_eq_true rfl) ⟨rfl, ⟨rfl, trivial⟩⟩ (fun X C HR => l_Mo_isFavour C HR h)
set_option maxRecDepth 20000 in
theorem l_Mo_told0 {E : EE} {X : CT} {G : Hp} (C : gCx E X cX10_told0 "FavoursGoOffModel" (some .int) 0 0 0 0 false 3) {r : Int32} (HR : gRet E X cX10_told0 (some .int) 0 0 (some (.int r)) G) {l0 : Nat} {l1 : Int32} {l2 : Int32} (hf : f_Mo_told0 G l0 l1 l2 = some r) : gV E X 0 0 G 0 [some (.ref (E.2.1 + l0)), some (.int l1), some (.int l2)] [] := by
  unfold f_Mo_told0 at hf
  refine g_aload_n C dX10_told0_0 rfl ?_
  obtain ⟨x1, hg, hf⟩ := gR_ok hf
  refine g_getR C fl_Mo_7 dX10_told0_1 hg ?_
  refine g_bipush (v := (14 : Int32)) C dX10_told0_4 (by decide) ?_
  refine g_bipush (v := (7 : Int32)) C dX10_told0_6 (by decide) ?_
  refine g_iload_n C dX10_told0_8 rfl ?_
  refine g_imul C dX10_told0_9 ?_
  refine g_iadd C dX10_told0_10 ?_
  refine g_iload_n C dX10_told0_11 rfl ?_
  refine g_iadd C dX10_told0_12 ?_
  obtain ⟨x2, hx2, hg, hf⟩ := aI_ok hf
  refine e_iald C dX10_told0_13 hx2 hg ?_
  obtain rfl := rP_ok hf
  exact g_iret HR dX10_told0_14
theorem c_Mo_told0 (E : EE) {G : Hp} {l0 : Nat} {l1 : Int32} {l2 : Int32} {r : Int32} (h : f_Mo_told0 G l0 l1 l2 = some r) : gCt E y_Mo_told0 cX10_told0 3 (some .int) 0 0 0 0 [.ref (E.2.1 + l0), .int l1, .int l2] G (some (.int r)) G := gCt_of (own := "FavoursGoOffModel") (ini := false) [some (.ref (E.2.1 + l0)), some (.int l1), some (.int l2)] (by decide +kernel) rfl (fun h => by cases h) (Nat.le_of_ble_eq_true rfl) ⟨rfl, ⟨rfl, ⟨rfl, trivial⟩⟩⟩ (fun X C HR => l_Mo_told0 C HR h)
set_option maxRecDepth 20000 in
theorem l_Mo_people {E : EE} {X : CT} {G : Hp} (C : gCx E X cX10_people "FavoursGoOffModel" (some .int) 1 25 0 0 false 3) {r : Int32} {G' : Hp} (HR : gRet E X cX10_people (some .int) 0 0 (some (.int r)) G') {l0 : Nat} {l1 : Int32} (hf : f_Mo_people G l0 l1 = some (r, G')) : gV E X 0 0 G 0 [some (.ref (E.2.1 + l0)), some (.int l1), none] [] := by
  unfold f_Mo_people at hf
  refine g_iload_n C dX10_people_0 rfl ?_
  refine g_i2l C dX10_people_1 ?_
  refine g_ldc2 (v := (2 : Int64)) C dX10_people_2 kl_Mo_76 ?_
  refine g_ldc2 (v := (6 : Int64)) C dX10_people_5 kl_Mo_78 ?_
  obtain ⟨x1, h1, hf⟩ := cP_ok hf
  refine g_invS (As := [.long l1.toInt64, .long (2 : Int64), .long (6 : Int64)]) (st := []) C (c_Mo_in E h1) ml_Mo_68 cm_Mo_in.1 cm_Mo_in.2.1 cm_Mo_in.2.2.1 cm_Mo_in.2.2.2 rfl ⟨by omega, by omega, by omega, by omega⟩ (by exact Nat.le_of_ble_eq_true rfl) rfl dX10_people_8 ?_
  refine g_if_ne (tgt := 21) C dX10_people_11 (by decide) (fun hc => ?_) (fun hc => ?_)
  · have hf := iteF hf hc
    refine g_aload_n C dX10_people_21 rfl ?_
    obtain ⟨x2, hg, h1, hf⟩ := vP_ok hf
    refine g_invV (As := []) (st := []) C (c_Mo_many E h1) (rfl : vwCl[10]? = some (y_Mo_many.cls, TX10, 24)) (by decide) hg ml_Mo_64 cm_Mo_many.1 cm_Mo_many.2.1 cm_Mo_many.2.2.1 cm_Mo_many.2.2.2.1 cm_Mo_many.2.2.2.2 rfl ⟨by omega, by omega, by omega, by omega⟩ (by exact Nat.le_of_ble_eq_true rfl) rfl dX10_people_22 ?_
    refine g_istore_n (lv' := [some (.ref (E.2.1 + l0)), some (.int l1), some (.int x2)]) C dX10_people_25 (by decide) rfl ?_
    refine g_aload_n C dX10_people_26 rfl ?_
    obtain ⟨x3, hg, hf⟩ := gR_ok hf
    refine g_getR C fl_Mo_7 dX10_people_27 hg ?_
    refine g_iload_n C dX10_people_30 rfl ?_
    obtain ⟨G4, h1, hf⟩ := cP_ok hf
    refine g_invS (As := [.ref (E.2.1 + x3), .int l1]) (st := []) C (c_Mo_begin E h1) ml_Mo_57 cm_Mo_begin.1 cm_Mo_begin.2.1 cm_Mo_begin.2.2.1 cm_Mo_begin.2.2.2 rfl ⟨by omega, by omega, by omega, by omega⟩ (by exact Nat.le_of_ble_eq_true rfl) rfl dX10_people_31 ?_
    refine g_aload_n C dX10_people_34 rfl ?_
    obtain ⟨x5, hg, hf⟩ := gR_ok hf
    refine g_getR C fl_Mo_7 dX10_people_35 hg ?_
    refine g_sipush (v := (161 : Int32)) C dX10_people_38 (by decide) ?_
    refine g_iconst (v := (0 : Int32)) C dX10_people_41 (by decide) ?_
    obtain ⟨G6, hG6, hg, hf⟩ := sI_ok hf
    refine e_iast C dX10_people_42 hG6 hg ?_
    refine g_iload_n C dX10_people_43 rfl ?_
    obtain ⟨rfl, rfl⟩ := rH_ok hf
    exact g_iret HR dX10_people_44
  · have hf := iteT hf hc
    refine g_aload_n C dX10_people_14 rfl ?_
    refine g_bipush (v := (-2 : Int32)) C dX10_people_15 (by decide) ?_
    obtain ⟨x7, G8, hg, h1, hf⟩ := vH_ok hf
    refine g_invV (As := [.int (-2 : Int32)]) (st := []) C (c_Mo_bad E h1) (rfl : vwCl[10]? = some (y_Mo_bad.cls, TX10, 24)) (by decide) hg ml_Mo_80 cm_Mo_bad.1 cm_Mo_bad.2.1 cm_Mo_bad.2.2.1 cm_Mo_bad.2.2.2.1 cm_Mo_bad.2.2.2.2 rfl ⟨by omega, by omega, by omega, by omega⟩ (by exact Nat.le_of_ble_eq_true rfl) rfl dX10_people_17 ?_
    obtain ⟨rfl, rfl⟩ := rH_ok hf
    exact g_iret HR dX10_people_20
theorem c_Mo_people (E : EE) {G : Hp} {l0 : Nat} {l1 : Int32} {r : Int32} {G' : Hp} (h : f_Mo_people G l0 l1 = some (r, G')) : gCt E y_Mo_people cX10_people 3 (some .int) 1 25 0 0 [.ref (E.2.1 + l0), .int l1] G (some (.int r)) G' := gCt_of (own := "FavoursGoOffModel") (ini := false) [some (.ref (E.2.1 + l0)), some (.int l1), none] (by decide +kernel) rfl (fun h => by cases h) (Nat.le_of_ble_eq_true rfl) ⟨rfl, ⟨rfl, trivial⟩⟩ (fun X C HR => l_Mo_people C HR h)
set_option maxRecDepth 20000 in
theorem l_Mo_strong_b20 {E : EE} {X : CT} {G : Hp} (C : gCx E X cX10_strong "FavoursGoOffModel" (some .int) 2 46 0 0 false 4) {r : Int32} {G' : Hp} (HR : gRet E X cX10_strong (some .int) 0 0 (some (.int r)) G') {l0 : Nat} (hf : f_Mo_strong_b20 G l0 = some (r, G')) : gV E X 0 0 G 20 [some (.ref (E.2.1 + l0)), none, none, none] [] := by
  unfold f_Mo_strong_b20 at hf
  refine g_aload_n C dX10_strong_20 rfl ?_
  refine g_bipush (v := (-2 : Int32)) C dX10_strong_21 (by decide) ?_
  obtain ⟨x1, G2, hg, h1, hf⟩ := vH_ok hf
  refine g_invV (As := [.int (-2 : Int32)]) (st := []) C (c_Mo_bad E h1) (rfl : vwCl[10]? = some (y_Mo_bad.cls, TX10, 24)) (by decide) hg ml_Mo_80 cm_Mo_bad.1 cm_Mo_bad.2.1 cm_Mo_bad.2.2.1 cm_Mo_bad.2.2.2.1 cm_Mo_bad.2.2.2.2 rfl ⟨by omega, by omega, by omega, by omega⟩ (by exact Nat.le_of_ble_eq_true rfl) rfl dX10_strong_23 ?_
  obtain ⟨rfl, rfl⟩ := rH_ok hf
  exact g_iret HR dX10_strong_26
set_option maxRecDepth 20000 in
theorem l_Mo_strong {E : EE} {X : CT} {G : Hp} (C : gCx E X cX10_strong "FavoursGoOffModel" (some .int) 2 46 0 0 false 4) {r : Int32} {G' : Hp} (HR : gRet E X cX10_strong (some .int) 0 0 (some (.int r)) G') {l0 : Nat} {l1 : Int32} {l2 : Int32} (hf : f_Mo_strong G l0 l1 l2 = some (r, G')) : gV E X 0 0 G 0 [some (.ref (E.2.1 + l0)), some (.int l1), some (.int l2), none] [] := by
  unfold f_Mo_strong at hf
  refine g_aload_n C dX10_strong_0 rfl ?_
  refine g_iload_n C dX10_strong_1 rfl ?_
  obtain ⟨x1, hg, h1, hf⟩ := vP_ok hf
  refine g_invV (As := [.int l1]) (st := []) C (c_Mo_isOne E h1) (rfl : vwCl[10]? = some (y_Mo_isOne.cls, TX10, 24)) (by decide) hg ml_Mo_84 cm_Mo_isOne.1 cm_Mo_isOne.2.1 cm_Mo_isOne.2.2.1 cm_Mo_isOne.2.2.2.1 cm_Mo_isOne.2.2.2.2 rfl ⟨by omega, by omega, by omega, by omega⟩ (by exact Nat.le_of_ble_eq_true rfl) rfl dX10_strong_2 ?_
  refine g_if_eq (tgt := 20) C dX10_strong_5 (by decide) (fun hc => ?_) (fun hc => ?_)
  · have hf := iteT hf hc
    refine g_sub (lv' := [some (.ref (E.2.1 + l0)), none, none, none]) ⟨rfl, trivial⟩ ?_
    exact l_Mo_strong_b20 C HR  hf
  · have hf := iteF hf hc
    refine g_iload_n C dX10_strong_8 rfl ?_
    refine g_i2l C dX10_strong_9 ?_
    refine g_lconst (v := (0 : Int64)) C dX10_strong_10 (by decide) ?_
    refine g_ldc2 (v := (99 : Int64)) C dX10_strong_11 kl_Mo_72 ?_
    obtain ⟨x2, h1, hf⟩ := cP_ok hf
    refine g_invS (As := [.long l2.toInt64, .long (0 : Int64), .long (99 : Int64)]) (st := []) C (c_Mo_in E h1) ml_Mo_68 cm_Mo_in.1 cm_Mo_in.2.1 cm_Mo_in.2.2.1 cm_Mo_in.2.2.2 rfl ⟨by omega, by omega, by omega, by omega⟩ (by exact Nat.le_of_ble_eq_true rfl) rfl dX10_strong_14 ?_
    refine g_if_ne (tgt := 27) C dX10_strong_17 (by decide) (fun hc => ?_) (fun hc => ?_)
    · have hf := iteF hf hc
      refine g_aload_n C dX10_strong_27 rfl ?_
      obtain ⟨x3, hg, hf⟩ := gR_ok hf
      refine g_getR C fl_Mo_7 dX10_strong_28 hg ?_
      refine g_iconst (v := (2 : Int32)) C dX10_strong_31 (by decide) ?_
      refine g_iload_n C dX10_strong_32 rfl ?_
      refine g_iadd C dX10_strong_33 ?_
      obtain ⟨x4, hx4, hg, hf⟩ := aI_ok hf
      refine e_iald C dX10_strong_34 hx4 hg ?_
      refine g_istore_n (lv' := [some (.ref (E.2.1 + l0)), some (.int l1), some (.int l2), some (.int x4)]) C dX10_strong_35 (by decide) rfl ?_
      refine g_aload_n C dX10_strong_36 rfl ?_
      obtain ⟨x5, hg, hf⟩ := gR_ok hf
      refine g_getR C fl_Mo_7 dX10_strong_37 hg ?_
      refine g_iconst (v := (2 : Int32)) C dX10_strong_40 (by decide) ?_
      refine g_iload_n C dX10_strong_41 rfl ?_
      refine g_iadd C dX10_strong_42 ?_
      refine g_iload_n C dX10_strong_43 rfl ?_
      obtain ⟨G6, hG6, hg, hf⟩ := sI_ok hf
      refine e_iast C dX10_strong_44 hG6 hg ?_
      refine g_iload_n C dX10_strong_45 rfl ?_
      obtain ⟨rfl, rfl⟩ := rH_ok hf
      exact g_iret HR dX10_strong_46
    · have hf := iteT hf hc
      refine g_sub (lv' := [some (.ref (E.2.1 + l0)), none, none, none]) ⟨rfl, trivial⟩ ?_
      exact l_Mo_strong_b20 C HR  hf
theorem c_Mo_strong (E : EE) {G : Hp} {l0 : Nat} {l1 : Int32} {l2 : Int32} {r : Int32} {G' : Hp} (h : f_Mo_strong G l0 l1 l2 = some (r, G')) : gCt E y_Mo_strong cX10_strong 4 (some .int) 2 46 0 0 [.ref (E.2.1 + l0), .int l1, .int l2] G (some (.int r)) G' := gCt_of (own := "FavoursGoOffModel") (ini := false) [some (.ref (E.2.1 + l0)), some (.int l1), some (.int l2), none] (by decide +kernel) rfl (fun h => by cases h) (Nat.le_of_ble_eq_true rfl) ⟨rfl, ⟨rfl, ⟨rfl, trivial⟩⟩⟩ (fun X C HR => l_Mo_strong C HR h)
set_option maxRecDepth 20000 in
theorem l_Mo_layFavour {E : EE} {X : CT} {G : Hp} (C : gCx E X cX10_layFavour "FavoursGoOffModel" none 0 0 0 0 false 10) {G' : Hp} (HR : gRet E X cX10_layFavour none 0 0 none G') {l0 : Nat} {l1 : Int32} {l2 : Int32} {l3 : Int32} {l4 : Int32} {l5 : Int32} {l6 : Int32} {l7 : Int32} {l8 : Int32} (hf : f_Mo_layFavour G l0 l1 l2 l3 l4 l5 l6 l7 l8 = some G') : gV E X 0 0 G 0 [some (.ref (E.2.1 + l0)), some (.int l1), some (.int l2), some (.int l3), some (.int l4), some (.int l5), some (.int l6), some (.int l7), some (.int l8), none] [] := by
  unfold f_Mo_layFavour at hf
  refine g_bipush (v := (14 : Int32)) C dX10_layFavour_0 (by decide) ?_
  refine g_bipush (v := (7 : Int32)) C dX10_layFavour_2 (by decide) ?_
  refine g_iload_n C dX10_layFavour_4 rfl ?_
  refine g_imul C dX10_layFavour_5 ?_
  refine g_iadd C dX10_layFavour_6 ?_
  obtain ⟨x1, hx1, hf⟩ := lt_ok hf
  refine e_top hx1 ?_
  refine g_istore (lv' := [some (.ref (E.2.1 + l0)), some (.int l1), some (.int l2), some (.int l3), some (.int l4), some (.int l5), some (.int l6), some (.int l7), some (.int l8), some (.int x1)]) C dX10_layFavour_7 (by decide) rfl ?_
  refine g_aload_n C dX10_layFavour_9 rfl ?_
  refine g_iload C dX10_layFavour_10 rfl ?_
  refine g_iconst (v := (0 : Int32)) C dX10_layFavour_12 (by decide) ?_
  refine g_iadd C dX10_layFavour_13 ?_
  refine g_iload_n C dX10_layFavour_14 rfl ?_
  obtain ⟨G2, hG2, hg, hf⟩ := sI_ok hf
  refine e_iast C dX10_layFavour_15 hG2 hg ?_
  refine g_aload_n C dX10_layFavour_16 rfl ?_
  refine g_iload C dX10_layFavour_17 rfl ?_
  refine g_iconst (v := (1 : Int32)) C dX10_layFavour_19 (by decide) ?_
  refine g_iadd C dX10_layFavour_20 ?_
  refine g_iload_n C dX10_layFavour_21 rfl ?_
  obtain ⟨G3, hG3, hg, hf⟩ := sI_ok hf
  refine e_iast C dX10_layFavour_22 hG3 hg ?_
  refine g_aload_n C dX10_layFavour_23 rfl ?_
  refine g_iload C dX10_layFavour_24 rfl ?_
  refine g_iconst (v := (2 : Int32)) C dX10_layFavour_26 (by decide) ?_
  refine g_iadd C dX10_layFavour_27 ?_
  refine g_iload C dX10_layFavour_28 rfl ?_
  obtain ⟨G4, hG4, hg, hf⟩ := sI_ok hf
  refine e_iast C dX10_layFavour_30 hG4 hg ?_
  refine g_aload_n C dX10_layFavour_31 rfl ?_
  refine g_iload C dX10_layFavour_32 rfl ?_
  refine g_iconst (v := (3 : Int32)) C dX10_layFavour_34 (by decide) ?_
  refine g_iadd C dX10_layFavour_35 ?_
  refine g_iload C dX10_layFavour_36 rfl ?_
  obtain ⟨G5, hG5, hg, hf⟩ := sI_ok hf
  refine e_iast C dX10_layFavour_38 hG5 hg ?_
  refine g_aload_n C dX10_layFavour_39 rfl ?_
  refine g_iload C dX10_layFavour_40 rfl ?_
  refine g_iconst (v := (4 : Int32)) C dX10_layFavour_42 (by decide) ?_
  refine g_iadd C dX10_layFavour_43 ?_
  refine g_iload C dX10_layFavour_44 rfl ?_
  obtain ⟨G6, hG6, hg, hf⟩ := sI_ok hf
  refine e_iast C dX10_layFavour_46 hG6 hg ?_
  refine g_aload_n C dX10_layFavour_47 rfl ?_
  refine g_iload C dX10_layFavour_48 rfl ?_
  refine g_iconst (v := (5 : Int32)) C dX10_layFavour_50 (by decide) ?_
  refine g_iadd C dX10_layFavour_51 ?_
  refine g_iload C dX10_layFavour_52 rfl ?_
  obtain ⟨G7, hG7, hg, hf⟩ := sI_ok hf
  refine e_iast C dX10_layFavour_54 hG7 hg ?_
  refine g_aload_n C dX10_layFavour_55 rfl ?_
  refine g_iload C dX10_layFavour_56 rfl ?_
  refine g_bipush (v := (6 : Int32)) C dX10_layFavour_58 (by decide) ?_
  refine g_iadd C dX10_layFavour_60 ?_
  refine g_iload C dX10_layFavour_61 rfl ?_
  obtain ⟨G8, hG8, hg, hf⟩ := sI_ok hf
  refine e_iast C dX10_layFavour_63 hG8 hg ?_
  obtain rfl := rP_ok hf
  exact g_vret HR dX10_layFavour_64
theorem c_Mo_layFavour (E : EE) {G : Hp} {l0 : Nat} {l1 : Int32} {l2 : Int32} {l3 : Int32} {l4 : Int32} {l5 : Int32} {l6 : Int32} {l7 : Int32} {l8 : Int32} {G' : Hp} (h : f_Mo_layFavour G l0 l1 l2 l3 l4 l5 l6 l7 l8 = some G') : gCt E y_Mo_layFavour cX10_layFavour 10 none 0 0 0 0 [.ref (E.2.1 + l0), .int l1, .int l2, .int l3, .int l4, .int l5, .int l6, .int l7, .int l8] G none G' := gCt_of (own := "FavoursGoOffModel") (ini := false) [some (.ref (E.2.1 + l0)), some (.int l1), some (.int l2), some (.int l3), some (.int l4), some (.int l5), some (.int l6), some (.int l7), some (.int l8), none] (by decide +kernel) rfl (fun h => by cases h) (Nat.le_of_ble_eq_true rfl) ⟨rfl, ⟨rfl, ⟨rfl, ⟨rfl, ⟨rfl, ⟨rfl, ⟨rfl, ⟨rfl, ⟨rfl, trivial⟩⟩⟩⟩⟩⟩⟩⟩⟩ (fun X C HR => l_Mo_layFavour C HR h)
set_option maxRecDepth 20000 in
theorem l_Mo_favour_b62 {E : EE} {X : CT} {G : Hp} (C : gCx E X cX10_favour "FavoursGoOffModel" (some .int) 2 46 0 0 false 8) {r : Int32} {G' : Hp} (HR : gRet E X cX10_favour (some .int) 0 0 (some (.int r)) G') {l0 : Nat} (hf : f_Mo_favour_b62 G l0 = some (r, G')) : gV E X 0 0 G 62 [some (.ref (E.2.1 + l0)), none, none, none, none, none, none, none] [] := by
  unfold f_Mo_favour_b62 at hf
  refine g_aload_n C dX10_favour_62 rfl ?_
  refine g_bipush (v := (-2 : Int32)) C dX10_favour_63 (by decide) ?_
  obtain ⟨x1, G2, hg, h1, hf⟩ := vH_ok hf
  refine g_invV (As := [.int (-2 : Int32)]) (st := []) C (c_Mo_bad E h1) (rfl : vwCl[10]? = some (y_Mo_bad.cls, TX10, 24)) (by decide) hg ml_Mo_80 cm_Mo_bad.1 cm_Mo_bad.2.1 cm_Mo_bad.2.2.1 cm_Mo_bad.2.2.2.1 cm_Mo_bad.2.2.2.2 rfl ⟨by omega, by omega, by omega, by omega⟩ (by exact Nat.le_of_ble_eq_true rfl) rfl dX10_favour_65 ?_
  obtain ⟨rfl, rfl⟩ := rH_ok hf
  exact g_iret HR dX10_favour_68
set_option maxRecDepth 20000 in
theorem l_Mo_favour {E : EE} {X : CT} {G : Hp} (C : gCx E X cX10_favour "FavoursGoOffModel" (some .int) 2 46 0 0 false 8) {r : Int32} {G' : Hp} (HR : gRet E X cX10_favour (some .int) 0 0 (some (.int r)) G') {l0 : Nat} {l1 : Int32} {l2 : Int32} {l3 : Int32} {l4 : Int32} {l5 : Int32} {l6 : Int32} (hf : f_Mo_favour G l0 l1 l2 l3 l4 l5 l6 = some (r, G')) : gV E X 0 0 G 0 [some (.ref (E.2.1 + l0)), some (.int l1), some (.int l2), some (.int l3), some (.int l4), some (.int l5), some (.int l6), none] [] := by
  unfold f_Mo_favour at hf
  refine g_iload_n C dX10_favour_0 rfl ?_
  refine g_i2l C dX10_favour_1 ?_
  refine g_lconst (v := (0 : Int64)) C dX10_favour_2 (by decide) ?_
  refine g_ldc2 (v := (4 : Int64)) C dX10_favour_3 kl_Mo_88 ?_
  obtain ⟨x1, h1, hf⟩ := cP_ok hf
  refine g_invS (As := [.long l1.toInt64, .long (0 : Int64), .long (4 : Int64)]) (st := []) C (c_Mo_in E h1) ml_Mo_68 cm_Mo_in.1 cm_Mo_in.2.1 cm_Mo_in.2.2.1 cm_Mo_in.2.2.2 rfl ⟨by omega, by omega, by omega, by omega⟩ (by exact Nat.le_of_ble_eq_true rfl) rfl dX10_favour_6 ?_
  refine g_if_eq (tgt := 62) C dX10_favour_9 (by decide) (fun hc => ?_) (fun hc => ?_)
  · have hf := iteT hf hc
    refine g_sub (lv' := [some (.ref (E.2.1 + l0)), none, none, none, none, none, none, none]) ⟨rfl, trivial⟩ ?_
    exact l_Mo_favour_b62 C HR  hf
  · have hf := iteF hf hc
    refine g_aload_n C dX10_favour_12 rfl ?_
    refine g_iload_n C dX10_favour_13 rfl ?_
    obtain ⟨x2, hg, h1, hf⟩ := vP_ok hf
    refine g_invV (As := [.int l2]) (st := []) C (c_Mo_isOne E h1) (rfl : vwCl[10]? = some (y_Mo_isOne.cls, TX10, 24)) (by decide) hg ml_Mo_84 cm_Mo_isOne.1 cm_Mo_isOne.2.1 cm_Mo_isOne.2.2.1 cm_Mo_isOne.2.2.2.1 cm_Mo_isOne.2.2.2.2 rfl ⟨by omega, by omega, by omega, by omega⟩ (by exact Nat.le_of_ble_eq_true rfl) rfl dX10_favour_14 ?_
    refine g_if_eq (tgt := 62) C dX10_favour_17 (by decide) (fun hc => ?_) (fun hc => ?_)
    · have hf := iteT hf hc
      refine g_sub (lv' := [some (.ref (E.2.1 + l0)), none, none, none, none, none, none, none]) ⟨rfl, trivial⟩ ?_
      exact l_Mo_favour_b62 C HR  hf
    · have hf := iteF hf hc
      refine g_aload_n C dX10_favour_20 rfl ?_
      refine g_iload_n C dX10_favour_21 rfl ?_
      obtain ⟨x3, hg, h1, hf⟩ := vP_ok hf
      refine g_invV (As := [.int l3]) (st := []) C (c_Mo_isOne E h1) (rfl : vwCl[10]? = some (y_Mo_isOne.cls, TX10, 24)) (by decide) hg ml_Mo_84 cm_Mo_isOne.1 cm_Mo_isOne.2.1 cm_Mo_isOne.2.2.1 cm_Mo_isOne.2.2.2.1 cm_Mo_isOne.2.2.2.2 rfl ⟨by omega, by omega, by omega, by omega⟩ (by exact Nat.le_of_ble_eq_true rfl) rfl dX10_favour_22 ?_
      refine g_if_eq (tgt := 62) C dX10_favour_25 (by decide) (fun hc => ?_) (fun hc => ?_)
      · have hf := iteT hf hc
        refine g_sub (lv' := [some (.ref (E.2.1 + l0)), none, none, none, none, none, none, none]) ⟨rfl, trivial⟩ ?_
        exact l_Mo_favour_b62 C HR  hf
      · have hf := iteF hf hc
        refine g_iload_n C dX10_favour_28 rfl ?_
        refine g_iload_n C dX10_favour_29 rfl ?_
        refine g_icmp_eq (tgt := 62) C dX10_favour_30 (by decide) (fun hc => ?_) (fun hc => ?_)
        · have hf := iteT hf hc
          refine g_sub (lv' := [some (.ref (E.2.1 + l0)), none, none, none, none, none, none, none]) ⟨rfl, trivial⟩ ?_
          exact l_Mo_favour_b62 C HR  hf
        · have hf := iteF hf hc
          refine g_iload C dX10_favour_33 rfl ?_
          obtain ⟨x4, h1, hf⟩ := cP_ok hf
          refine g_invS (As := [.int l4]) (st := []) C (c_Mo_isThing E h1) ml_Mo_90 cm_Mo_isThing.1 cm_Mo_isThing.2.1 cm_Mo_isThing.2.2.1 cm_Mo_isThing.2.2.2 rfl ⟨by omega, by omega, by omega, by omega⟩ (by exact Nat.le_of_ble_eq_true rfl) rfl dX10_favour_35 ?_
          refine g_if_eq (tgt := 62) C dX10_favour_38 (by decide) (fun hc => ?_) (fun hc => ?_)
          · have hf := iteT hf hc
            refine g_sub (lv' := [some (.ref (E.2.1 + l0)), none, none, none, none, none, none, none]) ⟨rfl, trivial⟩ ?_
            exact l_Mo_favour_b62 C HR  hf
          · have hf := iteF hf hc
            refine g_iload C dX10_favour_41 rfl ?_
            refine g_i2l C dX10_favour_43 ?_
            refine g_lconst (v := (1 : Int64)) C dX10_favour_44 (by decide) ?_
            refine g_ldc2 (v := (40 : Int64)) C dX10_favour_45 kl_Mo_93 ?_
            obtain ⟨x5, h1, hf⟩ := cP_ok hf
            refine g_invS (As := [.long l5.toInt64, .long (1 : Int64), .long (40 : Int64)]) (st := []) C (c_Mo_in E h1) ml_Mo_68 cm_Mo_in.1 cm_Mo_in.2.1 cm_Mo_in.2.2.1 cm_Mo_in.2.2.2 rfl ⟨by omega, by omega, by omega, by omega⟩ (by exact Nat.le_of_ble_eq_true rfl) rfl dX10_favour_48 ?_
            refine g_if_eq (tgt := 62) C dX10_favour_51 (by decide) (fun hc => ?_) (fun hc => ?_)
            · have hf := iteT hf hc
              refine g_sub (lv' := [some (.ref (E.2.1 + l0)), none, none, none, none, none, none, none]) ⟨rfl, trivial⟩ ?_
              exact l_Mo_favour_b62 C HR  hf
            · have hf := iteF hf hc
              refine g_iload C dX10_favour_54 rfl ?_
              obtain ⟨x6, h1, hf⟩ := cP_ok hf
              refine g_invS (As := [.int l6]) (st := []) C (c_Mo_isDay E h1) ml_Mo_95 cm_Mo_isDay.1 cm_Mo_isDay.2.1 cm_Mo_isDay.2.2.1 cm_Mo_isDay.2.2.2 rfl ⟨by omega, by omega, by omega, by omega⟩ (by exact Nat.le_of_ble_eq_true rfl) rfl dX10_favour_56 ?_
              refine g_if_ne (tgt := 69) C dX10_favour_59 (by decide) (fun hc => ?_) (fun hc => ?_)
              · have hf := iteF hf hc
                refine g_aload_n C dX10_favour_69 rfl ?_
                obtain ⟨x7, hg, hf⟩ := gR_ok hf
                refine g_getR C fl_Mo_7 dX10_favour_70 hg ?_
                refine g_sipush (v := (158 : Int32)) C dX10_favour_73 (by decide) ?_
                obtain ⟨x8, hx8, hg, hf⟩ := aI_ok hf
                refine e_iald C dX10_favour_76 hx8 hg ?_
                refine g_istore (lv' := [some (.ref (E.2.1 + l0)), some (.int l1), some (.int l2), some (.int l3), some (.int l4), some (.int l5), some (.int l6), some (.int x8)]) C dX10_favour_77 (by decide) rfl ?_
                refine g_iload C dX10_favour_79 rfl ?_
                refine g_bipush (v := (12 : Int32)) C dX10_favour_81 (by decide) ?_
                refine g_icmp_ne (tgt := 91) C dX10_favour_83 (by decide) (fun hc => ?_) (fun hc => ?_)
                · have hf := iteF hf hc
                  refine g_aload_n C dX10_favour_91 rfl ?_
                  obtain ⟨x9, hg, hf⟩ := gR_ok hf
                  refine g_getR C fl_Mo_7 dX10_favour_92 hg ?_
                  refine g_iload C dX10_favour_95 rfl ?_
                  refine g_iload_n C dX10_favour_97 rfl ?_
                  refine g_iload_n C dX10_favour_98 rfl ?_
                  refine g_iload_n C dX10_favour_99 rfl ?_
                  refine g_iload C dX10_favour_100 rfl ?_
                  refine g_iload C dX10_favour_102 rfl ?_
                  refine g_iload C dX10_favour_104 rfl ?_
                  refine g_aload_n C dX10_favour_106 rfl ?_
                  obtain ⟨x10, hg, h1, hf⟩ := vP_ok hf
                  refine g_invV (As := []) (st := [.int l6, .int l5, .int l4, .int l3, .int l2, .int l1, .int x8, .ref (E.2.1 + x9)]) C (c_Mo_day E h1) (rfl : vwCl[10]? = some (y_Mo_day.cls, TX10, 24)) (by decide) hg ml_Mo_101 cm_Mo_day.1 cm_Mo_day.2.1 cm_Mo_day.2.2.1 cm_Mo_day.2.2.2.1 cm_Mo_day.2.2.2.2 rfl ⟨by omega, by omega, by omega, by omega⟩ (by exact Nat.le_of_ble_eq_true rfl) rfl dX10_favour_107 ?_
                  obtain ⟨G11, h1, hf⟩ := cP_ok hf
                  refine g_invS (As := [.ref (E.2.1 + x9), .int x8, .int l1, .int l2, .int l3, .int l4, .int l5, .int l6, .int x10]) (st := []) C (c_Mo_layFavour E h1) ml_Mo_104 cm_Mo_layFavour.1 cm_Mo_layFavour.2.1 cm_Mo_layFavour.2.2.1 cm_Mo_layFavour.2.2.2 rfl ⟨by omega, by omega, by omega, by omega⟩ (by exact Nat.le_of_ble_eq_true rfl) rfl dX10_favour_110 ?_
                  refine g_aload_n C dX10_favour_113 rfl ?_
                  obtain ⟨x12, hg, hf⟩ := gR_ok hf
                  refine g_getR C fl_Mo_7 dX10_favour_114 hg ?_
                  refine g_sipush (v := (158 : Int32)) C dX10_favour_117 (by decide) ?_
                  refine g_dup2 C dX10_favour_120 rfl rfl ?_
                  obtain ⟨x13, hx13, hg, hf⟩ := aI_ok hf
                  refine e_iald C dX10_favour_121 hx13 hg ?_
                  refine g_iconst (v := (1 : Int32)) C dX10_favour_122 (by decide) ?_
                  refine g_iadd C dX10_favour_123 ?_
                  obtain ⟨G14, hG14, hg, hf⟩ := sI_ok hf
                  refine e_iast C dX10_favour_124 hG14 hg ?_
                  refine g_iload C dX10_favour_125 rfl ?_
                  obtain ⟨rfl, rfl⟩ := rH_ok hf
                  exact g_iret HR dX10_favour_127
                · have hf := iteT hf hc
                  refine g_aload_n C dX10_favour_86 rfl ?_
                  obtain ⟨x15, G16, hg, h1, hf⟩ := vH_ok hf
                  refine g_invV (As := []) (st := []) C (c_Mo_full E h1) (rfl : vwCl[10]? = some (y_Mo_full.cls, TX10, 24)) (by decide) hg ml_Mo_98 cm_Mo_full.1 cm_Mo_full.2.1 cm_Mo_full.2.2.1 cm_Mo_full.2.2.2.1 cm_Mo_full.2.2.2.2 rfl ⟨by omega, by omega, by omega, by omega⟩ (by exact Nat.le_of_ble_eq_true rfl) rfl dX10_favour_87 ?_
                  obtain ⟨rfl, rfl⟩ := rH_ok hf
                  exact g_iret HR dX10_favour_90
              · have hf := iteT hf hc
                refine g_sub (lv' := [some (.ref (E.2.1 + l0)), none, none, none, none, none, none, none]) ⟨rfl, trivial⟩ ?_
                exact l_Mo_favour_b62 C HR  hf
theorem c_Mo_favour (E : EE) {G : Hp} {l0 : Nat} {l1 : Int32} {l2 : Int32} {l3 : Int32} {l4 : Int32} {l5 : Int32} {l6 : Int32} {r : Int32} {G' : Hp} (h : f_Mo_favour G l0 l1 l2 l3 l4 l5 l6 = some (r, G')) : gCt E y_Mo_favour cX10_favour 8 (some .int) 2 46 0 0 [.ref (E.2.1 + l0), .int l1, .int l2, .int l3, .int l4, .int l5, .int l6] G (some (.int r)) G' := gCt_of (own := "FavoursGoOffModel") (ini := false) [some (.ref (E.2.1 + l0)), some (.int l1), some (.int l2), some (.int l3), some (.int l4), some (.int l5), some (.int l6), none] (by decide +kernel) rfl (fun h => by cases h) (Nat.le_of_ble_eq_true rfl) ⟨rfl, ⟨rfl, ⟨rfl, ⟨rfl, ⟨rfl, ⟨rfl, ⟨rfl, trivial⟩⟩⟩⟩⟩⟩⟩ (fun X C HR => l_Mo_favour C HR h)
set_option maxRecDepth 20000 in
theorem l_Mo_layNeed {E : EE} {X : CT} {G : Hp} (C : gCx E X cX10_layNeed "FavoursGoOffModel" none 0 0 0 0 false 6) {G' : Hp} (HR : gRet E X cX10_layNeed none 0 0 none G') {l0 : Nat} {l1 : Int32} {l2 : Int32} {l3 : Int32} {l4 : Int32} {l5 : Int32} (hf : f_Mo_layNeed G l0 l1 l2 l3 l4 l5 = some G') : gV E X 0 0 G 0 [some (.ref (E.2.1 + l0)), some (.int l1), some (.int l2), some (.int l3), some (.int l4), some (.int l5)] [] := by
  unfold f_Mo_layNeed at hf
  refine g_aload_n C dX10_layNeed_0 rfl ?_
  refine g_bipush (v := (98 : Int32)) C dX10_layNeed_1 (by decide) ?_
  refine g_iconst (v := (4 : Int32)) C dX10_layNeed_3 (by decide) ?_
  refine g_iload_n C dX10_layNeed_4 rfl ?_
  refine g_imul C dX10_layNeed_5 ?_
  refine g_iadd C dX10_layNeed_6 ?_
  refine g_iload_n C dX10_layNeed_7 rfl ?_
  obtain ⟨G1, hG1, hg, hf⟩ := sI_ok hf
  refine e_iast C dX10_layNeed_8 hG1 hg ?_
  refine g_aload_n C dX10_layNeed_9 rfl ?_
  refine g_bipush (v := (98 : Int32)) C dX10_layNeed_10 (by decide) ?_
  refine g_iconst (v := (4 : Int32)) C dX10_layNeed_12 (by decide) ?_
  refine g_iload_n C dX10_layNeed_13 rfl ?_
  refine g_imul C dX10_layNeed_14 ?_
  refine g_iadd C dX10_layNeed_15 ?_
  refine g_iconst (v := (1 : Int32)) C dX10_layNeed_16 (by decide) ?_
  refine g_iadd C dX10_layNeed_17 ?_
  refine g_iload_n C dX10_layNeed_18 rfl ?_
  obtain ⟨G2, hG2, hg, hf⟩ := sI_ok hf
  refine e_iast C dX10_layNeed_19 hG2 hg ?_
  refine g_aload_n C dX10_layNeed_20 rfl ?_
  refine g_bipush (v := (98 : Int32)) C dX10_layNeed_21 (by decide) ?_
  refine g_iconst (v := (4 : Int32)) C dX10_layNeed_23 (by decide) ?_
  refine g_iload_n C dX10_layNeed_24 rfl ?_
  refine g_imul C dX10_layNeed_25 ?_
  refine g_iadd C dX10_layNeed_26 ?_
  refine g_iconst (v := (2 : Int32)) C dX10_layNeed_27 (by decide) ?_
  refine g_iadd C dX10_layNeed_28 ?_
  refine g_iload C dX10_layNeed_29 rfl ?_
  obtain ⟨G3, hG3, hg, hf⟩ := sI_ok hf
  refine e_iast C dX10_layNeed_31 hG3 hg ?_
  refine g_aload_n C dX10_layNeed_32 rfl ?_
  refine g_bipush (v := (98 : Int32)) C dX10_layNeed_33 (by decide) ?_
  refine g_iconst (v := (4 : Int32)) C dX10_layNeed_35 (by decide) ?_
  refine g_iload_n C dX10_layNeed_36 rfl ?_
  refine g_imul C dX10_layNeed_37 ?_
  refine g_iadd C dX10_layNeed_38 ?_
  refine g_iconst (v := (3 : Int32)) C dX10_layNeed_39 (by decide) ?_
  refine g_iadd C dX10_layNeed_40 ?_
  refine g_iload C dX10_layNeed_41 rfl ?_
  obtain ⟨G4, hG4, hg, hf⟩ := sI_ok hf
  refine e_iast C dX10_layNeed_43 hG4 hg ?_
  obtain rfl := rP_ok hf
  exact g_vret HR dX10_layNeed_44
theorem c_Mo_layNeed (E : EE) {G : Hp} {l0 : Nat} {l1 : Int32} {l2 : Int32} {l3 : Int32} {l4 : Int32} {l5 : Int32} {G' : Hp} (h : f_Mo_layNeed G l0 l1 l2 l3 l4 l5 = some G') : gCt E y_Mo_layNeed cX10_layNeed 6 none 0 0 0 0 [.ref (E.2.1 + l0), .int l1, .int l2, .int l3, .int l4, .int l5] G none G' := gCt_of (own := "FavoursGoOffModel") (ini := false) [some (.ref (E.2.1 + l0)), some (.int l1), some (.int l2), some (.int l3), some (.int l4), some (.int l5)] (by decide +kernel) rfl (fun h => by cases h) (Nat.le_of_ble_eq_true rfl) ⟨rfl, ⟨rfl, ⟨rfl, ⟨rfl, ⟨rfl, ⟨rfl, trivial⟩⟩⟩⟩⟩⟩ (fun X C HR => l_Mo_layNeed C HR h)
set_option maxRecDepth 20000 in
theorem l_Mo_need_b44 {E : EE} {X : CT} {G : Hp} (C : gCx E X cX10_need "FavoursGoOffModel" (some .int) 2 46 0 0 false 6) {r : Int32} {G' : Hp} (HR : gRet E X cX10_need (some .int) 0 0 (some (.int r)) G') {l0 : Nat} (hf : f_Mo_need_b44 G l0 = some (r, G')) : gV E X 0 0 G 44 [some (.ref (E.2.1 + l0)), none, none, none, none, none] [] := by
  unfold f_Mo_need_b44 at hf
  refine g_aload_n C dX10_need_44 rfl ?_
  refine g_bipush (v := (-2 : Int32)) C dX10_need_45 (by decide) ?_
  obtain ⟨x1, G2, hg, h1, hf⟩ := vH_ok hf
  refine g_invV (As := [.int (-2 : Int32)]) (st := []) C (c_Mo_bad E h1) (rfl : vwCl[10]? = some (y_Mo_bad.cls, TX10, 24)) (by decide) hg ml_Mo_80 cm_Mo_bad.1 cm_Mo_bad.2.1 cm_Mo_bad.2.2.1 cm_Mo_bad.2.2.2.1 cm_Mo_bad.2.2.2.2 rfl ⟨by omega, by omega, by omega, by omega⟩ (by exact Nat.le_of_ble_eq_true rfl) rfl dX10_need_47 ?_
  obtain ⟨rfl, rfl⟩ := rH_ok hf
  exact g_iret HR dX10_need_50
set_option maxRecDepth 20000 in
theorem l_Mo_need {E : EE} {X : CT} {G : Hp} (C : gCx E X cX10_need "FavoursGoOffModel" (some .int) 2 46 0 0 false 6) {r : Int32} {G' : Hp} (HR : gRet E X cX10_need (some .int) 0 0 (some (.int r)) G') {l0 : Nat} {l1 : Int32} {l2 : Int32} {l3 : Int32} {l4 : Int32} (hf : f_Mo_need G l0 l1 l2 l3 l4 = some (r, G')) : gV E X 0 0 G 0 [some (.ref (E.2.1 + l0)), some (.int l1), some (.int l2), some (.int l3), some (.int l4), none] [] := by
  unfold f_Mo_need at hf
  refine g_aload_n C dX10_need_0 rfl ?_
  refine g_iload_n C dX10_need_1 rfl ?_
  obtain ⟨x1, hg, h1, hf⟩ := vP_ok hf
  refine g_invV (As := [.int l1]) (st := []) C (c_Mo_isOne E h1) (rfl : vwCl[10]? = some (y_Mo_isOne.cls, TX10, 24)) (by decide) hg ml_Mo_84 cm_Mo_isOne.1 cm_Mo_isOne.2.1 cm_Mo_isOne.2.2.1 cm_Mo_isOne.2.2.2.1 cm_Mo_isOne.2.2.2.2 rfl ⟨by omega, by omega, by omega, by omega⟩ (by exact Nat.le_of_ble_eq_true rfl) rfl dX10_need_2 ?_
  refine g_if_eq (tgt := 44) C dX10_need_5 (by decide) (fun hc => ?_) (fun hc => ?_)
  · have hf := iteT hf hc
    refine g_sub (lv' := [some (.ref (E.2.1 + l0)), none, none, none, none, none]) ⟨rfl, trivial⟩ ?_
    exact l_Mo_need_b44 C HR  hf
  · have hf := iteF hf hc
    refine g_iload_n C dX10_need_8 rfl ?_
    obtain ⟨x2, h1, hf⟩ := cP_ok hf
    refine g_invS (As := [.int l2]) (st := []) C (c_Mo_isThing E h1) ml_Mo_90 cm_Mo_isThing.1 cm_Mo_isThing.2.1 cm_Mo_isThing.2.2.1 cm_Mo_isThing.2.2.2 rfl ⟨by omega, by omega, by omega, by omega⟩ (by exact Nat.le_of_ble_eq_true rfl) rfl dX10_need_9 ?_
    refine g_if_eq (tgt := 44) C dX10_need_12 (by decide) (fun hc => ?_) (fun hc => ?_)
    · have hf := iteT hf hc
      refine g_sub (lv' := [some (.ref (E.2.1 + l0)), none, none, none, none, none]) ⟨rfl, trivial⟩ ?_
      exact l_Mo_need_b44 C HR  hf
    · have hf := iteF hf hc
      refine g_iload_n C dX10_need_15 rfl ?_
      refine g_i2l C dX10_need_16 ?_
      refine g_lconst (v := (1 : Int64)) C dX10_need_17 (by decide) ?_
      refine g_ldc2 (v := (40 : Int64)) C dX10_need_18 kl_Mo_93 ?_
      obtain ⟨x3, h1, hf⟩ := cP_ok hf
      refine g_invS (As := [.long l3.toInt64, .long (1 : Int64), .long (40 : Int64)]) (st := []) C (c_Mo_in E h1) ml_Mo_68 cm_Mo_in.1 cm_Mo_in.2.1 cm_Mo_in.2.2.1 cm_Mo_in.2.2.2 rfl ⟨by omega, by omega, by omega, by omega⟩ (by exact Nat.le_of_ble_eq_true rfl) rfl dX10_need_21 ?_
      refine g_if_eq (tgt := 44) C dX10_need_24 (by decide) (fun hc => ?_) (fun hc => ?_)
      · have hf := iteT hf hc
        refine g_sub (lv' := [some (.ref (E.2.1 + l0)), none, none, none, none, none]) ⟨rfl, trivial⟩ ?_
        exact l_Mo_need_b44 C HR  hf
      · have hf := iteF hf hc
        refine g_iload C dX10_need_27 rfl ?_
        refine g_i2l C dX10_need_29 ?_
        refine g_aload_n C dX10_need_30 rfl ?_
        obtain ⟨x4, hg, h1, hf⟩ := vP_ok hf
        refine g_invV (As := []) (st := [.long l4.toInt64]) C (c_Mo_day E h1) (rfl : vwCl[10]? = some (y_Mo_day.cls, TX10, 24)) (by decide) hg ml_Mo_101 cm_Mo_day.1 cm_Mo_day.2.1 cm_Mo_day.2.2.1 cm_Mo_day.2.2.2.1 cm_Mo_day.2.2.2.2 rfl ⟨by omega, by omega, by omega, by omega⟩ (by exact Nat.le_of_ble_eq_true rfl) rfl dX10_need_31 ?_
        refine g_i2l C dX10_need_34 ?_
        refine g_ldc2 (v := (99 : Int64)) C dX10_need_35 kl_Mo_72 ?_
        obtain ⟨x5, h1, hf⟩ := cP_ok hf
        refine g_invS (As := [.long l4.toInt64, .long x4.toInt64, .long (99 : Int64)]) (st := []) C (c_Mo_in E h1) ml_Mo_68 cm_Mo_in.1 cm_Mo_in.2.1 cm_Mo_in.2.2.1 cm_Mo_in.2.2.2 rfl ⟨by omega, by omega, by omega, by omega⟩ (by exact Nat.le_of_ble_eq_true rfl) rfl dX10_need_38 ?_
        refine g_if_ne (tgt := 51) C dX10_need_41 (by decide) (fun hc => ?_) (fun hc => ?_)
        · have hf := iteF hf hc
          refine g_aload_n C dX10_need_51 rfl ?_
          obtain ⟨x6, hg, hf⟩ := gR_ok hf
          refine g_getR C fl_Mo_7 dX10_need_52 hg ?_
          refine g_sipush (v := (159 : Int32)) C dX10_need_55 (by decide) ?_
          obtain ⟨x7, hx7, hg, hf⟩ := aI_ok hf
          refine e_iald C dX10_need_58 hx7 hg ?_
          refine g_istore (lv' := [some (.ref (E.2.1 + l0)), some (.int l1), some (.int l2), some (.int l3), some (.int l4), some (.int x7)]) C dX10_need_59 (by decide) rfl ?_
          refine g_iload C dX10_need_61 rfl ?_
          refine g_iconst (v := (5 : Int32)) C dX10_need_63 (by decide) ?_
          refine g_icmp_ne (tgt := 72) C dX10_need_64 (by decide) (fun hc => ?_) (fun hc => ?_)
          · have hf := iteF hf hc
            refine g_aload_n C dX10_need_72 rfl ?_
            obtain ⟨x8, hg, hf⟩ := gR_ok hf
            refine g_getR C fl_Mo_7 dX10_need_73 hg ?_
            refine g_iload C dX10_need_76 rfl ?_
            refine g_iload_n C dX10_need_78 rfl ?_
            refine g_iload_n C dX10_need_79 rfl ?_
            refine g_iload_n C dX10_need_80 rfl ?_
            refine g_iload C dX10_need_81 rfl ?_
            obtain ⟨G9, h1, hf⟩ := cP_ok hf
            refine g_invS (As := [.ref (E.2.1 + x8), .int x7, .int l1, .int l2, .int l3, .int l4]) (st := []) C (c_Mo_layNeed E h1) ml_Mo_108 cm_Mo_layNeed.1 cm_Mo_layNeed.2.1 cm_Mo_layNeed.2.2.1 cm_Mo_layNeed.2.2.2 rfl ⟨by omega, by omega, by omega, by omega⟩ (by exact Nat.le_of_ble_eq_true rfl) rfl dX10_need_83 ?_
            refine g_aload_n C dX10_need_86 rfl ?_
            obtain ⟨x10, hg, hf⟩ := gR_ok hf
            refine g_getR C fl_Mo_7 dX10_need_87 hg ?_
            refine g_sipush (v := (159 : Int32)) C dX10_need_90 (by decide) ?_
            refine g_dup2 C dX10_need_93 rfl rfl ?_
            obtain ⟨x11, hx11, hg, hf⟩ := aI_ok hf
            refine e_iald C dX10_need_94 hx11 hg ?_
            refine g_iconst (v := (1 : Int32)) C dX10_need_95 (by decide) ?_
            refine g_iadd C dX10_need_96 ?_
            obtain ⟨G12, hG12, hg, hf⟩ := sI_ok hf
            refine e_iast C dX10_need_97 hG12 hg ?_
            refine g_iload C dX10_need_98 rfl ?_
            obtain ⟨rfl, rfl⟩ := rH_ok hf
            exact g_iret HR dX10_need_100
          · have hf := iteT hf hc
            refine g_aload_n C dX10_need_67 rfl ?_
            obtain ⟨x13, G14, hg, h1, hf⟩ := vH_ok hf
            refine g_invV (As := []) (st := []) C (c_Mo_full E h1) (rfl : vwCl[10]? = some (y_Mo_full.cls, TX10, 24)) (by decide) hg ml_Mo_98 cm_Mo_full.1 cm_Mo_full.2.1 cm_Mo_full.2.2.1 cm_Mo_full.2.2.2.1 cm_Mo_full.2.2.2.2 rfl ⟨by omega, by omega, by omega, by omega⟩ (by exact Nat.le_of_ble_eq_true rfl) rfl dX10_need_68 ?_
            obtain ⟨rfl, rfl⟩ := rH_ok hf
            exact g_iret HR dX10_need_71
        · have hf := iteT hf hc
          refine g_sub (lv' := [some (.ref (E.2.1 + l0)), none, none, none, none, none]) ⟨rfl, trivial⟩ ?_
          exact l_Mo_need_b44 C HR  hf
theorem c_Mo_need (E : EE) {G : Hp} {l0 : Nat} {l1 : Int32} {l2 : Int32} {l3 : Int32} {l4 : Int32} {r : Int32} {G' : Hp} (h : f_Mo_need G l0 l1 l2 l3 l4 = some (r, G')) : gCt E y_Mo_need cX10_need 6 (some .int) 2 46 0 0 [.ref (E.2.1 + l0), .int l1, .int l2, .int l3, .int l4] G (some (.int r)) G' := gCt_of (own := "FavoursGoOffModel") (ini := false) [some (.ref (E.2.1 + l0)), some (.int l1), some (.int l2), some (.int l3), some (.int l4), none] (by decide +kernel) rfl (fun h => by cases h) (Nat.le_of_ble_eq_true rfl) ⟨rfl, ⟨rfl, ⟨rfl, ⟨rfl, ⟨rfl, trivial⟩⟩⟩⟩⟩ (fun X C HR => l_Mo_need C HR h)
set_option maxRecDepth 20000 in
theorem l_Mo_contented {E : EE} {X : CT} {G : Hp} (C : gCx E X cX10_contented "FavoursGoOffModel" (some .int) 0 0 0 0 false 2) {r : Int32} {G' : Hp} (HR : gRet E X cX10_contented (some .int) 0 0 (some (.int r)) G') {l0 : Nat} (hf : f_Mo_contented G l0 = some (r, G')) : gV E X 0 0 G 0 [some (.ref (E.2.1 + l0)), none] [] := by
  unfold f_Mo_contented at hf
  refine g_aload_n C dX10_contented_0 rfl ?_
  obtain ⟨x1, hg, hf⟩ := gR_ok hf
  refine g_getR C fl_Mo_7 dX10_contented_1 hg ?_
  refine g_sipush (v := (159 : Int32)) C dX10_contented_4 (by decide) ?_
  obtain ⟨x2, hx2, hg, hf⟩ := aI_ok hf
  refine e_iald C dX10_contented_7 hx2 hg ?_
  refine g_istore_n (lv' := [some (.ref (E.2.1 + l0)), some (.int x2)]) C dX10_contented_8 (by decide) rfl ?_
  refine g_aload_n C dX10_contented_9 rfl ?_
  obtain ⟨x3, hg, hf⟩ := gR_ok hf
  refine g_getR C fl_Mo_7 dX10_contented_10 hg ?_
  refine g_sipush (v := (159 : Int32)) C dX10_contented_13 (by decide) ?_
  refine g_iconst (v := (0 : Int32)) C dX10_contented_16 (by decide) ?_
  obtain ⟨G4, hG4, hg, hf⟩ := sI_ok hf
  refine e_iast C dX10_contented_17 hG4 hg ?_
  refine g_iload_n C dX10_contented_18 rfl ?_
  obtain ⟨rfl, rfl⟩ := rH_ok hf
  exact g_iret HR dX10_contented_19
theorem c_Mo_contented (E : EE) {G : Hp} {l0 : Nat} {r : Int32} {G' : Hp} (h : f_Mo_contented G l0 = some (r, G')) : gCt E y_Mo_contented cX10_contented 2 (some .int) 0 0 0 0 [.ref (E.2.1 + l0)] G (some (.int r)) G' := gCt_of (own := "FavoursGoOffModel") (ini := false) [some (.ref (E.2.1 + l0)), none] (by decide +kernel) rfl (fun h => by cases h) (Nat.le_of_ble_eq_true rfl) ⟨rfl, trivial⟩ (fun X C HR => l_Mo_contented C HR h)
set_option maxRecDepth 20000 in
theorem l_Mo_notBelow0_b9 {E : EE} {X : CT} {G : Hp} (C : gCx E X cX10_notBelow0 "FavoursGoOffModel" (some .int) 0 0 0 0 false 1) {r : Int32} (HR : gRet E X cX10_notBelow0 (some .int) 0 0 (some (.int r)) G) {s0 : Int32} (hf : f_Mo_notBelow0_b9 G s0 = some r) : gV E X 0 0 G 9 [none] [.int s0] := by
  unfold f_Mo_notBelow0_b9 at hf
  obtain rfl := rP_ok hf
  exact g_iret HR dX10_notBelow0_9
set_option maxRecDepth 20000 in
theorem l_Mo_notBelow0 {E : EE} {X : CT} {G : Hp} (C : gCx E X cX10_notBelow0 "FavoursGoOffModel" (some .int) 0 0 0 0 false 1) {r : Int32} (HR : gRet E X cX10_notBelow0 (some .int) 0 0 (some (.int r)) G) {l0 : Int32} (hf : f_Mo_notBelow0 G l0 = some r) : gV E X 0 0 G 0 [some (.int l0)] [] := by
  unfold f_Mo_notBelow0 at hf
  refine g_iload_n C dX10_notBelow0_0 rfl ?_
  refine g_if_ge (tgt := 8) C dX10_notBelow0_1 (by decide) (fun hc => ?_) (fun hc => ?_)
  · have hf := iteT hf hc
    refine g_iload_n C dX10_notBelow0_8 rfl ?_
    refine g_sub (lv' := [none]) trivial ?_
    exact l_Mo_notBelow0_b9 C HR  hf
  · have hf := iteF hf hc
    refine g_iconst (v := (0 : Int32)) C dX10_notBelow0_4 (by decide) ?_
    refine g_goto (tgt := 9) C dX10_notBelow0_5 (by decide) ?_
    refine g_sub (lv' := [none]) trivial ?_
    exact l_Mo_notBelow0_b9 C HR  hf
theorem c_Mo_notBelow0 (E : EE) {G : Hp} {l0 : Int32} {r : Int32} (h : f_Mo_notBelow0 G l0 = some r) : gCt E y_Mo_notBelow0 cX10_notBelow0 1 (some .int) 0 0 0 0 [.int l0] G (some (.int r)) G := gCt_of (own := "FavoursGoOffModel") (ini := false) [some (.int l0)] (by decide +kernel) rfl (fun h => by cases h) (Nat.le_of_ble_eq_true rfl) ⟨rfl, trivial⟩ (fun X C HR => l_Mo_notBelow0 C HR h)
set_option maxRecDepth 20000 in
theorem l_Mo_valueOf_b120 {E : EE} {X : CT} {G : Hp} (C : gCx E X cX10_valueOf "FavoursGoOffModel" (some .int) 1 22 0 0 false 7) {r : Int32} (HR : gRet E X cX10_valueOf (some .int) 0 0 (some (.int r)) G) {s0 : Int32} (hf : f_Mo_valueOf_b120 G s0 = some r) : gV E X 0 0 G 120 [none, none, none, none, none, none, none] [.int s0] := by
  unfold f_Mo_valueOf_b120 at hf
  obtain rfl := rP_ok hf
  exact g_iret HR dX10_valueOf_120
set_option maxRecDepth 20000 in
theorem l_Mo_valueOf_b132 {E : EE} {X : CT} {G : Hp} (C : gCx E X cX10_valueOf "FavoursGoOffModel" (some .int) 1 22 0 0 false 7) {r : Int32} (HR : gRet E X cX10_valueOf (some .int) 0 0 (some (.int r)) G) {s0 : Int32} (hf : f_Mo_valueOf_b132 G s0 = some r) : gV E X 0 0 G 132 [none, none, none, none, none, none, none] [.int s0] := by
  unfold f_Mo_valueOf_b132 at hf
  obtain rfl := rP_ok hf
  exact g_iret HR dX10_valueOf_132
set_option maxRecDepth 20000 in
theorem l_Mo_valueOf_b38 {E : EE} {X : CT} {G : Hp} (C : gCx E X cX10_valueOf "FavoursGoOffModel" (some .int) 1 22 0 0 false 7) {r : Int32} (HR : gRet E X cX10_valueOf (some .int) 0 0 (some (.int r)) G) {l0 : Nat} {l1 : Int32} {l2 : Int32} {l3 : Int32} {l4 : Int32} {s0 : Int32} (hf : f_Mo_valueOf_b38 G l0 l1 l2 l3 l4 s0 = some r) : gV E X 0 0 G 38 [some (.ref (E.2.1 + l0)), some (.int l1), some (.int l2), some (.int l3), some (.int l4), none, none] [.int s0] := by
  unfold f_Mo_valueOf_b38 at hf
  refine g_istore (lv' := [some (.ref (E.2.1 + l0)), some (.int l1), some (.int l2), some (.int l3), some (.int l4), some (.int s0), none]) C dX10_valueOf_38 (by decide) rfl ?_
  refine g_iload_n C dX10_valueOf_40 rfl ?_
  refine g_aload_n C dX10_valueOf_41 rfl ?_
  refine g_iload_n C dX10_valueOf_42 rfl ?_
  refine g_bipush (v := (6 : Int32)) C dX10_valueOf_43 (by decide) ?_
  obtain ⟨x1, hg, h1, hf⟩ := vP_ok hf
  refine g_invV (As := [.int l1, .int (6 : Int32)]) (st := [.int l2]) C (c_Mo_told0 E h1) (rfl : vwCl[10]? = some (y_Mo_told0.cls, TX10, 24)) (by decide) hg ml_Mo_112 cm_Mo_told0.1 cm_Mo_told0.2.1 cm_Mo_told0.2.2.1 cm_Mo_told0.2.2.2.1 cm_Mo_told0.2.2.2.2 rfl ⟨by omega, by omega, by omega, by omega⟩ (by exact Nat.le_of_ble_eq_true rfl) rfl dX10_valueOf_45 ?_
  refine g_isub C dX10_valueOf_48 ?_
  obtain ⟨x2, h1, hf⟩ := cP_ok hf
  refine g_invS (As := [.int (l2 - x1)]) (st := []) C (c_Mo_notBelow0 E h1) ml_Mo_116 cm_Mo_notBelow0.1 cm_Mo_notBelow0.2.1 cm_Mo_notBelow0.2.2.1 cm_Mo_notBelow0.2.2.2 rfl ⟨by omega, by omega, by omega, by omega⟩ (by exact Nat.le_of_ble_eq_true rfl) rfl dX10_valueOf_49 ?_
  refine g_istore (lv' := [some (.ref (E.2.1 + l0)), some (.int l1), some (.int l2), some (.int l3), some (.int l4), some (.int s0), some (.int x2)]) C dX10_valueOf_52 (by decide) rfl ?_
  refine g_aload_n C dX10_valueOf_54 rfl ?_
  refine g_iload_n C dX10_valueOf_55 rfl ?_
  refine g_iconst (v := (0 : Int32)) C dX10_valueOf_56 (by decide) ?_
  obtain ⟨x3, hg, h1, hf⟩ := vP_ok hf
  refine g_invV (As := [.int l1, .int (0 : Int32)]) (st := []) C (c_Mo_told0 E h1) (rfl : vwCl[10]? = some (y_Mo_told0.cls, TX10, 24)) (by decide) hg ml_Mo_112 cm_Mo_told0.1 cm_Mo_told0.2.1 cm_Mo_told0.2.2.1 cm_Mo_told0.2.2.2.1 cm_Mo_told0.2.2.2.2 rfl ⟨by omega, by omega, by omega, by omega⟩ (by exact Nat.le_of_ble_eq_true rfl) rfl dX10_valueOf_57 ?_
  by_cases hc0 : x3 = 1
  · have hf := iteT hf hc0
    refine g_tabIn (tgt := 92) C dX10_valueOf_60 1 (by rw [hc0]; rfl) (by decide) (by decide) rfl (by decide) ?_
    refine g_iload C dX10_valueOf_92 rfl ?_
    refine g_iload C dX10_valueOf_94 rfl ?_
    refine g_isub C dX10_valueOf_96 ?_
    obtain ⟨x4, h1, hf⟩ := cP_ok hf
    refine g_invS (As := [.int (s0 - x2)]) (st := []) C (c_Mo_notBelow0 E h1) ml_Mo_116 cm_Mo_notBelow0.1 cm_Mo_notBelow0.2.1 cm_Mo_notBelow0.2.2.1 cm_Mo_notBelow0.2.2.2 rfl ⟨by omega, by omega, by omega, by omega⟩ (by exact Nat.le_of_ble_eq_true rfl) rfl dX10_valueOf_97 ?_
    obtain rfl := rP_ok hf
    exact g_iret HR dX10_valueOf_100
  · have hf := iteF hf hc0
    by_cases hc1 : x3 = 2
    · have hf := iteT hf hc1
      refine g_tabIn (tgt := 101) C dX10_valueOf_60 2 (by rw [hc1]; rfl) (by decide) (by decide) rfl (by decide) ?_
      refine g_iload_n C dX10_valueOf_101 rfl ?_
      refine g_iload C dX10_valueOf_102 rfl ?_
      refine g_icmp_le (tgt := 119) C dX10_valueOf_104 (by decide) (fun hc => ?_) (fun hc => ?_)
      · have hf := iteT hf hc
        refine g_iload_n C dX10_valueOf_119 rfl ?_
        refine g_sub (lv' := [none, none, none, none, none, none, none]) trivial ?_
        exact l_Mo_valueOf_b120 C HR  hf
      · have hf := iteF hf hc
        refine g_iload_n C dX10_valueOf_107 rfl ?_
        refine g_iload_n C dX10_valueOf_108 rfl ?_
        refine g_iload C dX10_valueOf_109 rfl ?_
        refine g_isub C dX10_valueOf_111 ?_
        refine g_bipush (v := (10 : Int32)) C dX10_valueOf_112 (by decide) ?_
        obtain ⟨hy, hf⟩ := dI_ok hf
        refine g_idiv C dX10_valueOf_114 hy ?_
        refine g_iadd C dX10_valueOf_115 ?_
        refine g_goto (tgt := 120) C dX10_valueOf_116 (by decide) ?_
        refine g_sub (lv' := [none, none, none, none, none, none, none]) trivial ?_
        exact l_Mo_valueOf_b120 C HR  hf
    · have hf := iteF hf hc1
      by_cases hc2 : x3 = 3
      · have hf := iteT hf hc2
        refine g_tabIn (tgt := 121) C dX10_valueOf_60 3 (by rw [hc2]; rfl) (by decide) (by decide) rfl (by decide) ?_
        refine g_iload_n C dX10_valueOf_121 rfl ?_
        refine g_iload C dX10_valueOf_122 rfl ?_
        refine g_icmp_ge (tgt := 131) C dX10_valueOf_124 (by decide) (fun hc => ?_) (fun hc => ?_)
        · have hf := iteT hf hc
          refine g_iload_n C dX10_valueOf_131 rfl ?_
          refine g_sub (lv' := [none, none, none, none, none, none, none]) trivial ?_
          exact l_Mo_valueOf_b132 C HR  hf
        · have hf := iteF hf hc
          refine g_iconst (v := (0 : Int32)) C dX10_valueOf_127 (by decide) ?_
          refine g_goto (tgt := 132) C dX10_valueOf_128 (by decide) ?_
          refine g_sub (lv' := [none, none, none, none, none, none, none]) trivial ?_
          exact l_Mo_valueOf_b132 C HR  hf
      · have hf := iteF hf hc2
        by_cases hc3 : x3 = 4
        · have hf := iteT hf hc3
          refine g_tabIn (tgt := 133) C dX10_valueOf_60 4 (by rw [hc3]; rfl) (by decide) (by decide) rfl (by decide) ?_
          refine g_iload C dX10_valueOf_133 rfl ?_
          refine g_iconst (v := (2 : Int32)) C dX10_valueOf_135 (by decide) ?_
          refine g_iload C dX10_valueOf_136 rfl ?_
          refine g_imul C dX10_valueOf_138 ?_
          refine g_isub C dX10_valueOf_139 ?_
          obtain ⟨x5, h1, hf⟩ := cP_ok hf
          refine g_invS (As := [.int (s0 - ((2 : Int32) * x2))]) (st := []) C (c_Mo_notBelow0 E h1) ml_Mo_116 cm_Mo_notBelow0.1 cm_Mo_notBelow0.2.1 cm_Mo_notBelow0.2.2.1 cm_Mo_notBelow0.2.2.2 rfl ⟨by omega, by omega, by omega, by omega⟩ (by exact Nat.le_of_ble_eq_true rfl) rfl dX10_valueOf_140 ?_
          obtain rfl := rP_ok hf
          exact g_iret HR dX10_valueOf_143
        · have hf := iteF hf hc3
          have hi0 : ¬ x3.toInt = 1 := fun h => hc0 (Int32.toInt_inj.mp (h.trans rfl))
          have hi1 : ¬ x3.toInt = 2 := fun h => hc1 (Int32.toInt_inj.mp (h.trans rfl))
          have hi2 : ¬ x3.toInt = 3 := fun h => hc2 (Int32.toInt_inj.mp (h.trans rfl))
          have hi3 : ¬ x3.toInt = 4 := fun h => hc3 (Int32.toInt_inj.mp (h.trans rfl))
          refine g_tabOut (tgt := 144) C dX10_valueOf_60 (by omega) (by decide) ?_
          refine g_iload C dX10_valueOf_144 rfl ?_
          obtain rfl := rP_ok hf
          exact g_iret HR dX10_valueOf_146
set_option maxRecDepth 20000 in
theorem l_Mo_valueOf {E : EE} {X : CT} {G : Hp} (C : gCx E X cX10_valueOf "FavoursGoOffModel" (some .int) 1 22 0 0 false 7) {r : Int32} (HR : gRet E X cX10_valueOf (some .int) 0 0 (some (.int r)) G) {l0 : Nat} {l1 : Int32} {l2 : Int32} (hf : f_Mo_valueOf G l0 l1 l2 = some r) : gV E X 0 0 G 0 [some (.ref (E.2.1 + l0)), some (.int l1), some (.int l2), none, none, none, none] [] := by
  unfold f_Mo_valueOf at hf
  refine g_aload_n C dX10_valueOf_0 rfl ?_
  refine g_iload_n C dX10_valueOf_1 rfl ?_
  refine g_iconst (v := (2 : Int32)) C dX10_valueOf_2 (by decide) ?_
  obtain ⟨x1, hg, h1, hf⟩ := vP_ok hf
  refine g_invV (As := [.int l1, .int (2 : Int32)]) (st := []) C (c_Mo_told0 E h1) (rfl : vwCl[10]? = some (y_Mo_told0.cls, TX10, 24)) (by decide) hg ml_Mo_112 cm_Mo_told0.1 cm_Mo_told0.2.1 cm_Mo_told0.2.2.1 cm_Mo_told0.2.2.2.1 cm_Mo_told0.2.2.2.2 rfl ⟨by omega, by omega, by omega, by omega⟩ (by exact Nat.le_of_ble_eq_true rfl) rfl dX10_valueOf_3 ?_
  refine g_iconst (v := (-1 : Int32)) C dX10_valueOf_6 (by decide) ?_
  refine g_icmp_ne (tgt := 12) C dX10_valueOf_7 (by decide) (fun hc => ?_) (fun hc => ?_)
  · have hf := iteF hf hc
    refine g_aload_n C dX10_valueOf_12 rfl ?_
    refine g_iload_n C dX10_valueOf_13 rfl ?_
    refine g_iconst (v := (4 : Int32)) C dX10_valueOf_14 (by decide) ?_
    obtain ⟨x2, hg, h1, hf⟩ := vP_ok hf
    refine g_invV (As := [.int l1, .int (4 : Int32)]) (st := []) C (c_Mo_told0 E h1) (rfl : vwCl[10]? = some (y_Mo_told0.cls, TX10, 24)) (by decide) hg ml_Mo_112 cm_Mo_told0.1 cm_Mo_told0.2.1 cm_Mo_told0.2.2.1 cm_Mo_told0.2.2.2.1 cm_Mo_told0.2.2.2.2 rfl ⟨by omega, by omega, by omega, by omega⟩ (by exact Nat.le_of_ble_eq_true rfl) rfl dX10_valueOf_15 ?_
    refine g_istore_n (lv' := [some (.ref (E.2.1 + l0)), some (.int l1), some (.int l2), some (.int x2), none, none, none]) C dX10_valueOf_18 (by decide) rfl ?_
    refine g_aload_n C dX10_valueOf_19 rfl ?_
    refine g_iload_n C dX10_valueOf_20 rfl ?_
    refine g_iconst (v := (5 : Int32)) C dX10_valueOf_21 (by decide) ?_
    obtain ⟨x3, hg, h1, hf⟩ := vP_ok hf
    refine g_invV (As := [.int l1, .int (5 : Int32)]) (st := []) C (c_Mo_told0 E h1) (rfl : vwCl[10]? = some (y_Mo_told0.cls, TX10, 24)) (by decide) hg ml_Mo_112 cm_Mo_told0.1 cm_Mo_told0.2.1 cm_Mo_told0.2.2.1 cm_Mo_told0.2.2.2.1 cm_Mo_told0.2.2.2.2 rfl ⟨by omega, by omega, by omega, by omega⟩ (by exact Nat.le_of_ble_eq_true rfl) rfl dX10_valueOf_22 ?_
    refine g_istore (lv' := [some (.ref (E.2.1 + l0)), some (.int l1), some (.int l2), some (.int x2), some (.int x3), none, none]) C dX10_valueOf_25 (by decide) rfl ?_
    refine g_iload_n C dX10_valueOf_27 rfl ?_
    refine g_iload C dX10_valueOf_28 rfl ?_
    refine g_icmp_gt (tgt := 37) C dX10_valueOf_30 (by decide) (fun hc => ?_) (fun hc => ?_)
    · have hf := iteT hf hc
      refine g_iconst (v := (0 : Int32)) C dX10_valueOf_37 (by decide) ?_
      refine g_sub (lv' := [some (.ref (E.2.1 + l0)), some (.int l1), some (.int l2), some (.int x2), some (.int x3), none, none]) ⟨rfl, ⟨rfl, ⟨rfl, ⟨rfl, ⟨rfl, trivial⟩⟩⟩⟩⟩ ?_
      exact l_Mo_valueOf_b38 C HR  hf
    · have hf := iteF hf hc
      refine g_iload_n C dX10_valueOf_33 rfl ?_
      refine g_goto (tgt := 38) C dX10_valueOf_34 (by decide) ?_
      refine g_sub (lv' := [some (.ref (E.2.1 + l0)), some (.int l1), some (.int l2), some (.int x2), some (.int x3), none, none]) ⟨rfl, ⟨rfl, ⟨rfl, ⟨rfl, ⟨rfl, trivial⟩⟩⟩⟩⟩ ?_
      exact l_Mo_valueOf_b38 C HR  hf
  · have hf := iteT hf hc
    refine g_iconst (v := (0 : Int32)) C dX10_valueOf_10 (by decide) ?_
    obtain rfl := rP_ok hf
    exact g_iret HR dX10_valueOf_11
theorem c_Mo_valueOf (E : EE) {G : Hp} {l0 : Nat} {l1 : Int32} {l2 : Int32} {r : Int32} (h : f_Mo_valueOf G l0 l1 l2 = some r) : gCt E y_Mo_valueOf cX10_valueOf 7 (some .int) 1 22 0 0 [.ref (E.2.1 + l0), .int l1, .int l2] G (some (.int r)) G := gCt_of (own := "FavoursGoOffModel") (ini := false) [some (.ref (E.2.1 + l0)), some (.int l1), some (.int l2), none, none, none, none] (by decide +kernel) rfl (fun h => by cases h) (Nat.le_of_ble_eq_true rfl) ⟨rfl, ⟨rfl, ⟨rfl, trivial⟩⟩⟩ (fun X C HR => l_Mo_valueOf C HR h)
set_option maxRecDepth 20000 in
theorem l_Mo_valueNow {E : EE} {X : CT} {G : Hp} (C : gCx E X cX10_valueNow "FavoursGoOffModel" (some .int) 2 48 0 0 false 2) {r : Int32} (HR : gRet E X cX10_valueNow (some .int) 0 0 (some (.int r)) G) {l0 : Nat} {l1 : Int32} (hf : f_Mo_valueNow G l0 l1 = some r) : gV E X 0 0 G 0 [some (.ref (E.2.1 + l0)), some (.int l1)] [] := by
  unfold f_Mo_valueNow at hf
  refine g_aload_n C dX10_valueNow_0 rfl ?_
  refine g_iload_n C dX10_valueNow_1 rfl ?_
  refine g_aload_n C dX10_valueNow_2 rfl ?_
  obtain ⟨x1, hg, h1, hf⟩ := vP_ok hf
  refine g_invV (As := []) (st := [.int l1, .ref (E.2.1 + l0)]) C (c_Mo_day E h1) (rfl : vwCl[10]? = some (y_Mo_day.cls, TX10, 24)) (by decide) hg ml_Mo_101 cm_Mo_day.1 cm_Mo_day.2.1 cm_Mo_day.2.2.1 cm_Mo_day.2.2.2.1 cm_Mo_day.2.2.2.2 rfl ⟨by omega, by omega, by omega, by omega⟩ (by exact Nat.le_of_ble_eq_true rfl) rfl dX10_valueNow_3 ?_
  obtain ⟨x2, hg, h1, hf⟩ := vP_ok hf
  refine g_invV (As := [.int l1, .int x1]) (st := []) C (c_Mo_valueOf E h1) (rfl : vwCl[10]? = some (y_Mo_valueOf.cls, TX10, 24)) (by decide) hg ml_Mo_119 cm_Mo_valueOf.1 cm_Mo_valueOf.2.1 cm_Mo_valueOf.2.2.1 cm_Mo_valueOf.2.2.2.1 cm_Mo_valueOf.2.2.2.2 rfl ⟨by omega, by omega, by omega, by omega⟩ (by exact Nat.le_of_ble_eq_true rfl) rfl dX10_valueNow_6 ?_
  obtain rfl := rP_ok hf
  exact g_iret HR dX10_valueNow_9
theorem c_Mo_valueNow (E : EE) {G : Hp} {l0 : Nat} {l1 : Int32} {r : Int32} (h : f_Mo_valueNow G l0 l1 = some r) : gCt E y_Mo_valueNow cX10_valueNow 2 (some .int) 2 48 0 0 [.ref (E.2.1 + l0), .int l1] G (some (.int r)) G := gCt_of (own := "FavoursGoOffModel") (ini := false) [some (.ref (E.2.1 + l0)), some (.int l1)] (by decide +kernel) rfl (fun h => by cases h) (Nat.le_of_ble_eq_true rfl) ⟨rfl, ⟨rfl, trivial⟩⟩ (fun X C HR => l_Mo_valueNow C HR h)
set_option maxRecDepth 20000 in
theorem l_Mo_value_b30 {E : EE} {X : CT} {G : Hp} (C : gCx E X cX10_value "FavoursGoOffModel" (some .int) 2 48 0 0 false 3) {r : Int32} {G' : Hp} (HR : gRet E X cX10_value (some .int) 0 0 (some (.int r)) G') {s0 : Int32} (hf : f_Mo_value_b30 G s0 = some (r, G')) : gV E X 0 0 G 30 [none, none, none] [.int s0] := by
  unfold f_Mo_value_b30 at hf
  obtain ⟨rfl, rfl⟩ := rH_ok hf
  exact g_iret HR dX10_value_30
set_option maxRecDepth 20000 in
theorem l_Mo_value_b24 {E : EE} {X : CT} {G : Hp} (C : gCx E X cX10_value "FavoursGoOffModel" (some .int) 2 48 0 0 false 3) {r : Int32} {G' : Hp} (HR : gRet E X cX10_value (some .int) 0 0 (some (.int r)) G') {l0 : Nat} (hf : f_Mo_value_b24 G l0 = some (r, G')) : gV E X 0 0 G 24 [some (.ref (E.2.1 + l0)), none, none] [] := by
  unfold f_Mo_value_b24 at hf
  refine g_aload_n C dX10_value_24 rfl ?_
  refine g_bipush (v := (-2 : Int32)) C dX10_value_25 (by decide) ?_
  obtain ⟨x1, G2, hg, h1, hf⟩ := vH_ok hf
  refine g_invV (As := [.int (-2 : Int32)]) (st := []) C (c_Mo_bad E h1) (rfl : vwCl[10]? = some (y_Mo_bad.cls, TX10, 24)) (by decide) hg ml_Mo_80 cm_Mo_bad.1 cm_Mo_bad.2.1 cm_Mo_bad.2.2.1 cm_Mo_bad.2.2.2.1 cm_Mo_bad.2.2.2.2 rfl ⟨by omega, by omega, by omega, by omega⟩ (by exact Nat.le_of_ble_eq_true rfl) rfl dX10_value_27 ?_
  refine g_sub (lv' := [none, none, none]) trivial ?_
  exact l_Mo_value_b30 C HR  hf
set_option maxRecDepth 20000 in
theorem l_Mo_value {E : EE} {X : CT} {G : Hp} (C : gCx E X cX10_value "FavoursGoOffModel" (some .int) 2 48 0 0 false 3) {r : Int32} {G' : Hp} (HR : gRet E X cX10_value (some .int) 0 0 (some (.int r)) G') {l0 : Nat} {l1 : Int32} {l2 : Int32} (hf : f_Mo_value G l0 l1 l2 = some (r, G')) : gV E X 0 0 G 0 [some (.ref (E.2.1 + l0)), some (.int l1), some (.int l2)] [] := by
  unfold f_Mo_value at hf
  refine g_aload_n C dX10_value_0 rfl ?_
  refine g_iload_n C dX10_value_1 rfl ?_
  obtain ⟨x1, hg, h1, hf⟩ := vP_ok hf
  refine g_invV (As := [.int l1]) (st := []) C (c_Mo_isFavour E h1) (rfl : vwCl[10]? = some (y_Mo_isFavour.cls, TX10, 24)) (by decide) hg ml_Mo_122 cm_Mo_isFavour.1 cm_Mo_isFavour.2.1 cm_Mo_isFavour.2.2.1 cm_Mo_isFavour.2.2.2.1 cm_Mo_isFavour.2.2.2.2 rfl ⟨by omega, by omega, by omega, by omega⟩ (by exact Nat.le_of_ble_eq_true rfl) rfl dX10_value_2 ?_
  refine g_if_eq (tgt := 24) C dX10_value_5 (by decide) (fun hc => ?_) (fun hc => ?_)
  · have hf := iteT hf hc
    refine g_sub (lv' := [some (.ref (E.2.1 + l0)), none, none]) ⟨rfl, trivial⟩ ?_
    exact l_Mo_value_b24 C HR  hf
  · have hf := iteF hf hc
    refine g_iload_n C dX10_value_8 rfl ?_
    obtain ⟨x2, h1, hf⟩ := cP_ok hf
    refine g_invS (As := [.int l2]) (st := []) C (c_Mo_isDay E h1) ml_Mo_95 cm_Mo_isDay.1 cm_Mo_isDay.2.1 cm_Mo_isDay.2.2.1 cm_Mo_isDay.2.2.2 rfl ⟨by omega, by omega, by omega, by omega⟩ (by exact Nat.le_of_ble_eq_true rfl) rfl dX10_value_9 ?_
    refine g_if_eq (tgt := 24) C dX10_value_12 (by decide) (fun hc => ?_) (fun hc => ?_)
    · have hf := iteT hf hc
      refine g_sub (lv' := [some (.ref (E.2.1 + l0)), none, none]) ⟨rfl, trivial⟩ ?_
      exact l_Mo_value_b24 C HR  hf
    · have hf := iteF hf hc
      refine g_aload_n C dX10_value_15 rfl ?_
      refine g_iload_n C dX10_value_16 rfl ?_
      refine g_iload_n C dX10_value_17 rfl ?_
      obtain ⟨x3, hg, h1, hf⟩ := vP_ok hf
      refine g_invV (As := [.int l1, .int l2]) (st := []) C (c_Mo_valueOf E h1) (rfl : vwCl[10]? = some (y_Mo_valueOf.cls, TX10, 24)) (by decide) hg ml_Mo_119 cm_Mo_valueOf.1 cm_Mo_valueOf.2.1 cm_Mo_valueOf.2.2.1 cm_Mo_valueOf.2.2.2.1 cm_Mo_valueOf.2.2.2.2 rfl ⟨by omega, by omega, by omega, by omega⟩ (by exact Nat.le_of_ble_eq_true rfl) rfl dX10_value_18 ?_
      refine g_goto (tgt := 30) C dX10_value_21 (by decide) ?_
      refine g_sub (lv' := [none, none, none]) trivial ?_
      exact l_Mo_value_b30 C HR  hf
theorem c_Mo_value (E : EE) {G : Hp} {l0 : Nat} {l1 : Int32} {l2 : Int32} {r : Int32} {G' : Hp} (h : f_Mo_value G l0 l1 l2 = some (r, G')) : gCt E y_Mo_value cX10_value 3 (some .int) 2 48 0 0 [.ref (E.2.1 + l0), .int l1, .int l2] G (some (.int r)) G' := gCt_of (own := "FavoursGoOffModel") (ini := false) [some (.ref (E.2.1 + l0)), some (.int l1), some (.int l2)] (by decide +kernel) rfl (fun h => by cases h) (Nat.le_of_ble_eq_true rfl) ⟨rfl, ⟨rfl, ⟨rfl, trivial⟩⟩⟩ (fun X C HR => l_Mo_value C HR h)
set_option maxRecDepth 20000 in
theorem l_Mo_of_b23 {E : EE} {X : CT} {G : Hp} (C : gCx E X cX10_of "FavoursGoOffModel" (some .int) 2 46 0 0 false 2) {r : Int32} {G' : Hp} (HR : gRet E X cX10_of (some .int) 0 0 (some (.int r)) G') {s0 : Int32} (hf : f_Mo_of_b23 G s0 = some (r, G')) : gV E X 0 0 G 23 [none, none] [.int s0] := by
  unfold f_Mo_of_b23 at hf
  obtain ⟨rfl, rfl⟩ := rH_ok hf
  exact g_iret HR dX10_of_23
set_option maxRecDepth 20000 in
theorem l_Mo_of {E : EE} {X : CT} {G : Hp} (C : gCx E X cX10_of "FavoursGoOffModel" (some .int) 2 46 0 0 false 2) {r : Int32} {G' : Hp} (HR : gRet E X cX10_of (some .int) 0 0 (some (.int r)) G') {l0 : Nat} {l1 : Int32} (hf : f_Mo_of G l0 l1 = some (r, G')) : gV E X 0 0 G 0 [some (.ref (E.2.1 + l0)), some (.int l1)] [] := by
  unfold f_Mo_of at hf
  refine g_aload_n C dX10_of_0 rfl ?_
  refine g_iload_n C dX10_of_1 rfl ?_
  obtain ⟨x1, hg, h1, hf⟩ := vP_ok hf
  refine g_invV (As := [.int l1]) (st := []) C (c_Mo_isFavour E h1) (rfl : vwCl[10]? = some (y_Mo_isFavour.cls, TX10, 24)) (by decide) hg ml_Mo_122 cm_Mo_isFavour.1 cm_Mo_isFavour.2.1 cm_Mo_isFavour.2.2.1 cm_Mo_isFavour.2.2.2.1 cm_Mo_isFavour.2.2.2.2 rfl ⟨by omega, by omega, by omega, by omega⟩ (by exact Nat.le_of_ble_eq_true rfl) rfl dX10_of_2 ?_
  refine g_if_eq (tgt := 17) C dX10_of_5 (by decide) (fun hc => ?_) (fun hc => ?_)
  · have hf := iteT hf hc
    refine g_aload_n C dX10_of_17 rfl ?_
    refine g_bipush (v := (-2 : Int32)) C dX10_of_18 (by decide) ?_
    obtain ⟨x2, G3, hg, h1, hf⟩ := vH_ok hf
    refine g_invV (As := [.int (-2 : Int32)]) (st := []) C (c_Mo_bad E h1) (rfl : vwCl[10]? = some (y_Mo_bad.cls, TX10, 24)) (by decide) hg ml_Mo_80 cm_Mo_bad.1 cm_Mo_bad.2.1 cm_Mo_bad.2.2.1 cm_Mo_bad.2.2.2.1 cm_Mo_bad.2.2.2.2 rfl ⟨by omega, by omega, by omega, by omega⟩ (by exact Nat.le_of_ble_eq_true rfl) rfl dX10_of_20 ?_
    refine g_sub (lv' := [none, none]) trivial ?_
    exact l_Mo_of_b23 C HR  hf
  · have hf := iteF hf hc
    refine g_aload_n C dX10_of_8 rfl ?_
    refine g_iload_n C dX10_of_9 rfl ?_
    refine g_iconst (v := (2 : Int32)) C dX10_of_10 (by decide) ?_
    obtain ⟨x4, hg, h1, hf⟩ := vP_ok hf
    refine g_invV (As := [.int l1, .int (2 : Int32)]) (st := []) C (c_Mo_told0 E h1) (rfl : vwCl[10]? = some (y_Mo_told0.cls, TX10, 24)) (by decide) hg ml_Mo_112 cm_Mo_told0.1 cm_Mo_told0.2.1 cm_Mo_told0.2.2.1 cm_Mo_told0.2.2.2.1 cm_Mo_told0.2.2.2.2 rfl ⟨by omega, by omega, by omega, by omega⟩ (by exact Nat.le_of_ble_eq_true rfl) rfl dX10_of_11 ?_
    refine g_goto (tgt := 23) C dX10_of_14 (by decide) ?_
    refine g_sub (lv' := [none, none]) trivial ?_
    exact l_Mo_of_b23 C HR  hf
theorem c_Mo_of (E : EE) {G : Hp} {l0 : Nat} {l1 : Int32} {r : Int32} {G' : Hp} (h : f_Mo_of G l0 l1 = some (r, G')) : gCt E y_Mo_of cX10_of 2 (some .int) 2 46 0 0 [.ref (E.2.1 + l0), .int l1] G (some (.int r)) G' := gCt_of (own := "FavoursGoOffModel") (ini := false) [some (.ref (E.2.1 + l0)), some (.int l1)] (by decide +kernel) rfl (fun h => by cases h) (Nat.le_of_ble_eq_true rfl) ⟨rfl, ⟨rfl, trivial⟩⟩ (fun X C HR => l_Mo_of C HR h)
set_option maxRecDepth 20000 in
theorem l_Mo_lose {E : EE} {X : CT} {G : Hp} (C : gCx E X cX10_lose "FavoursGoOffModel" none 0 0 0 0 false 2) {G' : Hp} (HR : gRet E X cX10_lose none 0 0 none G') {l0 : Nat} {l1 : Int32} (hf : f_Mo_lose G l0 l1 = some G') : gV E X 0 0 G 0 [some (.ref (E.2.1 + l0)), some (.int l1)] [] := by
  unfold f_Mo_lose at hf
  refine g_aload_n C dX10_lose_0 rfl ?_
  obtain ⟨x1, hg, hf⟩ := gR_ok hf
  refine g_getR C fl_Mo_7 dX10_lose_1 hg ?_
  refine g_bipush (v := (14 : Int32)) C dX10_lose_4 (by decide) ?_
  refine g_bipush (v := (7 : Int32)) C dX10_lose_6 (by decide) ?_
  refine g_iload_n C dX10_lose_8 rfl ?_
  refine g_imul C dX10_lose_9 ?_
  refine g_iadd C dX10_lose_10 ?_
  refine g_iconst (v := (2 : Int32)) C dX10_lose_11 (by decide) ?_
  refine g_iadd C dX10_lose_12 ?_
  refine g_iconst (v := (-1 : Int32)) C dX10_lose_13 (by decide) ?_
  obtain ⟨G2, hG2, hg, hf⟩ := sI_ok hf
  refine e_iast C dX10_lose_14 hG2 hg ?_
  obtain rfl := rP_ok hf
  exact g_vret HR dX10_lose_15
theorem c_Mo_lose (E : EE) {G : Hp} {l0 : Nat} {l1 : Int32} {G' : Hp} (h : f_Mo_lose G l0 l1 = some G') : gCt E y_Mo_lose cX10_lose 2 none 0 0 0 0 [.ref (E.2.1 + l0), .int l1] G none G' := gCt_of (own := "FavoursGoOffModel") (ini := false) [some (.ref (E.2.1 + l0)), some (.int l1)] (by decide +kernel) rfl (fun h => by cases h) (Nat.le_of_ble_eq_true rfl) ⟨rfl, ⟨rfl, trivial⟩⟩ (fun X C HR => l_Mo_lose C HR h)
set_option maxRecDepth 20000 in
theorem l_Mo_pass_b26 {E : EE} {X : CT} {G : Hp} (C : gCx E X cX10_pass "FavoursGoOffModel" (some .int) 3 69 0 0 false 3) {r : Int32} {G' : Hp} (HR : gRet E X cX10_pass (some .int) 0 0 (some (.int r)) G') {l0 : Nat} (hf : f_Mo_pass_b26 G l0 = some (r, G')) : gV E X 0 0 G 26 [some (.ref (E.2.1 + l0)), none, none] [] := by
  unfold f_Mo_pass_b26 at hf
  refine g_aload_n C dX10_pass_26 rfl ?_
  refine g_bipush (v := (-10 : Int32)) C dX10_pass_27 (by decide) ?_
  obtain ⟨x1, G2, hg, h1, hf⟩ := vH_ok hf
  refine g_invV (As := [.int (-10 : Int32)]) (st := []) C (c_Mo_bad E h1) (rfl : vwCl[10]? = some (y_Mo_bad.cls, TX10, 24)) (by decide) hg ml_Mo_80 cm_Mo_bad.1 cm_Mo_bad.2.1 cm_Mo_bad.2.2.1 cm_Mo_bad.2.2.2.1 cm_Mo_bad.2.2.2.2 rfl ⟨by omega, by omega, by omega, by omega⟩ (by exact Nat.le_of_ble_eq_true rfl) rfl dX10_pass_29 ?_
  obtain ⟨rfl, rfl⟩ := rH_ok hf
  exact g_iret HR dX10_pass_32
set_option maxRecDepth 20000 in
theorem l_Mo_pass_b51 {E : EE} {X : CT} {G : Hp} (C : gCx E X cX10_pass "FavoursGoOffModel" (some .int) 3 69 0 0 false 3) {r : Int32} {G' : Hp} (HR : gRet E X cX10_pass (some .int) 0 0 (some (.int r)) G') {l0 : Nat} (hf : f_Mo_pass_b51 G l0 = some (r, G')) : gV E X 0 0 G 51 [some (.ref (E.2.1 + l0)), none, none] [] := by
  unfold f_Mo_pass_b51 at hf
  refine g_aload_n C dX10_pass_51 rfl ?_
  refine g_bipush (v := (-20 : Int32)) C dX10_pass_52 (by decide) ?_
  obtain ⟨x1, G2, hg, h1, hf⟩ := vH_ok hf
  refine g_invV (As := [.int (-20 : Int32)]) (st := []) C (c_Mo_no E h1) (rfl : vwCl[10]? = some (y_Mo_no.cls, TX10, 24)) (by decide) hg ml_Mo_128 cm_Mo_no.1 cm_Mo_no.2.1 cm_Mo_no.2.2.1 cm_Mo_no.2.2.2.1 cm_Mo_no.2.2.2.2 rfl ⟨by omega, by omega, by omega, by omega⟩ (by exact Nat.le_of_ble_eq_true rfl) rfl dX10_pass_54 ?_
  obtain ⟨rfl, rfl⟩ := rH_ok hf
  exact g_iret HR dX10_pass_57
set_option maxRecDepth 20000 in
theorem l_Mo_pass {E : EE} {X : CT} {G : Hp} (C : gCx E X cX10_pass "FavoursGoOffModel" (some .int) 3 69 0 0 false 3) {r : Int32} {G' : Hp} (HR : gRet E X cX10_pass (some .int) 0 0 (some (.int r)) G') {l0 : Nat} {l1 : Int32} {l2 : Int32} (hf : f_Mo_pass G l0 l1 l2 = some (r, G')) : gV E X 0 0 G 0 [some (.ref (E.2.1 + l0)), some (.int l1), some (.int l2)] [] := by
  unfold f_Mo_pass at hf
  refine g_aload_n C dX10_pass_0 rfl ?_
  refine g_iload_n C dX10_pass_1 rfl ?_
  obtain ⟨x1, hg, h1, hf⟩ := vP_ok hf
  refine g_invV (As := [.int l1]) (st := []) C (c_Mo_isFavour E h1) (rfl : vwCl[10]? = some (y_Mo_isFavour.cls, TX10, 24)) (by decide) hg ml_Mo_122 cm_Mo_isFavour.1 cm_Mo_isFavour.2.1 cm_Mo_isFavour.2.2.1 cm_Mo_isFavour.2.2.2.1 cm_Mo_isFavour.2.2.2.2 rfl ⟨by omega, by omega, by omega, by omega⟩ (by exact Nat.le_of_ble_eq_true rfl) rfl dX10_pass_2 ?_
  refine g_if_eq (tgt := 26) C dX10_pass_5 (by decide) (fun hc => ?_) (fun hc => ?_)
  · have hf := iteT hf hc
    refine g_sub (lv' := [some (.ref (E.2.1 + l0)), none, none]) ⟨rfl, trivial⟩ ?_
    exact l_Mo_pass_b26 C HR  hf
  · have hf := iteF hf hc
    refine g_aload_n C dX10_pass_8 rfl ?_
    refine g_iload_n C dX10_pass_9 rfl ?_
    obtain ⟨x2, hg, h1, hf⟩ := vP_ok hf
    refine g_invV (As := [.int l2]) (st := []) C (c_Mo_isOne E h1) (rfl : vwCl[10]? = some (y_Mo_isOne.cls, TX10, 24)) (by decide) hg ml_Mo_84 cm_Mo_isOne.1 cm_Mo_isOne.2.1 cm_Mo_isOne.2.2.1 cm_Mo_isOne.2.2.2.1 cm_Mo_isOne.2.2.2.2 rfl ⟨by omega, by omega, by omega, by omega⟩ (by exact Nat.le_of_ble_eq_true rfl) rfl dX10_pass_10 ?_
    refine g_if_eq (tgt := 26) C dX10_pass_13 (by decide) (fun hc => ?_) (fun hc => ?_)
    · have hf := iteT hf hc
      refine g_sub (lv' := [some (.ref (E.2.1 + l0)), none, none]) ⟨rfl, trivial⟩ ?_
      exact l_Mo_pass_b26 C HR  hf
    · have hf := iteF hf hc
      refine g_aload_n C dX10_pass_16 rfl ?_
      refine g_iload_n C dX10_pass_17 rfl ?_
      refine g_iconst (v := (2 : Int32)) C dX10_pass_18 (by decide) ?_
      obtain ⟨x3, hg, h1, hf⟩ := vP_ok hf
      refine g_invV (As := [.int l1, .int (2 : Int32)]) (st := []) C (c_Mo_told0 E h1) (rfl : vwCl[10]? = some (y_Mo_told0.cls, TX10, 24)) (by decide) hg ml_Mo_112 cm_Mo_told0.1 cm_Mo_told0.2.1 cm_Mo_told0.2.2.1 cm_Mo_told0.2.2.2.1 cm_Mo_told0.2.2.2.2 rfl ⟨by omega, by omega, by omega, by omega⟩ (by exact Nat.le_of_ble_eq_true rfl) rfl dX10_pass_19 ?_
      refine g_iload_n C dX10_pass_22 rfl ?_
      refine g_icmp_ne (tgt := 33) C dX10_pass_23 (by decide) (fun hc => ?_) (fun hc => ?_)
      · have hf := iteF hf hc
        refine g_aload_n C dX10_pass_33 rfl ?_
        refine g_iload_n C dX10_pass_34 rfl ?_
        obtain ⟨x4, hg, h1, hf⟩ := vP_ok hf
        refine g_invV (As := [.int l1]) (st := []) C (c_Mo_valueNow E h1) (rfl : vwCl[10]? = some (y_Mo_valueNow.cls, TX10, 24)) (by decide) hg ml_Mo_125 cm_Mo_valueNow.1 cm_Mo_valueNow.2.1 cm_Mo_valueNow.2.2.1 cm_Mo_valueNow.2.2.2.1 cm_Mo_valueNow.2.2.2.2 rfl ⟨by omega, by omega, by omega, by omega⟩ (by exact Nat.le_of_ble_eq_true rfl) rfl dX10_pass_35 ?_
        refine g_if_eq (tgt := 51) C dX10_pass_38 (by decide) (fun hc => ?_) (fun hc => ?_)
        · have hf := iteT hf hc
          refine g_sub (lv' := [some (.ref (E.2.1 + l0)), none, none]) ⟨rfl, trivial⟩ ?_
          exact l_Mo_pass_b51 C HR  hf
        · have hf := iteF hf hc
          refine g_aload_n C dX10_pass_41 rfl ?_
          refine g_iload_n C dX10_pass_42 rfl ?_
          refine g_iconst (v := (0 : Int32)) C dX10_pass_43 (by decide) ?_
          obtain ⟨x5, hg, h1, hf⟩ := vP_ok hf
          refine g_invV (As := [.int l1, .int (0 : Int32)]) (st := []) C (c_Mo_told0 E h1) (rfl : vwCl[10]? = some (y_Mo_told0.cls, TX10, 24)) (by decide) hg ml_Mo_112 cm_Mo_told0.1 cm_Mo_told0.2.1 cm_Mo_told0.2.2.1 cm_Mo_told0.2.2.2.1 cm_Mo_told0.2.2.2.2 rfl ⟨by omega, by omega, by omega, by omega⟩ (by exact Nat.le_of_ble_eq_true rfl) rfl dX10_pass_44 ?_
          refine g_iconst (v := (2 : Int32)) C dX10_pass_47 (by decide) ?_
          refine g_icmp_ne (tgt := 58) C dX10_pass_48 (by decide) (fun hc => ?_) (fun hc => ?_)
          · have hf := iteF hf hc
            refine g_aload_n C dX10_pass_58 rfl ?_
            refine g_iload_n C dX10_pass_59 rfl ?_
            refine g_iconst (v := (1 : Int32)) C dX10_pass_60 (by decide) ?_
            obtain ⟨x6, hg, h1, hf⟩ := vP_ok hf
            refine g_invV (As := [.int l1, .int (1 : Int32)]) (st := []) C (c_Mo_told0 E h1) (rfl : vwCl[10]? = some (y_Mo_told0.cls, TX10, 24)) (by decide) hg ml_Mo_112 cm_Mo_told0.1 cm_Mo_told0.2.1 cm_Mo_told0.2.2.1 cm_Mo_told0.2.2.2.1 cm_Mo_told0.2.2.2.2 rfl ⟨by omega, by omega, by omega, by omega⟩ (by exact Nat.le_of_ble_eq_true rfl) rfl dX10_pass_61 ?_
            refine g_iload_n C dX10_pass_64 rfl ?_
            refine g_icmp_ne (tgt := 75) C dX10_pass_65 (by decide) (fun hc => ?_) (fun hc => ?_)
            · have hf := iteF hf hc
              refine g_aload_n C dX10_pass_75 rfl ?_
              obtain ⟨x7, hg, hf⟩ := gR_ok hf
              refine g_getR C fl_Mo_7 dX10_pass_76 hg ?_
              refine g_bipush (v := (14 : Int32)) C dX10_pass_79 (by decide) ?_
              refine g_bipush (v := (7 : Int32)) C dX10_pass_81 (by decide) ?_
              refine g_iload_n C dX10_pass_83 rfl ?_
              refine g_imul C dX10_pass_84 ?_
              refine g_iadd C dX10_pass_85 ?_
              refine g_iconst (v := (2 : Int32)) C dX10_pass_86 (by decide) ?_
              refine g_iadd C dX10_pass_87 ?_
              refine g_iload_n C dX10_pass_88 rfl ?_
              obtain ⟨G8, hG8, hg, hf⟩ := sI_ok hf
              refine e_iast C dX10_pass_89 hG8 hg ?_
              refine g_iconst (v := (1 : Int32)) C dX10_pass_90 (by decide) ?_
              obtain ⟨rfl, rfl⟩ := rH_ok hf
              exact g_iret HR dX10_pass_91
            · have hf := iteT hf hc
              refine g_aload_n C dX10_pass_68 rfl ?_
              refine g_iload_n C dX10_pass_69 rfl ?_
              obtain ⟨G9, hg, h1, hf⟩ := vP_ok hf
              refine g_invV (As := [.int l1]) (st := []) C (c_Mo_lose E h1) (rfl : vwCl[10]? = some (y_Mo_lose.cls, TX10, 24)) (by decide) hg ml_Mo_131 cm_Mo_lose.1 cm_Mo_lose.2.1 cm_Mo_lose.2.2.1 cm_Mo_lose.2.2.2.1 cm_Mo_lose.2.2.2.2 rfl ⟨by omega, by omega, by omega, by omega⟩ (by exact Nat.le_of_ble_eq_true rfl) rfl dX10_pass_70 ?_
              refine g_iconst (v := (0 : Int32)) C dX10_pass_73 (by decide) ?_
              obtain ⟨rfl, rfl⟩ := rH_ok hf
              exact g_iret HR dX10_pass_74
          · have hf := iteT hf hc
            refine g_sub (lv' := [some (.ref (E.2.1 + l0)), none, none]) ⟨rfl, trivial⟩ ?_
            exact l_Mo_pass_b51 C HR  hf
      · have hf := iteT hf hc
        refine g_sub (lv' := [some (.ref (E.2.1 + l0)), none, none]) ⟨rfl, trivial⟩ ?_
        exact l_Mo_pass_b26 C HR  hf
theorem c_Mo_pass (E : EE) {G : Hp} {l0 : Nat} {l1 : Int32} {l2 : Int32} {r : Int32} {G' : Hp} (h : f_Mo_pass G l0 l1 l2 = some (r, G')) : gCt E y_Mo_pass cX10_pass 3 (some .int) 3 69 0 0 [.ref (E.2.1 + l0), .int l1, .int l2] G (some (.int r)) G' := gCt_of (own := "FavoursGoOffModel") (ini := false) [some (.ref (E.2.1 + l0)), some (.int l1), some (.int l2)] (by decide +kernel) rfl (fun h => by cases h) (Nat.le_of_ble_eq_true rfl) ⟨rfl, ⟨rfl, ⟨rfl, trivial⟩⟩⟩ (fun X C HR => l_Mo_pass C HR h)
set_option maxRecDepth 20000 in
theorem l_Mo_join_b21 {E : EE} {X : CT} {G : Hp} (C : gCx E X cX10_join "FavoursGoOffModel" (some .int) 3 69 0 0 false 6) {r : Int32} {G' : Hp} (HR : gRet E X cX10_join (some .int) 0 0 (some (.int r)) G') {l0 : Nat} (hf : f_Mo_join_b21 G l0 = some (r, G')) : gV E X 0 0 G 21 [some (.ref (E.2.1 + l0)), none, none, none, none, none] [] := by
  unfold f_Mo_join_b21 at hf
  refine g_aload_n C dX10_join_21 rfl ?_
  refine g_bipush (v := (-2 : Int32)) C dX10_join_22 (by decide) ?_
  obtain ⟨x1, G2, hg, h1, hf⟩ := vH_ok hf
  refine g_invV (As := [.int (-2 : Int32)]) (st := []) C (c_Mo_bad E h1) (rfl : vwCl[10]? = some (y_Mo_bad.cls, TX10, 24)) (by decide) hg ml_Mo_80 cm_Mo_bad.1 cm_Mo_bad.2.1 cm_Mo_bad.2.2.1 cm_Mo_bad.2.2.2.1 cm_Mo_bad.2.2.2.2 rfl ⟨by omega, by omega, by omega, by omega⟩ (by exact Nat.le_of_ble_eq_true rfl) rfl dX10_join_24 ?_
  obtain ⟨rfl, rfl⟩ := rH_ok hf
  exact g_iret HR dX10_join_27
set_option maxRecDepth 20000 in
theorem l_Mo_join_b99 {E : EE} {X : CT} {G : Hp} (C : gCx E X cX10_join "FavoursGoOffModel" (some .int) 3 69 0 0 false 6) {r : Int32} {G' : Hp} (HR : gRet E X cX10_join (some .int) 0 0 (some (.int r)) G') {l0 : Nat} (hf : f_Mo_join_b99 G l0 = some (r, G')) : gV E X 0 0 G 99 [some (.ref (E.2.1 + l0)), none, none, none, none, none] [] := by
  unfold f_Mo_join_b99 at hf
  refine g_aload_n C dX10_join_99 rfl ?_
  refine g_bipush (v := (-3 : Int32)) C dX10_join_100 (by decide) ?_
  obtain ⟨x1, G2, hg, h1, hf⟩ := vH_ok hf
  refine g_invV (As := [.int (-3 : Int32)]) (st := []) C (c_Mo_no E h1) (rfl : vwCl[10]? = some (y_Mo_no.cls, TX10, 24)) (by decide) hg ml_Mo_128 cm_Mo_no.1 cm_Mo_no.2.1 cm_Mo_no.2.2.1 cm_Mo_no.2.2.2.1 cm_Mo_no.2.2.2.2 rfl ⟨by omega, by omega, by omega, by omega⟩ (by exact Nat.le_of_ble_eq_true rfl) rfl dX10_join_102 ?_
  obtain ⟨rfl, rfl⟩ := rH_ok hf
  exact g_iret HR dX10_join_105
set_option maxRecDepth 20000 in
theorem l_Mo_join_b200 {E : EE} {X : CT} {G : Hp} (C : gCx E X cX10_join "FavoursGoOffModel" (some .int) 3 69 0 0 false 6) {r : Int32} {G' : Hp} (HR : gRet E X cX10_join (some .int) 0 0 (some (.int r)) G') {l0 : Nat} {l2 : Int32} {l4 : Int32} {s0 : Nat} {s1 : Int32} {s2 : Int32} (hf : f_Mo_join_b200 G l0 l2 l4 s0 s1 s2 = some (r, G')) : gV E X 0 0 G 200 [some (.ref (E.2.1 + l0)), none, some (.int l2), none, some (.int l4), none] [.int s2, .int s1, .ref (E.2.1 + s0)] := by
  unfold f_Mo_join_b200 at hf
  obtain ⟨G1, hG1, hg, hf⟩ := sI_ok hf
  refine e_iast C dX10_join_200 hG1 hg ?_
  refine g_aload_n C dX10_join_201 rfl ?_
  refine g_iload_n C dX10_join_202 rfl ?_
  obtain ⟨G2, hg, h1, hf⟩ := vP_ok hf
  refine g_invV (As := [.int l2]) (st := []) C (c_Mo_lose E h1) (rfl : vwCl[10]? = some (y_Mo_lose.cls, TX10, 24)) (by decide) hg ml_Mo_131 cm_Mo_lose.1 cm_Mo_lose.2.1 cm_Mo_lose.2.2.1 cm_Mo_lose.2.2.2.1 cm_Mo_lose.2.2.2.2 rfl ⟨by omega, by omega, by omega, by omega⟩ (by exact Nat.le_of_ble_eq_true rfl) rfl dX10_join_203 ?_
  refine g_aload_n C dX10_join_206 rfl ?_
  obtain ⟨x3, hg, hf⟩ := gR_ok hf
  refine g_getR C fl_Mo_7 dX10_join_207 hg ?_
  refine g_iload C dX10_join_210 rfl ?_
  refine g_iconst (v := (4 : Int32)) C dX10_join_212 (by decide) ?_
  refine g_iadd C dX10_join_213 ?_
  obtain ⟨x4, hx4, hg, hf⟩ := aI_ok hf
  refine e_iald C dX10_join_214 hx4 hg ?_
  obtain ⟨rfl, rfl⟩ := rH_ok hf
  exact g_iret HR dX10_join_215
set_option maxRecDepth 20000 in
theorem l_Mo_join_b155 {E : EE} {X : CT} {G : Hp} (C : gCx E X cX10_join "FavoursGoOffModel" (some .int) 3 69 0 0 false 6) {r : Int32} {G' : Hp} (HR : gRet E X cX10_join (some .int) 0 0 (some (.int r)) G') {l0 : Nat} {l2 : Int32} {l4 : Int32} {s0 : Nat} {s1 : Int32} {s2 : Int32} (hf : f_Mo_join_b155 G l0 l2 l4 s0 s1 s2 = some (r, G')) : gV E X 0 0 G 155 [some (.ref (E.2.1 + l0)), none, some (.int l2), none, some (.int l4), none] [.int s2, .int s1, .ref (E.2.1 + s0)] := by
  unfold f_Mo_join_b155 at hf
  obtain ⟨G1, hG1, hg, hf⟩ := sI_ok hf
  refine e_iast C dX10_join_155 hG1 hg ?_
  refine g_aload_n C dX10_join_156 rfl ?_
  obtain ⟨x2, hg, hf⟩ := gR_ok hf
  refine g_getR C fl_Mo_7 dX10_join_157 hg ?_
  refine g_iload C dX10_join_160 rfl ?_
  refine g_iconst (v := (5 : Int32)) C dX10_join_162 (by decide) ?_
  refine g_iadd C dX10_join_163 ?_
  refine g_aload_n C dX10_join_164 rfl ?_
  refine g_iload_n C dX10_join_165 rfl ?_
  refine g_iconst (v := (5 : Int32)) C dX10_join_166 (by decide) ?_
  obtain ⟨x3, hg, h1, hf⟩ := vP_ok hf
  refine g_invV (As := [.int l2, .int (5 : Int32)]) (st := [.int (l4 + (5 : Int32)), .ref (E.2.1 + x2)]) C (c_Mo_told0 E h1) (rfl : vwCl[10]? = some (y_Mo_told0.cls, TX10, 24)) (by decide) hg ml_Mo_112 cm_Mo_told0.1 cm_Mo_told0.2.1 cm_Mo_told0.2.2.1 cm_Mo_told0.2.2.2.1 cm_Mo_told0.2.2.2.2 rfl ⟨by omega, by omega, by omega, by omega⟩ (by exact Nat.le_of_ble_eq_true rfl) rfl dX10_join_167 ?_
  refine g_aload_n C dX10_join_170 rfl ?_
  obtain ⟨x4, hg, hf⟩ := gR_ok hf
  refine g_getR C fl_Mo_7 dX10_join_171 hg ?_
  refine g_iload C dX10_join_174 rfl ?_
  refine g_iconst (v := (5 : Int32)) C dX10_join_176 (by decide) ?_
  refine g_iadd C dX10_join_177 ?_
  obtain ⟨x5, hx5, hg, hf⟩ := aI_ok hf
  refine e_iald C dX10_join_178 hx5 hg ?_
  refine g_icmp_ge (tgt := 191) C dX10_join_179 (by decide) (fun hc => ?_) (fun hc => ?_)
  · have hf := iteT hf hc
    refine g_aload_n C dX10_join_191 rfl ?_
    obtain ⟨x6, hg, hf⟩ := gR_ok hf
    refine g_getR C fl_Mo_7 dX10_join_192 hg ?_
    refine g_iload C dX10_join_195 rfl ?_
    refine g_iconst (v := (5 : Int32)) C dX10_join_197 (by decide) ?_
    refine g_iadd C dX10_join_198 ?_
    obtain ⟨x7, hx7, hg, hf⟩ := aI_ok hf
    refine e_iald C dX10_join_199 hx7 hg ?_
    refine g_sub (lv' := [some (.ref (E.2.1 + l0)), none, some (.int l2), none, some (.int l4), none]) ⟨rfl, ⟨rfl, ⟨rfl, trivial⟩⟩⟩ ?_
    exact l_Mo_join_b200 C HR  hf
  · have hf := iteF hf hc
    refine g_aload_n C dX10_join_182 rfl ?_
    refine g_iload_n C dX10_join_183 rfl ?_
    refine g_iconst (v := (5 : Int32)) C dX10_join_184 (by decide) ?_
    obtain ⟨x8, hg, h1, hf⟩ := vP_ok hf
    refine g_invV (As := [.int l2, .int (5 : Int32)]) (st := [.int (l4 + (5 : Int32)), .ref (E.2.1 + x2)]) C (c_Mo_told0 E h1) (rfl : vwCl[10]? = some (y_Mo_told0.cls, TX10, 24)) (by decide) hg ml_Mo_112 cm_Mo_told0.1 cm_Mo_told0.2.1 cm_Mo_told0.2.2.1 cm_Mo_told0.2.2.2.1 cm_Mo_told0.2.2.2.2 rfl ⟨by omega, by omega, by omega, by omega⟩ (by exact Nat.le_of_ble_eq_true rfl) rfl dX10_join_185 ?_
    refine g_goto (tgt := 200) C dX10_join_188 (by decide) ?_
    refine g_sub (lv' := [some (.ref (E.2.1 + l0)), none, some (.int l2), none, some (.int l4), none]) ⟨rfl, ⟨rfl, ⟨rfl, trivial⟩⟩⟩ ?_
    exact l_Mo_join_b200 C HR  hf
set_option maxRecDepth 20000 in
theorem l_Mo_join_b78 {E : EE} {X : CT} {G : Hp} (C : gCx E X cX10_join "FavoursGoOffModel" (some .int) 3 69 0 0 false 6) {r : Int32} {G' : Hp} (HR : gRet E X cX10_join (some .int) 0 0 (some (.int r)) G') {l0 : Nat} {l1 : Int32} {l2 : Int32} {s0 : Int32} (hf : f_Mo_join_b78 G l0 l1 l2 s0 = some (r, G')) : gV E X 0 0 G 78 [some (.ref (E.2.1 + l0)), some (.int l1), some (.int l2), none, none, none] [.int s0] := by
  unfold f_Mo_join_b78 at hf
  refine g_istore_n (lv' := [some (.ref (E.2.1 + l0)), some (.int l1), some (.int l2), some (.int s0), none, none]) C dX10_join_78 (by decide) rfl ?_
  refine g_iload_n C dX10_join_79 rfl ?_
  refine g_if_eq (tgt := 99) C dX10_join_80 (by decide) (fun hc => ?_) (fun hc => ?_)
  · have hf := iteT hf hc
    refine g_sub (lv' := [some (.ref (E.2.1 + l0)), none, none, none, none, none]) ⟨rfl, trivial⟩ ?_
    exact l_Mo_join_b99 C HR  hf
  · have hf := iteF hf hc
    refine g_aload_n C dX10_join_83 rfl ?_
    refine g_iload_n C dX10_join_84 rfl ?_
    obtain ⟨x1, hg, h1, hf⟩ := vP_ok hf
    refine g_invV (As := [.int l1]) (st := []) C (c_Mo_valueNow E h1) (rfl : vwCl[10]? = some (y_Mo_valueNow.cls, TX10, 24)) (by decide) hg ml_Mo_125 cm_Mo_valueNow.1 cm_Mo_valueNow.2.1 cm_Mo_valueNow.2.2.1 cm_Mo_valueNow.2.2.2.1 cm_Mo_valueNow.2.2.2.2 rfl ⟨by omega, by omega, by omega, by omega⟩ (by exact Nat.le_of_ble_eq_true rfl) rfl dX10_join_85 ?_
    refine g_if_eq (tgt := 99) C dX10_join_88 (by decide) (fun hc => ?_) (fun hc => ?_)
    · have hf := iteT hf hc
      refine g_sub (lv' := [some (.ref (E.2.1 + l0)), none, none, none, none, none]) ⟨rfl, trivial⟩ ?_
      exact l_Mo_join_b99 C HR  hf
    · have hf := iteF hf hc
      refine g_aload_n C dX10_join_91 rfl ?_
      refine g_iload_n C dX10_join_92 rfl ?_
      obtain ⟨x2, hg, h1, hf⟩ := vP_ok hf
      refine g_invV (As := [.int l2]) (st := []) C (c_Mo_valueNow E h1) (rfl : vwCl[10]? = some (y_Mo_valueNow.cls, TX10, 24)) (by decide) hg ml_Mo_125 cm_Mo_valueNow.1 cm_Mo_valueNow.2.1 cm_Mo_valueNow.2.2.1 cm_Mo_valueNow.2.2.2.1 cm_Mo_valueNow.2.2.2.2 rfl ⟨by omega, by omega, by omega, by omega⟩ (by exact Nat.le_of_ble_eq_true rfl) rfl dX10_join_93 ?_
      refine g_if_ne (tgt := 106) C dX10_join_96 (by decide) (fun hc => ?_) (fun hc => ?_)
      · have hf := iteF hf hc
        refine g_bipush (v := (14 : Int32)) C dX10_join_106 (by decide) ?_
        refine g_bipush (v := (7 : Int32)) C dX10_join_108 (by decide) ?_
        refine g_iload_n C dX10_join_110 rfl ?_
        refine g_imul C dX10_join_111 ?_
        refine g_iadd C dX10_join_112 ?_
        obtain ⟨x3, hx3, hf⟩ := lt_ok hf
        refine e_top hx3 ?_
        refine g_istore (lv' := [some (.ref (E.2.1 + l0)), some (.int l1), some (.int l2), some (.int s0), some (.int x3), none]) C dX10_join_113 (by decide) rfl ?_
        refine g_aload_n C dX10_join_115 rfl ?_
        obtain ⟨x4, hg, hf⟩ := gR_ok hf
        refine g_getR C fl_Mo_7 dX10_join_116 hg ?_
        refine g_iload C dX10_join_119 rfl ?_
        refine g_iconst (v := (4 : Int32)) C dX10_join_121 (by decide) ?_
        refine g_iadd C dX10_join_122 ?_
        obtain ⟨x5, hx5, hg, hf⟩ := aI_ok hf
        refine e_iald C dX10_join_123 hx5 hg ?_
        refine g_aload_n C dX10_join_124 rfl ?_
        refine g_iload_n C dX10_join_125 rfl ?_
        refine g_iconst (v := (4 : Int32)) C dX10_join_126 (by decide) ?_
        obtain ⟨x6, hg, h1, hf⟩ := vP_ok hf
        refine g_invV (As := [.int l2, .int (4 : Int32)]) (st := [.int x5]) C (c_Mo_told0 E h1) (rfl : vwCl[10]? = some (y_Mo_told0.cls, TX10, 24)) (by decide) hg ml_Mo_112 cm_Mo_told0.1 cm_Mo_told0.2.1 cm_Mo_told0.2.2.1 cm_Mo_told0.2.2.2.1 cm_Mo_told0.2.2.2.2 rfl ⟨by omega, by omega, by omega, by omega⟩ (by exact Nat.le_of_ble_eq_true rfl) rfl dX10_join_127 ?_
        refine g_iadd C dX10_join_130 ?_
        obtain ⟨x7, hx7, hf⟩ := lt_ok hf
        refine e_top hx7 ?_
        refine g_istore (lv' := [some (.ref (E.2.1 + l0)), some (.int l1), some (.int l2), some (.int s0), some (.int x3), some (.int x7)]) C dX10_join_131 (by decide) rfl ?_
        refine g_aload_n C dX10_join_133 rfl ?_
        obtain ⟨x8, hg, hf⟩ := gR_ok hf
        refine g_getR C fl_Mo_7 dX10_join_134 hg ?_
        refine g_iload C dX10_join_137 rfl ?_
        refine g_iconst (v := (4 : Int32)) C dX10_join_139 (by decide) ?_
        refine g_iadd C dX10_join_140 ?_
        refine g_iload C dX10_join_141 rfl ?_
        refine g_bipush (v := (40 : Int32)) C dX10_join_143 (by decide) ?_
        refine g_icmp_le (tgt := 153) C dX10_join_145 (by decide) (fun hc => ?_) (fun hc => ?_)
        · have hf := iteT hf hc
          refine g_iload C dX10_join_153 rfl ?_
          refine g_sub (lv' := [some (.ref (E.2.1 + l0)), none, some (.int l2), none, some (.int x3), none]) ⟨rfl, ⟨rfl, ⟨rfl, trivial⟩⟩⟩ ?_
          exact l_Mo_join_b155 C HR  hf
        · have hf := iteF hf hc
          refine g_bipush (v := (40 : Int32)) C dX10_join_148 (by decide) ?_
          refine g_goto (tgt := 155) C dX10_join_150 (by decide) ?_
          refine g_sub (lv' := [some (.ref (E.2.1 + l0)), none, some (.int l2), none, some (.int x3), none]) ⟨rfl, ⟨rfl, ⟨rfl, trivial⟩⟩⟩ ?_
          exact l_Mo_join_b155 C HR  hf
      · have hf := iteT hf hc
        refine g_sub (lv' := [some (.ref (E.2.1 + l0)), none, none, none, none, none]) ⟨rfl, trivial⟩ ?_
        exact l_Mo_join_b99 C HR  hf
set_option maxRecDepth 20000 in
theorem l_Mo_join_b77 {E : EE} {X : CT} {G : Hp} (C : gCx E X cX10_join "FavoursGoOffModel" (some .int) 3 69 0 0 false 6) {r : Int32} {G' : Hp} (HR : gRet E X cX10_join (some .int) 0 0 (some (.int r)) G') {l0 : Nat} {l1 : Int32} {l2 : Int32} (hf : f_Mo_join_b77 G l0 l1 l2 = some (r, G')) : gV E X 0 0 G 77 [some (.ref (E.2.1 + l0)), some (.int l1), some (.int l2), none, none, none] [] := by
  unfold f_Mo_join_b77 at hf
  refine g_iconst (v := (0 : Int32)) C dX10_join_77 (by decide) ?_
  refine g_sub (lv' := [some (.ref (E.2.1 + l0)), some (.int l1), some (.int l2), none, none, none]) ⟨rfl, ⟨rfl, ⟨rfl, trivial⟩⟩⟩ ?_
  exact l_Mo_join_b78 C HR  hf
set_option maxRecDepth 20000 in
theorem l_Mo_join {E : EE} {X : CT} {G : Hp} (C : gCx E X cX10_join "FavoursGoOffModel" (some .int) 3 69 0 0 false 6) {r : Int32} {G' : Hp} (HR : gRet E X cX10_join (some .int) 0 0 (some (.int r)) G') {l0 : Nat} {l1 : Int32} {l2 : Int32} (hf : f_Mo_join G l0 l1 l2 = some (r, G')) : gV E X 0 0 G 0 [some (.ref (E.2.1 + l0)), some (.int l1), some (.int l2), none, none, none] [] := by
  unfold f_Mo_join at hf
  refine g_aload_n C dX10_join_0 rfl ?_
  refine g_iload_n C dX10_join_1 rfl ?_
  obtain ⟨x1, hg, h1, hf⟩ := vP_ok hf
  refine g_invV (As := [.int l1]) (st := []) C (c_Mo_isFavour E h1) (rfl : vwCl[10]? = some (y_Mo_isFavour.cls, TX10, 24)) (by decide) hg ml_Mo_122 cm_Mo_isFavour.1 cm_Mo_isFavour.2.1 cm_Mo_isFavour.2.2.1 cm_Mo_isFavour.2.2.2.1 cm_Mo_isFavour.2.2.2.2 rfl ⟨by omega, by omega, by omega, by omega⟩ (by exact Nat.le_of_ble_eq_true rfl) rfl dX10_join_2 ?_
  refine g_if_eq (tgt := 21) C dX10_join_5 (by decide) (fun hc => ?_) (fun hc => ?_)
  · have hf := iteT hf hc
    refine g_sub (lv' := [some (.ref (E.2.1 + l0)), none, none, none, none, none]) ⟨rfl, trivial⟩ ?_
    exact l_Mo_join_b21 C HR  hf
  · have hf := iteF hf hc
    refine g_aload_n C dX10_join_8 rfl ?_
    refine g_iload_n C dX10_join_9 rfl ?_
    obtain ⟨x2, hg, h1, hf⟩ := vP_ok hf
    refine g_invV (As := [.int l2]) (st := []) C (c_Mo_isFavour E h1) (rfl : vwCl[10]? = some (y_Mo_isFavour.cls, TX10, 24)) (by decide) hg ml_Mo_122 cm_Mo_isFavour.1 cm_Mo_isFavour.2.1 cm_Mo_isFavour.2.2.1 cm_Mo_isFavour.2.2.2.1 cm_Mo_isFavour.2.2.2.2 rfl ⟨by omega, by omega, by omega, by omega⟩ (by exact Nat.le_of_ble_eq_true rfl) rfl dX10_join_10 ?_
    refine g_if_eq (tgt := 21) C dX10_join_13 (by decide) (fun hc => ?_) (fun hc => ?_)
    · have hf := iteT hf hc
      refine g_sub (lv' := [some (.ref (E.2.1 + l0)), none, none, none, none, none]) ⟨rfl, trivial⟩ ?_
      exact l_Mo_join_b21 C HR  hf
    · have hf := iteF hf hc
      refine g_iload_n C dX10_join_16 rfl ?_
      refine g_iload_n C dX10_join_17 rfl ?_
      refine g_icmp_ne (tgt := 28) C dX10_join_18 (by decide) (fun hc => ?_) (fun hc => ?_)
      · have hf := iteF hf hc
        refine g_aload_n C dX10_join_28 rfl ?_
        refine g_iload_n C dX10_join_29 rfl ?_
        refine g_iconst (v := (1 : Int32)) C dX10_join_30 (by decide) ?_
        obtain ⟨x3, hg, h1, hf⟩ := vP_ok hf
        refine g_invV (As := [.int l1, .int (1 : Int32)]) (st := []) C (c_Mo_told0 E h1) (rfl : vwCl[10]? = some (y_Mo_told0.cls, TX10, 24)) (by decide) hg ml_Mo_112 cm_Mo_told0.1 cm_Mo_told0.2.1 cm_Mo_told0.2.2.1 cm_Mo_told0.2.2.2.1 cm_Mo_told0.2.2.2.2 rfl ⟨by omega, by omega, by omega, by omega⟩ (by exact Nat.le_of_ble_eq_true rfl) rfl dX10_join_31 ?_
        refine g_aload_n C dX10_join_34 rfl ?_
        refine g_iload_n C dX10_join_35 rfl ?_
        refine g_iconst (v := (1 : Int32)) C dX10_join_36 (by decide) ?_
        obtain ⟨x4, hg, h1, hf⟩ := vP_ok hf
        refine g_invV (As := [.int l2, .int (1 : Int32)]) (st := [.int x3]) C (c_Mo_told0 E h1) (rfl : vwCl[10]? = some (y_Mo_told0.cls, TX10, 24)) (by decide) hg ml_Mo_112 cm_Mo_told0.1 cm_Mo_told0.2.1 cm_Mo_told0.2.2.1 cm_Mo_told0.2.2.2.1 cm_Mo_told0.2.2.2.2 rfl ⟨by omega, by omega, by omega, by omega⟩ (by exact Nat.le_of_ble_eq_true rfl) rfl dX10_join_37 ?_
        refine g_icmp_ne (tgt := 77) C dX10_join_40 (by decide) (fun hc => ?_) (fun hc => ?_)
        · have hf := iteF hf hc
          refine g_sub (lv' := [some (.ref (E.2.1 + l0)), some (.int l1), some (.int l2), none, none, none]) ⟨rfl, ⟨rfl, ⟨rfl, trivial⟩⟩⟩ ?_
          exact l_Mo_join_b77 C HR  hf
        · have hf := iteT hf hc
          refine g_aload_n C dX10_join_43 rfl ?_
          refine g_iload_n C dX10_join_44 rfl ?_
          refine g_iconst (v := (2 : Int32)) C dX10_join_45 (by decide) ?_
          obtain ⟨x5, hg, h1, hf⟩ := vP_ok hf
          refine g_invV (As := [.int l1, .int (2 : Int32)]) (st := []) C (c_Mo_told0 E h1) (rfl : vwCl[10]? = some (y_Mo_told0.cls, TX10, 24)) (by decide) hg ml_Mo_112 cm_Mo_told0.1 cm_Mo_told0.2.1 cm_Mo_told0.2.2.1 cm_Mo_told0.2.2.2.1 cm_Mo_told0.2.2.2.2 rfl ⟨by omega, by omega, by omega, by omega⟩ (by exact Nat.le_of_ble_eq_true rfl) rfl dX10_join_46 ?_
          refine g_aload_n C dX10_join_49 rfl ?_
          refine g_iload_n C dX10_join_50 rfl ?_
          refine g_iconst (v := (2 : Int32)) C dX10_join_51 (by decide) ?_
          obtain ⟨x6, hg, h1, hf⟩ := vP_ok hf
          refine g_invV (As := [.int l2, .int (2 : Int32)]) (st := [.int x5]) C (c_Mo_told0 E h1) (rfl : vwCl[10]? = some (y_Mo_told0.cls, TX10, 24)) (by decide) hg ml_Mo_112 cm_Mo_told0.1 cm_Mo_told0.2.1 cm_Mo_told0.2.2.1 cm_Mo_told0.2.2.2.1 cm_Mo_told0.2.2.2.2 rfl ⟨by omega, by omega, by omega, by omega⟩ (by exact Nat.le_of_ble_eq_true rfl) rfl dX10_join_52 ?_
          refine g_icmp_ne (tgt := 77) C dX10_join_55 (by decide) (fun hc => ?_) (fun hc => ?_)
          · have hf := iteF hf hc
            refine g_sub (lv' := [some (.ref (E.2.1 + l0)), some (.int l1), some (.int l2), none, none, none]) ⟨rfl, ⟨rfl, ⟨rfl, trivial⟩⟩⟩ ?_
            exact l_Mo_join_b77 C HR  hf
          · have hf := iteT hf hc
            refine g_aload_n C dX10_join_58 rfl ?_
            refine g_iload_n C dX10_join_59 rfl ?_
            refine g_iconst (v := (3 : Int32)) C dX10_join_60 (by decide) ?_
            obtain ⟨x7, hg, h1, hf⟩ := vP_ok hf
            refine g_invV (As := [.int l1, .int (3 : Int32)]) (st := []) C (c_Mo_told0 E h1) (rfl : vwCl[10]? = some (y_Mo_told0.cls, TX10, 24)) (by decide) hg ml_Mo_112 cm_Mo_told0.1 cm_Mo_told0.2.1 cm_Mo_told0.2.2.1 cm_Mo_told0.2.2.2.1 cm_Mo_told0.2.2.2.2 rfl ⟨by omega, by omega, by omega, by omega⟩ (by exact Nat.le_of_ble_eq_true rfl) rfl dX10_join_61 ?_
            refine g_aload_n C dX10_join_64 rfl ?_
            refine g_iload_n C dX10_join_65 rfl ?_
            refine g_iconst (v := (3 : Int32)) C dX10_join_66 (by decide) ?_
            obtain ⟨x8, hg, h1, hf⟩ := vP_ok hf
            refine g_invV (As := [.int l2, .int (3 : Int32)]) (st := [.int x7]) C (c_Mo_told0 E h1) (rfl : vwCl[10]? = some (y_Mo_told0.cls, TX10, 24)) (by decide) hg ml_Mo_112 cm_Mo_told0.1 cm_Mo_told0.2.1 cm_Mo_told0.2.2.1 cm_Mo_told0.2.2.2.1 cm_Mo_told0.2.2.2.2 rfl ⟨by omega, by omega, by omega, by omega⟩ (by exact Nat.le_of_ble_eq_true rfl) rfl dX10_join_67 ?_
            refine g_icmp_ne (tgt := 77) C dX10_join_70 (by decide) (fun hc => ?_) (fun hc => ?_)
            · have hf := iteF hf hc
              refine g_sub (lv' := [some (.ref (E.2.1 + l0)), some (.int l1), some (.int l2), none, none, none]) ⟨rfl, ⟨rfl, ⟨rfl, trivial⟩⟩⟩ ?_
              exact l_Mo_join_b77 C HR  hf
            · have hf := iteT hf hc
              refine g_iconst (v := (1 : Int32)) C dX10_join_73 (by decide) ?_
              refine g_goto (tgt := 78) C dX10_join_74 (by decide) ?_
              refine g_sub (lv' := [some (.ref (E.2.1 + l0)), some (.int l1), some (.int l2), none, none, none]) ⟨rfl, ⟨rfl, ⟨rfl, trivial⟩⟩⟩ ?_
              exact l_Mo_join_b78 C HR  hf
      · have hf := iteT hf hc
        refine g_sub (lv' := [some (.ref (E.2.1 + l0)), none, none, none, none, none]) ⟨rfl, trivial⟩ ?_
        exact l_Mo_join_b21 C HR  hf
theorem c_Mo_join (E : EE) {G : Hp} {l0 : Nat} {l1 : Int32} {l2 : Int32} {r : Int32} {G' : Hp} (h : f_Mo_join G l0 l1 l2 = some (r, G')) : gCt E y_Mo_join cX10_join 6 (some .int) 3 69 0 0 [.ref (E.2.1 + l0), .int l1, .int l2] G (some (.int r)) G' := gCt_of (own := "FavoursGoOffModel") (ini := false) [some (.ref (E.2.1 + l0)), some (.int l1), some (.int l2), none, none, none] (by decide +kernel) rfl (fun h => by cases h) (Nat.le_of_ble_eq_true rfl) ⟨rfl, ⟨rfl, ⟨rfl, trivial⟩⟩⟩ (fun X C HR => l_Mo_join C HR h)
