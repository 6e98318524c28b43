/-! ===== each method does as its function says ===== -/
set_option maxRecDepth 20000 in
theorem l_Fr_init {E : EE} {X : CT} {G : Hp} (C : gCx E X cX2_init "FavoursGoOff$Fraction" none 1 30 0 0 true 1) {G' : Hp} (HR : gRet E X cX2_init none 0 0 none G') {l0 : Nat} (hf : f_Fr_init G l0 = some G') : gV E X 0 0 G 0 [some (.ref (E.2.1 + l0))] [] := by
  unfold f_Fr_init at hf
  refine g_aload_n C dX2_init_0 rfl ?_
  refine g_objInit C ml_Fr_1 cm_obj.1 cm_obj.2 (by omega) (Nat.le_trans (m := 30) (by exact Nat.le_of_ble_eq_true rfl) (by omega)) dX2_init_1 ?_
  refine g_aload_n C dX2_init_4 rfl ?_
  refine g_lconst (v := (1 : Int64)) C dX2_init_5 (by decide) ?_
  obtain ⟨G1, hG1, hg, hf⟩ := pL_ok hf
  refine e_putL C fl_Fr_7 dX2_init_6 hG1 hg (Or.inl rfl) ?_
  obtain rfl := rP_ok hf
  exact g_vret HR dX2_init_9
theorem c_Fr_init (E : EE) {G : Hp} {l0 : Nat} {G' : Hp} (h : f_Fr_init G l0 = some G') : gCt E y_Fr_init cX2_init 1 none 1 30 0 0 [.ref (E.2.1 + l0)] G none G' := gCt_of (own := "FavoursGoOff$Fraction") (ini := true) [some (.ref (E.2.1 + l0))] (by decide +kernel) rfl (fun _ => rfl) (Nat.le_of_ble_eq_true rfl) ⟨rfl, trivial⟩ (fun X C HR => l_Fr_init C HR h)
set_option maxRecDepth 20000 in
theorem l_Fr_commonDivisor_b32 {E : EE} {X : CT} {G : Hp} (C : gCx E X cX2_commonDivisor "FavoursGoOff$Fraction" (some .long) 0 0 0 0 false 7) {r : Int64} (HR : gRet E X cX2_commonDivisor (some .long) 0 0 (some (.long r)) G) {l0 : Int64} (hf : f_Fr_commonDivisor_b32 G l0 = some r) : gV E X 0 0 G 32 [some (.long l0), none, none, none, none, none, none] [] := by
  unfold f_Fr_commonDivisor_b32 at hf
  refine g_lload_n C dX2_commonDivisor_32 rfl ?_
  obtain rfl := rP_ok hf
  exact g_lret HR dX2_commonDivisor_33
set_option maxRecDepth 20000 in
theorem l_Fr_commonDivisor_b3k {E : EE} {X : CT} {G : Hp} (C : gCx E X cX2_commonDivisor "FavoursGoOff$Fraction" (some .long) 0 0 0 0 false 7) {r : Int64} (HR : gRet E X cX2_commonDivisor (some .long) 0 0 (some (.long r)) G) {k3 : Int64 → Int64 → Int32 → Option Int64} (K3 : ∀ {l0 : Int64} {l2 : Int64} {l4 : Int32}, k3 l0 l2 l4 = some r → gV E X 0 0 G 3 [some (.long l0), none, some (.long l2), none, some (.int l4), none, none] []) {l0 : Int64} {l2 : Int64} {l4 : Int32} (hf : f_Fr_commonDivisor_b3_k G k3 l0 l2 l4 = some r) : gV E X 0 0 G 3 [some (.long l0), none, some (.long l2), none, some (.int l4), none, none] [] := by
  unfold f_Fr_commonDivisor_b3_k at hf
  refine g_iload C dX2_commonDivisor_3 rfl ?_
  refine g_bipush (v := (100 : Int32)) C dX2_commonDivisor_5 (by decide) ?_
  refine g_icmp_ge (tgt := 32) C dX2_commonDivisor_7 (by decide) (fun hc => ?_) (fun hc => ?_)
  · have hf := iteT hf hc
    refine g_sub (lv' := [some (.long l0), none, none, none, none, none, none]) ⟨rfl, trivial⟩ ?_
    exact l_Fr_commonDivisor_b32 C HR  hf
  · have hf := iteF hf hc
    refine g_lload_n C dX2_commonDivisor_10 rfl ?_
    refine g_lconst (v := (0 : Int64)) C dX2_commonDivisor_11 (by decide) ?_
    refine g_lcmp C dX2_commonDivisor_12 ?_
    refine g_if_le (tgt := 32) C dX2_commonDivisor_13 (by decide) (fun hc => ?_) (fun hc => ?_)
    · have hf := iteT hf hc
      refine g_sub (lv' := [some (.long l0), none, none, none, none, none, none]) ⟨rfl, trivial⟩ ?_
      exact l_Fr_commonDivisor_b32 C HR  hf
    · have hf := iteF hf hc
      refine g_lload_n C dX2_commonDivisor_16 rfl ?_
      refine g_lload_n C dX2_commonDivisor_17 rfl ?_
      obtain ⟨hy, hf⟩ := dL_ok hf
      refine g_lrem C dX2_commonDivisor_18 hy ?_
      obtain ⟨x1, hx1, hf⟩ := lt_ok hf
      refine e_topl hx1 ?_
      refine g_lstore (lv' := [some (.long l0), none, some (.long l2), none, some (.int l4), some (.long x1), none]) C dX2_commonDivisor_19 (by decide) rfl ?_
      refine g_lload_n C dX2_commonDivisor_21 rfl ?_
      refine g_lstore_n (lv' := [some (.long l2), none, some (.long l2), none, some (.int l4), some (.long x1), none]) C dX2_commonDivisor_22 (by decide) rfl ?_
      refine g_lload C dX2_commonDivisor_23 rfl ?_
      refine g_lstore_n (lv' := [some (.long l2), none, some (.long x1), none, some (.int l4), some (.long x1), none]) C dX2_commonDivisor_25 (by decide) rfl ?_
      refine g_iinc (v := (l4 + 1)) (lv' := [some (.long l2), none, some (.long x1), none, some (.int (l4 + 1)), some (.long x1), none]) C dX2_commonDivisor_26 (by decide) rfl rfl rfl ?_
      refine g_goto (tgt := 3) C dX2_commonDivisor_29 (by decide) ?_
      refine g_sub (lv' := [some (.long l2), none, some (.long x1), none, some (.int (l4 + 1)), none, none]) ⟨rfl, ⟨rfl, ⟨rfl, trivial⟩⟩⟩ ?_
      exact K3 hf
theorem l_Fr_commonDivisor_b3 {E : EE} {X : CT} {G : Hp} (C : gCx E X cX2_commonDivisor "FavoursGoOff$Fraction" (some .long) 0 0 0 0 false 7) {r : Int64} (HR : gRet E X cX2_commonDivisor (some .long) 0 0 (some (.long r)) G) : ∀ (nn : Nat) {l0 : Int64} {l2 : Int64} {l4 : Int32}, f_Fr_commonDivisor_b3 G nn l0 l2 l4 = some r → gV E X 0 0 G 3 [some (.long l0), none, some (.long l2), none, some (.int l4), none, none] []
  | 0, _, _, _, hf => by have h0 : (none : Option Int64) = some r := hf; cases h0
  | nn + 1, _, _, _, hf => l_Fr_commonDivisor_b3k C HR (fun h => l_Fr_commonDivisor_b3 C HR nn h) hf
set_option maxRecDepth 20000 in
theorem l_Fr_commonDivisor {E : EE} {X : CT} {G : Hp} (C : gCx E X cX2_commonDivisor "FavoursGoOff$Fraction" (some .long) 0 0 0 0 false 7) {r : Int64} (HR : gRet E X cX2_commonDivisor (some .long) 0 0 (some (.long r)) G) {l0 : Int64} {l2 : Int64} (hf : f_Fr_commonDivisor G l0 l2 = some r) : gV E X 0 0 G 0 [some (.long l0), none, some (.long l2), none, none, none, none] [] := by
  unfold f_Fr_commonDivisor at hf
  refine g_iconst (v := (0 : Int32)) C dX2_commonDivisor_0 (by decide) ?_
  refine g_istore (lv' := [some (.long l0), none, some (.long l2), none, some (.int (0 : Int32)), none, none]) C dX2_commonDivisor_1 (by decide) rfl ?_
  refine g_sub (lv' := [some (.long l0), none, some (.long l2), none, some (.int (0 : Int32)), none, none]) ⟨rfl, ⟨rfl, ⟨rfl, trivial⟩⟩⟩ ?_
  exact l_Fr_commonDivisor_b3 C HR  FU hf
theorem c_Fr_commonDivisor (E : EE) {G : Hp} {l0 : Int64} {l2 : Int64} {r : Int64} (h : f_Fr_commonDivisor G l0 l2 = some r) : gCt E y_Fr_commonDivisor cX2_commonDivisor 7 (some .long) 0 0 0 0 [.long l0, .long l2] G (some (.long r)) G := gCt_of (own := "FavoursGoOff$Fraction") (ini := false) [some (.long l0), none, some (.long l2), none, none, none, none] (by decide +kernel) rfl (fun h => by cases h) (Nat.le_of_ble_eq_true rfl) ⟨rfl, ⟨rfl, trivial⟩⟩ (fun X C HR => l_Fr_commonDivisor C HR h)
set_option maxRecDepth 20000 in
theorem l_Fr_become_b30 {E : EE} {X : CT} {G : Hp} (C : gCx E X cX2_become "FavoursGoOff$Fraction" none 1 26 0 0 false 7) {G' : Hp} (HR : gRet E X cX2_become none 0 0 none G') (hf : f_Fr_become_b30 G = some G') : gV E X 0 0 G 30 [none, none, none, none, none, none, none] [] := by
  unfold f_Fr_become_b30 at hf
  obtain rfl := rP_ok hf
  exact g_vret HR dX2_become_30
set_option maxRecDepth 20000 in
theorem l_Fr_become {E : EE} {X : CT} {G : Hp} (C : gCx E X cX2_become "FavoursGoOff$Fraction" none 1 26 0 0 false 7) {G' : Hp} (HR : gRet E X cX2_become none 0 0 none G') {l0 : Nat} {l1 : Int64} {l3 : Int64} (hf : f_Fr_become G l0 l1 l3 = some G') : gV E X 0 0 G 0 [some (.ref (E.2.1 + l0)), some (.long l1), none, some (.long l3), none, none, none] [] := by
  unfold f_Fr_become at hf
  refine g_lload_n C dX2_become_0 rfl ?_
  refine g_lload_n C dX2_become_1 rfl ?_
  obtain ⟨x1, h1, hf⟩ := cP_ok hf
  refine g_invS (As := [.long l1, .long l3]) (st := []) C (c_Fr_commonDivisor E h1) ml_Fr_13 cm_Fr_commonDivisor.1 cm_Fr_commonDivisor.2.1 cm_Fr_commonDivisor.2.2.1 cm_Fr_commonDivisor.2.2.2 rfl ⟨by omega, by omega, by omega, by omega⟩ (by exact Nat.le_of_ble_eq_true rfl) rfl dX2_become_2 ?_
  refine g_lstore (lv' := [some (.ref (E.2.1 + l0)), some (.long l1), none, some (.long l3), none, some (.long x1), none]) C dX2_become_5 (by decide) rfl ?_
  refine g_lload C dX2_become_7 rfl ?_
  refine g_lconst (v := (0 : Int64)) C dX2_become_9 (by decide) ?_
  refine g_lcmp C dX2_become_10 ?_
  refine g_if_le (tgt := 30) C dX2_become_11 (by decide) (fun hc => ?_) (fun hc => ?_)
  · have hf := iteT hf hc
    refine g_sub (lv' := [none, none, none, none, none, none, none]) trivial ?_
    exact l_Fr_become_b30 C HR  hf
  · have hf := iteF hf hc
    refine g_aload_n C dX2_become_14 rfl ?_
    refine g_lload_n C dX2_become_15 rfl ?_
    refine g_lload C dX2_become_16 rfl ?_
    obtain ⟨hy, hf⟩ := dL_ok hf
    refine g_ldiv C dX2_become_18 hy ?_
    obtain ⟨G2, hG2, hg, hf⟩ := pL_ok hf
    refine e_putL C fl_Fr_17 dX2_become_19 hG2 hg (Or.inl rfl) ?_
    refine g_aload_n C dX2_become_22 rfl ?_
    refine g_lload_n C dX2_become_23 rfl ?_
    refine g_lload C dX2_become_24 rfl ?_
    obtain ⟨hy, hf⟩ := dL_ok hf
    refine g_ldiv C dX2_become_26 hy ?_
    obtain ⟨G3, hG3, hg, hf⟩ := pL_ok hf
    refine e_putL C fl_Fr_7 dX2_become_27 hG3 hg (Or.inl rfl) ?_
    refine g_sub (lv' := [none, none, none, none, none, none, none]) trivial ?_
    exact l_Fr_become_b30 C HR  hf
theorem c_Fr_become (E : EE) {G : Hp} {l0 : Nat} {l1 : Int64} {l3 : Int64} {G' : Hp} (h : f_Fr_become G l0 l1 l3 = some G') : gCt E y_Fr_become cX2_become 7 none 1 26 0 0 [.ref (E.2.1 + l0), .long l1, .long l3] G none G' := gCt_of (own := "FavoursGoOff$Fraction") (ini := false) [some (.ref (E.2.1 + l0)), some (.long l1), none, some (.long l3), none, none, none] (by decide +kernel) rfl (fun h => by cases h) (Nat.le_of_ble_eq_true rfl) ⟨rfl, ⟨rfl, ⟨rfl, trivial⟩⟩⟩ (fun X C HR => l_Fr_become C HR h)
set_option maxRecDepth 20000 in
theorem l_St_init {E : EE} {X : CT} {G : Hp} (C : gCx E X cX6_init "FavoursGoOff$Street" none 2 52 10 5015 true 1) {G' : Hp} (HR : gRet E X cX6_init none 10 5015 none G') {l0 : Nat} (hf : f_St_init G l0 = some G') : gV E X 0 0 G 0 [some (.ref (E.2.1 + l0))] [] := by
  unfold f_St_init at hf
  refine g_aload_n C dX6_init_0 rfl ?_
  refine g_objInit C ml_St_3 cm_obj.1 cm_obj.2 (by omega) (Nat.le_trans (m := 30) (by exact Nat.le_of_ble_eq_true rfl) (by omega)) dX6_init_1 ?_
  refine g_aload_n C dX6_init_4 rfl ?_
  obtain ⟨a2, G1, ha2, hG1, hf⟩ := nO_ok hf
  refine e_new C tyX7 (rfl : vwCl[7]? = some ("FavoursGoOff$Table", TX7, 3)) (by decide) ul_7 tyX7_ok rfl ft_7 cl_St_9 in_Ta it_Ta (by omega) dX6_init_5 ha2 hG1 ?_
  refine g_dup C dX6_init_8 rfl ?_
  refine g_bipush (v := (6 : Int32)) C dX6_init_9 (by decide) ?_
  refine g_iconst (v := (2 : Int32)) C dX6_init_11 (by decide) ?_
  obtain ⟨G3, h1, hf⟩ := cP_ok hf
  refine g_invI (As := [.int (6 : Int32), .int (2 : Int32)]) (st := [.ref (E.2.1 + a2), .ref (E.2.1 + l0)]) C (c_Ta_init E h1) ml_St_11 cm_Ta_init.1 cm_Ta_init.2.1 cm_Ta_init.2.2.1 cm_Ta_init.2.2.2.1 cm_Ta_init.2.2.2.2 rfl ⟨by omega, by omega, by omega, by omega⟩ (by exact Nat.le_of_ble_eq_true rfl) rfl dX6_init_12 ?_
  obtain ⟨G4, hG4, hg, hf⟩ := pR_ok hf
  refine e_putR C fl_St_14 dX6_init_15 hG4 hg (Or.inr ⟨rfl, rfl⟩) rfl rfl ?_
  refine g_aload_n C dX6_init_18 rfl ?_
  obtain ⟨a6, G5, ha6, hG5, hf⟩ := nO_ok hf
  refine e_new C tyX7 (rfl : vwCl[7]? = some ("FavoursGoOff$Table", TX7, 3)) (by decide) ul_7 tyX7_ok rfl ft_7 cl_St_9 in_Ta it_Ta (by omega) dX6_init_19 ha6 hG5 ?_
  refine g_dup C dX6_init_22 rfl ?_
  refine g_bipush (v := (12 : Int32)) C dX6_init_23 (by decide) ?_
  refine g_bipush (v := (7 : Int32)) C dX6_init_25 (by decide) ?_
  obtain ⟨G7, h1, hf⟩ := cP_ok hf
  refine g_invI (As := [.int (12 : Int32), .int (7 : Int32)]) (st := [.ref (E.2.1 + a6), .ref (E.2.1 + l0)]) C (c_Ta_init E h1) ml_St_11 cm_Ta_init.1 cm_Ta_init.2.1 cm_Ta_init.2.2.1 cm_Ta_init.2.2.2.1 cm_Ta_init.2.2.2.2 rfl ⟨by omega, by omega, by omega, by omega⟩ (by exact Nat.le_of_ble_eq_true rfl) rfl dX6_init_27 ?_
  obtain ⟨G8, hG8, hg, hf⟩ := pR_ok hf
  refine e_putR C fl_St_20 dX6_init_30 hG8 hg (Or.inr ⟨rfl, rfl⟩) rfl rfl ?_
  refine g_aload_n C dX6_init_33 rfl ?_
  obtain ⟨a10, G9, ha10, hG9, hf⟩ := nO_ok hf
  refine e_new C tyX7 (rfl : vwCl[7]? = some ("FavoursGoOff$Table", TX7, 3)) (by decide) ul_7 tyX7_ok rfl ft_7 cl_St_9 in_Ta it_Ta (by omega) dX6_init_34 ha10 hG9 ?_
  refine g_dup C dX6_init_37 rfl ?_
  refine g_iconst (v := (5 : Int32)) C dX6_init_38 (by decide) ?_
  refine g_iconst (v := (4 : Int32)) C dX6_init_39 (by decide) ?_
  obtain ⟨G11, h1, hf⟩ := cP_ok hf
  refine g_invI (As := [.int (5 : Int32), .int (4 : Int32)]) (st := [.ref (E.2.1 + a10), .ref (E.2.1 + l0)]) C (c_Ta_init E h1) ml_St_11 cm_Ta_init.1 cm_Ta_init.2.1 cm_Ta_init.2.2.1 cm_Ta_init.2.2.2.1 cm_Ta_init.2.2.2.2 rfl ⟨by omega, by omega, by omega, by omega⟩ (by exact Nat.le_of_ble_eq_true rfl) rfl dX6_init_40 ?_
  obtain ⟨G12, hG12, hg, hf⟩ := pR_ok hf
  refine e_putR C fl_St_23 dX6_init_43 hG12 hg (Or.inr ⟨rfl, rfl⟩) rfl rfl ?_
  refine g_aload_n C dX6_init_46 rfl ?_
  obtain ⟨a14, G13, ha14, hG13, hf⟩ := nO_ok hf
  refine e_new C tyX7 (rfl : vwCl[7]? = some ("FavoursGoOff$Table", TX7, 3)) (by decide) ul_7 tyX7_ok rfl ft_7 cl_St_9 in_Ta it_Ta (by omega) dX6_init_47 ha14 hG13 ?_
  refine g_dup C dX6_init_50 rfl ?_
  refine g_bipush (v := (12 : Int32)) C dX6_init_51 (by decide) ?_
  refine g_iconst (v := (3 : Int32)) C dX6_init_53 (by decide) ?_
  obtain ⟨G15, h1, hf⟩ := cP_ok hf
  refine g_invI (As := [.int (12 : Int32), .int (3 : Int32)]) (st := [.ref (E.2.1 + a14), .ref (E.2.1 + l0)]) C (c_Ta_init E h1) ml_St_11 cm_Ta_init.1 cm_Ta_init.2.1 cm_Ta_init.2.2.1 cm_Ta_init.2.2.2.1 cm_Ta_init.2.2.2.2 rfl ⟨by omega, by omega, by omega, by omega⟩ (by exact Nat.le_of_ble_eq_true rfl) rfl dX6_init_54 ?_
  obtain ⟨G16, hG16, hg, hf⟩ := pR_ok hf
  refine e_putR C fl_St_26 dX6_init_57 hG16 hg (Or.inr ⟨rfl, rfl⟩) rfl rfl ?_
  refine g_aload_n C dX6_init_60 rfl ?_
  obtain ⟨a18, G17, ha18, hG17, hf⟩ := nO_ok hf
  refine e_new C tyX7 (rfl : vwCl[7]? = some ("FavoursGoOff$Table", TX7, 3)) (by decide) ul_7 tyX7_ok rfl ft_7 cl_St_9 in_Ta it_Ta (by omega) dX6_init_61 ha18 hG17 ?_
  refine g_dup C dX6_init_64 rfl ?_
  refine g_iconst (v := (4 : Int32)) C dX6_init_65 (by decide) ?_
  refine g_iconst (v := (1 : Int32)) C dX6_init_66 (by decide) ?_
  obtain ⟨G19, h1, hf⟩ := cP_ok hf
  refine g_invI (As := [.int (4 : Int32), .int (1 : Int32)]) (st := [.ref (E.2.1 + a18), .ref (E.2.1 + l0)]) C (c_Ta_init E h1) ml_St_11 cm_Ta_init.1 cm_Ta_init.2.1 cm_Ta_init.2.2.1 cm_Ta_init.2.2.2.1 cm_Ta_init.2.2.2.2 rfl ⟨by omega, by omega, by omega, by omega⟩ (by exact Nat.le_of_ble_eq_true rfl) rfl dX6_init_67 ?_
  obtain ⟨G20, hG20, hg, hf⟩ := pR_ok hf
  refine e_putR C fl_St_29 dX6_init_70 hG20 hg (Or.inr ⟨rfl, rfl⟩) rfl rfl ?_
  refine g_aload_n C dX6_init_73 rfl ?_
  obtain ⟨x21, hg, hf⟩ := gR_ok hf
  refine g_getR C fl_St_29 dX6_init_74 hg ?_
  refine g_iconst (v := (4 : Int32)) C dX6_init_77 (by decide) ?_
  obtain ⟨G22, hG22, hg, hf⟩ := pI_ok hf
  refine e_putI C fl_St_32 dX6_init_78 hG22 hg (Or.inl rfl) rfl rfl ?_
  obtain rfl := rP_ok hf
  exact g_vret HR dX6_init_81
theorem c_St_init (E : EE) {G : Hp} {l0 : Nat} {G' : Hp} (h : f_St_init G l0 = some G') : gCt E y_St_init cX6_init 1 none 2 52 10 5015 [.ref (E.2.1 + l0)] G none G' := gCt_of (own := "FavoursGoOff$Street") (ini := true) [some (.ref (E.2.1 + l0))] (by decide +kernel) rfl (fun _ => rfl) (Nat.le_of_ble_eq_true rfl) ⟨rfl, trivial⟩ (fun X C HR => l_St_init C HR h)
set_option maxRecDepth 20000 in
theorem l_Hi_init {E : EE} {X : CT} {G : Hp} (C : gCx E X cX3_init "FavoursGoOff$History" none 3 72 33 15063 true 1) {G' : Hp} (HR : gRet E X cX3_init none 33 15063 none G') {l0 : Nat} (hf : f_Hi_init G l0 = some G') : gV E X 0 0 G 0 [some (.ref (E.2.1 + l0))] [] := by
  unfold f_Hi_init at hf
  refine g_aload_n C dX3_init_0 rfl ?_
  refine g_objInit C ml_Hi_3 cm_obj.1 cm_obj.2 (by omega) (Nat.le_trans (m := 30) (by exact Nat.le_of_ble_eq_true rfl) (by omega)) dX3_init_1 ?_
  refine g_aload_n C dX3_init_4 rfl ?_
  obtain ⟨a2, G1, ha2, hG1, hf⟩ := nO_ok hf
  refine e_new C tyX6 (rfl : vwCl[6]? = some ("FavoursGoOff$Street", TX6, 6)) (by decide) ul_6 tyX6_ok rfl ft_6 cl_Hi_9 in_St it_St (by omega) dX3_init_5 ha2 hG1 ?_
  refine g_dup C dX3_init_8 rfl ?_
  obtain ⟨G3, h1, hf⟩ := cP_ok hf
  refine g_invI (As := []) (st := [.ref (E.2.1 + a2), .ref (E.2.1 + l0)]) C (c_St_init E h1) ml_Hi_11 cm_St_init.1 cm_St_init.2.1 cm_St_init.2.2.1 cm_St_init.2.2.2.1 cm_St_init.2.2.2.2 rfl ⟨by omega, by omega, by omega, by omega⟩ (by exact Nat.le_of_ble_eq_true rfl) rfl dX3_init_9 ?_
  obtain ⟨G4, hG4, hg, hf⟩ := pR_ok hf
  refine e_putR C fl_Hi_12 dX3_init_12 hG4 hg (Or.inr ⟨rfl, rfl⟩) rfl rfl ?_
  refine g_aload_n C dX3_init_15 rfl ?_
  obtain ⟨a6, G5, ha6, hG5, hf⟩ := nO_ok hf
  refine e_new C tyX6 (rfl : vwCl[6]? = some ("FavoursGoOff$Street", TX6, 6)) (by decide) ul_6 tyX6_ok rfl ft_6 cl_Hi_9 in_St it_St (by omega) dX3_init_16 ha6 hG5 ?_
  refine g_dup C dX3_init_19 rfl ?_
  obtain ⟨G7, h1, hf⟩ := cP_ok hf
  refine g_invI (As := []) (st := [.ref (E.2.1 + a6), .ref (E.2.1 + l0)]) C (c_St_init E h1) ml_Hi_11 cm_St_init.1 cm_St_init.2.1 cm_St_init.2.2.1 cm_St_init.2.2.2.1 cm_St_init.2.2.2.2 rfl ⟨by omega, by omega, by omega, by omega⟩ (by exact Nat.le_of_ble_eq_true rfl) rfl dX3_init_20 ?_
  obtain ⟨G8, hG8, hg, hf⟩ := pR_ok hf
  refine e_putR C fl_Hi_18 dX3_init_23 hG8 hg (Or.inr ⟨rfl, rfl⟩) rfl rfl ?_
  refine g_aload_n C dX3_init_26 rfl ?_
  obtain ⟨a10, G9, ha10, hG9, hf⟩ := nO_ok hf
  refine e_new C tyX6 (rfl : vwCl[6]? = some ("FavoursGoOff$Street", TX6, 6)) (by decide) ul_6 tyX6_ok rfl ft_6 cl_Hi_9 in_St it_St (by omega) dX3_init_27 ha10 hG9 ?_
  refine g_dup C dX3_init_30 rfl ?_
  obtain ⟨G11, h1, hf⟩ := cP_ok hf
  refine g_invI (As := []) (st := [.ref (E.2.1 + a10), .ref (E.2.1 + l0)]) C (c_St_init E h1) ml_Hi_11 cm_St_init.1 cm_St_init.2.1 cm_St_init.2.2.1 cm_St_init.2.2.2.1 cm_St_init.2.2.2.2 rfl ⟨by omega, by omega, by omega, by omega⟩ (by exact Nat.le_of_ble_eq_true rfl) rfl dX3_init_31 ?_
  obtain ⟨G12, hG12, hg, hf⟩ := pR_ok hf
  refine e_putR C fl_Hi_21 dX3_init_34 hG12 hg (Or.inr ⟨rfl, rfl⟩) rfl rfl ?_
  obtain rfl := rP_ok hf
  exact g_vret HR dX3_init_37
theorem c_Hi_init (E : EE) {G : Hp} {l0 : Nat} {G' : Hp} (h : f_Hi_init G l0 = some G') : gCt E y_Hi_init cX3_init 1 none 3 72 33 15063 [.ref (E.2.1 + l0)] G none G' := gCt_of (own := "FavoursGoOff$History") (ini := true) [some (.ref (E.2.1 + l0))] (by decide +kernel) rfl (fun _ => rfl) (Nat.le_of_ble_eq_true rfl) ⟨rfl, trivial⟩ (fun X C HR => l_Hi_init C HR h)
set_option maxRecDepth 20000 in
theorem l_Ta_copyFrom {E : EE} {X : CT} {G : Hp} (C : gCx E X cX7_copyFrom "FavoursGoOff$Table" none 1 30 0 0 false 2) {G' : Hp} (HR : gRet E X cX7_copyFrom none 0 0 none G') {l0 : Nat} {l1 : Nat} (hf : f_Ta_copyFrom G l0 l1 = some G') : gV E X 0 0 G 0 [some (.ref (E.2.1 + l0)), some (.ref (E.2.1 + l1))] [] := by
  unfold f_Ta_copyFrom at hf
  refine g_aload_n C dX7_copyFrom_0 rfl ?_
  obtain ⟨x1, hg, hf⟩ := gR_ok hf
  refine g_getR C fl_Ta_21 dX7_copyFrom_1 hg ?_
  refine g_iconst (v := (0 : Int32)) C dX7_copyFrom_4 (by decide) ?_
  refine g_aload_n C dX7_copyFrom_5 rfl ?_
  obtain ⟨x2, hg, hf⟩ := gR_ok hf
  refine g_getR C fl_Ta_21 dX7_copyFrom_6 hg ?_
  refine g_iconst (v := (0 : Int32)) C dX7_copyFrom_9 (by decide) ?_
  refine g_aload_n C dX7_copyFrom_10 rfl ?_
  obtain ⟨x3, hg, hf⟩ := gR_ok hf
  refine g_getR C fl_Ta_21 dX7_copyFrom_11 hg ?_
  obtain ⟨x4, hx4, hg, hf⟩ := aL_ok hf
  refine e_alen C dX7_copyFrom_14 hx4 hg ?_
  refine g_aload_n C dX7_copyFrom_15 rfl ?_
  obtain ⟨x5, hg, hf⟩ := gR_ok hf
  refine g_getR C fl_Ta_21 dX7_copyFrom_16 hg ?_
  obtain ⟨x6, hx6, hg, hf⟩ := aL_ok hf
  refine e_alen C dX7_copyFrom_19 hx6 hg ?_
  refine e_min C ml_Ta_42 cm_min (by omega) (Nat.le_trans (m := 30) (by exact Nat.le_of_ble_eq_true rfl) (by omega)) ⟨by omega, by omega⟩ dX7_copyFrom_20 ?_
  obtain ⟨G7, hG7, hg, hf⟩ := cA_ok hf
  refine e_copy C ml_Ta_45 cm_copy.1 cm_copy.2.1 cm_copy.2.2 hG7 hg (by omega) (Nat.le_trans (m := 30) (by exact Nat.le_of_ble_eq_true rfl) (by omega)) dX7_copyFrom_23 ?_
  refine g_aload_n C dX7_copyFrom_26 rfl ?_
  refine g_aload_n C dX7_copyFrom_27 rfl ?_
  obtain ⟨x8, hx8, hg, hf⟩ := gI_ok hf
  refine e_getI C fl_Ta_25 dX7_copyFrom_28 hx8 hg ?_
  obtain ⟨G9, hG9, hg, hf⟩ := pI_ok hf
  refine e_putI C fl_Ta_25 dX7_copyFrom_31 hG9 hg (Or.inl rfl) rfl rfl ?_
  obtain rfl := rP_ok hf
  exact g_vret HR dX7_copyFrom_34
theorem c_Ta_copyFrom (E : EE) {G : Hp} {l0 : Nat} {l1 : Nat} {G' : Hp} (h : f_Ta_copyFrom G l0 l1 = some G') : gCt E y_Ta_copyFrom cX7_copyFrom 2 none 1 30 0 0 [.ref (E.2.1 + l0), .ref (E.2.1 + l1)] G none G' := gCt_of (own := "FavoursGoOff$Table") (ini := false) [some (.ref (E.2.1 + l0)), some (.ref (E.2.1 + l1))] (by decide +kernel) rfl (fun h => by cases h) (Nat.le_of_ble_eq_true rfl) ⟨rfl, ⟨rfl, trivial⟩⟩ (fun X C HR => l_Ta_copyFrom C HR h)
set_option maxRecDepth 20000 in
theorem l_St_takeAllButRates {E : EE} {X : CT} {G : Hp} (C : gCx E X cX6_takeAllButRates "FavoursGoOff$Street" none 2 51 0 0 false 2) {G' : Hp} (HR : gRet E X cX6_takeAllButRates none 0 0 none G') {l0 : Nat} {l1 : Nat} (hf : f_St_takeAllButRates G l0 l1 = some G') : gV E X 0 0 G 0 [some (.ref (E.2.1 + l0)), some (.ref (E.2.1 + l1))] [] := by
  unfold f_St_takeAllButRates at hf
  refine g_aload_n C dX6_takeAllButRates_0 rfl ?_
  obtain ⟨x1, hg, hf⟩ := gR_ok hf
  refine g_getR C fl_St_14 dX6_takeAllButRates_1 hg ?_
  refine g_aload_n C dX6_takeAllButRates_4 rfl ?_
  obtain ⟨x2, hg, hf⟩ := gR_ok hf
  refine g_getR C fl_St_14 dX6_takeAllButRates_5 hg ?_
  obtain ⟨G3, hg, h1, hf⟩ := vP_ok hf
  refine g_invV (As := [.ref (E.2.1 + x2)]) (st := []) C (c_Ta_copyFrom E h1) (rfl : vwCl[7]? = some (y_Ta_copyFrom.cls, TX7, 3)) (by decide) hg ml_St_54 cm_Ta_copyFrom.1 cm_Ta_copyFrom.2.1 cm_Ta_copyFrom.2.2.1 cm_Ta_copyFrom.2.2.2.1 cm_Ta_copyFrom.2.2.2.2 rfl ⟨by omega, by omega, by omega, by omega⟩ (by exact Nat.le_of_ble_eq_true rfl) rfl dX6_takeAllButRates_8 ?_
  refine g_aload_n C dX6_takeAllButRates_11 rfl ?_
  obtain ⟨x4, hg, hf⟩ := gR_ok hf
  refine g_getR C fl_St_20 dX6_takeAllButRates_12 hg ?_
  refine g_aload_n C dX6_takeAllButRates_15 rfl ?_
  obtain ⟨x5, hg, hf⟩ := gR_ok hf
  refine g_getR C fl_St_20 dX6_takeAllButRates_16 hg ?_
  obtain ⟨G6, hg, h1, hf⟩ := vP_ok hf
  refine g_invV (As := [.ref (E.2.1 + x5)]) (st := []) C (c_Ta_copyFrom E h1) (rfl : vwCl[7]? = some (y_Ta_copyFrom.cls, TX7, 3)) (by decide) hg ml_St_54 cm_Ta_copyFrom.1 cm_Ta_copyFrom.2.1 cm_Ta_copyFrom.2.2.1 cm_Ta_copyFrom.2.2.2.1 cm_Ta_copyFrom.2.2.2.2 rfl ⟨by omega, by omega, by omega, by omega⟩ (by exact Nat.le_of_ble_eq_true rfl) rfl dX6_takeAllButRates_19 ?_
  refine g_aload_n C dX6_takeAllButRates_22 rfl ?_
  obtain ⟨x7, hg, hf⟩ := gR_ok hf
  refine g_getR C fl_St_23 dX6_takeAllButRates_23 hg ?_
  refine g_aload_n C dX6_takeAllButRates_26 rfl ?_
  obtain ⟨x8, hg, hf⟩ := gR_ok hf
  refine g_getR C fl_St_23 dX6_takeAllButRates_27 hg ?_
  obtain ⟨G9, hg, h1, hf⟩ := vP_ok hf
  refine g_invV (As := [.ref (E.2.1 + x8)]) (st := []) C (c_Ta_copyFrom E h1) (rfl : vwCl[7]? = some (y_Ta_copyFrom.cls, TX7, 3)) (by decide) hg ml_St_54 cm_Ta_copyFrom.1 cm_Ta_copyFrom.2.1 cm_Ta_copyFrom.2.2.1 cm_Ta_copyFrom.2.2.2.1 cm_Ta_copyFrom.2.2.2.2 rfl ⟨by omega, by omega, by omega, by omega⟩ (by exact Nat.le_of_ble_eq_true rfl) rfl dX6_takeAllButRates_30 ?_
  refine g_aload_n C dX6_takeAllButRates_33 rfl ?_
  obtain ⟨x10, hg, hf⟩ := gR_ok hf
  refine g_getR C fl_St_26 dX6_takeAllButRates_34 hg ?_
  refine g_aload_n C dX6_takeAllButRates_37 rfl ?_
  obtain ⟨x11, hg, hf⟩ := gR_ok hf
  refine g_getR C fl_St_26 dX6_takeAllButRates_38 hg ?_
  obtain ⟨G12, hg, h1, hf⟩ := vP_ok hf
  refine g_invV (As := [.ref (E.2.1 + x11)]) (st := []) C (c_Ta_copyFrom E h1) (rfl : vwCl[7]? = some (y_Ta_copyFrom.cls, TX7, 3)) (by decide) hg ml_St_54 cm_Ta_copyFrom.1 cm_Ta_copyFrom.2.1 cm_Ta_copyFrom.2.2.1 cm_Ta_copyFrom.2.2.2.1 cm_Ta_copyFrom.2.2.2.2 rfl ⟨by omega, by omega, by omega, by omega⟩ (by exact Nat.le_of_ble_eq_true rfl) rfl dX6_takeAllButRates_41 ?_
  refine g_aload_n C dX6_takeAllButRates_44 rfl ?_
  refine g_aload_n C dX6_takeAllButRates_45 rfl ?_
  obtain ⟨x13, hx13, hg, hf⟩ := gI_ok hf
  refine e_getI C fl_St_47 dX6_takeAllButRates_46 hx13 hg ?_
  obtain ⟨G14, hG14, hg, hf⟩ := pI_ok hf
  refine e_putI C fl_St_47 dX6_takeAllButRates_49 hG14 hg (Or.inl rfl) rfl rfl ?_
  obtain rfl := rP_ok hf
  exact g_vret HR dX6_takeAllButRates_52
theorem c_St_takeAllButRates (E : EE) {G : Hp} {l0 : Nat} {l1 : Nat} {G' : Hp} (h : f_St_takeAllButRates G l0 l1 = some G') : gCt E y_St_takeAllButRates cX6_takeAllButRates 2 none 2 51 0 0 [.ref (E.2.1 + l0), .ref (E.2.1 + l1)] G none G' := gCt_of (own := "FavoursGoOff$Street") (ini := false) [some (.ref (E.2.1 + l0)), some (.ref (E.2.1 + l1))] (by decide +kernel) rfl (fun h => by cases h) (Nat.le_of_ble_eq_true rfl) ⟨rfl, ⟨rfl, trivial⟩⟩ (fun X C HR => l_St_takeAllButRates C HR h)
set_option maxRecDepth 20000 in
theorem l_St_copyFrom {E : EE} {X : CT} {G : Hp} (C : gCx E X cX6_copyFrom "FavoursGoOff$Street" none 3 72 0 0 false 2) {G' : Hp} (HR : gRet E X cX6_copyFrom none 0 0 none G') {l0 : Nat} {l1 : Nat} (hf : f_St_copyFrom G l0 l1 = some G') : gV E X 0 0 G 0 [some (.ref (E.2.1 + l0)), some (.ref (E.2.1 + l1))] [] := by
  unfold f_St_copyFrom at hf
  refine g_aload_n C dX6_copyFrom_0 rfl ?_
  refine g_aload_n C dX6_copyFrom_1 rfl ?_
  obtain ⟨G1, hg, h1, hf⟩ := vP_ok hf
  refine g_invV (As := [.ref (E.2.1 + l1)]) (st := []) C (c_St_takeAllButRates E h1) (rfl : vwCl[6]? = some (y_St_takeAllButRates.cls, TX6, 6)) (by decide) hg ml_St_50 cm_St_takeAllButRates.1 cm_St_takeAllButRates.2.1 cm_St_takeAllButRates.2.2.1 cm_St_takeAllButRates.2.2.2.1 cm_St_takeAllButRates.2.2.2.2 rfl ⟨by omega, by omega, by omega, by omega⟩ (by exact Nat.le_of_ble_eq_true rfl) rfl dX6_copyFrom_2 ?_
  refine g_aload_n C dX6_copyFrom_5 rfl ?_
  obtain ⟨x2, hg, hf⟩ := gR_ok hf
  refine g_getR C fl_St_29 dX6_copyFrom_6 hg ?_
  refine g_aload_n C dX6_copyFrom_9 rfl ?_
  obtain ⟨x3, hg, hf⟩ := gR_ok hf
  refine g_getR C fl_St_29 dX6_copyFrom_10 hg ?_
  obtain ⟨G4, hg, h1, hf⟩ := vP_ok hf
  refine g_invV (As := [.ref (E.2.1 + x3)]) (st := []) C (c_Ta_copyFrom E h1) (rfl : vwCl[7]? = some (y_Ta_copyFrom.cls, TX7, 3)) (by decide) hg ml_St_54 cm_Ta_copyFrom.1 cm_Ta_copyFrom.2.1 cm_Ta_copyFrom.2.2.1 cm_Ta_copyFrom.2.2.2.1 cm_Ta_copyFrom.2.2.2.2 rfl ⟨by omega, by omega, by omega, by omega⟩ (by exact Nat.le_of_ble_eq_true rfl) rfl dX6_copyFrom_13 ?_
  obtain rfl := rP_ok hf
  exact g_vret HR dX6_copyFrom_16
theorem c_St_copyFrom (E : EE) {G : Hp} {l0 : Nat} {l1 : Nat} {G' : Hp} (h : f_St_copyFrom G l0 l1 = some G') : gCt E y_St_copyFrom cX6_copyFrom 2 none 3 72 0 0 [.ref (E.2.1 + l0), .ref (E.2.1 + l1)] G none G' := gCt_of (own := "FavoursGoOff$Street") (ini := false) [some (.ref (E.2.1 + l0)), some (.ref (E.2.1 + l1))] (by decide +kernel) rfl (fun h => by cases h) (Nat.le_of_ble_eq_true rfl) ⟨rfl, ⟨rfl, trivial⟩⟩ (fun X C HR => l_St_copyFrom C HR h)
set_option maxRecDepth 20000 in
theorem l_Hi_keepNight {E : EE} {X : CT} {G : Hp} (C : gCx E X cX3_keepNight "FavoursGoOff$History" none 4 93 0 0 false 1) {G' : Hp} (HR : gRet E X cX3_keepNight none 0 0 none G') {l0 : Nat} (hf : f_Hi_keepNight G l0 = some G') : gV E X 0 0 G 0 [some (.ref (E.2.1 + l0))] [] := by
  unfold f_Hi_keepNight at hf
  refine g_aload_n C dX3_keepNight_0 rfl ?_
  obtain ⟨x1, hg, hf⟩ := gR_ok hf
  refine g_getR C fl_Hi_21 dX3_keepNight_1 hg ?_
  refine g_aload_n C dX3_keepNight_4 rfl ?_
  obtain ⟨x2, hg, hf⟩ := gR_ok hf
  refine g_getR C fl_Hi_18 dX3_keepNight_5 hg ?_
  obtain ⟨G3, hg, h1, hf⟩ := vP_ok hf
  refine g_invV (As := [.ref (E.2.1 + x2)]) (st := []) C (c_St_copyFrom E h1) (rfl : vwCl[6]? = some (y_St_copyFrom.cls, TX6, 6)) (by decide) hg ml_Hi_24 cm_St_copyFrom.1 cm_St_copyFrom.2.1 cm_St_copyFrom.2.2.1 cm_St_copyFrom.2.2.2.1 cm_St_copyFrom.2.2.2.2 rfl ⟨by omega, by omega, by omega, by omega⟩ (by exact Nat.le_of_ble_eq_true rfl) rfl dX3_keepNight_8 ?_
  refine g_aload_n C dX3_keepNight_11 rfl ?_
  obtain ⟨x4, hg, hf⟩ := gR_ok hf
  refine g_getR C fl_Hi_18 dX3_keepNight_12 hg ?_
  refine g_aload_n C dX3_keepNight_15 rfl ?_
  obtain ⟨x5, hg, hf⟩ := gR_ok hf
  refine g_getR C fl_Hi_12 dX3_keepNight_16 hg ?_
  obtain ⟨G6, hg, h1, hf⟩ := vP_ok hf
  refine g_invV (As := [.ref (E.2.1 + x5)]) (st := []) C (c_St_copyFrom E h1) (rfl : vwCl[6]? = some (y_St_copyFrom.cls, TX6, 6)) (by decide) hg ml_Hi_24 cm_St_copyFrom.1 cm_St_copyFrom.2.1 cm_St_copyFrom.2.2.1 cm_St_copyFrom.2.2.2.1 cm_St_copyFrom.2.2.2.2 rfl ⟨by omega, by omega, by omega, by omega⟩ (by exact Nat.le_of_ble_eq_true rfl) rfl dX3_keepNight_19 ?_
  refine g_aload_n C dX3_keepNight_22 rfl ?_
  refine g_iconst (v := (2 : Int32)) C dX3_keepNight_23 (by decide) ?_
  refine g_aload_n C dX3_keepNight_24 rfl ?_
  obtain ⟨x7, hx7, hg, hf⟩ := gI_ok hf
  refine e_getI C fl_Hi_28 dX3_keepNight_25 hx7 hg ?_
  refine g_iconst (v := (1 : Int32)) C dX3_keepNight_28 (by decide) ?_
  refine g_iadd C dX3_keepNight_29 ?_
  refine e_min C ml_Hi_32 cm_min (by omega) (Nat.le_trans (m := 30) (by exact Nat.le_of_ble_eq_true rfl) (by omega)) ⟨by omega, by omega⟩ dX3_keepNight_30 ?_
  obtain ⟨G8, hG8, hg, hf⟩ := pI_ok hf
  refine e_putI C fl_Hi_28 dX3_keepNight_33 hG8 hg (Or.inl rfl) rfl rfl ?_
  obtain rfl := rP_ok hf
  exact g_vret HR dX3_keepNight_36
theorem c_Hi_keepNight (E : EE) {G : Hp} {l0 : Nat} {G' : Hp} (h : f_Hi_keepNight G l0 = some G') : gCt E y_Hi_keepNight cX3_keepNight 1 none 4 93 0 0 [.ref (E.2.1 + l0)] G none G' := gCt_of (own := "FavoursGoOff$History") (ini := false) [some (.ref (E.2.1 + l0))] (by decide +kernel) rfl (fun h => by cases h) (Nat.le_of_ble_eq_true rfl) ⟨rfl, trivial⟩ (fun X C HR => l_Hi_keepNight C HR h)
set_option maxRecDepth 20000 in
theorem l_Hi_goBack {E : EE} {X : CT} {G : Hp} (C : gCx E X cX3_goBack "FavoursGoOff$History" none 4 93 0 0 false 1) {G' : Hp} (HR : gRet E X cX3_goBack none 0 0 none G') {l0 : Nat} (hf : f_Hi_goBack G l0 = some G') : gV E X 0 0 G 0 [some (.ref (E.2.1 + l0))] [] := by
  unfold f_Hi_goBack at hf
  refine g_aload_n C dX3_goBack_0 rfl ?_
  obtain ⟨x1, hg, hf⟩ := gR_ok hf
  refine g_getR C fl_Hi_12 dX3_goBack_1 hg ?_
  refine g_aload_n C dX3_goBack_4 rfl ?_
  obtain ⟨x2, hg, hf⟩ := gR_ok hf
  refine g_getR C fl_Hi_18 dX3_goBack_5 hg ?_
  obtain ⟨G3, hg, h1, hf⟩ := vP_ok hf
  refine g_invV (As := [.ref (E.2.1 + x2)]) (st := []) C (c_St_copyFrom E h1) (rfl : vwCl[6]? = some (y_St_copyFrom.cls, TX6, 6)) (by decide) hg ml_Hi_24 cm_St_copyFrom.1 cm_St_copyFrom.2.1 cm_St_copyFrom.2.2.1 cm_St_copyFrom.2.2.2.1 cm_St_copyFrom.2.2.2.2 rfl ⟨by omega, by omega, by omega, by omega⟩ (by exact Nat.le_of_ble_eq_true rfl) rfl dX3_goBack_8 ?_
  refine g_aload_n C dX3_goBack_11 rfl ?_
  obtain ⟨x4, hg, hf⟩ := gR_ok hf
  refine g_getR C fl_Hi_18 dX3_goBack_12 hg ?_
  refine g_aload_n C dX3_goBack_15 rfl ?_
  obtain ⟨x5, hg, hf⟩ := gR_ok hf
  refine g_getR C fl_Hi_21 dX3_goBack_16 hg ?_
  obtain ⟨G6, hg, h1, hf⟩ := vP_ok hf
  refine g_invV (As := [.ref (E.2.1 + x5)]) (st := []) C (c_St_copyFrom E h1) (rfl : vwCl[6]? = some (y_St_copyFrom.cls, TX6, 6)) (by decide) hg ml_Hi_24 cm_St_copyFrom.1 cm_St_copyFrom.2.1 cm_St_copyFrom.2.2.1 cm_St_copyFrom.2.2.2.1 cm_St_copyFrom.2.2.2.2 rfl ⟨by omega, by omega, by omega, by omega⟩ (by exact Nat.le_of_ble_eq_true rfl) rfl dX3_goBack_19 ?_
  refine g_aload_n C dX3_goBack_22 rfl ?_
  refine g_iconst (v := (0 : Int32)) C dX3_goBack_23 (by decide) ?_
  refine g_aload_n C dX3_goBack_24 rfl ?_
  obtain ⟨x7, hx7, hg, hf⟩ := gI_ok hf
  refine e_getI C fl_Hi_28 dX3_goBack_25 hx7 hg ?_
  refine g_iconst (v := (1 : Int32)) C dX3_goBack_28 (by decide) ?_
  refine g_isub C dX3_goBack_29 ?_
  refine e_max C ml_Hi_38 cm_max (by omega) (Nat.le_trans (m := 30) (by exact Nat.le_of_ble_eq_true rfl) (by omega)) ⟨by omega, by omega⟩ dX3_goBack_30 ?_
  obtain ⟨G8, hG8, hg, hf⟩ := pI_ok hf
  refine e_putI C fl_Hi_28 dX3_goBack_33 hG8 hg (Or.inl rfl) rfl rfl ?_
  obtain rfl := rP_ok hf
  exact g_vret HR dX3_goBack_36
theorem c_Hi_goBack (E : EE) {G : Hp} {l0 : Nat} {G' : Hp} (h : f_Hi_goBack G l0 = some G') : gCt E y_Hi_goBack cX3_goBack 1 none 4 93 0 0 [.ref (E.2.1 + l0)] G none G' := gCt_of (own := "FavoursGoOff$History") (ini := false) [some (.ref (E.2.1 + l0))] (by decide +kernel) rfl (fun h => by cases h) (Nat.le_of_ble_eq_true rfl) ⟨rfl, trivial⟩ (fun X C HR => l_Hi_goBack C HR h)
set_option maxRecDepth 20000 in
theorem l_Hi_copyFrom {E : EE} {X : CT} {G : Hp} (C : gCx E X cX3_copyFrom "FavoursGoOff$History" none 4 93 0 0 false 2) {G' : Hp} (HR : gRet E X cX3_copyFrom none 0 0 none G') {l0 : Nat} {l1 : Nat} (hf : f_Hi_copyFrom G l0 l1 = some G') : gV E X 0 0 G 0 [some (.ref (E.2.1 + l0)), some (.ref (E.2.1 + l1))] [] := by
  unfold f_Hi_copyFrom at hf
  refine g_aload_n C dX3_copyFrom_0 rfl ?_
  obtain ⟨x1, hg, hf⟩ := gR_ok hf
  refine g_getR C fl_Hi_12 dX3_copyFrom_1 hg ?_
  refine g_aload_n C dX3_copyFrom_4 rfl ?_
  obtain ⟨x2, hg, hf⟩ := gR_ok hf
  refine g_getR C fl_Hi_12 dX3_copyFrom_5 hg ?_
  obtain ⟨G3, hg, h1, hf⟩ := vP_ok hf
  refine g_invV (As := [.ref (E.2.1 + x2)]) (st := []) C (c_St_copyFrom E h1) (rfl : vwCl[6]? = some (y_St_copyFrom.cls, TX6, 6)) (by decide) hg ml_Hi_24 cm_St_copyFrom.1 cm_St_copyFrom.2.1 cm_St_copyFrom.2.2.1 cm_St_copyFrom.2.2.2.1 cm_St_copyFrom.2.2.2.2 rfl ⟨by omega, by omega, by omega, by omega⟩ (by exact Nat.le_of_ble_eq_true rfl) rfl dX3_copyFrom_8 ?_
  refine g_aload_n C dX3_copyFrom_11 rfl ?_
  obtain ⟨x4, hg, hf⟩ := gR_ok hf
  refine g_getR C fl_Hi_18 dX3_copyFrom_12 hg ?_
  refine g_aload_n C dX3_copyFrom_15 rfl ?_
  obtain ⟨x5, hg, hf⟩ := gR_ok hf
  refine g_getR C fl_Hi_18 dX3_copyFrom_16 hg ?_
  obtain ⟨G6, hg, h1, hf⟩ := vP_ok hf
  refine g_invV (As := [.ref (E.2.1 + x5)]) (st := []) C (c_St_copyFrom E h1) (rfl : vwCl[6]? = some (y_St_copyFrom.cls, TX6, 6)) (by decide) hg ml_Hi_24 cm_St_copyFrom.1 cm_St_copyFrom.2.1 cm_St_copyFrom.2.2.1 cm_St_copyFrom.2.2.2.1 cm_St_copyFrom.2.2.2.2 rfl ⟨by omega, by omega, by omega, by omega⟩ (by exact Nat.le_of_ble_eq_true rfl) rfl dX3_copyFrom_19 ?_
  refine g_aload_n C dX3_copyFrom_22 rfl ?_
  obtain ⟨x7, hg, hf⟩ := gR_ok hf
  refine g_getR C fl_Hi_21 dX3_copyFrom_23 hg ?_
  refine g_aload_n C dX3_copyFrom_26 rfl ?_
  obtain ⟨x8, hg, hf⟩ := gR_ok hf
  refine g_getR C fl_Hi_21 dX3_copyFrom_27 hg ?_
  obtain ⟨G9, hg, h1, hf⟩ := vP_ok hf
  refine g_invV (As := [.ref (E.2.1 + x8)]) (st := []) C (c_St_copyFrom E h1) (rfl : vwCl[6]? = some (y_St_copyFrom.cls, TX6, 6)) (by decide) hg ml_Hi_24 cm_St_copyFrom.1 cm_St_copyFrom.2.1 cm_St_copyFrom.2.2.1 cm_St_copyFrom.2.2.2.1 cm_St_copyFrom.2.2.2.2 rfl ⟨by omega, by omega, by omega, by omega⟩ (by exact Nat.le_of_ble_eq_true rfl) rfl dX3_copyFrom_30 ?_
  refine g_aload_n C dX3_copyFrom_33 rfl ?_
  refine g_aload_n C dX3_copyFrom_34 rfl ?_
  obtain ⟨x10, hx10, hg, hf⟩ := gI_ok hf
  refine e_getI C fl_Hi_28 dX3_copyFrom_35 hx10 hg ?_
  obtain ⟨G11, hG11, hg, hf⟩ := pI_ok hf
  refine e_putI C fl_Hi_28 dX3_copyFrom_38 hG11 hg (Or.inl rfl) rfl rfl ?_
  obtain rfl := rP_ok hf
  exact g_vret HR dX3_copyFrom_41
theorem c_Hi_copyFrom (E : EE) {G : Hp} {l0 : Nat} {l1 : Nat} {G' : Hp} (h : f_Hi_copyFrom G l0 l1 = some G') : gCt E y_Hi_copyFrom cX3_copyFrom 2 none 4 93 0 0 [.ref (E.2.1 + l0), .ref (E.2.1 + l1)] G none G' := gCt_of (own := "FavoursGoOff$History") (ini := false) [some (.ref (E.2.1 + l0)), some (.ref (E.2.1 + l1))] (by decide +kernel) rfl (fun h => by cases h) (Nat.le_of_ble_eq_true rfl) ⟨rfl, ⟨rfl, trivial⟩⟩ (fun X C HR => l_Hi_copyFrom C HR h)
set_option maxRecDepth 20000 in
theorem l_Pl_init {E : EE} {X : CT} {G : Hp} (C : gCx E X cX4_init "FavoursGoOff$Plan" none 2 52 10 2045 true 1) {G' : Hp} (HR : gRet E X cX4_init none 10 2045 none G') {l0 : Nat} (hf : f_Pl_init G l0 = some G') : gV E X 0 0 G 0 [some (.ref (E.2.1 + l0))] [] := by
  unfold f_Pl_init at hf
  refine g_aload_n C dX4_init_0 rfl ?_
  refine g_objInit C ml_Pl_3 cm_obj.1 cm_obj.2 (by omega) (Nat.le_trans (m := 30) (by exact Nat.le_of_ble_eq_true rfl) (by omega)) dX4_init_1 ?_
  refine g_aload_n C dX4_init_4 rfl ?_
  refine g_iconst (v := (1 : Int32)) C dX4_init_5 (by decide) ?_
  obtain ⟨G1, hG1, hg, hf⟩ := pI_ok hf
  refine e_putI C fl_Pl_9 dX4_init_6 hG1 hg (Or.inl rfl) (by decide) (by decide) ?_
  refine g_aload_n C dX4_init_9 rfl ?_
  obtain ⟨a3, G2, ha3, hG2, hf⟩ := nO_ok hf
  refine e_new C tyX7 (rfl : vwCl[7]? = some ("FavoursGoOff$Table", TX7, 3)) (by decide) ul_7 tyX7_ok rfl ft_7 cl_Pl_15 in_Ta it_Ta (by omega) dX4_init_10 ha3 hG2 ?_
  refine g_dup C dX4_init_13 rfl ?_
  refine g_iconst (v := (5 : Int32)) C dX4_init_14 (by decide) ?_
  refine g_bipush (v := (12 : Int32)) C dX4_init_15 (by decide) ?_
  obtain ⟨G4, h1, hf⟩ := cP_ok hf
  refine g_invI (As := [.int (5 : Int32), .int (12 : Int32)]) (st := [.ref (E.2.1 + a3), .ref (E.2.1 + l0)]) C (c_Ta_init E h1) ml_Pl_17 cm_Ta_init.1 cm_Ta_init.2.1 cm_Ta_init.2.2.1 cm_Ta_init.2.2.2.1 cm_Ta_init.2.2.2.2 rfl ⟨by omega, by omega, by omega, by omega⟩ (by exact Nat.le_of_ble_eq_true rfl) rfl dX4_init_17 ?_
  obtain ⟨G5, hG5, hg, hf⟩ := pR_ok hf
  refine e_putR C fl_Pl_20 dX4_init_20 hG5 hg (Or.inr ⟨rfl, rfl⟩) rfl rfl ?_
  refine g_aload_n C dX4_init_23 rfl ?_
  obtain ⟨a7, G6, ha7, hG6, hf⟩ := nO_ok hf
  refine e_new C tyX7 (rfl : vwCl[7]? = some ("FavoursGoOff$Table", TX7, 3)) (by decide) ul_7 tyX7_ok rfl ft_7 cl_Pl_15 in_Ta it_Ta (by omega) dX4_init_24 ha7 hG6 ?_
  refine g_dup C dX4_init_27 rfl ?_
  refine g_iconst (v := (5 : Int32)) C dX4_init_28 (by decide) ?_
  refine g_bipush (v := (6 : Int32)) C dX4_init_29 (by decide) ?_
  obtain ⟨G8, h1, hf⟩ := cP_ok hf
  refine g_invI (As := [.int (5 : Int32), .int (6 : Int32)]) (st := [.ref (E.2.1 + a7), .ref (E.2.1 + l0)]) C (c_Ta_init E h1) ml_Pl_17 cm_Ta_init.1 cm_Ta_init.2.1 cm_Ta_init.2.2.1 cm_Ta_init.2.2.2.1 cm_Ta_init.2.2.2.2 rfl ⟨by omega, by omega, by omega, by omega⟩ (by exact Nat.le_of_ble_eq_true rfl) rfl dX4_init_31 ?_
  obtain ⟨G9, hG9, hg, hf⟩ := pR_ok hf
  refine e_putR C fl_Pl_24 dX4_init_34 hG9 hg (Or.inr ⟨rfl, rfl⟩) rfl rfl ?_
  refine g_aload_n C dX4_init_37 rfl ?_
  refine g_iconst (v := (5 : Int32)) C dX4_init_38 (by decide) ?_
  obtain ⟨a11, G10, ha11, hG10, hz, hf⟩ := nA_ok hf
  refine e_newa (sl := 5) C (Or.inl ⟨rfl, rfl⟩) ac_int hz (by decide) (by omega) dX4_init_39 ha11 hG10 ?_
  obtain ⟨G12, hG12, hg, hf⟩ := pR_ok hf
  refine e_putR C fl_Pl_27 dX4_init_41 hG12 hg (Or.inr ⟨rfl, rfl⟩) rfl rfl ?_
  refine g_aload_n C dX4_init_44 rfl ?_
  refine g_bipush (v := (12 : Int32)) C dX4_init_45 (by decide) ?_
  obtain ⟨a14, G13, ha14, hG13, hz, hf⟩ := nA_ok hf
  refine e_newa (sl := 12) C (Or.inl ⟨rfl, rfl⟩) ac_int hz (by decide) (by omega) dX4_init_47 ha14 hG13 ?_
  obtain ⟨G15, hG15, hg, hf⟩ := pR_ok hf
  refine e_putR C fl_Pl_31 dX4_init_49 hG15 hg (Or.inr ⟨rfl, rfl⟩) rfl rfl ?_
  refine g_aload_n C dX4_init_52 rfl ?_
  refine g_bipush (v := (6 : Int32)) C dX4_init_53 (by decide) ?_
  obtain ⟨a17, G16, ha17, hG16, hz, hf⟩ := nA_ok hf
  refine e_newa (sl := 6) C (Or.inl ⟨rfl, rfl⟩) ac_int hz (by decide) (by omega) dX4_init_55 ha17 hG16 ?_
  obtain ⟨G18, hG18, hg, hf⟩ := pR_ok hf
  refine e_putR C fl_Pl_34 dX4_init_57 hG18 hg (Or.inr ⟨rfl, rfl⟩) rfl rfl ?_
  refine g_aload_n C dX4_init_60 rfl ?_
  refine g_bipush (v := (6 : Int32)) C dX4_init_61 (by decide) ?_
  obtain ⟨a20, G19, ha20, hG19, hz, hf⟩ := nA_ok hf
  refine e_newa (sl := 6) C (Or.inl ⟨rfl, rfl⟩) ac_int hz (by decide) (by omega) dX4_init_63 ha20 hG19 ?_
  obtain ⟨G21, hG21, hg, hf⟩ := pR_ok hf
  refine e_putR C fl_Pl_37 dX4_init_65 hG21 hg (Or.inr ⟨rfl, rfl⟩) rfl rfl ?_
  refine g_aload_n C dX4_init_68 rfl ?_
  refine g_iconst (v := (5 : Int32)) C dX4_init_69 (by decide) ?_
  obtain ⟨a23, G22, ha23, hG22, hz, hf⟩ := nA_ok hf
  refine e_newa (sl := 5) C (Or.inl ⟨rfl, rfl⟩) ac_int hz (by decide) (by omega) dX4_init_70 ha23 hG22 ?_
  obtain ⟨G24, hG24, hg, hf⟩ := pR_ok hf
  refine e_putR C fl_Pl_40 dX4_init_72 hG24 hg (Or.inr ⟨rfl, rfl⟩) rfl rfl ?_
  refine g_aload_n C dX4_init_75 rfl ?_
  refine g_iconst (v := (5 : Int32)) C dX4_init_76 (by decide) ?_
  obtain ⟨a26, G25, ha26, hG25, hz, hf⟩ := nA_ok hf
  refine e_newa (sl := 5) C (Or.inl ⟨rfl, rfl⟩) ac_int hz (by decide) (by omega) dX4_init_77 ha26 hG25 ?_
  obtain ⟨G27, hG27, hg, hf⟩ := pR_ok hf
  refine e_putR C fl_Pl_43 dX4_init_79 hG27 hg (Or.inr ⟨rfl, rfl⟩) rfl rfl ?_
  obtain rfl := rP_ok hf
  exact g_vret HR dX4_init_82
theorem c_Pl_init (E : EE) {G : Hp} {l0 : Nat} {G' : Hp} (h : f_Pl_init G l0 = some G') : gCt E y_Pl_init cX4_init 1 none 2 52 10 2045 [.ref (E.2.1 + l0)] G none G' := gCt_of (own := "FavoursGoOff$Plan") (ini := true) [some (.ref (E.2.1 + l0))] (by decide +kernel) rfl (fun _ => rfl) (Nat.le_of_ble_eq_true rfl) ⟨rfl, trivial⟩ (fun X C HR => l_Pl_init C HR h)
set_option maxRecDepth 20000 in
theorem l_Pl_layOut_b191 {E : EE} {X : CT} {G : Hp} (C : gCx E X cX4_layOut "FavoursGoOff$Plan" none 3 72 0 0 false 8) {G' : Hp} (HR : gRet E X cX4_layOut none 0 0 none G') {k86 : Hp → Nat → Nat → Int32 → Int32 → Int32 → Option Hp} (K86 : ∀ {G : Hp} {l0 : Nat} {l1 : Nat} {l2 : Int32} {l3 : Int32} {l5 : Int32}, k86 G l0 l1 l2 l3 l5 = some G' → gV E X 0 0 G 86 [some (.ref (E.2.1 + l0)), some (.ref (E.2.1 + l1)), some (.int l2), some (.int l3), none, some (.int l5), none, none] []) {l0 : Nat} {l1 : Nat} {l2 : Int32} {l3 : Int32} {l5 : Int32} {s0 : Nat} {s1 : Int32} {s2 : Int32} {s3 : Int32} (hf : f_Pl_layOut_b191 k86 G l0 l1 l2 l3 l5 s0 s1 s2 s3 = some G') : gV E X 0 0 G 191 [some (.ref (E.2.1 + l0)), some (.ref (E.2.1 + l1)), some (.int l2), some (.int l3), none, some (.int l5), none, none] [.int s3, .int s2, .int s1, .ref (E.2.1 + s0)] := by
  unfold f_Pl_layOut_b191 at hf
  obtain ⟨G1, hg, h1, hf⟩ := vP_ok hf
  refine g_invV (As := [.int s1, .int s2, .int s3]) (st := []) C (c_Ta_put E h1) (rfl : vwCl[7]? = some (y_Ta_put.cls, TX7, 3)) (by decide) hg ml_Pl_91 cm_Ta_put.1 cm_Ta_put.2.1 cm_Ta_put.2.2.1 cm_Ta_put.2.2.2.1 cm_Ta_put.2.2.2.2 rfl ⟨by omega, by omega, by omega, by omega⟩ (by exact Nat.le_of_ble_eq_true rfl) rfl dX4_layOut_191 ?_
  refine g_iinc (v := (l5 + 1)) (lv' := [some (.ref (E.2.1 + l0)), some (.ref (E.2.1 + l1)), some (.int l2), some (.int l3), none, some (.int (l5 + 1)), none, none]) C dX4_layOut_194 (by decide) rfl rfl rfl ?_
  refine g_goto (tgt := 86) C dX4_layOut_197 (by decide) ?_
  refine g_sub (lv' := [some (.ref (E.2.1 + l0)), some (.ref (E.2.1 + l1)), some (.int l2), some (.int l3), none, some (.int (l5 + 1)), none, none]) ⟨rfl, ⟨rfl, ⟨rfl, ⟨rfl, ⟨rfl, trivial⟩⟩⟩⟩⟩ ?_
  exact K86 hf
set_option maxRecDepth 20000 in
theorem l_Pl_layOut_b162 {E : EE} {X : CT} {G : Hp} (C : gCx E X cX4_layOut "FavoursGoOff$Plan" none 3 72 0 0 false 8) {G' : Hp} (HR : gRet E X cX4_layOut none 0 0 none G') {k86 : Hp → Nat → Nat → Int32 → Int32 → Int32 → Option Hp} (K86 : ∀ {G : Hp} {l0 : Nat} {l1 : Nat} {l2 : Int32} {l3 : Int32} {l5 : Int32}, k86 G l0 l1 l2 l3 l5 = some G' → gV E X 0 0 G 86 [some (.ref (E.2.1 + l0)), some (.ref (E.2.1 + l1)), some (.int l2), some (.int l3), none, some (.int l5), none, none] []) {l0 : Nat} {l1 : Nat} {l2 : Int32} {l3 : Int32} {l5 : Int32} {s0 : Int32} (hf : f_Pl_layOut_b162 k86 G l0 l1 l2 l3 l5 s0 = some G') : gV E X 0 0 G 162 [some (.ref (E.2.1 + l0)), some (.ref (E.2.1 + l1)), some (.int l2), some (.int l3), none, some (.int l5), none, none] [.int s0] := by
  unfold f_Pl_layOut_b162 at hf
  refine g_istore (lv' := [some (.ref (E.2.1 + l0)), some (.ref (E.2.1 + l1)), some (.int l2), some (.int l3), none, some (.int l5), none, some (.int s0)]) C dX4_layOut_162 (by decide) rfl ?_
  refine g_aload_n C dX4_layOut_164 rfl ?_
  obtain ⟨x1, hg, hf⟩ := gR_ok hf
  refine g_getR C fl_Pl_20 dX4_layOut_165 hg ?_
  refine g_iload_n C dX4_layOut_168 rfl ?_
  refine g_iload C dX4_layOut_169 rfl ?_
  refine g_iload C dX4_layOut_171 rfl ?_
  refine g_aload_n C dX4_layOut_173 rfl ?_
  obtain ⟨x2, hg, hf⟩ := gR_ok hf
  refine g_getR C fl_Pl_46 dX4_layOut_174 hg ?_
  refine g_iload_n C dX4_layOut_177 rfl ?_
  refine g_iconst (v := (2 : Int32)) C dX4_layOut_178 (by decide) ?_
  obtain ⟨x3, hg, h1, hf⟩ := vP_ok hf
  refine g_invV (As := [.int l2, .int (2 : Int32)]) (st := [.int s0, .int l5, .int l2, .ref (E.2.1 + x1)]) C (c_Ta_at E h1) (rfl : vwCl[7]? = some (y_Ta_at.cls, TX7, 3)) (by decide) hg ml_Pl_68 cm_Ta_at.1 cm_Ta_at.2.1 cm_Ta_at.2.2.1 cm_Ta_at.2.2.2.1 cm_Ta_at.2.2.2.2 rfl ⟨by omega, by omega, by omega, by omega⟩ (by exact Nat.le_of_ble_eq_true rfl) rfl dX4_layOut_179 ?_
  refine g_icmp_lt (tgt := 190) C dX4_layOut_182 (by decide) (fun hc => ?_) (fun hc => ?_)
  · have hf := iteT hf hc
    refine g_iconst (v := (0 : Int32)) C dX4_layOut_190 (by decide) ?_
    refine g_sub (lv' := [some (.ref (E.2.1 + l0)), some (.ref (E.2.1 + l1)), some (.int l2), some (.int l3), none, some (.int l5), none, none]) ⟨rfl, ⟨rfl, ⟨rfl, ⟨rfl, ⟨rfl, trivial⟩⟩⟩⟩⟩ ?_
    exact l_Pl_layOut_b191 C HR K86 hf
  · have hf := iteF hf hc
    refine g_iload C dX4_layOut_185 rfl ?_
    refine g_goto (tgt := 191) C dX4_layOut_187 (by decide) ?_
    refine g_sub (lv' := [some (.ref (E.2.1 + l0)), some (.ref (E.2.1 + l1)), some (.int l2), some (.int l3), none, some (.int l5), none, none]) ⟨rfl, ⟨rfl, ⟨rfl, ⟨rfl, ⟨rfl, trivial⟩⟩⟩⟩⟩ ?_
    exact l_Pl_layOut_b191 C HR K86 hf
set_option maxRecDepth 20000 in
theorem l_Pl_layOut_b144 {E : EE} {X : CT} {G : Hp} (C : gCx E X cX4_layOut "FavoursGoOff$Plan" none 3 72 0 0 false 8) {G' : Hp} (HR : gRet E X cX4_layOut none 0 0 none G') {k86 : Hp → Nat → Nat → Int32 → Int32 → Int32 → Option Hp} (K86 : ∀ {G : Hp} {l0 : Nat} {l1 : Nat} {l2 : Int32} {l3 : Int32} {l5 : Int32}, k86 G l0 l1 l2 l3 l5 = some G' → gV E X 0 0 G 86 [some (.ref (E.2.1 + l0)), some (.ref (E.2.1 + l1)), some (.int l2), some (.int l3), none, some (.int l5), none, none] []) {l0 : Nat} {l1 : Nat} {l2 : Int32} {l3 : Int32} {l5 : Int32} {s0 : Int32} (hf : f_Pl_layOut_b144 k86 G l0 l1 l2 l3 l5 s0 = some G') : gV E X 0 0 G 144 [some (.ref (E.2.1 + l0)), some (.ref (E.2.1 + l1)), some (.int l2), some (.int l3), none, some (.int l5), none, none] [.int s0] := by
  unfold f_Pl_layOut_b144 at hf
  refine g_istore (lv' := [some (.ref (E.2.1 + l0)), some (.ref (E.2.1 + l1)), some (.int l2), some (.int l3), none, some (.int l5), some (.int s0), none]) C dX4_layOut_144 (by decide) rfl ?_
  refine g_iload C dX4_layOut_146 rfl ?_
  refine g_if_eq (tgt := 161) C dX4_layOut_148 (by decide) (fun hc => ?_) (fun hc => ?_)
  · have hf := iteT hf hc
    refine g_iconst (v := (0 : Int32)) C dX4_layOut_161 (by decide) ?_
    refine g_sub (lv' := [some (.ref (E.2.1 + l0)), some (.ref (E.2.1 + l1)), some (.int l2), some (.int l3), none, some (.int l5), none, none]) ⟨rfl, ⟨rfl, ⟨rfl, ⟨rfl, ⟨rfl, trivial⟩⟩⟩⟩⟩ ?_
    exact l_Pl_layOut_b162 C HR K86 hf
  · have hf := iteF hf hc
    refine g_aload_n C dX4_layOut_151 rfl ?_
    refine g_iload C dX4_layOut_152 rfl ?_
    refine g_iload_n C dX4_layOut_154 rfl ?_
    obtain ⟨x1, hg, h1, hf⟩ := vP_ok hf
    refine g_invV (As := [.int l5, .int l3]) (st := []) C (c_St_valueOn E h1) (rfl : vwCl[6]? = some (y_St_valueOn.cls, TX6, 6)) (by decide) hg ml_Pl_95 cm_St_valueOn.1 cm_St_valueOn.2.1 cm_St_valueOn.2.2.1 cm_St_valueOn.2.2.2.1 cm_St_valueOn.2.2.2.2 rfl ⟨by omega, by omega, by omega, by omega⟩ (by exact Nat.le_of_ble_eq_true rfl) rfl dX4_layOut_155 ?_
    refine g_goto (tgt := 162) C dX4_layOut_158 (by decide) ?_
    refine g_sub (lv' := [some (.ref (E.2.1 + l0)), some (.ref (E.2.1 + l1)), some (.int l2), some (.int l3), none, some (.int l5), none, none]) ⟨rfl, ⟨rfl, ⟨rfl, ⟨rfl, ⟨rfl, trivial⟩⟩⟩⟩⟩ ?_
    exact l_Pl_layOut_b162 C HR K86 hf
set_option maxRecDepth 20000 in
theorem l_Pl_layOut_b143 {E : EE} {X : CT} {G : Hp} (C : gCx E X cX4_layOut "FavoursGoOff$Plan" none 3 72 0 0 false 8) {G' : Hp} (HR : gRet E X cX4_layOut none 0 0 none G') {k86 : Hp → Nat → Nat → Int32 → Int32 → Int32 → Option Hp} (K86 : ∀ {G : Hp} {l0 : Nat} {l1 : Nat} {l2 : Int32} {l3 : Int32} {l5 : Int32}, k86 G l0 l1 l2 l3 l5 = some G' → gV E X 0 0 G 86 [some (.ref (E.2.1 + l0)), some (.ref (E.2.1 + l1)), some (.int l2), some (.int l3), none, some (.int l5), none, none] []) {l0 : Nat} {l1 : Nat} {l2 : Int32} {l3 : Int32} {l5 : Int32} (hf : f_Pl_layOut_b143 k86 G l0 l1 l2 l3 l5 = some G') : gV E X 0 0 G 143 [some (.ref (E.2.1 + l0)), some (.ref (E.2.1 + l1)), some (.int l2), some (.int l3), none, some (.int l5), none, none] [] := by
  unfold f_Pl_layOut_b143 at hf
  refine g_iconst (v := (0 : Int32)) C dX4_layOut_143 (by decide) ?_
  refine g_sub (lv' := [some (.ref (E.2.1 + l0)), some (.ref (E.2.1 + l1)), some (.int l2), some (.int l3), none, some (.int l5), none, none]) ⟨rfl, ⟨rfl, ⟨rfl, ⟨rfl, ⟨rfl, trivial⟩⟩⟩⟩⟩ ?_
  exact l_Pl_layOut_b144 C HR K86 hf
set_option maxRecDepth 20000 in
theorem l_Pl_layOut_b86k {E : EE} {X : CT} {G : Hp} (C : gCx E X cX4_layOut "FavoursGoOff$Plan" none 3 72 0 0 false 8) {G' : Hp} (HR : gRet E X cX4_layOut none 0 0 none G') {k86 : Hp → Nat → Nat → Int32 → Int32 → Int32 → Option Hp} (K86 : ∀ {G : Hp} {l0 : Nat} {l1 : Nat} {l2 : Int32} {l3 : Int32} {l5 : Int32}, k86 G l0 l1 l2 l3 l5 = some G' → gV E X 0 0 G 86 [some (.ref (E.2.1 + l0)), some (.ref (E.2.1 + l1)), some (.int l2), some (.int l3), none, some (.int l5), none, none] []) {l0 : Nat} {l1 : Nat} {l2 : Int32} {l3 : Int32} {l5 : Int32} (hf : f_Pl_layOut_b86_k k86 G l0 l1 l2 l3 l5 = some G') : gV E X 0 0 G 86 [some (.ref (E.2.1 + l0)), some (.ref (E.2.1 + l1)), some (.int l2), some (.int l3), none, some (.int l5), none, none] [] := by
  unfold f_Pl_layOut_b86_k at hf
  refine g_iload C dX4_layOut_86 rfl ?_
  refine g_aload_n C dX4_layOut_88 rfl ?_
  obtain ⟨x1, hx1, hg, hf⟩ := gI_ok hf
  refine e_getI C fl_Pl_66 dX4_layOut_89 hx1 hg ?_
  refine g_icmp_ge (tgt := 200) C dX4_layOut_92 (by decide) (fun hc => ?_) (fun hc => ?_)
  · have hf := iteT hf hc
    obtain rfl := rP_ok hf
    exact g_vret HR dX4_layOut_200
  · have hf := iteF hf hc
    refine g_aload_n C dX4_layOut_95 rfl ?_
    obtain ⟨x2, hg, hf⟩ := gR_ok hf
    refine g_getR C fl_Pl_63 dX4_layOut_96 hg ?_
    refine g_iload C dX4_layOut_99 rfl ?_
    refine g_iconst (v := (2 : Int32)) C dX4_layOut_101 (by decide) ?_
    obtain ⟨x3, hg, h1, hf⟩ := vP_ok hf
    refine g_invV (As := [.int l5, .int (2 : Int32)]) (st := []) C (c_Ta_at E h1) (rfl : vwCl[7]? = some (y_Ta_at.cls, TX7, 3)) (by decide) hg ml_Pl_68 cm_Ta_at.1 cm_Ta_at.2.1 cm_Ta_at.2.2.1 cm_Ta_at.2.2.2.1 cm_Ta_at.2.2.2.2 rfl ⟨by omega, by omega, by omega, by omega⟩ (by exact Nat.le_of_ble_eq_true rfl) rfl dX4_layOut_102 ?_
    refine g_aload_n C dX4_layOut_105 rfl ?_
    obtain ⟨x4, hg, hf⟩ := gR_ok hf
    refine g_getR C fl_Pl_46 dX4_layOut_106 hg ?_
    refine g_iload_n C dX4_layOut_109 rfl ?_
    refine g_iconst (v := (0 : Int32)) C dX4_layOut_110 (by decide) ?_
    obtain ⟨x5, hg, h1, hf⟩ := vP_ok hf
    refine g_invV (As := [.int l2, .int (0 : Int32)]) (st := [.int x3]) C (c_Ta_at E h1) (rfl : vwCl[7]? = some (y_Ta_at.cls, TX7, 3)) (by decide) hg ml_Pl_68 cm_Ta_at.1 cm_Ta_at.2.1 cm_Ta_at.2.2.1 cm_Ta_at.2.2.2.1 cm_Ta_at.2.2.2.2 rfl ⟨by omega, by omega, by omega, by omega⟩ (by exact Nat.le_of_ble_eq_true rfl) rfl dX4_layOut_111 ?_
    refine g_icmp_ne (tgt := 143) C dX4_layOut_114 (by decide) (fun hc => ?_) (fun hc => ?_)
    · have hf := iteF hf hc
      refine g_sub (lv' := [some (.ref (E.2.1 + l0)), some (.ref (E.2.1 + l1)), some (.int l2), some (.int l3), none, some (.int l5), none, none]) ⟨rfl, ⟨rfl, ⟨rfl, ⟨rfl, ⟨rfl, trivial⟩⟩⟩⟩⟩ ?_
      exact l_Pl_layOut_b143 C HR K86 hf
    · have hf := iteT hf hc
      refine g_aload_n C dX4_layOut_117 rfl ?_
      obtain ⟨x6, hg, hf⟩ := gR_ok hf
      refine g_getR C fl_Pl_63 dX4_layOut_118 hg ?_
      refine g_iload C dX4_layOut_121 rfl ?_
      refine g_iconst (v := (3 : Int32)) C dX4_layOut_123 (by decide) ?_
      obtain ⟨x7, hg, h1, hf⟩ := vP_ok hf
      refine g_invV (As := [.int l5, .int (3 : Int32)]) (st := []) C (c_Ta_at E h1) (rfl : vwCl[7]? = some (y_Ta_at.cls, TX7, 3)) (by decide) hg ml_Pl_68 cm_Ta_at.1 cm_Ta_at.2.1 cm_Ta_at.2.2.1 cm_Ta_at.2.2.2.1 cm_Ta_at.2.2.2.2 rfl ⟨by omega, by omega, by omega, by omega⟩ (by exact Nat.le_of_ble_eq_true rfl) rfl dX4_layOut_124 ?_
      refine g_aload_n C dX4_layOut_127 rfl ?_
      obtain ⟨x8, hg, hf⟩ := gR_ok hf
      refine g_getR C fl_Pl_46 dX4_layOut_128 hg ?_
      refine g_iload_n C dX4_layOut_131 rfl ?_
      refine g_iconst (v := (1 : Int32)) C dX4_layOut_132 (by decide) ?_
      obtain ⟨x9, hg, h1, hf⟩ := vP_ok hf
      refine g_invV (As := [.int l2, .int (1 : Int32)]) (st := [.int x7]) C (c_Ta_at E h1) (rfl : vwCl[7]? = some (y_Ta_at.cls, TX7, 3)) (by decide) hg ml_Pl_68 cm_Ta_at.1 cm_Ta_at.2.1 cm_Ta_at.2.2.1 cm_Ta_at.2.2.2.1 cm_Ta_at.2.2.2.2 rfl ⟨by omega, by omega, by omega, by omega⟩ (by exact Nat.le_of_ble_eq_true rfl) rfl dX4_layOut_133 ?_
      refine g_icmp_ne (tgt := 143) C dX4_layOut_136 (by decide) (fun hc => ?_) (fun hc => ?_)
      · have hf := iteF hf hc
        refine g_sub (lv' := [some (.ref (E.2.1 + l0)), some (.ref (E.2.1 + l1)), some (.int l2), some (.int l3), none, some (.int l5), none, none]) ⟨rfl, ⟨rfl, ⟨rfl, ⟨rfl, ⟨rfl, trivial⟩⟩⟩⟩⟩ ?_
        exact l_Pl_layOut_b143 C HR K86 hf
      · have hf := iteT hf hc
        refine g_iconst (v := (1 : Int32)) C dX4_layOut_139 (by decide) ?_
        refine g_goto (tgt := 144) C dX4_layOut_140 (by decide) ?_
        refine g_sub (lv' := [some (.ref (E.2.1 + l0)), some (.ref (E.2.1 + l1)), some (.int l2), some (.int l3), none, some (.int l5), none, none]) ⟨rfl, ⟨rfl, ⟨rfl, ⟨rfl, ⟨rfl, trivial⟩⟩⟩⟩⟩ ?_
        exact l_Pl_layOut_b144 C HR K86 hf
theorem l_Pl_layOut_b86 {E : EE} {X : CT} (C : gCx E X cX4_layOut "FavoursGoOff$Plan" none 3 72 0 0 false 8) {G' : Hp} (HR : gRet E X cX4_layOut none 0 0 none G') : ∀ (nn : Nat) {G : Hp} {l0 : Nat} {l1 : Nat} {l2 : Int32} {l3 : Int32} {l5 : Int32}, f_Pl_layOut_b86 nn G l0 l1 l2 l3 l5 = some G' → gV E X 0 0 G 86 [some (.ref (E.2.1 + l0)), some (.ref (E.2.1 + l1)), some (.int l2), some (.int l3), none, some (.int l5), none, none] []
  | 0, _, _, _, _, _, _, hf => by have h0 : (none : Option Hp) = some G' := hf; cases h0
  | nn + 1, _, _, _, _, _, _, hf => l_Pl_layOut_b86k C HR (fun h => l_Pl_layOut_b86 C HR nn h) hf
set_option maxRecDepth 20000 in
theorem l_Pl_layOut_b50k {E : EE} {X : CT} {G : Hp} (C : gCx E X cX4_layOut "FavoursGoOff$Plan" none 3 72 0 0 false 8) {G' : Hp} (HR : gRet E X cX4_layOut none 0 0 none G') {k50 : Hp → Nat → Nat → Int32 → Int32 → Int32 → Option Hp} (K50 : ∀ {G : Hp} {l0 : Nat} {l1 : Nat} {l2 : Int32} {l3 : Int32} {l5 : Int32}, k50 G l0 l1 l2 l3 l5 = some G' → gV E X 0 0 G 50 [some (.ref (E.2.1 + l0)), some (.ref (E.2.1 + l1)), some (.int l2), some (.int l3), none, some (.int l5), none, none] []) {l0 : Nat} {l1 : Nat} {l2 : Int32} {l3 : Int32} {l5 : Int32} (hf : f_Pl_layOut_b50_k k50 G l0 l1 l2 l3 l5 = some G') : gV E X 0 0 G 50 [some (.ref (E.2.1 + l0)), some (.ref (E.2.1 + l1)), some (.int l2), some (.int l3), none, some (.int l5), none, none] [] := by
  unfold f_Pl_layOut_b50_k at hf
  refine g_iload C dX4_layOut_50 rfl ?_
  refine g_bipush (v := (6 : Int32)) C dX4_layOut_52 (by decide) ?_
  refine g_icmp_ge (tgt := 83) C dX4_layOut_54 (by decide) (fun hc => ?_) (fun hc => ?_)
  · have hf := iteT hf hc
    refine g_iconst (v := (0 : Int32)) C dX4_layOut_83 (by decide) ?_
    refine g_istore (lv' := [some (.ref (E.2.1 + l0)), some (.ref (E.2.1 + l1)), some (.int l2), some (.int l3), none, some (.int (0 : Int32)), none, none]) C dX4_layOut_84 (by decide) rfl ?_
    refine g_sub (lv' := [some (.ref (E.2.1 + l0)), some (.ref (E.2.1 + l1)), some (.int l2), some (.int l3), none, some (.int (0 : Int32)), none, none]) ⟨rfl, ⟨rfl, ⟨rfl, ⟨rfl, ⟨rfl, trivial⟩⟩⟩⟩⟩ ?_
    exact l_Pl_layOut_b86 C HR  FU hf
  · have hf := iteF hf hc
    refine g_aload_n C dX4_layOut_57 rfl ?_
    obtain ⟨x1, hg, hf⟩ := gR_ok hf
    refine g_getR C fl_Pl_24 dX4_layOut_58 hg ?_
    refine g_iload_n C dX4_layOut_61 rfl ?_
    refine g_iload C dX4_layOut_62 rfl ?_
    refine g_aload_n C dX4_layOut_64 rfl ?_
    obtain ⟨x2, hg, hf⟩ := gR_ok hf
    refine g_getR C fl_Pl_88 dX4_layOut_65 hg ?_
    refine g_iload C dX4_layOut_68 rfl ?_
    refine g_iconst (v := (0 : Int32)) C dX4_layOut_70 (by decide) ?_
    obtain ⟨x3, hg, h1, hf⟩ := vP_ok hf
    refine g_invV (As := [.int l5, .int (0 : Int32)]) (st := [.int l5, .int l2, .ref (E.2.1 + x1)]) C (c_Ta_at E h1) (rfl : vwCl[7]? = some (y_Ta_at.cls, TX7, 3)) (by decide) hg ml_Pl_68 cm_Ta_at.1 cm_Ta_at.2.1 cm_Ta_at.2.2.1 cm_Ta_at.2.2.2.1 cm_Ta_at.2.2.2.2 rfl ⟨by omega, by omega, by omega, by omega⟩ (by exact Nat.le_of_ble_eq_true rfl) rfl dX4_layOut_71 ?_
    obtain ⟨G4, hg, h1, hf⟩ := vP_ok hf
    refine g_invV (As := [.int l2, .int l5, .int x3]) (st := []) C (c_Ta_put E h1) (rfl : vwCl[7]? = some (y_Ta_put.cls, TX7, 3)) (by decide) hg ml_Pl_91 cm_Ta_put.1 cm_Ta_put.2.1 cm_Ta_put.2.2.1 cm_Ta_put.2.2.2.1 cm_Ta_put.2.2.2.2 rfl ⟨by omega, by omega, by omega, by omega⟩ (by exact Nat.le_of_ble_eq_true rfl) rfl dX4_layOut_74 ?_
    refine g_iinc (v := (l5 + 1)) (lv' := [some (.ref (E.2.1 + l0)), some (.ref (E.2.1 + l1)), some (.int l2), some (.int l3), none, some (.int (l5 + 1)), none, none]) C dX4_layOut_77 (by decide) rfl rfl rfl ?_
    refine g_goto (tgt := 50) C dX4_layOut_80 (by decide) ?_
    refine g_sub (lv' := [some (.ref (E.2.1 + l0)), some (.ref (E.2.1 + l1)), some (.int l2), some (.int l3), none, some (.int (l5 + 1)), none, none]) ⟨rfl, ⟨rfl, ⟨rfl, ⟨rfl, ⟨rfl, trivial⟩⟩⟩⟩⟩ ?_
    exact K50 hf
theorem l_Pl_layOut_b50 {E : EE} {X : CT} (C : gCx E X cX4_layOut "FavoursGoOff$Plan" none 3 72 0 0 false 8) {G' : Hp} (HR : gRet E X cX4_layOut none 0 0 none G') : ∀ (nn : Nat) {G : Hp} {l0 : Nat} {l1 : Nat} {l2 : Int32} {l3 : Int32} {l5 : Int32}, f_Pl_layOut_b50 nn G l0 l1 l2 l3 l5 = some G' → gV E X 0 0 G 50 [some (.ref (E.2.1 + l0)), some (.ref (E.2.1 + l1)), some (.int l2), some (.int l3), none, some (.int l5), none, none] []
  | 0, _, _, _, _, _, _, hf => by have h0 : (none : Option Hp) = some G' := hf; cases h0
  | nn + 1, _, _, _, _, _, _, hf => l_Pl_layOut_b50k C HR (fun h => l_Pl_layOut_b50 C HR nn h) hf
set_option maxRecDepth 20000 in
theorem l_Pl_layOut_b39 {E : EE} {X : CT} {G : Hp} (C : gCx E X cX4_layOut "FavoursGoOff$Plan" none 3 72 0 0 false 8) {G' : Hp} (HR : gRet E X cX4_layOut none 0 0 none G') {l0 : Nat} {l1 : Nat} {l2 : Int32} {l3 : Int32} {l4 : Int32} (hf : f_Pl_layOut_b39 G l0 l1 l2 l3 l4 = some G') : gV E X 0 0 G 39 [some (.ref (E.2.1 + l0)), some (.ref (E.2.1 + l1)), some (.int l2), some (.int l3), some (.int l4), none, none, none] [] := by
  unfold f_Pl_layOut_b39 at hf
  refine g_aload_n C dX4_layOut_39 rfl ?_
  obtain ⟨x1, hg, hf⟩ := gR_ok hf
  refine g_getR C fl_Pl_27 dX4_layOut_40 hg ?_
  refine g_iload_n C dX4_layOut_43 rfl ?_
  refine g_iload C dX4_layOut_44 rfl ?_
  obtain ⟨G2, hG2, hg, hf⟩ := sI_ok hf
  refine e_iast C dX4_layOut_46 hG2 hg ?_
  refine g_iconst (v := (0 : Int32)) C dX4_layOut_47 (by decide) ?_
  refine g_istore (lv' := [some (.ref (E.2.1 + l0)), some (.ref (E.2.1 + l1)), some (.int l2), some (.int l3), some (.int l4), some (.int (0 : Int32)), none, none]) C dX4_layOut_48 (by decide) rfl ?_
  refine g_sub (lv' := [some (.ref (E.2.1 + l0)), some (.ref (E.2.1 + l1)), some (.int l2), some (.int l3), none, some (.int (0 : Int32)), none, none]) ⟨rfl, ⟨rfl, ⟨rfl, ⟨rfl, ⟨rfl, trivial⟩⟩⟩⟩⟩ ?_
  exact l_Pl_layOut_b50 C HR  FU hf
set_option maxRecDepth 20000 in
theorem l_Pl_layOut_b13k {E : EE} {X : CT} {G : Hp} (C : gCx E X cX4_layOut "FavoursGoOff$Plan" none 3 72 0 0 false 8) {G' : Hp} (HR : gRet E X cX4_layOut none 0 0 none G') {k13 : Hp → Nat → Nat → Int32 → Int32 → Int32 → Option Hp} (K13 : ∀ {G : Hp} {l0 : Nat} {l1 : Nat} {l2 : Int32} {l3 : Int32} {l4 : Int32}, k13 G l0 l1 l2 l3 l4 = some G' → gV E X 0 0 G 13 [some (.ref (E.2.1 + l0)), some (.ref (E.2.1 + l1)), some (.int l2), some (.int l3), some (.int l4), none, none, none] []) {l0 : Nat} {l1 : Nat} {l2 : Int32} {l3 : Int32} {l4 : Int32} (hf : f_Pl_layOut_b13_k k13 G l0 l1 l2 l3 l4 = some G') : gV E X 0 0 G 13 [some (.ref (E.2.1 + l0)), some (.ref (E.2.1 + l1)), some (.int l2), some (.int l3), some (.int l4), none, none, none] [] := by
  unfold f_Pl_layOut_b13_k at hf
  refine g_iload C dX4_layOut_13 rfl ?_
  refine g_iload_n C dX4_layOut_15 rfl ?_
  refine g_icmp_ge (tgt := 39) C dX4_layOut_16 (by decide) (fun hc => ?_) (fun hc => ?_)
  · have hf := iteT hf hc
    refine g_sub (lv' := [some (.ref (E.2.1 + l0)), some (.ref (E.2.1 + l1)), some (.int l2), some (.int l3), some (.int l4), none, none, none]) ⟨rfl, ⟨rfl, ⟨rfl, ⟨rfl, ⟨rfl, trivial⟩⟩⟩⟩⟩ ?_
    exact l_Pl_layOut_b39 C HR  hf
  · have hf := iteF hf hc
    refine g_aload_n C dX4_layOut_19 rfl ?_
    obtain ⟨x1, hg, hf⟩ := gR_ok hf
    refine g_getR C fl_Pl_46 dX4_layOut_20 hg ?_
    refine g_iload C dX4_layOut_23 rfl ?_
    refine g_iconst (v := (3 : Int32)) C dX4_layOut_25 (by decide) ?_
    obtain ⟨x2, hg, h1, hf⟩ := vP_ok hf
    refine g_invV (As := [.int l4, .int (3 : Int32)]) (st := []) C (c_Ta_at E h1) (rfl : vwCl[7]? = some (y_Ta_at.cls, TX7, 3)) (by decide) hg ml_Pl_68 cm_Ta_at.1 cm_Ta_at.2.1 cm_Ta_at.2.2.1 cm_Ta_at.2.2.2.1 cm_Ta_at.2.2.2.2 rfl ⟨by omega, by omega, by omega, by omega⟩ (by exact Nat.le_of_ble_eq_true rfl) rfl dX4_layOut_26 ?_
    refine g_iload_n C dX4_layOut_29 rfl ?_
    refine g_icmp_eq (tgt := 39) C dX4_layOut_30 (by decide) (fun hc => ?_) (fun hc => ?_)
    · have hf := iteT hf hc
      refine g_sub (lv' := [some (.ref (E.2.1 + l0)), some (.ref (E.2.1 + l1)), some (.int l2), some (.int l3), some (.int l4), none, none, none]) ⟨rfl, ⟨rfl, ⟨rfl, ⟨rfl, ⟨rfl, trivial⟩⟩⟩⟩⟩ ?_
      exact l_Pl_layOut_b39 C HR  hf
    · have hf := iteF hf hc
      refine g_iinc (v := (l4 + 1)) (lv' := [some (.ref (E.2.1 + l0)), some (.ref (E.2.1 + l1)), some (.int l2), some (.int l3), some (.int (l4 + 1)), none, none, none]) C dX4_layOut_33 (by decide) rfl rfl rfl ?_
      refine g_goto (tgt := 13) C dX4_layOut_36 (by decide) ?_
      refine g_sub (lv' := [some (.ref (E.2.1 + l0)), some (.ref (E.2.1 + l1)), some (.int l2), some (.int l3), some (.int (l4 + 1)), none, none, none]) ⟨rfl, ⟨rfl, ⟨rfl, ⟨rfl, ⟨rfl, trivial⟩⟩⟩⟩⟩ ?_
      exact K13 hf
theorem l_Pl_layOut_b13 {E : EE} {X : CT} (C : gCx E X cX4_layOut "FavoursGoOff$Plan" none 3 72 0 0 false 8) {G' : Hp} (HR : gRet E X cX4_layOut none 0 0 none G') : ∀ (nn : Nat) {G : Hp} {l0 : Nat} {l1 : Nat} {l2 : Int32} {l3 : Int32} {l4 : Int32}, f_Pl_layOut_b13 nn G l0 l1 l2 l3 l4 = some G' → gV E X 0 0 G 13 [some (.ref (E.2.1 + l0)), some (.ref (E.2.1 + l1)), some (.int l2), some (.int l3), some (.int l4), none, none, none] []
  | 0, _, _, _, _, _, _, hf => by have h0 : (none : Option Hp) = some G' := hf; cases h0
  | nn + 1, _, _, _, _, _, _, hf => l_Pl_layOut_b13k C HR (fun h => l_Pl_layOut_b13 C HR nn h) hf
set_option maxRecDepth 20000 in
theorem l_Pl_layOut {E : EE} {X : CT} {G : Hp} (C : gCx E X cX4_layOut "FavoursGoOff$Plan" none 3 72 0 0 false 8) {G' : Hp} (HR : gRet E X cX4_layOut none 0 0 none G') {l0 : Nat} {l1 : Nat} {l2 : Int32} (hf : f_Pl_layOut G l0 l1 l2 = some G') : gV E X 0 0 G 0 [some (.ref (E.2.1 + l0)), some (.ref (E.2.1 + l1)), some (.int l2), none, none, none, none, none] [] := by
  unfold f_Pl_layOut at hf
  refine g_aload_n C dX4_layOut_0 rfl ?_
  obtain ⟨x1, hg, hf⟩ := gR_ok hf
  refine g_getR C fl_Pl_46 dX4_layOut_1 hg ?_
  refine g_iload_n C dX4_layOut_4 rfl ?_
  refine g_iconst (v := (3 : Int32)) C dX4_layOut_5 (by decide) ?_
  obtain ⟨x2, hg, h1, hf⟩ := vP_ok hf
  refine g_invV (As := [.int l2, .int (3 : Int32)]) (st := []) C (c_Ta_at E h1) (rfl : vwCl[7]? = some (y_Ta_at.cls, TX7, 3)) (by decide) hg ml_Pl_68 cm_Ta_at.1 cm_Ta_at.2.1 cm_Ta_at.2.2.1 cm_Ta_at.2.2.2.1 cm_Ta_at.2.2.2.2 rfl ⟨by omega, by omega, by omega, by omega⟩ (by exact Nat.le_of_ble_eq_true rfl) rfl dX4_layOut_6 ?_
  refine g_istore_n (lv' := [some (.ref (E.2.1 + l0)), some (.ref (E.2.1 + l1)), some (.int l2), some (.int x2), none, none, none, none]) C dX4_layOut_9 (by decide) rfl ?_
  refine g_iconst (v := (0 : Int32)) C dX4_layOut_10 (by decide) ?_
  refine g_istore (lv' := [some (.ref (E.2.1 + l0)), some (.ref (E.2.1 + l1)), some (.int l2), some (.int x2), some (.int (0 : Int32)), none, none, none]) C dX4_layOut_11 (by decide) rfl ?_
  refine g_sub (lv' := [some (.ref (E.2.1 + l0)), some (.ref (E.2.1 + l1)), some (.int l2), some (.int x2), some (.int (0 : Int32)), none, none, none]) ⟨rfl, ⟨rfl, ⟨rfl, ⟨rfl, ⟨rfl, trivial⟩⟩⟩⟩⟩ ?_
  exact l_Pl_layOut_b13 C HR  FU hf
theorem c_Pl_layOut (E : EE) {G : Hp} {l0 : Nat} {l1 : Nat} {l2 : Int32} {G' : Hp} (h : f_Pl_layOut G l0 l1 l2 = some G') : gCt E y_Pl_layOut cX4_layOut 8 none 3 72 0 0 [.ref (E.2.1 + l0), .ref (E.2.1 + l1), .int l2] G none G' := gCt_of (own := "FavoursGoOff$Plan") (ini := false) [some (.ref (E.2.1 + l0)), some (.ref (E.2.1 + l1)), some (.int l2), none, none, none, none, none] (by decide +kernel) rfl (fun h => by cases h) (Nat.le_of_ble_eq_true rfl) ⟨rfl, ⟨rfl, ⟨rfl, trivial⟩⟩⟩ (fun X C HR => l_Pl_layOut C HR h)
set_option maxRecDepth 20000 in
theorem l_Pl_lookAhead_b72 {E : EE} {X : CT} {G : Hp} (C : gCx E X cX4_lookAhead "FavoursGoOff$Plan" none 2 46 0 0 false 5) {G' : Hp} (HR : gRet E X cX4_lookAhead none 0 0 none G') {k27 : Hp → Nat → Int32 → Option Hp} (K27 : ∀ {G : Hp} {l0 : Nat} {l1 : Int32}, k27 G l0 l1 = some G' → gV E X 0 0 G 27 [some (.ref (E.2.1 + l0)), some (.int l1), none, none, none] []) {k35 : Hp → Nat → Int32 → Int32 → Int32 → Option Hp} (K35 : ∀ {G : Hp} {l0 : Nat} {l1 : Int32} {l2 : Int32} {l3 : Int32}, k35 G l0 l1 l2 l3 = some G' → gV E X 0 0 G 35 [some (.ref (E.2.1 + l0)), some (.int l1), some (.int l2), some (.int l3), none] []) {l0 : Nat} {l1 : Int32} {l2 : Int32} {l3 : Int32} (hf : f_Pl_lookAhead_b72 k27 k35 G l0 l1 l2 l3 = some G') : gV E X 0 0 G 72 [some (.ref (E.2.1 + l0)), some (.int l1), some (.int l2), some (.int l3), none] [] := by
  unfold f_Pl_lookAhead_b72 at hf
  refine g_iinc (v := (l3 + 1)) (lv' := [some (.ref (E.2.1 + l0)), some (.int l1), some (.int l2), some (.int (l3 + 1)), none]) C dX4_lookAhead_72 (by decide) rfl rfl rfl ?_
  refine g_goto (tgt := 35) C dX4_lookAhead_75 (by decide) ?_
  refine g_sub (lv' := [some (.ref (E.2.1 + l0)), some (.int l1), some (.int l2), some (.int (l3 + 1)), none]) ⟨rfl, ⟨rfl, ⟨rfl, ⟨rfl, trivial⟩⟩⟩⟩ ?_
  exact K35 hf
set_option maxRecDepth 20000 in
theorem l_Pl_lookAhead_b69 {E : EE} {X : CT} {G : Hp} (C : gCx E X cX4_lookAhead "FavoursGoOff$Plan" none 2 46 0 0 false 5) {G' : Hp} (HR : gRet E X cX4_lookAhead none 0 0 none G') {k27 : Hp → Nat → Int32 → Option Hp} (K27 : ∀ {G : Hp} {l0 : Nat} {l1 : Int32}, k27 G l0 l1 = some G' → gV E X 0 0 G 27 [some (.ref (E.2.1 + l0)), some (.int l1), none, none, none] []) {k35 : Hp → Nat → Int32 → Int32 → Int32 → Option Hp} (K35 : ∀ {G : Hp} {l0 : Nat} {l1 : Int32} {l2 : Int32} {l3 : Int32}, k35 G l0 l1 l2 l3 = some G' → gV E X 0 0 G 35 [some (.ref (E.2.1 + l0)), some (.int l1), some (.int l2), some (.int l3), none] []) {l0 : Nat} {l1 : Int32} {l3 : Int32} {l4 : Int32} (hf : f_Pl_lookAhead_b69 k27 k35 G l0 l1 l3 l4 = some G') : gV E X 0 0 G 69 [some (.ref (E.2.1 + l0)), some (.int l1), none, some (.int l3), some (.int l4)] [] := by
  unfold f_Pl_lookAhead_b69 at hf
  refine g_iload C dX4_lookAhead_69 rfl ?_
  refine g_istore_n (lv' := [some (.ref (E.2.1 + l0)), some (.int l1), some (.int l4), some (.int l3), some (.int l4)]) C dX4_lookAhead_71 (by decide) rfl ?_
  refine g_sub (lv' := [some (.ref (E.2.1 + l0)), some (.int l1), some (.int l4), some (.int l3), none]) ⟨rfl, ⟨rfl, ⟨rfl, ⟨rfl, trivial⟩⟩⟩⟩ ?_
  exact l_Pl_lookAhead_b72 C HR K27 K35 hf
set_option maxRecDepth 20000 in
theorem l_Pl_lookAhead_b100 {E : EE} {X : CT} {G : Hp} (C : gCx E X cX4_lookAhead "FavoursGoOff$Plan" none 2 46 0 0 false 5) {G' : Hp} (HR : gRet E X cX4_lookAhead none 0 0 none G') {k27 : Hp → Nat → Int32 → Option Hp} (K27 : ∀ {G : Hp} {l0 : Nat} {l1 : Int32}, k27 G l0 l1 = some G' → gV E X 0 0 G 27 [some (.ref (E.2.1 + l0)), some (.int l1), none, none, none] []) {l0 : Nat} {l1 : Int32} {l2 : Int32} {s0 : Nat} {s1 : Int32} {s2 : Int32} {s3 : Int32} (hf : f_Pl_lookAhead_b100 k27 G l0 l1 l2 s0 s1 s2 s3 = some G') : gV E X 0 0 G 100 [some (.ref (E.2.1 + l0)), some (.int l1), some (.int l2), none, none] [.int s3, .int s2, .int s1, .ref (E.2.1 + s0)] := by
  unfold f_Pl_lookAhead_b100 at hf
  refine g_iadd C dX4_lookAhead_100 ?_
  obtain ⟨G1, hG1, hg, hf⟩ := sI_ok hf
  refine e_iast C dX4_lookAhead_101 hG1 hg ?_
  refine g_aload_n C dX4_lookAhead_102 rfl ?_
  obtain ⟨x2, hg, hf⟩ := gR_ok hf
  refine g_getR C fl_Pl_37 dX4_lookAhead_103 hg ?_
  refine g_iload_n C dX4_lookAhead_106 rfl ?_
  refine g_aload_n C dX4_lookAhead_107 rfl ?_
  obtain ⟨x3, hg, hf⟩ := gR_ok hf
  refine g_getR C fl_Pl_37 dX4_lookAhead_108 hg ?_
  refine g_iload_n C dX4_lookAhead_111 rfl ?_
  refine g_iconst (v := (1 : Int32)) C dX4_lookAhead_112 (by decide) ?_
  refine g_iadd C dX4_lookAhead_113 ?_
  obtain ⟨x4, hx4, hg, hf⟩ := aI_ok hf
  refine e_iald C dX4_lookAhead_114 hx4 hg ?_
  refine g_iload_n C dX4_lookAhead_115 rfl ?_
  refine g_iadd C dX4_lookAhead_116 ?_
  obtain ⟨G5, hG5, hg, hf⟩ := sI_ok hf
  refine e_iast C dX4_lookAhead_117 hG5 hg ?_
  refine g_iinc (v := (l1 + (-1))) (lv' := [some (.ref (E.2.1 + l0)), some (.int (l1 + (-1))), some (.int l2), none, none]) C dX4_lookAhead_118 (by decide) rfl rfl rfl ?_
  refine g_goto (tgt := 27) C dX4_lookAhead_121 (by decide) ?_
  refine g_sub (lv' := [some (.ref (E.2.1 + l0)), some (.int (l1 + (-1))), none, none, none]) ⟨rfl, ⟨rfl, trivial⟩⟩ ?_
  exact K27 hf
set_option maxRecDepth 20000 in
theorem l_Pl_lookAhead_b35k {E : EE} {X : CT} {G : Hp} (C : gCx E X cX4_lookAhead "FavoursGoOff$Plan" none 2 46 0 0 false 5) {G' : Hp} (HR : gRet E X cX4_lookAhead none 0 0 none G') {k27 : Hp → Nat → Int32 → Option Hp} (K27 : ∀ {G : Hp} {l0 : Nat} {l1 : Int32}, k27 G l0 l1 = some G' → gV E X 0 0 G 27 [some (.ref (E.2.1 + l0)), some (.int l1), none, none, none] []) {k35 : Hp → Nat → Int32 → Int32 → Int32 → Option Hp} (K35 : ∀ {G : Hp} {l0 : Nat} {l1 : Int32} {l2 : Int32} {l3 : Int32}, k35 G l0 l1 l2 l3 = some G' → gV E X 0 0 G 35 [some (.ref (E.2.1 + l0)), some (.int l1), some (.int l2), some (.int l3), none] []) {l0 : Nat} {l1 : Int32} {l2 : Int32} {l3 : Int32} (hf : f_Pl_lookAhead_b35_k k27 k35 G l0 l1 l2 l3 = some G') : gV E X 0 0 G 35 [some (.ref (E.2.1 + l0)), some (.int l1), some (.int l2), some (.int l3), none] [] := by
  unfold f_Pl_lookAhead_b35_k at hf
  refine g_iload_n C dX4_lookAhead_35 rfl ?_
  refine g_aload_n C dX4_lookAhead_36 rfl ?_
  obtain ⟨x1, hx1, hg, hf⟩ := gI_ok hf
  refine e_getI C fl_Pl_66 dX4_lookAhead_37 hx1 hg ?_
  refine g_icmp_ge (tgt := 78) C dX4_lookAhead_40 (by decide) (fun hc => ?_) (fun hc => ?_)
  · have hf := iteT hf hc
    refine g_aload_n C dX4_lookAhead_78 rfl ?_
    obtain ⟨x2, hg, hf⟩ := gR_ok hf
    refine g_getR C fl_Pl_34 dX4_lookAhead_79 hg ?_
    refine g_iload_n C dX4_lookAhead_82 rfl ?_
    refine g_aload_n C dX4_lookAhead_83 rfl ?_
    obtain ⟨x3, hg, hf⟩ := gR_ok hf
    refine g_getR C fl_Pl_34 dX4_lookAhead_84 hg ?_
    refine g_iload_n C dX4_lookAhead_87 rfl ?_
    refine g_iconst (v := (1 : Int32)) C dX4_lookAhead_88 (by decide) ?_
    refine g_iadd C dX4_lookAhead_89 ?_
    obtain ⟨x4, hx4, hg, hf⟩ := aI_ok hf
    refine e_iald C dX4_lookAhead_90 hx4 hg ?_
    refine g_iload_n C dX4_lookAhead_91 rfl ?_
    refine g_if_le (tgt := 99) C dX4_lookAhead_92 (by decide) (fun hc => ?_) (fun hc => ?_)
    · have hf := iteT hf hc
      refine g_iconst (v := (0 : Int32)) C dX4_lookAhead_99 (by decide) ?_
      refine g_sub (lv' := [some (.ref (E.2.1 + l0)), some (.int l1), some (.int l2), none, none]) ⟨rfl, ⟨rfl, ⟨rfl, trivial⟩⟩⟩ ?_
      exact l_Pl_lookAhead_b100 C HR K27 hf
    · have hf := iteF hf hc
      refine g_iconst (v := (1 : Int32)) C dX4_lookAhead_95 (by decide) ?_
      refine g_goto (tgt := 100) C dX4_lookAhead_96 (by decide) ?_
      refine g_sub (lv' := [some (.ref (E.2.1 + l0)), some (.int l1), some (.int l2), none, none]) ⟨rfl, ⟨rfl, ⟨rfl, trivial⟩⟩⟩ ?_
      exact l_Pl_lookAhead_b100 C HR K27 hf
  · have hf := iteF hf hc
    refine g_aload_n C dX4_lookAhead_43 rfl ?_
    obtain ⟨x5, hg, hf⟩ := gR_ok hf
    refine g_getR C fl_Pl_20 dX4_lookAhead_44 hg ?_
    refine g_iload_n C dX4_lookAhead_47 rfl ?_
    refine g_iload_n C dX4_lookAhead_48 rfl ?_
    obtain ⟨x6, hg, h1, hf⟩ := vP_ok hf
    refine g_invV (As := [.int l1, .int l3]) (st := []) C (c_Ta_at E h1) (rfl : vwCl[7]? = some (y_Ta_at.cls, TX7, 3)) (by decide) hg ml_Pl_68 cm_Ta_at.1 cm_Ta_at.2.1 cm_Ta_at.2.2.1 cm_Ta_at.2.2.2.1 cm_Ta_at.2.2.2.2 rfl ⟨by omega, by omega, by omega, by omega⟩ (by exact Nat.le_of_ble_eq_true rfl) rfl dX4_lookAhead_49 ?_
    refine g_istore (lv' := [some (.ref (E.2.1 + l0)), some (.int l1), some (.int l2), some (.int l3), some (.int x6)]) C dX4_lookAhead_52 (by decide) rfl ?_
    refine g_iload C dX4_lookAhead_54 rfl ?_
    refine g_if_le (tgt := 72) C dX4_lookAhead_56 (by decide) (fun hc => ?_) (fun hc => ?_)
    · have hf := iteT hf hc
      refine g_sub (lv' := [some (.ref (E.2.1 + l0)), some (.int l1), some (.int l2), some (.int l3), none]) ⟨rfl, ⟨rfl, ⟨rfl, ⟨rfl, trivial⟩⟩⟩⟩ ?_
      exact l_Pl_lookAhead_b72 C HR K27 K35 hf
    · have hf := iteF hf hc
      refine g_iload_n C dX4_lookAhead_59 rfl ?_
      refine g_if_eq (tgt := 69) C dX4_lookAhead_60 (by decide) (fun hc => ?_) (fun hc => ?_)
      · have hf := iteT hf hc
        refine g_sub (lv' := [some (.ref (E.2.1 + l0)), some (.int l1), none, some (.int l3), some (.int x6)]) ⟨rfl, ⟨rfl, ⟨rfl, ⟨rfl, trivial⟩⟩⟩⟩ ?_
        exact l_Pl_lookAhead_b69 C HR K27 K35 hf
      · have hf := iteF hf hc
        refine g_iload C dX4_lookAhead_63 rfl ?_
        refine g_iload_n C dX4_lookAhead_65 rfl ?_
        refine g_icmp_ge (tgt := 72) C dX4_lookAhead_66 (by decide) (fun hc => ?_) (fun hc => ?_)
        · have hf := iteT hf hc
          refine g_sub (lv' := [some (.ref (E.2.1 + l0)), some (.int l1), some (.int l2), some (.int l3), none]) ⟨rfl, ⟨rfl, ⟨rfl, ⟨rfl, trivial⟩⟩⟩⟩ ?_
          exact l_Pl_lookAhead_b72 C HR K27 K35 hf
        · have hf := iteF hf hc
          refine g_sub (lv' := [some (.ref (E.2.1 + l0)), some (.int l1), none, some (.int l3), some (.int x6)]) ⟨rfl, ⟨rfl, ⟨rfl, ⟨rfl, trivial⟩⟩⟩⟩ ?_
          exact l_Pl_lookAhead_b69 C HR K27 K35 hf
theorem l_Pl_lookAhead_b35 {E : EE} {X : CT} (C : gCx E X cX4_lookAhead "FavoursGoOff$Plan" none 2 46 0 0 false 5) {G' : Hp} (HR : gRet E X cX4_lookAhead none 0 0 none G') {k27 : Hp → Nat → Int32 → Option Hp} (K27 : ∀ {G : Hp} {l0 : Nat} {l1 : Int32}, k27 G l0 l1 = some G' → gV E X 0 0 G 27 [some (.ref (E.2.1 + l0)), some (.int l1), none, none, none] []) : ∀ (nn : Nat) {G : Hp} {l0 : Nat} {l1 : Int32} {l2 : Int32} {l3 : Int32}, f_Pl_lookAhead_b35 k27 nn G l0 l1 l2 l3 = some G' → gV E X 0 0 G 35 [some (.ref (E.2.1 + l0)), some (.int l1), some (.int l2), some (.int l3), none] []
  | 0, _, _, _, _, _, hf => by have h0 : (none : Option Hp) = some G' := hf; cases h0
  | nn + 1, _, _, _, _, _, hf => l_Pl_lookAhead_b35k C HR K27 (fun h => l_Pl_lookAhead_b35 C HR K27 nn h) hf
set_option maxRecDepth 20000 in
theorem l_Pl_lookAhead_b27k {E : EE} {X : CT} {G : Hp} (C : gCx E X cX4_lookAhead "FavoursGoOff$Plan" none 2 46 0 0 false 5) {G' : Hp} (HR : gRet E X cX4_lookAhead none 0 0 none G') {k27 : Hp → Nat → Int32 → Option Hp} (K27 : ∀ {G : Hp} {l0 : Nat} {l1 : Int32}, k27 G l0 l1 = some G' → gV E X 0 0 G 27 [some (.ref (E.2.1 + l0)), some (.int l1), none, none, none] []) {l0 : Nat} {l1 : Int32} (hf : f_Pl_lookAhead_b27_k k27 G l0 l1 = some G') : gV E X 0 0 G 27 [some (.ref (E.2.1 + l0)), some (.int l1), none, none, none] [] := by
  unfold f_Pl_lookAhead_b27_k at hf
  refine g_iload_n C dX4_lookAhead_27 rfl ?_
  refine g_if_lt (tgt := 124) C dX4_lookAhead_28 (by decide) (fun hc => ?_) (fun hc => ?_)
  · have hf := iteT hf hc
    obtain rfl := rP_ok hf
    exact g_vret HR dX4_lookAhead_124
  · have hf := iteF hf hc
    refine g_iconst (v := (0 : Int32)) C dX4_lookAhead_31 (by decide) ?_
    refine g_istore_n (lv' := [some (.ref (E.2.1 + l0)), some (.int l1), some (.int (0 : Int32)), none, none]) C dX4_lookAhead_32 (by decide) rfl ?_
    refine g_iconst (v := (0 : Int32)) C dX4_lookAhead_33 (by decide) ?_
    refine g_istore_n (lv' := [some (.ref (E.2.1 + l0)), some (.int l1), some (.int (0 : Int32)), some (.int (0 : Int32)), none]) C dX4_lookAhead_34 (by decide) rfl ?_
    refine g_sub (lv' := [some (.ref (E.2.1 + l0)), some (.int l1), some (.int (0 : Int32)), some (.int (0 : Int32)), none]) ⟨rfl, ⟨rfl, ⟨rfl, ⟨rfl, trivial⟩⟩⟩⟩ ?_
    exact l_Pl_lookAhead_b35 C HR K27 FU hf
theorem l_Pl_lookAhead_b27 {E : EE} {X : CT} (C : gCx E X cX4_lookAhead "FavoursGoOff$Plan" none 2 46 0 0 false 5) {G' : Hp} (HR : gRet E X cX4_lookAhead none 0 0 none G') : ∀ (nn : Nat) {G : Hp} {l0 : Nat} {l1 : Int32}, f_Pl_lookAhead_b27 nn G l0 l1 = some G' → gV E X 0 0 G 27 [some (.ref (E.2.1 + l0)), some (.int l1), none, none, none] []
  | 0, _, _, _, hf => by have h0 : (none : Option Hp) = some G' := hf; cases h0
  | nn + 1, _, _, _, hf => l_Pl_lookAhead_b27k C HR (fun h => l_Pl_lookAhead_b27 C HR nn h) hf
set_option maxRecDepth 20000 in
theorem l_Pl_lookAhead {E : EE} {X : CT} {G : Hp} (C : gCx E X cX4_lookAhead "FavoursGoOff$Plan" none 2 46 0 0 false 5) {G' : Hp} (HR : gRet E X cX4_lookAhead none 0 0 none G') {l0 : Nat} (hf : f_Pl_lookAhead G l0 = some G') : gV E X 0 0 G 0 [some (.ref (E.2.1 + l0)), none, none, none, none] [] := by
  unfold f_Pl_lookAhead at hf
  refine g_aload_n C dX4_lookAhead_0 rfl ?_
  obtain ⟨x1, hg, hf⟩ := gR_ok hf
  refine g_getR C fl_Pl_34 dX4_lookAhead_1 hg ?_
  refine g_aload_n C dX4_lookAhead_4 rfl ?_
  obtain ⟨x2, hx2, hg, hf⟩ := gI_ok hf
  refine e_getI C fl_Pl_61 dX4_lookAhead_5 hx2 hg ?_
  refine g_iconst (v := (0 : Int32)) C dX4_lookAhead_8 (by decide) ?_
  obtain ⟨G3, hG3, hg, hf⟩ := sI_ok hf
  refine e_iast C dX4_lookAhead_9 hG3 hg ?_
  refine g_aload_n C dX4_lookAhead_10 rfl ?_
  obtain ⟨x4, hg, hf⟩ := gR_ok hf
  refine g_getR C fl_Pl_37 dX4_lookAhead_11 hg ?_
  refine g_aload_n C dX4_lookAhead_14 rfl ?_
  obtain ⟨x5, hx5, hg, hf⟩ := gI_ok hf
  refine e_getI C fl_Pl_61 dX4_lookAhead_15 hx5 hg ?_
  refine g_iconst (v := (0 : Int32)) C dX4_lookAhead_18 (by decide) ?_
  obtain ⟨G6, hG6, hg, hf⟩ := sI_ok hf
  refine e_iast C dX4_lookAhead_19 hG6 hg ?_
  refine g_aload_n C dX4_lookAhead_20 rfl ?_
  obtain ⟨x7, hx7, hg, hf⟩ := gI_ok hf
  refine e_getI C fl_Pl_61 dX4_lookAhead_21 hx7 hg ?_
  refine g_iconst (v := (1 : Int32)) C dX4_lookAhead_24 (by decide) ?_
  refine g_isub C dX4_lookAhead_25 ?_
  obtain ⟨x8, hx8, hf⟩ := lt_ok hf
  refine e_top hx8 ?_
  refine g_istore_n (lv' := [some (.ref (E.2.1 + l0)), some (.int x8), none, none, none]) C dX4_lookAhead_26 (by decide) rfl ?_
  refine g_sub (lv' := [some (.ref (E.2.1 + l0)), some (.int x8), none, none, none]) ⟨rfl, ⟨rfl, trivial⟩⟩ ?_
  exact l_Pl_lookAhead_b27 C HR  FU hf
theorem c_Pl_lookAhead (E : EE) {G : Hp} {l0 : Nat} {G' : Hp} (h : f_Pl_lookAhead G l0 = some G') : gCt E y_Pl_lookAhead cX4_lookAhead 5 none 2 46 0 0 [.ref (E.2.1 + l0)] G none G' := gCt_of (own := "FavoursGoOff$Plan") (ini := false) [some (.ref (E.2.1 + l0)), none, none, none, none] (by decide +kernel) rfl (fun h => by cases h) (Nat.le_of_ble_eq_true rfl) ⟨rfl, trivial⟩ (fun X C HR => l_Pl_lookAhead C HR h)
set_option maxRecDepth 20000 in
theorem l_Pl_isNoBetter_b29 {E : EE} {X : CT} {G : Hp} (C : gCx E X cX4_isNoBetter "FavoursGoOff$Plan" (some .boolean) 0 0 0 0 false 3) {r : Int32} (HR : gRet E X cX4_isNoBetter (some .boolean) 0 0 (some (.int r)) G) {s0 : Int32} (hf : f_Pl_isNoBetter_b29 G s0 = some r) : gV E X 0 0 G 29 [none, none, none] [.int s0] := by
  unfold f_Pl_isNoBetter_b29 at hf
  obtain ⟨hv, hf⟩ := zR_ok hf
  obtain rfl := rP_ok hf
  exact g_zret HR hv dX4_isNoBetter_29
set_option maxRecDepth 20000 in
theorem l_Pl_isNoBetter_b24 {E : EE} {X : CT} {G : Hp} (C : gCx E X cX4_isNoBetter "FavoursGoOff$Plan" (some .boolean) 0 0 0 0 false 3) {r : Int32} (HR : gRet E X cX4_isNoBetter (some .boolean) 0 0 (some (.int r)) G) (hf : f_Pl_isNoBetter_b24 G = some r) : gV E X 0 0 G 24 [none, none, none] [] := by
  unfold f_Pl_isNoBetter_b24 at hf
  refine g_iconst (v := (1 : Int32)) C dX4_isNoBetter_24 (by decide) ?_
  refine g_goto (tgt := 29) C dX4_isNoBetter_25 (by decide) ?_
  refine g_sub (lv' := [none, none, none]) trivial ?_
  exact l_Pl_isNoBetter_b29 C HR  hf
set_option maxRecDepth 20000 in
theorem l_Pl_isNoBetter_b28 {E : EE} {X : CT} {G : Hp} (C : gCx E X cX4_isNoBetter "FavoursGoOff$Plan" (some .boolean) 0 0 0 0 false 3) {r : Int32} (HR : gRet E X cX4_isNoBetter (some .boolean) 0 0 (some (.int r)) G) (hf : f_Pl_isNoBetter_b28 G = some r) : gV E X 0 0 G 28 [none, none, none] [] := by
  unfold f_Pl_isNoBetter_b28 at hf
  refine g_iconst (v := (0 : Int32)) C dX4_isNoBetter_28 (by decide) ?_
  refine g_sub (lv' := [none, none, none]) trivial ?_
  exact l_Pl_isNoBetter_b29 C HR  hf
set_option maxRecDepth 20000 in
theorem l_Pl_isNoBetter {E : EE} {X : CT} {G : Hp} (C : gCx E X cX4_isNoBetter "FavoursGoOff$Plan" (some .boolean) 0 0 0 0 false 3) {r : Int32} (HR : gRet E X cX4_isNoBetter (some .boolean) 0 0 (some (.int r)) G) {l0 : Nat} {l1 : Int32} {l2 : Int32} (hf : f_Pl_isNoBetter G l0 l1 l2 = some r) : gV E X 0 0 G 0 [some (.ref (E.2.1 + l0)), some (.int l1), some (.int l2)] [] := by
  unfold f_Pl_isNoBetter at hf
  refine g_iload_n C dX4_isNoBetter_0 rfl ?_
  refine g_aload_n C dX4_isNoBetter_1 rfl ?_
  obtain ⟨x1, hx1, hg, hf⟩ := gI_ok hf
  refine e_getI C fl_Pl_78 dX4_isNoBetter_2 hx1 hg ?_
  refine g_icmp_lt (tgt := 24) C dX4_isNoBetter_5 (by decide) (fun hc => ?_) (fun hc => ?_)
  · have hf := iteT hf hc
    refine g_sub (lv' := [none, none, none]) trivial ?_
    exact l_Pl_isNoBetter_b24 C HR  hf
  · have hf := iteF hf hc
    refine g_iload_n C dX4_isNoBetter_8 rfl ?_
    refine g_aload_n C dX4_isNoBetter_9 rfl ?_
    obtain ⟨x2, hx2, hg, hf⟩ := gI_ok hf
    refine e_getI C fl_Pl_78 dX4_isNoBetter_10 hx2 hg ?_
    refine g_icmp_ne (tgt := 28) C dX4_isNoBetter_13 (by decide) (fun hc => ?_) (fun hc => ?_)
    · have hf := iteF hf hc
      refine g_sub (lv' := [none, none, none]) trivial ?_
      exact l_Pl_isNoBetter_b28 C HR  hf
    · have hf := iteT hf hc
      refine g_iload_n C dX4_isNoBetter_16 rfl ?_
      refine g_aload_n C dX4_isNoBetter_17 rfl ?_
      obtain ⟨x3, hx3, hg, hf⟩ := gI_ok hf
      refine e_getI C fl_Pl_81 dX4_isNoBetter_18 hx3 hg ?_
      refine g_icmp_lt (tgt := 28) C dX4_isNoBetter_21 (by decide) (fun hc => ?_) (fun hc => ?_)
      · have hf := iteT hf hc
        refine g_sub (lv' := [none, none, none]) trivial ?_
        exact l_Pl_isNoBetter_b28 C HR  hf
      · have hf := iteF hf hc
        refine g_sub (lv' := [none, none, none]) trivial ?_
        exact l_Pl_isNoBetter_b24 C HR  hf
theorem c_Pl_isNoBetter (E : EE) {G : Hp} {l0 : Nat} {l1 : Int32} {l2 : Int32} {r : Int32} (h : f_Pl_isNoBetter G l0 l1 l2 = some r) : gCt E y_Pl_isNoBetter cX4_isNoBetter 3 (some .boolean) 0 0 0 0 [.ref (E.2.1 + l0), .int l1, .int l2] G (some (.int r)) G := gCt_of (own := "FavoursGoOff$Plan") (ini := false) [some (.ref (E.2.1 + l0)), some (.int l1), some (.int l2)] (by decide +kernel) rfl (fun h => by cases h) (Nat.le_of_ble_eq_true rfl) ⟨rfl, ⟨rfl, ⟨rfl, trivial⟩⟩⟩ (fun X C HR => l_Pl_isNoBetter C HR h)
set_option maxRecDepth 20000 in
theorem l_Pl_keepIfBetter_b22k {E : EE} {X : CT} {G : Hp} (C : gCx E X cX4_keepIfBetter "FavoursGoOff$Plan" none 1 22 0 0 false 4) {G' : Hp} (HR : gRet E X cX4_keepIfBetter none 0 0 none G') {k22 : Hp → Nat → Int32 → Option Hp} (K22 : ∀ {G : Hp} {l0 : Nat} {l3 : Int32}, k22 G l0 l3 = some G' → gV E X 0 0 G 22 [some (.ref (E.2.1 + l0)), none, none, some (.int l3)] []) {l0 : Nat} {l3 : Int32} (hf : f_Pl_keepIfBetter_b22_k k22 G l0 l3 = some G') : gV E X 0 0 G 22 [some (.ref (E.2.1 + l0)), none, none, some (.int l3)] [] := by
  unfold f_Pl_keepIfBetter_b22_k at hf
  refine g_iload_n C dX4_keepIfBetter_22 rfl ?_
  refine g_aload_n C dX4_keepIfBetter_23 rfl ?_
  obtain ⟨x1, hx1, hg, hf⟩ := gI_ok hf
  refine e_getI C fl_Pl_61 dX4_keepIfBetter_24 hx1 hg ?_
  refine g_icmp_ge (tgt := 48) C dX4_keepIfBetter_27 (by decide) (fun hc => ?_) (fun hc => ?_)
  · have hf := iteT hf hc
    obtain rfl := rP_ok hf
    exact g_vret HR dX4_keepIfBetter_48
  · have hf := iteF hf hc
    refine g_aload_n C dX4_keepIfBetter_30 rfl ?_
    obtain ⟨x2, hg, hf⟩ := gR_ok hf
    refine g_getR C fl_Pl_43 dX4_keepIfBetter_31 hg ?_
    refine g_iload_n C dX4_keepIfBetter_34 rfl ?_
    refine g_aload_n C dX4_keepIfBetter_35 rfl ?_
    obtain ⟨x3, hg, hf⟩ := gR_ok hf
    refine g_getR C fl_Pl_40 dX4_keepIfBetter_36 hg ?_
    refine g_iload_n C dX4_keepIfBetter_39 rfl ?_
    obtain ⟨x4, hx4, hg, hf⟩ := aI_ok hf
    refine e_iald C dX4_keepIfBetter_40 hx4 hg ?_
    obtain ⟨G5, hG5, hg, hf⟩ := sI_ok hf
    refine e_iast C dX4_keepIfBetter_41 hG5 hg ?_
    refine g_iinc (v := (l3 + 1)) (lv' := [some (.ref (E.2.1 + l0)), none, none, some (.int (l3 + 1))]) C dX4_keepIfBetter_42 (by decide) rfl rfl rfl ?_
    refine g_goto (tgt := 22) C dX4_keepIfBetter_45 (by decide) ?_
    refine g_sub (lv' := [some (.ref (E.2.1 + l0)), none, none, some (.int (l3 + 1))]) ⟨rfl, ⟨rfl, trivial⟩⟩ ?_
    exact K22 hf
theorem l_Pl_keepIfBetter_b22 {E : EE} {X : CT} (C : gCx E X cX4_keepIfBetter "FavoursGoOff$Plan" none 1 22 0 0 false 4) {G' : Hp} (HR : gRet E X cX4_keepIfBetter none 0 0 none G') : ∀ (nn : Nat) {G : Hp} {l0 : Nat} {l3 : Int32}, f_Pl_keepIfBetter_b22 nn G l0 l3 = some G' → gV E X 0 0 G 22 [some (.ref (E.2.1 + l0)), none, none, some (.int l3)] []
  | 0, _, _, _, hf => by have h0 : (none : Option Hp) = some G' := hf; cases h0
  | nn + 1, _, _, _, hf => l_Pl_keepIfBetter_b22k C HR (fun h => l_Pl_keepIfBetter_b22 C HR nn h) hf
set_option maxRecDepth 20000 in
theorem l_Pl_keepIfBetter {E : EE} {X : CT} {G : Hp} (C : gCx E X cX4_keepIfBetter "FavoursGoOff$Plan" none 1 22 0 0 false 4) {G' : Hp} (HR : gRet E X cX4_keepIfBetter none 0 0 none G') {l0 : Nat} {l1 : Int32} {l2 : Int32} (hf : f_Pl_keepIfBetter G l0 l1 l2 = some G') : gV E X 0 0 G 0 [some (.ref (E.2.1 + l0)), some (.int l1), some (.int l2), none] [] := by
  unfold f_Pl_keepIfBetter at hf
  refine g_aload_n C dX4_keepIfBetter_0 rfl ?_
  refine g_iload_n C dX4_keepIfBetter_1 rfl ?_
  refine g_iload_n C dX4_keepIfBetter_2 rfl ?_
  obtain ⟨x1, hg, h1, hf⟩ := vP_ok hf
  refine g_invV (As := [.int l1, .int l2]) (st := []) C (c_Pl_isNoBetter E h1) (rfl : vwCl[4]? = some (y_Pl_isNoBetter.cls, TX4, 13)) (by decide) hg ml_Pl_101 cm_Pl_isNoBetter.1 cm_Pl_isNoBetter.2.1 cm_Pl_isNoBetter.2.2.1 cm_Pl_isNoBetter.2.2.2.1 cm_Pl_isNoBetter.2.2.2.2 rfl ⟨by omega, by omega, by omega, by omega⟩ (by exact Nat.le_of_ble_eq_true rfl) rfl dX4_keepIfBetter_3 ?_
  refine g_if_eq (tgt := 10) C dX4_keepIfBetter_6 (by decide) (fun hc => ?_) (fun hc => ?_)
  · have hf := iteT hf hc
    refine g_aload_n C dX4_keepIfBetter_10 rfl ?_
    refine g_iload_n C dX4_keepIfBetter_11 rfl ?_
    obtain ⟨G2, hG2, hg, hf⟩ := pI_ok hf
    refine e_putI C fl_Pl_78 dX4_keepIfBetter_12 hG2 hg (Or.inl rfl) rfl rfl ?_
    refine g_aload_n C dX4_keepIfBetter_15 rfl ?_
    refine g_iload_n C dX4_keepIfBetter_16 rfl ?_
    obtain ⟨G3, hG3, hg, hf⟩ := pI_ok hf
    refine e_putI C fl_Pl_81 dX4_keepIfBetter_17 hG3 hg (Or.inl rfl) rfl rfl ?_
    refine g_iconst (v := (0 : Int32)) C dX4_keepIfBetter_20 (by decide) ?_
    refine g_istore_n (lv' := [some (.ref (E.2.1 + l0)), some (.int l1), some (.int l2), some (.int (0 : Int32))]) C dX4_keepIfBetter_21 (by decide) rfl ?_
    refine g_sub (lv' := [some (.ref (E.2.1 + l0)), none, none, some (.int (0 : Int32))]) ⟨rfl, ⟨rfl, trivial⟩⟩ ?_
    exact l_Pl_keepIfBetter_b22 C HR  FU hf
  · have hf := iteF hf hc
    obtain rfl := rP_ok hf
    exact g_vret HR dX4_keepIfBetter_9
theorem c_Pl_keepIfBetter (E : EE) {G : Hp} {l0 : Nat} {l1 : Int32} {l2 : Int32} {G' : Hp} (h : f_Pl_keepIfBetter G l0 l1 l2 = some G') : gCt E y_Pl_keepIfBetter cX4_keepIfBetter 4 none 1 22 0 0 [.ref (E.2.1 + l0), .int l1, .int l2] G none G' := gCt_of (own := "FavoursGoOff$Plan") (ini := false) [some (.ref (E.2.1 + l0)), some (.int l1), some (.int l2), none] (by decide +kernel) rfl (fun h => by cases h) (Nat.le_of_ble_eq_true rfl) ⟨rfl, ⟨rfl, ⟨rfl, trivial⟩⟩⟩ (fun X C HR => l_Pl_keepIfBetter C HR h)
set_option maxRecDepth 20000 in
theorem l_Pl_search_b12 {E : EE} {X : CT} {G : Hp} {rr : Nat} (C : gCx E X cX4_search "FavoursGoOff$Plan" none (3 + (rr + 1)) (70 + 60 * (rr + 1)) 0 0 false 9) {G' : Hp} (HR : gRet E X cX4_search none 0 0 none G') {sf : Hp → Nat → Int32 → Int32 → Int32 → Int32 → Option Hp} (Sf : ∀ {G : Hp} {l0 : Nat} {l1 : Int32} {l2 : Int32} {l3 : Int32} {l4 : Int32} {G' : Hp}, sf G l0 l1 l2 l3 l4 = some G' → gCt E y_Pl_search cX4_search 9 none (3 + rr) (70 + 60 * rr) 0 0 [.ref (E.2.1 + l0), .int l1, .int l2, .int l3, .int l4] G none G') {l0 : Nat} {l3 : Int32} {l4 : Int32} (hf : f_Pl_search_b12 sf G l0 l3 l4 = some G') : gV E X 0 0 G 12 [some (.ref (E.2.1 + l0)), none, none, some (.int l3), some (.int l4), none, none, none, none] [] := by
  unfold f_Pl_search_b12 at hf
  refine g_aload_n C dX4_search_12 rfl ?_
  refine g_iload_n C dX4_search_13 rfl ?_
  refine g_iload C dX4_search_14 rfl ?_
  obtain ⟨G1, hg, h1, hf⟩ := vP_ok hf
  refine g_invV (As := [.int l3, .int l4]) (st := []) C (c_Pl_keepIfBetter E h1) (rfl : vwCl[4]? = some (y_Pl_keepIfBetter.cls, TX4, 13)) (by decide) hg ml_Pl_98 cm_Pl_keepIfBetter.1 cm_Pl_keepIfBetter.2.1 cm_Pl_keepIfBetter.2.2.1 cm_Pl_keepIfBetter.2.2.2.1 cm_Pl_keepIfBetter.2.2.2.2 rfl ⟨by omega, by omega, by omega, by omega⟩ (by exact Nat.le_of_ble_eq_true rfl) rfl dX4_search_16 ?_
  obtain rfl := rP_ok hf
  exact g_vret HR dX4_search_19
set_option maxRecDepth 20000 in
theorem l_Pl_search_b190 {E : EE} {X : CT} {G : Hp} {rr : Nat} (C : gCx E X cX4_search "FavoursGoOff$Plan" none (3 + (rr + 1)) (70 + 60 * (rr + 1)) 0 0 false 9) {G' : Hp} (HR : gRet E X cX4_search none 0 0 none G') {sf : Hp → Nat → Int32 → Int32 → Int32 → Int32 → Option Hp} (Sf : ∀ {G : Hp} {l0 : Nat} {l1 : Int32} {l2 : Int32} {l3 : Int32} {l4 : Int32} {G' : Hp}, sf G l0 l1 l2 l3 l4 = some G' → gCt E y_Pl_search cX4_search 9 none (3 + rr) (70 + 60 * rr) 0 0 [.ref (E.2.1 + l0), .int l1, .int l2, .int l3, .int l4] G none G') {k56 : Hp → Nat → Int32 → Int32 → Int32 → Int32 → Int32 → Int32 → Option Hp} (K56 : ∀ {G : Hp} {l0 : Nat} {l1 : Int32} {l2 : Int32} {l3 : Int32} {l4 : Int32} {l5 : Int32} {l6 : Int32}, k56 G l0 l1 l2 l3 l4 l5 l6 = some G' → gV E X 0 0 G 56 [some (.ref (E.2.1 + l0)), some (.int l1), some (.int l2), some (.int l3), some (.int l4), some (.int l5), some (.int l6), none, none] []) {l0 : Nat} {l1 : Int32} {l2 : Int32} {l3 : Int32} {l4 : Int32} {l5 : Int32} {l6 : Int32} (hf : f_Pl_search_b190 sf k56 G l0 l1 l2 l3 l4 l5 l6 = some G') : gV E X 0 0 G 190 [some (.ref (E.2.1 + l0)), some (.int l1), some (.int l2), some (.int l3), some (.int l4), some (.int l5), some (.int l6), none, none] [] := by
  unfold f_Pl_search_b190 at hf
  refine g_iinc (v := (l6 + 1)) (lv' := [some (.ref (E.2.1 + l0)), some (.int l1), some (.int l2), some (.int l3), some (.int l4), some (.int l5), some (.int (l6 + 1)), none, none]) C dX4_search_190 (by decide) rfl rfl rfl ?_
  refine g_goto (tgt := 56) C dX4_search_193 (by decide) ?_
  refine g_sub (lv' := [some (.ref (E.2.1 + l0)), some (.int l1), some (.int l2), some (.int l3), some (.int l4), some (.int l5), some (.int (l6 + 1)), none, none]) ⟨rfl, ⟨rfl, ⟨rfl, ⟨rfl, ⟨rfl, ⟨rfl, ⟨rfl, trivial⟩⟩⟩⟩⟩⟩⟩ ?_
  exact K56 hf
set_option maxRecDepth 20000 in
theorem l_Pl_search_b96 {E : EE} {X : CT} {G : Hp} {rr : Nat} (C : gCx E X cX4_search "FavoursGoOff$Plan" none (3 + (rr + 1)) (70 + 60 * (rr + 1)) 0 0 false 9) {G' : Hp} (HR : gRet E X cX4_search none 0 0 none G') {sf : Hp → Nat → Int32 → Int32 → Int32 → Int32 → Option Hp} (Sf : ∀ {G : Hp} {l0 : Nat} {l1 : Int32} {l2 : Int32} {l3 : Int32} {l4 : Int32} {G' : Hp}, sf G l0 l1 l2 l3 l4 = some G' → gCt E y_Pl_search cX4_search 9 none (3 + rr) (70 + 60 * rr) 0 0 [.ref (E.2.1 + l0), .int l1, .int l2, .int l3, .int l4] G none G') {k56 : Hp → Nat → Int32 → Int32 → Int32 → Int32 → Int32 → Int32 → Option Hp} (K56 : ∀ {G : Hp} {l0 : Nat} {l1 : Int32} {l2 : Int32} {l3 : Int32} {l4 : Int32} {l5 : Int32} {l6 : Int32}, k56 G l0 l1 l2 l3 l4 l5 l6 = some G' → gV E X 0 0 G 56 [some (.ref (E.2.1 + l0)), some (.int l1), some (.int l2), some (.int l3), some (.int l4), some (.int l5), some (.int l6), none, none] []) {l0 : Nat} {l1 : Int32} {l2 : Int32} {l3 : Int32} {l4 : Int32} {l5 : Int32} {l6 : Int32} {l7 : Int32} {s0 : Int32} (hf : f_Pl_search_b96 sf k56 G l0 l1 l2 l3 l4 l5 l6 l7 s0 = some G') : gV E X 0 0 G 96 [some (.ref (E.2.1 + l0)), some (.int l1), some (.int l2), some (.int l3), some (.int l4), some (.int l5), some (.int l6), some (.int l7), none] [.int s0] := by
  unfold f_Pl_search_b96 at hf
  refine g_istore (lv' := [some (.ref (E.2.1 + l0)), some (.int l1), some (.int l2), some (.int l3), some (.int l4), some (.int l5), some (.int l6), some (.int l7), some (.int s0)]) C dX4_search_96 (by decide) rfl ?_
  refine g_iload C dX4_search_98 rfl ?_
  refine g_if_eq (tgt := 190) C dX4_search_100 (by decide) (fun hc => ?_) (fun hc => ?_)
  · have hf := iteT hf hc
    refine g_sub (lv' := [some (.ref (E.2.1 + l0)), some (.int l1), some (.int l2), some (.int l3), some (.int l4), some (.int l5), some (.int l6), none, none]) ⟨rfl, ⟨rfl, ⟨rfl, ⟨rfl, ⟨rfl, ⟨rfl, ⟨rfl, trivial⟩⟩⟩⟩⟩⟩⟩ ?_
    exact l_Pl_search_b190 C HR Sf K56 hf
  · have hf := iteF hf hc
    refine g_iload C dX4_search_103 rfl ?_
    refine g_aload_n C dX4_search_105 rfl ?_
    obtain ⟨x1, hg, hf⟩ := gR_ok hf
    refine g_getR C fl_Pl_24 dX4_search_106 hg ?_
    refine g_iload C dX4_search_109 rfl ?_
    refine g_aload_n C dX4_search_111 rfl ?_
    obtain ⟨x2, hg, hf⟩ := gR_ok hf
    refine g_getR C fl_Pl_31 dX4_search_112 hg ?_
    refine g_iload C dX4_search_115 rfl ?_
    obtain ⟨x3, hx3, hg, hf⟩ := aI_ok hf
    refine e_iald C dX4_search_117 hx3 hg ?_
    obtain ⟨x4, hg, h1, hf⟩ := vP_ok hf
    refine g_invV (As := [.int l5, .int x3]) (st := [.int l7]) C (c_Ta_at E h1) (rfl : vwCl[7]? = some (y_Ta_at.cls, TX7, 3)) (by decide) hg ml_Pl_68 cm_Ta_at.1 cm_Ta_at.2.1 cm_Ta_at.2.2.1 cm_Ta_at.2.2.2.1 cm_Ta_at.2.2.2.2 rfl ⟨by omega, by omega, by omega, by omega⟩ (by exact Nat.le_of_ble_eq_true rfl) rfl dX4_search_118 ?_
    refine g_icmp_gt (tgt := 190) C dX4_search_121 (by decide) (fun hc => ?_) (fun hc => ?_)
    · have hf := iteT hf hc
      refine g_sub (lv' := [some (.ref (E.2.1 + l0)), some (.int l1), some (.int l2), some (.int l3), some (.int l4), some (.int l5), some (.int l6), none, none]) ⟨rfl, ⟨rfl, ⟨rfl, ⟨rfl, ⟨rfl, ⟨rfl, ⟨rfl, trivial⟩⟩⟩⟩⟩⟩⟩ ?_
      exact l_Pl_search_b190 C HR Sf K56 hf
    · have hf := iteF hf hc
      refine g_aload_n C dX4_search_124 rfl ?_
      obtain ⟨x5, hg, hf⟩ := gR_ok hf
      refine g_getR C fl_Pl_24 dX4_search_125 hg ?_
      refine g_iload C dX4_search_128 rfl ?_
      refine g_aload_n C dX4_search_130 rfl ?_
      obtain ⟨x6, hg, hf⟩ := gR_ok hf
      refine g_getR C fl_Pl_31 dX4_search_131 hg ?_
      refine g_iload C dX4_search_134 rfl ?_
      obtain ⟨x7, hx7, hg, hf⟩ := aI_ok hf
      refine e_iald C dX4_search_136 hx7 hg ?_
      refine g_iload C dX4_search_137 rfl ?_
      refine g_ineg C dX4_search_139 ?_
      obtain ⟨G8, hg, h1, hf⟩ := vP_ok hf
      refine g_invV (As := [.int l5, .int x7, .int (-l7)]) (st := []) C (c_Ta_more E h1) (rfl : vwCl[7]? = some (y_Ta_more.cls, TX7, 3)) (by decide) hg ml_Pl_105 cm_Ta_more.1 cm_Ta_more.2.1 cm_Ta_more.2.2.1 cm_Ta_more.2.2.2.1 cm_Ta_more.2.2.2.2 rfl ⟨by omega, by omega, by omega, by omega⟩ (by exact Nat.le_of_ble_eq_true rfl) rfl dX4_search_140 ?_
      refine g_aload_n C dX4_search_143 rfl ?_
      obtain ⟨x9, hg, hf⟩ := gR_ok hf
      refine g_getR C fl_Pl_40 dX4_search_144 hg ?_
      refine g_iload_n C dX4_search_147 rfl ?_
      refine g_iload C dX4_search_148 rfl ?_
      obtain ⟨G10, hG10, hg, hf⟩ := sI_ok hf
      refine e_iast C dX4_search_150 hG10 hg ?_
      refine g_aload_n C dX4_search_151 rfl ?_
      refine g_iload_n C dX4_search_152 rfl ?_
      refine g_iconst (v := (1 : Int32)) C dX4_search_153 (by decide) ?_
      refine g_iadd C dX4_search_154 ?_
      refine g_iload_n C dX4_search_155 rfl ?_
      refine g_iconst (v := (1 : Int32)) C dX4_search_156 (by decide) ?_
      refine g_iload C dX4_search_157 rfl ?_
      refine g_ishl C dX4_search_159 ?_
      refine g_ior C dX4_search_160 ?_
      refine g_iload_n C dX4_search_161 rfl ?_
      refine g_iconst (v := (1 : Int32)) C dX4_search_162 (by decide) ?_
      refine g_iadd C dX4_search_163 ?_
      refine g_iload C dX4_search_164 rfl ?_
      refine g_iload C dX4_search_166 rfl ?_
      refine g_iadd C dX4_search_168 ?_
      obtain ⟨G11, h1, hf⟩ := cP_ok hf
      refine g_invS (As := [.ref (E.2.1 + l0), .int (l1 + (1 : Int32)), .int (l2 ||| ((1 : Int32) <<< (l6 &&& 31))), .int (l3 + (1 : Int32)), .int (l4 + l7)]) (st := []) C (Sf h1) ml_Pl_84 cm_Pl_search.1 cm_Pl_search.2.1 cm_Pl_search.2.2.1 cm_Pl_search.2.2.2 rfl ⟨by omega, by omega, by omega, by omega⟩ (by exact Nat.le_of_ble_eq_true rfl) rfl dX4_search_169 ?_
      refine g_aload_n C dX4_search_172 rfl ?_
      obtain ⟨x12, hg, hf⟩ := gR_ok hf
      refine g_getR C fl_Pl_24 dX4_search_173 hg ?_
      refine g_iload C dX4_search_176 rfl ?_
      refine g_aload_n C dX4_search_178 rfl ?_
      obtain ⟨x13, hg, hf⟩ := gR_ok hf
      refine g_getR C fl_Pl_31 dX4_search_179 hg ?_
      refine g_iload C dX4_search_182 rfl ?_
      obtain ⟨x14, hx14, hg, hf⟩ := aI_ok hf
      refine e_iald C dX4_search_184 hx14 hg ?_
      refine g_iload C dX4_search_185 rfl ?_
      obtain ⟨G15, hg, h1, hf⟩ := vP_ok hf
      refine g_invV (As := [.int l5, .int x14, .int l7]) (st := []) C (c_Ta_more E h1) (rfl : vwCl[7]? = some (y_Ta_more.cls, TX7, 3)) (by decide) hg ml_Pl_105 cm_Ta_more.1 cm_Ta_more.2.1 cm_Ta_more.2.2.1 cm_Ta_more.2.2.2.1 cm_Ta_more.2.2.2.2 rfl ⟨by omega, by omega, by omega, by omega⟩ (by exact Nat.le_of_ble_eq_true rfl) rfl dX4_search_187 ?_
      refine g_sub (lv' := [some (.ref (E.2.1 + l0)), some (.int l1), some (.int l2), some (.int l3), some (.int l4), some (.int l5), some (.int l6), none, none]) ⟨rfl, ⟨rfl, ⟨rfl, ⟨rfl, ⟨rfl, ⟨rfl, ⟨rfl, trivial⟩⟩⟩⟩⟩⟩⟩ ?_
      exact l_Pl_search_b190 C HR Sf K56 hf
set_option maxRecDepth 20000 in
theorem l_Pl_search_b95 {E : EE} {X : CT} {G : Hp} {rr : Nat} (C : gCx E X cX4_search "FavoursGoOff$Plan" none (3 + (rr + 1)) (70 + 60 * (rr + 1)) 0 0 false 9) {G' : Hp} (HR : gRet E X cX4_search none 0 0 none G') {sf : Hp → Nat → Int32 → Int32 → Int32 → Int32 → Option Hp} (Sf : ∀ {G : Hp} {l0 : Nat} {l1 : Int32} {l2 : Int32} {l3 : Int32} {l4 : Int32} {G' : Hp}, sf G l0 l1 l2 l3 l4 = some G' → gCt E y_Pl_search cX4_search 9 none (3 + rr) (70 + 60 * rr) 0 0 [.ref (E.2.1 + l0), .int l1, .int l2, .int l3, .int l4] G none G') {k56 : Hp → Nat → Int32 → Int32 → Int32 → Int32 → Int32 → Int32 → Option Hp} (K56 : ∀ {G : Hp} {l0 : Nat} {l1 : Int32} {l2 : Int32} {l3 : Int32} {l4 : Int32} {l5 : Int32} {l6 : Int32}, k56 G l0 l1 l2 l3 l4 l5 l6 = some G' → gV E X 0 0 G 56 [some (.ref (E.2.1 + l0)), some (.int l1), some (.int l2), some (.int l3), some (.int l4), some (.int l5), some (.int l6), none, none] []) {l0 : Nat} {l1 : Int32} {l2 : Int32} {l3 : Int32} {l4 : Int32} {l5 : Int32} {l6 : Int32} {l7 : Int32} (hf : f_Pl_search_b95 sf k56 G l0 l1 l2 l3 l4 l5 l6 l7 = some G') : gV E X 0 0 G 95 [some (.ref (E.2.1 + l0)), some (.int l1), some (.int l2), some (.int l3), some (.int l4), some (.int l5), some (.int l6), some (.int l7), none] [] := by
  unfold f_Pl_search_b95 at hf
  refine g_iconst (v := (0 : Int32)) C dX4_search_95 (by decide) ?_
  refine g_sub (lv' := [some (.ref (E.2.1 + l0)), some (.int l1), some (.int l2), some (.int l3), some (.int l4), some (.int l5), some (.int l6), some (.int l7), none]) ⟨rfl, ⟨rfl, ⟨rfl, ⟨rfl, ⟨rfl, ⟨rfl, ⟨rfl, ⟨rfl, trivial⟩⟩⟩⟩⟩⟩⟩⟩ ?_
  exact l_Pl_search_b96 C HR Sf K56 hf
set_option maxRecDepth 20000 in
theorem l_Pl_search_b56k {E : EE} {X : CT} {G : Hp} {rr : Nat} (C : gCx E X cX4_search "FavoursGoOff$Plan" none (3 + (rr + 1)) (70 + 60 * (rr + 1)) 0 0 false 9) {G' : Hp} (HR : gRet E X cX4_search none 0 0 none G') {sf : Hp → Nat → Int32 → Int32 → Int32 → Int32 → Option Hp} (Sf : ∀ {G : Hp} {l0 : Nat} {l1 : Int32} {l2 : Int32} {l3 : Int32} {l4 : Int32} {G' : Hp}, sf G l0 l1 l2 l3 l4 = some G' → gCt E y_Pl_search cX4_search 9 none (3 + rr) (70 + 60 * rr) 0 0 [.ref (E.2.1 + l0), .int l1, .int l2, .int l3, .int l4] G none G') {k56 : Hp → Nat → Int32 → Int32 → Int32 → Int32 → Int32 → Int32 → Option Hp} (K56 : ∀ {G : Hp} {l0 : Nat} {l1 : Int32} {l2 : Int32} {l3 : Int32} {l4 : Int32} {l5 : Int32} {l6 : Int32}, k56 G l0 l1 l2 l3 l4 l5 l6 = some G' → gV E X 0 0 G 56 [some (.ref (E.2.1 + l0)), some (.int l1), some (.int l2), some (.int l3), some (.int l4), some (.int l5), some (.int l6), none, none] []) {l0 : Nat} {l1 : Int32} {l2 : Int32} {l3 : Int32} {l4 : Int32} {l5 : Int32} {l6 : Int32} (hf : f_Pl_search_b56_k sf k56 G l0 l1 l2 l3 l4 l5 l6 = some G') : gV E X 0 0 G 56 [some (.ref (E.2.1 + l0)), some (.int l1), some (.int l2), some (.int l3), some (.int l4), some (.int l5), some (.int l6), none, none] [] := by
  unfold f_Pl_search_b56_k at hf
  refine g_iload C dX4_search_56 rfl ?_
  refine g_aload_n C dX4_search_58 rfl ?_
  obtain ⟨x1, hx1, hg, hf⟩ := gI_ok hf
  refine e_getI C fl_Pl_66 dX4_search_59 hx1 hg ?_
  refine g_icmp_ge (tgt := 196) C dX4_search_62 (by decide) (fun hc => ?_) (fun hc => ?_)
  · have hf := iteT hf hc
    refine g_aload_n C dX4_search_196 rfl ?_
    obtain ⟨x2, hg, hf⟩ := gR_ok hf
    refine g_getR C fl_Pl_40 dX4_search_197 hg ?_
    refine g_iload_n C dX4_search_200 rfl ?_
    refine g_iconst (v := (-1 : Int32)) C dX4_search_201 (by decide) ?_
    obtain ⟨G3, hG3, hg, hf⟩ := sI_ok hf
    refine e_iast C dX4_search_202 hG3 hg ?_
    refine g_aload_n C dX4_search_203 rfl ?_
    refine g_iload_n C dX4_search_204 rfl ?_
    refine g_iconst (v := (1 : Int32)) C dX4_search_205 (by decide) ?_
    refine g_iadd C dX4_search_206 ?_
    refine g_iload_n C dX4_search_207 rfl ?_
    refine g_iload_n C dX4_search_208 rfl ?_
    refine g_iload C dX4_search_209 rfl ?_
    obtain ⟨G4, h1, hf⟩ := cP_ok hf
    refine g_invS (As := [.ref (E.2.1 + l0), .int (l1 + (1 : Int32)), .int l2, .int l3, .int l4]) (st := []) C (Sf h1) ml_Pl_84 cm_Pl_search.1 cm_Pl_search.2.1 cm_Pl_search.2.2.1 cm_Pl_search.2.2.2 rfl ⟨by omega, by omega, by omega, by omega⟩ (by exact Nat.le_of_ble_eq_true rfl) rfl dX4_search_211 ?_
    obtain rfl := rP_ok hf
    exact g_vret HR dX4_search_214
  · have hf := iteF hf hc
    refine g_aload_n C dX4_search_65 rfl ?_
    obtain ⟨x5, hg, hf⟩ := gR_ok hf
    refine g_getR C fl_Pl_20 dX4_search_66 hg ?_
    refine g_iload_n C dX4_search_69 rfl ?_
    refine g_iload C dX4_search_70 rfl ?_
    obtain ⟨x6, hg, h1, hf⟩ := vP_ok hf
    refine g_invV (As := [.int l1, .int l6]) (st := []) C (c_Ta_at E h1) (rfl : vwCl[7]? = some (y_Ta_at.cls, TX7, 3)) (by decide) hg ml_Pl_68 cm_Ta_at.1 cm_Ta_at.2.1 cm_Ta_at.2.2.1 cm_Ta_at.2.2.2.1 cm_Ta_at.2.2.2.2 rfl ⟨by omega, by omega, by omega, by omega⟩ (by exact Nat.le_of_ble_eq_true rfl) rfl dX4_search_72 ?_
    refine g_istore (lv' := [some (.ref (E.2.1 + l0)), some (.int l1), some (.int l2), some (.int l3), some (.int l4), some (.int l5), some (.int l6), some (.int x6), none]) C dX4_search_75 (by decide) rfl ?_
    refine g_iload C dX4_search_77 rfl ?_
    refine g_if_le (tgt := 95) C dX4_search_79 (by decide) (fun hc => ?_) (fun hc => ?_)
    · have hf := iteT hf hc
      refine g_sub (lv' := [some (.ref (E.2.1 + l0)), some (.int l1), some (.int l2), some (.int l3), some (.int l4), some (.int l5), some (.int l6), some (.int x6), none]) ⟨rfl, ⟨rfl, ⟨rfl, ⟨rfl, ⟨rfl, ⟨rfl, ⟨rfl, ⟨rfl, trivial⟩⟩⟩⟩⟩⟩⟩⟩ ?_
      exact l_Pl_search_b95 C HR Sf K56 hf
    · have hf := iteF hf hc
      refine g_iload_n C dX4_search_82 rfl ?_
      refine g_iconst (v := (1 : Int32)) C dX4_search_83 (by decide) ?_
      refine g_iload C dX4_search_84 rfl ?_
      refine g_ishl C dX4_search_86 ?_
      refine g_iand C dX4_search_87 ?_
      refine g_if_ne (tgt := 95) C dX4_search_88 (by decide) (fun hc => ?_) (fun hc => ?_)
      · have hf := iteF hf hc
        refine g_sub (lv' := [some (.ref (E.2.1 + l0)), some (.int l1), some (.int l2), some (.int l3), some (.int l4), some (.int l5), some (.int l6), some (.int x6), none]) ⟨rfl, ⟨rfl, ⟨rfl, ⟨rfl, ⟨rfl, ⟨rfl, ⟨rfl, ⟨rfl, trivial⟩⟩⟩⟩⟩⟩⟩⟩ ?_
        exact l_Pl_search_b95 C HR Sf K56 hf
      · have hf := iteT hf hc
        refine g_iconst (v := (1 : Int32)) C dX4_search_91 (by decide) ?_
        refine g_goto (tgt := 96) C dX4_search_92 (by decide) ?_
        refine g_sub (lv' := [some (.ref (E.2.1 + l0)), some (.int l1), some (.int l2), some (.int l3), some (.int l4), some (.int l5), some (.int l6), some (.int x6), none]) ⟨rfl, ⟨rfl, ⟨rfl, ⟨rfl, ⟨rfl, ⟨rfl, ⟨rfl, ⟨rfl, trivial⟩⟩⟩⟩⟩⟩⟩⟩ ?_
        exact l_Pl_search_b96 C HR Sf K56 hf
theorem l_Pl_search_b56 {E : EE} {X : CT} {rr : Nat} (C : gCx E X cX4_search "FavoursGoOff$Plan" none (3 + (rr + 1)) (70 + 60 * (rr + 1)) 0 0 false 9) {G' : Hp} (HR : gRet E X cX4_search none 0 0 none G') {sf : Hp → Nat → Int32 → Int32 → Int32 → Int32 → Option Hp} (Sf : ∀ {G : Hp} {l0 : Nat} {l1 : Int32} {l2 : Int32} {l3 : Int32} {l4 : Int32} {G' : Hp}, sf G l0 l1 l2 l3 l4 = some G' → gCt E y_Pl_search cX4_search 9 none (3 + rr) (70 + 60 * rr) 0 0 [.ref (E.2.1 + l0), .int l1, .int l2, .int l3, .int l4] G none G') : ∀ (nn : Nat) {G : Hp} {l0 : Nat} {l1 : Int32} {l2 : Int32} {l3 : Int32} {l4 : Int32} {l5 : Int32} {l6 : Int32}, f_Pl_search_b56 sf nn G l0 l1 l2 l3 l4 l5 l6 = some G' → gV E X 0 0 G 56 [some (.ref (E.2.1 + l0)), some (.int l1), some (.int l2), some (.int l3), some (.int l4), some (.int l5), some (.int l6), none, none] []
  | 0, _, _, _, _, _, _, _, _, hf => by have h0 : (none : Option Hp) = some G' := hf; cases h0
  | nn + 1, _, _, _, _, _, _, _, _, hf => l_Pl_search_b56k C HR Sf (fun h => l_Pl_search_b56 C HR Sf nn h) hf
set_option maxRecDepth 20000 in
theorem l_Pl_search {E : EE} {X : CT} {G : Hp} {rr : Nat} (C : gCx E X cX4_search "FavoursGoOff$Plan" none (3 + (rr + 1)) (70 + 60 * (rr + 1)) 0 0 false 9) {G' : Hp} (HR : gRet E X cX4_search none 0 0 none G') {sf : Hp → Nat → Int32 → Int32 → Int32 → Int32 → Option Hp} (Sf : ∀ {G : Hp} {l0 : Nat} {l1 : Int32} {l2 : Int32} {l3 : Int32} {l4 : Int32} {G' : Hp}, sf G l0 l1 l2 l3 l4 = some G' → gCt E y_Pl_search cX4_search 9 none (3 + rr) (70 + 60 * rr) 0 0 [.ref (E.2.1 + l0), .int l1, .int l2, .int l3, .int l4] G none G') {l0 : Nat} {l1 : Int32} {l2 : Int32} {l3 : Int32} {l4 : Int32} (hf : f_Pl_search_r sf G l0 l1 l2 l3 l4 = some G') : gV E X 0 0 G 0 [some (.ref (E.2.1 + l0)), some (.int l1), some (.int l2), some (.int l3), some (.int l4), none, none, none, none] [] := by
  unfold f_Pl_search_r at hf
  refine g_iload_n C dX4_search_0 rfl ?_
  refine g_if_lt (tgt := 12) C dX4_search_1 (by decide) (fun hc => ?_) (fun hc => ?_)
  · have hf := iteT hf hc
    refine g_sub (lv' := [some (.ref (E.2.1 + l0)), none, none, some (.int l3), some (.int l4), none, none, none, none]) ⟨rfl, ⟨rfl, ⟨rfl, trivial⟩⟩⟩ ?_
    exact l_Pl_search_b12 C HR Sf hf
  · have hf := iteF hf hc
    refine g_iload_n C dX4_search_4 rfl ?_
    refine g_aload_n C dX4_search_5 rfl ?_
    obtain ⟨x1, hx1, hg, hf⟩ := gI_ok hf
    refine e_getI C fl_Pl_61 dX4_search_6 hx1 hg ?_
    refine g_icmp_lt (tgt := 20) C dX4_search_9 (by decide) (fun hc => ?_) (fun hc => ?_)
    · have hf := iteT hf hc
      refine g_aload_n C dX4_search_20 rfl ?_
      refine g_iload_n C dX4_search_21 rfl ?_
      refine g_aload_n C dX4_search_22 rfl ?_
      obtain ⟨x2, hg, hf⟩ := gR_ok hf
      refine g_getR C fl_Pl_34 dX4_search_23 hg ?_
      refine g_iload_n C dX4_search_26 rfl ?_
      obtain ⟨x3, hx3, hg, hf⟩ := aI_ok hf
      refine e_iald C dX4_search_27 hx3 hg ?_
      refine g_iadd C dX4_search_28 ?_
      refine g_iload C dX4_search_29 rfl ?_
      refine g_aload_n C dX4_search_31 rfl ?_
      obtain ⟨x4, hg, hf⟩ := gR_ok hf
      refine g_getR C fl_Pl_37 dX4_search_32 hg ?_
      refine g_iload_n C dX4_search_35 rfl ?_
      obtain ⟨x5, hx5, hg, hf⟩ := aI_ok hf
      refine e_iald C dX4_search_36 hx5 hg ?_
      refine g_iadd C dX4_search_37 ?_
      obtain ⟨x6, hg, h1, hf⟩ := vP_ok hf
      refine g_invV (As := [.int (l3 + x3), .int (l4 + x5)]) (st := []) C (c_Pl_isNoBetter E h1) (rfl : vwCl[4]? = some (y_Pl_isNoBetter.cls, TX4, 13)) (by decide) hg ml_Pl_101 cm_Pl_isNoBetter.1 cm_Pl_isNoBetter.2.1 cm_Pl_isNoBetter.2.2.1 cm_Pl_isNoBetter.2.2.2.1 cm_Pl_isNoBetter.2.2.2.2 rfl ⟨by omega, by omega, by omega, by omega⟩ (by exact Nat.le_of_ble_eq_true rfl) rfl dX4_search_38 ?_
      refine g_if_eq (tgt := 45) C dX4_search_41 (by decide) (fun hc => ?_) (fun hc => ?_)
      · have hf := iteT hf hc
        refine g_aload_n C dX4_search_45 rfl ?_
        obtain ⟨x7, hg, hf⟩ := gR_ok hf
        refine g_getR C fl_Pl_27 dX4_search_46 hg ?_
        refine g_iload_n C dX4_search_49 rfl ?_
        obtain ⟨x8, hx8, hg, hf⟩ := aI_ok hf
        refine e_iald C dX4_search_50 hx8 hg ?_
        refine g_istore (lv' := [some (.ref (E.2.1 + l0)), some (.int l1), some (.int l2), some (.int l3), some (.int l4), some (.int x8), none, none, none]) C dX4_search_51 (by decide) rfl ?_
        refine g_iconst (v := (0 : Int32)) C dX4_search_53 (by decide) ?_
        refine g_istore (lv' := [some (.ref (E.2.1 + l0)), some (.int l1), some (.int l2), some (.int l3), some (.int l4), some (.int x8), some (.int (0 : Int32)), none, none]) C dX4_search_54 (by decide) rfl ?_
        refine g_sub (lv' := [some (.ref (E.2.1 + l0)), some (.int l1), some (.int l2), some (.int l3), some (.int l4), some (.int x8), some (.int (0 : Int32)), none, none]) ⟨rfl, ⟨rfl, ⟨rfl, ⟨rfl, ⟨rfl, ⟨rfl, ⟨rfl, trivial⟩⟩⟩⟩⟩⟩⟩ ?_
        exact l_Pl_search_b56 C HR Sf FU hf
      · have hf := iteF hf hc
        obtain rfl := rP_ok hf
        exact g_vret HR dX4_search_44
    · have hf := iteF hf hc
      refine g_sub (lv' := [some (.ref (E.2.1 + l0)), none, none, some (.int l3), some (.int l4), none, none, none, none]) ⟨rfl, ⟨rfl, ⟨rfl, trivial⟩⟩⟩ ?_
      exact l_Pl_search_b12 C HR Sf hf
theorem c_Pl_search (E : EE) : ∀ (nn : Nat) {G : Hp} {l0 : Nat} {l1 : Int32} {l2 : Int32} {l3 : Int32} {l4 : Int32} {G' : Hp} , f_Pl_search nn G l0 l1 l2 l3 l4 = some G' → gCt E y_Pl_search cX4_search 9 none (3 + nn) (70 + 60 * nn) 0 0 [.ref (E.2.1 + l0), .int l1, .int l2, .int l3, .int l4] G none G'
  | 0, _, _, _, _, _, _, _, hf => by have h0 : (none : Option Hp) = _ := hf; cases h0
  | nn + 1, G, l0, l1, l2, l3, l4, G', hf => gCt_of (own := "FavoursGoOff$Plan") (ini := false) [some (.ref (E.2.1 + l0)), some (.int l1), some (.int l2), some (.int l3), some (.int l4), none, none, none, none] (by decide +kernel) rfl (fun h => by cases h) (Nat.le_of_ble_eq_true rfl) ⟨rfl, ⟨rfl, ⟨rfl, ⟨rfl, ⟨rfl, trivial⟩⟩⟩⟩⟩ (fun X C HR => l_Pl_search (rr := nn) C HR (fun h => c_Pl_search E nn h) hf)
set_option maxRecDepth 20000 in
theorem l_Pl_make_b94k {E : EE} {X : CT} {G : Hp} (C : gCx E X cX4_make "FavoursGoOff$Plan" none 12 578 0 0 false 3) {G' : Hp} (HR : gRet E X cX4_make none 0 0 none G') {k94 : Hp → Nat → Nat → Int32 → Option Hp} (K94 : ∀ {G : Hp} {l0 : Nat} {l1 : Nat} {l2 : Int32}, k94 G l0 l1 l2 = some G' → gV E X 0 0 G 94 [some (.ref (E.2.1 + l0)), some (.ref (E.2.1 + l1)), some (.int l2)] []) {l0 : Nat} {l1 : Nat} {l2 : Int32} (hf : f_Pl_make_b94_k k94 G l0 l1 l2 = some G') : gV E X 0 0 G 94 [some (.ref (E.2.1 + l0)), some (.ref (E.2.1 + l1)), some (.int l2)] [] := by
  unfold f_Pl_make_b94_k at hf
  refine g_iload_n C dX4_make_94 rfl ?_
  refine g_aload_n C dX4_make_95 rfl ?_
  obtain ⟨x1, hx1, hg, hf⟩ := gI_ok hf
  refine e_getI C fl_Pl_61 dX4_make_96 hx1 hg ?_
  refine g_icmp_ge (tgt := 114) C dX4_make_99 (by decide) (fun hc => ?_) (fun hc => ?_)
  · have hf := iteT hf hc
    refine g_aload_n C dX4_make_114 rfl ?_
    obtain ⟨G2, hg, h1, hf⟩ := vP_ok hf
    refine g_invV (As := []) (st := []) C (c_Pl_lookAhead E h1) (rfl : vwCl[4]? = some (y_Pl_lookAhead.cls, TX4, 13)) (by decide) hg ml_Pl_75 cm_Pl_lookAhead.1 cm_Pl_lookAhead.2.1 cm_Pl_lookAhead.2.2.1 cm_Pl_lookAhead.2.2.2.1 cm_Pl_lookAhead.2.2.2.2 rfl ⟨by omega, by omega, by omega, by omega⟩ (by exact Nat.le_of_ble_eq_true rfl) rfl dX4_make_115 ?_
    refine g_aload_n C dX4_make_118 rfl ?_
    refine g_iconst (v := (-1 : Int32)) C dX4_make_119 (by decide) ?_
    obtain ⟨G3, hG3, hg, hf⟩ := pI_ok hf
    refine e_putI C fl_Pl_78 dX4_make_120 hG3 hg (Or.inl rfl) rfl rfl ?_
    refine g_aload_n C dX4_make_123 rfl ?_
    refine g_iconst (v := (0 : Int32)) C dX4_make_124 (by decide) ?_
    obtain ⟨G4, hG4, hg, hf⟩ := pI_ok hf
    refine e_putI C fl_Pl_81 dX4_make_125 hG4 hg (Or.inl rfl) rfl rfl ?_
    refine g_aload_n C dX4_make_128 rfl ?_
    refine g_iconst (v := (0 : Int32)) C dX4_make_129 (by decide) ?_
    refine g_iconst (v := (0 : Int32)) C dX4_make_130 (by decide) ?_
    refine g_iconst (v := (0 : Int32)) C dX4_make_131 (by decide) ?_
    refine g_iconst (v := (0 : Int32)) C dX4_make_132 (by decide) ?_
    obtain ⟨G5, h1, hf⟩ := cP_ok hf
    refine g_invS (As := [.ref (E.2.1 + l0), .int (0 : Int32), .int (0 : Int32), .int (0 : Int32), .int (0 : Int32)]) (st := []) C (c_Pl_search E 8 h1) ml_Pl_84 cm_Pl_search.1 cm_Pl_search.2.1 cm_Pl_search.2.2.1 cm_Pl_search.2.2.2 rfl ⟨by omega, by omega, by omega, by omega⟩ (by exact Nat.le_of_ble_eq_true rfl) rfl dX4_make_133 ?_
    refine g_aload_n C dX4_make_136 rfl ?_
    refine g_iconst (v := (0 : Int32)) C dX4_make_137 (by decide) ?_
    obtain ⟨G6, hG6, hg, hf⟩ := pI_ok hf
    refine e_putI C fl_Pl_9 dX4_make_138 hG6 hg (Or.inl rfl) (by decide) (by decide) ?_
    obtain rfl := rP_ok hf
    exact g_vret HR dX4_make_141
  · have hf := iteF hf hc
    refine g_aload_n C dX4_make_102 rfl ?_
    refine g_aload_n C dX4_make_103 rfl ?_
    refine g_iload_n C dX4_make_104 rfl ?_
    obtain ⟨G7, hg, h1, hf⟩ := vP_ok hf
    refine g_invV (As := [.ref (E.2.1 + l1), .int l2]) (st := []) C (c_Pl_layOut E h1) (rfl : vwCl[4]? = some (y_Pl_layOut.cls, TX4, 13)) (by decide) hg ml_Pl_71 cm_Pl_layOut.1 cm_Pl_layOut.2.1 cm_Pl_layOut.2.2.1 cm_Pl_layOut.2.2.2.1 cm_Pl_layOut.2.2.2.2 rfl ⟨by omega, by omega, by omega, by omega⟩ (by exact Nat.le_of_ble_eq_true rfl) rfl dX4_make_105 ?_
    refine g_iinc (v := (l2 + 1)) (lv' := [some (.ref (E.2.1 + l0)), some (.ref (E.2.1 + l1)), some (.int (l2 + 1))]) C dX4_make_108 (by decide) rfl rfl rfl ?_
    refine g_goto (tgt := 94) C dX4_make_111 (by decide) ?_
    refine g_sub (lv' := [some (.ref (E.2.1 + l0)), some (.ref (E.2.1 + l1)), some (.int (l2 + 1))]) ⟨rfl, ⟨rfl, ⟨rfl, trivial⟩⟩⟩ ?_
    exact K94 hf
theorem l_Pl_make_b94 {E : EE} {X : CT} (C : gCx E X cX4_make "FavoursGoOff$Plan" none 12 578 0 0 false 3) {G' : Hp} (HR : gRet E X cX4_make none 0 0 none G') : ∀ (nn : Nat) {G : Hp} {l0 : Nat} {l1 : Nat} {l2 : Int32}, f_Pl_make_b94 nn G l0 l1 l2 = some G' → gV E X 0 0 G 94 [some (.ref (E.2.1 + l0)), some (.ref (E.2.1 + l1)), some (.int l2)] []
  | 0, _, _, _, _, hf => by have h0 : (none : Option Hp) = some G' := hf; cases h0
  | nn + 1, _, _, _, _, hf => l_Pl_make_b94k C HR (fun h => l_Pl_make_b94 C HR nn h) hf
set_option maxRecDepth 20000 in
theorem l_Pl_make_b63k {E : EE} {X : CT} {G : Hp} (C : gCx E X cX4_make "FavoursGoOff$Plan" none 12 578 0 0 false 3) {G' : Hp} (HR : gRet E X cX4_make none 0 0 none G') {k63 : Hp → Nat → Nat → Int32 → Option Hp} (K63 : ∀ {G : Hp} {l0 : Nat} {l1 : Nat} {l2 : Int32}, k63 G l0 l1 l2 = some G' → gV E X 0 0 G 63 [some (.ref (E.2.1 + l0)), some (.ref (E.2.1 + l1)), some (.int l2)] []) {l0 : Nat} {l1 : Nat} {l2 : Int32} (hf : f_Pl_make_b63_k k63 G l0 l1 l2 = some G') : gV E X 0 0 G 63 [some (.ref (E.2.1 + l0)), some (.ref (E.2.1 + l1)), some (.int l2)] [] := by
  unfold f_Pl_make_b63_k at hf
  refine g_iload_n C dX4_make_63 rfl ?_
  refine g_aload_n C dX4_make_64 rfl ?_
  obtain ⟨x1, hx1, hg, hf⟩ := gI_ok hf
  refine e_getI C fl_Pl_66 dX4_make_65 hx1 hg ?_
  refine g_icmp_ge (tgt := 92) C dX4_make_68 (by decide) (fun hc => ?_) (fun hc => ?_)
  · have hf := iteT hf hc
    refine g_iconst (v := (0 : Int32)) C dX4_make_92 (by decide) ?_
    refine g_istore_n (lv' := [some (.ref (E.2.1 + l0)), some (.ref (E.2.1 + l1)), some (.int (0 : Int32))]) C dX4_make_93 (by decide) rfl ?_
    refine g_sub (lv' := [some (.ref (E.2.1 + l0)), some (.ref (E.2.1 + l1)), some (.int (0 : Int32))]) ⟨rfl, ⟨rfl, ⟨rfl, trivial⟩⟩⟩ ?_
    exact l_Pl_make_b94 C HR  FU hf
  · have hf := iteF hf hc
    refine g_aload_n C dX4_make_71 rfl ?_
    obtain ⟨x2, hg, hf⟩ := gR_ok hf
    refine g_getR C fl_Pl_31 dX4_make_72 hg ?_
    refine g_iload_n C dX4_make_75 rfl ?_
    refine g_aload_n C dX4_make_76 rfl ?_
    obtain ⟨x3, hg, hf⟩ := gR_ok hf
    refine g_getR C fl_Pl_63 dX4_make_77 hg ?_
    refine g_iload_n C dX4_make_80 rfl ?_
    refine g_iconst (v := (1 : Int32)) C dX4_make_81 (by decide) ?_
    obtain ⟨x4, hg, h1, hf⟩ := vP_ok hf
    refine g_invV (As := [.int l2, .int (1 : Int32)]) (st := [.int l2, .ref (E.2.1 + x2)]) C (c_Ta_at E h1) (rfl : vwCl[7]? = some (y_Ta_at.cls, TX7, 3)) (by decide) hg ml_Pl_68 cm_Ta_at.1 cm_Ta_at.2.1 cm_Ta_at.2.2.1 cm_Ta_at.2.2.2.1 cm_Ta_at.2.2.2.2 rfl ⟨by omega, by omega, by omega, by omega⟩ (by exact Nat.le_of_ble_eq_true rfl) rfl dX4_make_82 ?_
    obtain ⟨G5, hG5, hg, hf⟩ := sI_ok hf
    refine e_iast C dX4_make_85 hG5 hg ?_
    refine g_iinc (v := (l2 + 1)) (lv' := [some (.ref (E.2.1 + l0)), some (.ref (E.2.1 + l1)), some (.int (l2 + 1))]) C dX4_make_86 (by decide) rfl rfl rfl ?_
    refine g_goto (tgt := 63) C dX4_make_89 (by decide) ?_
    refine g_sub (lv' := [some (.ref (E.2.1 + l0)), some (.ref (E.2.1 + l1)), some (.int (l2 + 1))]) ⟨rfl, ⟨rfl, ⟨rfl, trivial⟩⟩⟩ ?_
    exact K63 hf
theorem l_Pl_make_b63 {E : EE} {X : CT} (C : gCx E X cX4_make "FavoursGoOff$Plan" none 12 578 0 0 false 3) {G' : Hp} (HR : gRet E X cX4_make none 0 0 none G') : ∀ (nn : Nat) {G : Hp} {l0 : Nat} {l1 : Nat} {l2 : Int32}, f_Pl_make_b63 nn G l0 l1 l2 = some G' → gV E X 0 0 G 63 [some (.ref (E.2.1 + l0)), some (.ref (E.2.1 + l1)), some (.int l2)] []
  | 0, _, _, _, _, hf => by have h0 : (none : Option Hp) = some G' := hf; cases h0
  | nn + 1, _, _, _, _, hf => l_Pl_make_b63k C HR (fun h => l_Pl_make_b63 C HR nn h) hf
set_option maxRecDepth 20000 in
theorem l_Pl_make {E : EE} {X : CT} {G : Hp} (C : gCx E X cX4_make "FavoursGoOff$Plan" none 12 578 0 0 false 3) {G' : Hp} (HR : gRet E X cX4_make none 0 0 none G') {l0 : Nat} {l1 : Nat} (hf : f_Pl_make G l0 l1 = some G') : gV E X 0 0 G 0 [some (.ref (E.2.1 + l0)), some (.ref (E.2.1 + l1)), none] [] := by
  unfold f_Pl_make at hf
  refine g_aload_n C dX4_make_0 rfl ?_
  obtain ⟨x1, hx1, hg, hf⟩ := gI_ok hf
  refine e_getI C fl_Pl_9 dX4_make_1 hx1 hg ?_
  refine g_if_ne (tgt := 8) C dX4_make_4 (by decide) (fun hc => ?_) (fun hc => ?_)
  · have hf := iteF hf hc
    refine g_aload_n C dX4_make_8 rfl ?_
    refine g_iconst (v := (5 : Int32)) C dX4_make_9 (by decide) ?_
    refine g_aload_n C dX4_make_10 rfl ?_
    obtain ⟨x2, hg, hf⟩ := gR_ok hf
    refine g_getR C fl_Pl_46 dX4_make_11 hg ?_
    obtain ⟨x3, hx3, hg, hf⟩ := gI_ok hf
    refine e_getI C fl_Pl_51 dX4_make_14 hx3 hg ?_
    refine e_min C ml_Pl_55 cm_min (by omega) (Nat.le_trans (m := 30) (by exact Nat.le_of_ble_eq_true rfl) (by omega)) ⟨by omega, by omega⟩ dX4_make_17 ?_
    obtain ⟨G4, hG4, hg, hf⟩ := pI_ok hf
    refine e_putI C fl_Pl_61 dX4_make_20 hG4 hg (Or.inl rfl) rfl rfl ?_
    refine g_aload_n C dX4_make_23 rfl ?_
    refine g_bipush (v := (12 : Int32)) C dX4_make_24 (by decide) ?_
    refine g_aload_n C dX4_make_26 rfl ?_
    obtain ⟨x5, hg, hf⟩ := gR_ok hf
    refine g_getR C fl_Pl_63 dX4_make_27 hg ?_
    obtain ⟨x6, hx6, hg, hf⟩ := gI_ok hf
    refine e_getI C fl_Pl_51 dX4_make_30 hx6 hg ?_
    refine e_min C ml_Pl_55 cm_min (by omega) (Nat.le_trans (m := 30) (by exact Nat.le_of_ble_eq_true rfl) (by omega)) ⟨by omega, by omega⟩ dX4_make_33 ?_
    obtain ⟨G7, hG7, hg, hf⟩ := pI_ok hf
    refine e_putI C fl_Pl_66 dX4_make_36 hG7 hg (Or.inl rfl) rfl rfl ?_
    refine g_aload_n C dX4_make_39 rfl ?_
    obtain ⟨x8, hg, hf⟩ := gR_ok hf
    refine g_getR C fl_Pl_20 dX4_make_40 hg ?_
    refine g_aload_n C dX4_make_43 rfl ?_
    obtain ⟨x9, hx9, hg, hf⟩ := gI_ok hf
    refine e_getI C fl_Pl_61 dX4_make_44 hx9 hg ?_
    obtain ⟨G10, hG10, hg, hf⟩ := pI_ok hf
    refine e_putI C fl_Pl_51 dX4_make_47 hG10 hg (Or.inl rfl) rfl rfl ?_
    refine g_aload_n C dX4_make_50 rfl ?_
    obtain ⟨x11, hg, hf⟩ := gR_ok hf
    refine g_getR C fl_Pl_24 dX4_make_51 hg ?_
    refine g_aload_n C dX4_make_54 rfl ?_
    obtain ⟨x12, hx12, hg, hf⟩ := gI_ok hf
    refine e_getI C fl_Pl_61 dX4_make_55 hx12 hg ?_
    obtain ⟨G13, hG13, hg, hf⟩ := pI_ok hf
    refine e_putI C fl_Pl_51 dX4_make_58 hG13 hg (Or.inl rfl) rfl rfl ?_
    refine g_iconst (v := (0 : Int32)) C dX4_make_61 (by decide) ?_
    refine g_istore_n (lv' := [some (.ref (E.2.1 + l0)), some (.ref (E.2.1 + l1)), some (.int (0 : Int32))]) C dX4_make_62 (by decide) rfl ?_
    refine g_sub (lv' := [some (.ref (E.2.1 + l0)), some (.ref (E.2.1 + l1)), some (.int (0 : Int32))]) ⟨rfl, ⟨rfl, ⟨rfl, trivial⟩⟩⟩ ?_
    exact l_Pl_make_b63 C HR  FU hf
  · have hf := iteT hf hc
    obtain rfl := rP_ok hf
    exact g_vret HR dX4_make_7
theorem c_Pl_make (E : EE) {G : Hp} {l0 : Nat} {l1 : Nat} {G' : Hp} (h : f_Pl_make G l0 l1 = some G') : gCt E y_Pl_make cX4_make 3 none 12 578 0 0 [.ref (E.2.1 + l0), .ref (E.2.1 + l1)] G none G' := gCt_of (own := "FavoursGoOff$Plan") (ini := false) [some (.ref (E.2.1 + l0)), some (.ref (E.2.1 + l1)), none] (by decide +kernel) rfl (fun h => by cases h) (Nat.le_of_ble_eq_true rfl) ⟨rfl, ⟨rfl, trivial⟩⟩ (fun X C HR => l_Pl_make C HR h)
