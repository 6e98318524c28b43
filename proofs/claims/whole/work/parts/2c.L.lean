/-! ===== each method does as its function says ===== -/
set_option maxRecDepth 20000 in
theorem l_Pl_favourOf_b23 {E : EE} {X : CT} {G : Hp} (C : gCx E X cX4_favourOf "FavoursGoOff$Plan" (some .int) 0 0 0 0 false 2) {r : Int32} (HR : gRet E X cX4_favourOf (some .int) 0 0 (some (.int r)) G) {s0 : Int32} (hf : f_Pl_favourOf_b23 G s0 = some r) : gV E X 0 0 G 23 [none, none] [.int s0] := by
  unfold f_Pl_favourOf_b23 at hf
  obtain rfl := rP_ok hf
  exact g_iret HR dX4_favourOf_23
set_option maxRecDepth 20000 in
theorem l_Pl_favourOf_b22 {E : EE} {X : CT} {G : Hp} (C : gCx E X cX4_favourOf "FavoursGoOff$Plan" (some .int) 0 0 0 0 false 2) {r : Int32} (HR : gRet E X cX4_favourOf (some .int) 0 0 (some (.int r)) G) (hf : f_Pl_favourOf_b22 G = some r) : gV E X 0 0 G 22 [none, none] [] := by
  unfold f_Pl_favourOf_b22 at hf
  refine g_iconst (v := (-1 : Int32)) C dX4_favourOf_22 (by decide) ?_
  refine g_sub (lv' := [none, none]) trivial ?_
  exact l_Pl_favourOf_b23 C HR  hf
set_option maxRecDepth 20000 in
theorem l_Pl_favourOf {E : EE} {X : CT} {G : Hp} (C : gCx E X cX4_favourOf "FavoursGoOff$Plan" (some .int) 0 0 0 0 false 2) {r : Int32} (HR : gRet E X cX4_favourOf (some .int) 0 0 (some (.int r)) G) {l0 : Nat} {l1 : Int32} (hf : f_Pl_favourOf G l0 l1 = some r) : gV E X 0 0 G 0 [some (.ref (E.2.1 + l0)), some (.int l1)] [] := by
  unfold f_Pl_favourOf at hf
  refine g_iload_n C dX4_favourOf_0 rfl ?_
  refine g_if_lt (tgt := 22) C dX4_favourOf_1 (by decide) (fun hc => ?_) (fun hc => ?_)
  · have hf := iteT hf hc
    refine g_sub (lv' := [none, none]) trivial ?_
    exact l_Pl_favourOf_b22 C HR  hf
  · have hf := iteF hf hc
    refine g_iload_n C dX4_favourOf_4 rfl ?_
    refine g_aload_n C dX4_favourOf_5 rfl ?_
    obtain ⟨x1, hg, hf⟩ := gR_ok hf
    refine g_getR C fl_Pl_43 dX4_favourOf_6 hg ?_
    obtain ⟨x2, hx2, hg, hf⟩ := aL_ok hf
    refine e_alen C dX4_favourOf_9 hx2 hg ?_
    refine g_icmp_ge (tgt := 22) C dX4_favourOf_10 (by decide) (fun hc => ?_) (fun hc => ?_)
    · have hf := iteT hf hc
      refine g_sub (lv' := [none, none]) trivial ?_
      exact l_Pl_favourOf_b22 C HR  hf
    · have hf := iteF hf hc
      refine g_aload_n C dX4_favourOf_13 rfl ?_
      obtain ⟨x3, hg, hf⟩ := gR_ok hf
      refine g_getR C fl_Pl_43 dX4_favourOf_14 hg ?_
      refine g_iload_n C dX4_favourOf_17 rfl ?_
      obtain ⟨x4, hx4, hg, hf⟩ := aI_ok hf
      refine e_iald C dX4_favourOf_18 hx4 hg ?_
      refine g_goto (tgt := 23) C dX4_favourOf_19 (by decide) ?_
      refine g_sub (lv' := [none, none]) trivial ?_
      exact l_Pl_favourOf_b23 C HR  hf
theorem c_Pl_favourOf (E : EE) {G : Hp} {l0 : Nat} {l1 : Int32} {r : Int32} (h : f_Pl_favourOf G l0 l1 = some r) : gCt E y_Pl_favourOf cX4_favourOf 2 (some .int) 0 0 0 0 [.ref (E.2.1 + l0), .int l1] G (some (.int r)) G := gCt_of (own := "FavoursGoOff$Plan") (ini := false) [some (.ref (E.2.1 + l0)), some (.int l1)] (by decide +kernel) rfl (fun h => by cases h) (Nat.le_of_ble_eq_true rfl) ⟨rfl, ⟨rfl, trivial⟩⟩ (fun X C HR => l_Pl_favourOf C HR h)
set_option maxRecDepth 20000 in
theorem l_Te_init {E : EE} {X : CT} {G : Hp} (C : gCx E X cX8_init "FavoursGoOff$Text" none 1 30 1 250 true 1) {G' : Hp} (HR : gRet E X cX8_init none 1 250 none G') {l0 : Nat} (hf : f_Te_init G l0 = some G') : gV E X 0 0 G 0 [some (.ref (E.2.1 + l0))] [] := by
  unfold f_Te_init at hf
  refine g_aload_n C dX8_init_0 rfl ?_
  refine g_objInit C ml_Te_3 cm_obj.1 cm_obj.2 (by omega) (Nat.le_trans (m := 30) (by exact Nat.le_of_ble_eq_true rfl) (by omega)) dX8_init_1 ?_
  refine g_aload_n C dX8_init_4 rfl ?_
  refine g_sipush (v := (250 : Int32)) C dX8_init_5 (by decide) ?_
  obtain ⟨a2, G1, ha2, hG1, hz, hf⟩ := nA_ok hf
  refine e_newa (sl := 250) C (Or.inl ⟨rfl, rfl⟩) ac_int hz (by decide) (by omega) dX8_init_8 ha2 hG1 ?_
  obtain ⟨G3, hG3, hg, hf⟩ := pR_ok hf
  refine e_putR C fl_Te_9 dX8_init_10 hG3 hg (Or.inr ⟨rfl, rfl⟩) rfl rfl ?_
  obtain rfl := rP_ok hf
  exact g_vret HR dX8_init_13
theorem c_Te_init (E : EE) {G : Hp} {l0 : Nat} {G' : Hp} (h : f_Te_init G l0 = some G') : gCt E y_Te_init cX8_init 1 none 1 30 1 250 [.ref (E.2.1 + l0)] G none G' := gCt_of (own := "FavoursGoOff$Text") (ini := true) [some (.ref (E.2.1 + l0))] (by decide +kernel) rfl (fun _ => rfl) (Nat.le_of_ble_eq_true rfl) ⟨rfl, trivial⟩ (fun X C HR => l_Te_init C HR h)
set_option maxRecDepth 20000 in
theorem l_Re_init {E : EE} {X : CT} {G : Hp} (C : gCx E X cX5_init "FavoursGoOff$Reader" none 3 72 13 5273 true 1) {G' : Hp} (HR : gRet E X cX5_init none 13 5273 none G') {l0 : Nat} (hf : f_Re_init G l0 = some G') : gV E X 0 0 G 0 [some (.ref (E.2.1 + l0))] [] := by
  unfold f_Re_init at hf
  refine g_aload_n C dX5_init_0 rfl ?_
  refine g_objInit C ml_Re_3 cm_obj.1 cm_obj.2 (by omega) (Nat.le_trans (m := 30) (by exact Nat.le_of_ble_eq_true rfl) (by omega)) dX5_init_1 ?_
  refine g_aload_n C dX5_init_4 rfl ?_
  obtain ⟨a2, G1, ha2, hG1, hf⟩ := nO_ok hf
  refine e_new C tyX8 (rfl : vwCl[8]? = some ("FavoursGoOff$Text", TX8, 2)) (by decide) ul_8 tyX8_ok rfl ft_8 cl_Re_9 in_Te it_Te (by omega) dX5_init_5 ha2 hG1 ?_
  refine g_dup C dX5_init_8 rfl ?_
  obtain ⟨G3, h1, hf⟩ := cP_ok hf
  refine g_invIN (As := []) (st := [.ref (E.2.1 + a2), .ref (E.2.1 + l0)]) (host := "FavoursGoOff") C (c_Te_init E h1) (List.mem_of_getElem? (i := 2) rfl) cm_Te_init.1 cm_Te_init.2.1 cm_Te_init.2.2.1 cm_Te_init.2.2.2.1 cm_Te_init.2.2.2.2 rfl ⟨by omega, by omega, by omega, by omega⟩ (by exact Nat.le_of_ble_eq_true rfl) rfl dX5_init_9 ?_
  obtain ⟨G4, hG4, hg, hf⟩ := pR_ok hf
  refine e_putR C fl_Re_12 dX5_init_12 hG4 hg (Or.inr ⟨rfl, rfl⟩) rfl rfl ?_
  refine g_aload_n C dX5_init_15 rfl ?_
  obtain ⟨a6, G5, ha6, hG5, hf⟩ := nO_ok hf
  refine e_new C tyX6 (rfl : vwCl[6]? = some ("FavoursGoOff$Street", TX6, 6)) (by decide) ul_6 tyX6_ok rfl ft_6 cl_Re_18 in_St it_St (by omega) dX5_init_16 ha6 hG5 ?_
  refine g_dup C dX5_init_19 rfl ?_
  obtain ⟨G7, h1, hf⟩ := cP_ok hf
  refine g_invI (As := []) (st := [.ref (E.2.1 + a6), .ref (E.2.1 + l0)]) C (c_St_init E h1) ml_Re_20 cm_St_init.1 cm_St_init.2.1 cm_St_init.2.2.1 cm_St_init.2.2.2.1 cm_St_init.2.2.2.2 rfl ⟨by omega, by omega, by omega, by omega⟩ (by exact Nat.le_of_ble_eq_true rfl) rfl dX5_init_20 ?_
  obtain ⟨G8, hG8, hg, hf⟩ := pR_ok hf
  refine e_putR C fl_Re_21 dX5_init_23 hG8 hg (Or.inr ⟨rfl, rfl⟩) rfl rfl ?_
  obtain rfl := rP_ok hf
  exact g_vret HR dX5_init_26
theorem c_Re_init (E : EE) {G : Hp} {l0 : Nat} {G' : Hp} (h : f_Re_init G l0 = some G') : gCt E y_Re_init cX5_init 1 none 3 72 13 5273 [.ref (E.2.1 + l0)] G none G' := gCt_of (own := "FavoursGoOff$Reader") (ini := true) [some (.ref (E.2.1 + l0))] (by decide +kernel) rfl (fun _ => rfl) (Nat.le_of_ble_eq_true rfl) ⟨rfl, trivial⟩ (fun X C HR => l_Re_init C HR h)
set_option maxRecDepth 20000 in
theorem l_Te_at_b31 {E : EE} {X : CT} {G : Hp} (C : gCx E X cX8_at "FavoursGoOff$Text" (some .int) 0 0 0 0 false 2) {r : Int32} (HR : gRet E X cX8_at (some .int) 0 0 (some (.int r)) G) {s0 : Int32} (hf : f_Te_at_b31 G s0 = some r) : gV E X 0 0 G 31 [none, none] [.int s0] := by
  unfold f_Te_at_b31 at hf
  obtain rfl := rP_ok hf
  exact g_iret HR dX8_at_31
set_option maxRecDepth 20000 in
theorem l_Te_at_b30 {E : EE} {X : CT} {G : Hp} (C : gCx E X cX8_at "FavoursGoOff$Text" (some .int) 0 0 0 0 false 2) {r : Int32} (HR : gRet E X cX8_at (some .int) 0 0 (some (.int r)) G) (hf : f_Te_at_b30 G = some r) : gV E X 0 0 G 30 [none, none] [] := by
  unfold f_Te_at_b30 at hf
  refine g_iconst (v := (-1 : Int32)) C dX8_at_30 (by decide) ?_
  refine g_sub (lv' := [none, none]) trivial ?_
  exact l_Te_at_b31 C HR  hf
set_option maxRecDepth 20000 in
theorem l_Te_at {E : EE} {X : CT} {G : Hp} (C : gCx E X cX8_at "FavoursGoOff$Text" (some .int) 0 0 0 0 false 2) {r : Int32} (HR : gRet E X cX8_at (some .int) 0 0 (some (.int r)) G) {l0 : Nat} {l1 : Int32} (hf : f_Te_at G l0 l1 = some r) : gV E X 0 0 G 0 [some (.ref (E.2.1 + l0)), some (.int l1)] [] := by
  unfold f_Te_at at hf
  refine g_iload_n C dX8_at_0 rfl ?_
  refine g_if_lt (tgt := 30) C dX8_at_1 (by decide) (fun hc => ?_) (fun hc => ?_)
  · have hf := iteT hf hc
    refine g_sub (lv' := [none, none]) trivial ?_
    exact l_Te_at_b30 C HR  hf
  · have hf := iteF hf hc
    refine g_iload_n C dX8_at_4 rfl ?_
    refine g_aload_n C dX8_at_5 rfl ?_
    obtain ⟨x1, hx1, hg, hf⟩ := gI_ok hf
    refine e_getI C fl_Te_15 dX8_at_6 hx1 hg ?_
    refine g_icmp_ge (tgt := 30) C dX8_at_9 (by decide) (fun hc => ?_) (fun hc => ?_)
    · have hf := iteT hf hc
      refine g_sub (lv' := [none, none]) trivial ?_
      exact l_Te_at_b30 C HR  hf
    · have hf := iteF hf hc
      refine g_iload_n C dX8_at_12 rfl ?_
      refine g_aload_n C dX8_at_13 rfl ?_
      obtain ⟨x2, hg, hf⟩ := gR_ok hf
      refine g_getR C fl_Te_9 dX8_at_14 hg ?_
      obtain ⟨x3, hx3, hg, hf⟩ := aL_ok hf
      refine e_alen C dX8_at_17 hx3 hg ?_
      refine g_icmp_ge (tgt := 30) C dX8_at_18 (by decide) (fun hc => ?_) (fun hc => ?_)
      · have hf := iteT hf hc
        refine g_sub (lv' := [none, none]) trivial ?_
        exact l_Te_at_b30 C HR  hf
      · have hf := iteF hf hc
        refine g_aload_n C dX8_at_21 rfl ?_
        obtain ⟨x4, hg, hf⟩ := gR_ok hf
        refine g_getR C fl_Te_9 dX8_at_22 hg ?_
        refine g_iload_n C dX8_at_25 rfl ?_
        obtain ⟨x5, hx5, hg, hf⟩ := aI_ok hf
        refine e_iald C dX8_at_26 hx5 hg ?_
        refine g_goto (tgt := 31) C dX8_at_27 (by decide) ?_
        refine g_sub (lv' := [none, none]) trivial ?_
        exact l_Te_at_b31 C HR  hf
theorem c_Te_at (E : EE) {G : Hp} {l0 : Nat} {l1 : Int32} {r : Int32} (h : f_Te_at G l0 l1 = some r) : gCt E y_Te_at cX8_at 2 (some .int) 0 0 0 0 [.ref (E.2.1 + l0), .int l1] G (some (.int r)) G := gCt_of (own := "FavoursGoOff$Text") (ini := false) [some (.ref (E.2.1 + l0)), some (.int l1)] (by decide +kernel) rfl (fun h => by cases h) (Nat.le_of_ble_eq_true rfl) ⟨rfl, ⟨rfl, trivial⟩⟩ (fun X C HR => l_Te_at C HR h)
set_option maxRecDepth 20000 in
theorem l_Fa_isWithin_b15 {E : EE} {X : CT} {G : Hp} (C : gCx E X cX9_isWithin "FavoursGoOff" (some .boolean) 0 0 0 0 false 3) {r : Int32} (HR : gRet E X cX9_isWithin (some .boolean) 0 0 (some (.int r)) G) {s0 : Int32} (hf : f_Fa_isWithin_b15 G s0 = some r) : gV E X 0 0 G 15 [none, none, none] [.int s0] := by
  unfold f_Fa_isWithin_b15 at hf
  obtain ⟨hv, hf⟩ := zR_ok hf
  obtain rfl := rP_ok hf
  exact g_zret HR hv dX9_isWithin_15
set_option maxRecDepth 20000 in
theorem l_Fa_isWithin_b14 {E : EE} {X : CT} {G : Hp} (C : gCx E X cX9_isWithin "FavoursGoOff" (some .boolean) 0 0 0 0 false 3) {r : Int32} (HR : gRet E X cX9_isWithin (some .boolean) 0 0 (some (.int r)) G) (hf : f_Fa_isWithin_b14 G = some r) : gV E X 0 0 G 14 [none, none, none] [] := by
  unfold f_Fa_isWithin_b14 at hf
  refine g_iconst (v := (0 : Int32)) C dX9_isWithin_14 (by decide) ?_
  refine g_sub (lv' := [none, none, none]) trivial ?_
  exact l_Fa_isWithin_b15 C HR  hf
set_option maxRecDepth 20000 in
theorem l_Fa_isWithin {E : EE} {X : CT} {G : Hp} (C : gCx E X cX9_isWithin "FavoursGoOff" (some .boolean) 0 0 0 0 false 3) {r : Int32} (HR : gRet E X cX9_isWithin (some .boolean) 0 0 (some (.int r)) G) {l0 : Int32} {l1 : Int32} {l2 : Int32} (hf : f_Fa_isWithin G l0 l1 l2 = some r) : gV E X 0 0 G 0 [some (.int l0), some (.int l1), some (.int l2)] [] := by
  unfold f_Fa_isWithin at hf
  refine g_iload_n C dX9_isWithin_0 rfl ?_
  refine g_iload_n C dX9_isWithin_1 rfl ?_
  refine g_icmp_lt (tgt := 14) C dX9_isWithin_2 (by decide) (fun hc => ?_) (fun hc => ?_)
  · have hf := iteT hf hc
    refine g_sub (lv' := [none, none, none]) trivial ?_
    exact l_Fa_isWithin_b14 C HR  hf
  · have hf := iteF hf hc
    refine g_iload_n C dX9_isWithin_5 rfl ?_
    refine g_iload_n C dX9_isWithin_6 rfl ?_
    refine g_icmp_gt (tgt := 14) C dX9_isWithin_7 (by decide) (fun hc => ?_) (fun hc => ?_)
    · have hf := iteT hf hc
      refine g_sub (lv' := [none, none, none]) trivial ?_
      exact l_Fa_isWithin_b14 C HR  hf
    · have hf := iteF hf hc
      refine g_iconst (v := (1 : Int32)) C dX9_isWithin_10 (by decide) ?_
      refine g_goto (tgt := 15) C dX9_isWithin_11 (by decide) ?_
      refine g_sub (lv' := [none, none, none]) trivial ?_
      exact l_Fa_isWithin_b15 C HR  hf
theorem c_Fa_isWithin (E : EE) {G : Hp} {l0 : Int32} {l1 : Int32} {l2 : Int32} {r : Int32} (h : f_Fa_isWithin G l0 l1 l2 = some r) : gCt E y_Fa_isWithin cX9_isWithin 3 (some .boolean) 0 0 0 0 [.int l0, .int l1, .int l2] G (some (.int r)) G := gCt_of (own := "FavoursGoOff") (ini := false) [some (.int l0), some (.int l1), some (.int l2)] (by decide +kernel) rfl (fun h => by cases h) (Nat.le_of_ble_eq_true rfl) ⟨rfl, ⟨rfl, ⟨rfl, trivial⟩⟩⟩ (fun X C HR => l_Fa_isWithin C HR h)
set_option maxRecDepth 20000 in
theorem l_Re_endOfRun_b38 {E : EE} {X : CT} {G : Hp} (C : gCx E X cX5_endOfRun "FavoursGoOff$Reader" (some .int) 1 22 0 0 false 4) {r : Int32} (HR : gRet E X cX5_endOfRun (some .int) 0 0 (some (.int r)) G) {l3 : Int32} (hf : f_Re_endOfRun_b38 G l3 = some r) : gV E X 0 0 G 38 [none, none, none, some (.int l3)] [] := by
  unfold f_Re_endOfRun_b38 at hf
  refine g_iload_n C dX5_endOfRun_38 rfl ?_
  obtain rfl := rP_ok hf
  exact g_iret HR dX5_endOfRun_39
set_option maxRecDepth 20000 in
theorem l_Re_endOfRun_b5k {E : EE} {X : CT} {G : Hp} (C : gCx E X cX5_endOfRun "FavoursGoOff$Reader" (some .int) 1 22 0 0 false 4) {r : Int32} (HR : gRet E X cX5_endOfRun (some .int) 0 0 (some (.int r)) G) {k5 : Nat → Int32 → Int32 → Int32 → Option Int32} (K5 : ∀ {l0 : Nat} {l1 : Int32} {l2 : Int32} {l3 : Int32}, k5 l0 l1 l2 l3 = some r → gV E X 0 0 G 5 [some (.ref (E.2.1 + l0)), some (.int l1), some (.int l2), some (.int l3)] []) {l0 : Nat} {l1 : Int32} {l2 : Int32} {l3 : Int32} (hf : f_Re_endOfRun_b5_k G k5 l0 l1 l2 l3 = some r) : gV E X 0 0 G 5 [some (.ref (E.2.1 + l0)), some (.int l1), some (.int l2), some (.int l3)] [] := by
  unfold f_Re_endOfRun_b5_k at hf
  refine g_iload_n C dX5_endOfRun_5 rfl ?_
  refine g_aload_n C dX5_endOfRun_6 rfl ?_
  obtain ⟨x1, hg, hf⟩ := gR_ok hf
  refine g_getR C fl_Re_12 dX5_endOfRun_7 hg ?_
  obtain ⟨x2, hx2, hg, hf⟩ := gI_ok hf
  refine e_getI C fl_Re_118 dX5_endOfRun_10 hx2 hg ?_
  refine g_icmp_ge (tgt := 38) C dX5_endOfRun_13 (by decide) (fun hc => ?_) (fun hc => ?_)
  · have hf := iteT hf hc
    refine g_sub (lv' := [none, none, none, some (.int l3)]) ⟨rfl, trivial⟩ ?_
    exact l_Re_endOfRun_b38 C HR  hf
  · have hf := iteF hf hc
    refine g_aload_n C dX5_endOfRun_16 rfl ?_
    obtain ⟨x3, hg, hf⟩ := gR_ok hf
    refine g_getR C fl_Re_12 dX5_endOfRun_17 hg ?_
    refine g_iload_n C dX5_endOfRun_20 rfl ?_
    obtain ⟨x4, hg, h1, hf⟩ := vP_ok hf
    refine g_invV (As := [.int l3]) (st := []) C (c_Te_at E h1) (rfl : vwCl[8]? = some (y_Te_at.cls, TX8, 2)) (by decide) hg ml_Re_121 cm_Te_at.1 cm_Te_at.2.1 cm_Te_at.2.2.1 cm_Te_at.2.2.2.1 cm_Te_at.2.2.2.2 rfl ⟨by omega, by omega, by omega, by omega⟩ (by exact Nat.le_of_ble_eq_true rfl) rfl dX5_endOfRun_21 ?_
    refine g_iload_n C dX5_endOfRun_24 rfl ?_
    refine g_iload_n C dX5_endOfRun_25 rfl ?_
    obtain ⟨x5, h1, hf⟩ := cP_ok hf
    refine g_invSN (As := [.int x4, .int l1, .int l2]) (st := []) (host := "FavoursGoOff") C (c_Fa_isWithin E h1) (List.mem_of_getElem? (i := 7) rfl) cm_Fa_isWithin.1 cm_Fa_isWithin.2.1 cm_Fa_isWithin.2.2.1 cm_Fa_isWithin.2.2.2 rfl ⟨by omega, by omega, by omega, by omega⟩ (by exact Nat.le_of_ble_eq_true rfl) rfl dX5_endOfRun_26 ?_
    refine g_if_eq (tgt := 38) C dX5_endOfRun_29 (by decide) (fun hc => ?_) (fun hc => ?_)
    · have hf := iteT hf hc
      refine g_sub (lv' := [none, none, none, some (.int l3)]) ⟨rfl, trivial⟩ ?_
      exact l_Re_endOfRun_b38 C HR  hf
    · have hf := iteF hf hc
      refine g_iinc (v := (l3 + 1)) (lv' := [some (.ref (E.2.1 + l0)), some (.int l1), some (.int l2), some (.int (l3 + 1))]) C dX5_endOfRun_32 (by decide) rfl rfl rfl ?_
      refine g_goto (tgt := 5) C dX5_endOfRun_35 (by decide) ?_
      refine g_sub (lv' := [some (.ref (E.2.1 + l0)), some (.int l1), some (.int l2), some (.int (l3 + 1))]) ⟨rfl, ⟨rfl, ⟨rfl, ⟨rfl, trivial⟩⟩⟩⟩ ?_
      exact K5 hf
theorem l_Re_endOfRun_b5 {E : EE} {X : CT} {G : Hp} (C : gCx E X cX5_endOfRun "FavoursGoOff$Reader" (some .int) 1 22 0 0 false 4) {r : Int32} (HR : gRet E X cX5_endOfRun (some .int) 0 0 (some (.int r)) G) : ∀ (nn : Nat) {l0 : Nat} {l1 : Int32} {l2 : Int32} {l3 : Int32}, f_Re_endOfRun_b5 G nn l0 l1 l2 l3 = some r → gV E X 0 0 G 5 [some (.ref (E.2.1 + l0)), some (.int l1), some (.int l2), some (.int l3)] []
  | 0, _, _, _, _, hf => by have h0 : (none : Option Int32) = some r := hf; cases h0
  | nn + 1, _, _, _, _, hf => l_Re_endOfRun_b5k C HR (fun h => l_Re_endOfRun_b5 C HR nn h) hf
set_option maxRecDepth 20000 in
theorem l_Re_endOfRun {E : EE} {X : CT} {G : Hp} (C : gCx E X cX5_endOfRun "FavoursGoOff$Reader" (some .int) 1 22 0 0 false 4) {r : Int32} (HR : gRet E X cX5_endOfRun (some .int) 0 0 (some (.int r)) G) {l0 : Nat} {l1 : Int32} {l2 : Int32} (hf : f_Re_endOfRun G l0 l1 l2 = some r) : gV E X 0 0 G 0 [some (.ref (E.2.1 + l0)), some (.int l1), some (.int l2), none] [] := by
  unfold f_Re_endOfRun at hf
  refine g_aload_n C dX5_endOfRun_0 rfl ?_
  obtain ⟨x1, hx1, hg, hf⟩ := gI_ok hf
  refine e_getI C fl_Re_115 dX5_endOfRun_1 hx1 hg ?_
  refine g_istore_n (lv' := [some (.ref (E.2.1 + l0)), some (.int l1), some (.int l2), some (.int x1)]) C dX5_endOfRun_4 (by decide) rfl ?_
  refine g_sub (lv' := [some (.ref (E.2.1 + l0)), some (.int l1), some (.int l2), some (.int x1)]) ⟨rfl, ⟨rfl, ⟨rfl, ⟨rfl, trivial⟩⟩⟩⟩ ?_
  exact l_Re_endOfRun_b5 C HR  FU hf
theorem c_Re_endOfRun (E : EE) {G : Hp} {l0 : Nat} {l1 : Int32} {l2 : Int32} {r : Int32} (h : f_Re_endOfRun G l0 l1 l2 = some r) : gCt E y_Re_endOfRun cX5_endOfRun 4 (some .int) 1 22 0 0 [.ref (E.2.1 + l0), .int l1, .int l2] G (some (.int r)) G := gCt_of (own := "FavoursGoOff$Reader") (ini := false) [some (.ref (E.2.1 + l0)), some (.int l1), some (.int l2), none] (by decide +kernel) rfl (fun h => by cases h) (Nat.le_of_ble_eq_true rfl) ⟨rfl, ⟨rfl, ⟨rfl, trivial⟩⟩⟩ (fun X C HR => l_Re_endOfRun C HR h)
set_option maxRecDepth 20000 in
theorem l_Re_takeFigures_b76 {E : EE} {X : CT} {G : Hp} (C : gCx E X cX5_takeFigures "FavoursGoOff$Reader" none 1 21 0 0 false 2) {G' : Hp} (HR : gRet E X cX5_takeFigures none 0 0 none G') {s0 : Nat} {s1 : Int32} (hf : f_Re_takeFigures_b76 G s0 s1 = some G') : gV E X 0 0 G 76 [none, none] [.int s1, .ref (E.2.1 + s0)] := by
  unfold f_Re_takeFigures_b76 at hf
  obtain ⟨G1, hG1, hg, hf⟩ := pI_ok hf
  refine e_putI C fl_Re_38 dX5_takeFigures_76 hG1 hg (Or.inl rfl) rfl rfl ?_
  obtain rfl := rP_ok hf
  exact g_vret HR dX5_takeFigures_79
set_option maxRecDepth 20000 in
theorem l_Re_takeFigures_b54 {E : EE} {X : CT} {G : Hp} (C : gCx E X cX5_takeFigures "FavoursGoOff$Reader" none 1 21 0 0 false 2) {G' : Hp} (HR : gRet E X cX5_takeFigures none 0 0 none G') {l0 : Nat} {s0 : Nat} {s1 : Int32} (hf : f_Re_takeFigures_b54 G l0 s0 s1 = some G') : gV E X 0 0 G 54 [some (.ref (E.2.1 + l0)), none] [.int s1, .ref (E.2.1 + s0)] := by
  unfold f_Re_takeFigures_b54 at hf
  obtain ⟨G1, hG1, hg, hf⟩ := pI_ok hf
  refine e_putI C fl_Re_112 dX5_takeFigures_54 hG1 hg (Or.inl rfl) rfl rfl ?_
  refine g_aload_n C dX5_takeFigures_57 rfl ?_
  refine g_aload_n C dX5_takeFigures_58 rfl ?_
  obtain ⟨x2, hx2, hg, hf⟩ := gI_ok hf
  refine e_getI C fl_Re_29 dX5_takeFigures_59 hx2 hg ?_
  refine g_aload_n C dX5_takeFigures_62 rfl ?_
  obtain ⟨x3, hx3, hg, hf⟩ := gI_ok hf
  refine e_getI C fl_Re_115 dX5_takeFigures_63 hx3 hg ?_
  refine g_isub C dX5_takeFigures_66 ?_
  refine g_iconst (v := (2 : Int32)) C dX5_takeFigures_67 (by decide) ?_
  refine g_icmp_gt (tgt := 75) C dX5_takeFigures_68 (by decide) (fun hc => ?_) (fun hc => ?_)
  · have hf := iteT hf hc
    refine g_iconst (v := (4 : Int32)) C dX5_takeFigures_75 (by decide) ?_
    refine g_sub (lv' := [none, none]) trivial ?_
    exact l_Re_takeFigures_b76 C HR  hf
  · have hf := iteF hf hc
    refine g_iconst (v := (2 : Int32)) C dX5_takeFigures_71 (by decide) ?_
    refine g_goto (tgt := 76) C dX5_takeFigures_72 (by decide) ?_
    refine g_sub (lv' := [none, none]) trivial ?_
    exact l_Re_takeFigures_b76 C HR  hf
set_option maxRecDepth 20000 in
theorem l_Re_takeFigures {E : EE} {X : CT} {G : Hp} (C : gCx E X cX5_takeFigures "FavoursGoOff$Reader" none 1 21 0 0 false 2) {G' : Hp} (HR : gRet E X cX5_takeFigures none 0 0 none G') {l0 : Nat} (hf : f_Re_takeFigures G l0 = some G') : gV E X 0 0 G 0 [some (.ref (E.2.1 + l0)), none] [] := by
  unfold f_Re_takeFigures at hf
  refine g_aload_n C dX5_takeFigures_0 rfl ?_
  obtain ⟨x1, hg, hf⟩ := gR_ok hf
  refine g_getR C fl_Re_12 dX5_takeFigures_1 hg ?_
  refine g_aload_n C dX5_takeFigures_4 rfl ?_
  obtain ⟨x2, hx2, hg, hf⟩ := gI_ok hf
  refine e_getI C fl_Re_29 dX5_takeFigures_5 hx2 hg ?_
  refine g_iconst (v := (1 : Int32)) C dX5_takeFigures_8 (by decide) ?_
  refine g_isub C dX5_takeFigures_9 ?_
  obtain ⟨x3, hg, h1, hf⟩ := vP_ok hf
  refine g_invV (As := [.int (x2 - (1 : Int32))]) (st := []) C (c_Te_at E h1) (rfl : vwCl[8]? = some (y_Te_at.cls, TX8, 2)) (by decide) hg ml_Re_121 cm_Te_at.1 cm_Te_at.2.1 cm_Te_at.2.2.1 cm_Te_at.2.2.2.1 cm_Te_at.2.2.2.2 rfl ⟨by omega, by omega, by omega, by omega⟩ (by exact Nat.le_of_ble_eq_true rfl) rfl dX5_takeFigures_10 ?_
  refine g_bipush (v := (48 : Int32)) C dX5_takeFigures_13 (by decide) ?_
  refine g_isub C dX5_takeFigures_15 ?_
  obtain ⟨x4, hx4, hf⟩ := lt_ok hf
  refine e_top hx4 ?_
  refine g_istore_n (lv' := [some (.ref (E.2.1 + l0)), some (.int x4)]) C dX5_takeFigures_16 (by decide) rfl ?_
  refine g_aload_n C dX5_takeFigures_17 rfl ?_
  refine g_aload_n C dX5_takeFigures_18 rfl ?_
  obtain ⟨x5, hx5, hg, hf⟩ := gI_ok hf
  refine e_getI C fl_Re_29 dX5_takeFigures_19 hx5 hg ?_
  refine g_aload_n C dX5_takeFigures_22 rfl ?_
  obtain ⟨x6, hx6, hg, hf⟩ := gI_ok hf
  refine e_getI C fl_Re_115 dX5_takeFigures_23 hx6 hg ?_
  refine g_isub C dX5_takeFigures_26 ?_
  refine g_iconst (v := (2 : Int32)) C dX5_takeFigures_27 (by decide) ?_
  refine g_icmp_ne (tgt := 53) C dX5_takeFigures_28 (by decide) (fun hc => ?_) (fun hc => ?_)
  · have hf := iteF hf hc
    refine g_iload_n C dX5_takeFigures_53 rfl ?_
    refine g_sub (lv' := [some (.ref (E.2.1 + l0)), none]) ⟨rfl, trivial⟩ ?_
    exact l_Re_takeFigures_b54 C HR  hf
  · have hf := iteT hf hc
    refine g_bipush (v := (10 : Int32)) C dX5_takeFigures_31 (by decide) ?_
    refine g_aload_n C dX5_takeFigures_33 rfl ?_
    obtain ⟨x7, hg, hf⟩ := gR_ok hf
    refine g_getR C fl_Re_12 dX5_takeFigures_34 hg ?_
    refine g_aload_n C dX5_takeFigures_37 rfl ?_
    obtain ⟨x8, hx8, hg, hf⟩ := gI_ok hf
    refine e_getI C fl_Re_115 dX5_takeFigures_38 hx8 hg ?_
    obtain ⟨x9, hg, h1, hf⟩ := vP_ok hf
    refine g_invV (As := [.int x8]) (st := [.int (10 : Int32), .ref (E.2.1 + l0)]) C (c_Te_at E h1) (rfl : vwCl[8]? = some (y_Te_at.cls, TX8, 2)) (by decide) hg ml_Re_121 cm_Te_at.1 cm_Te_at.2.1 cm_Te_at.2.2.1 cm_Te_at.2.2.2.1 cm_Te_at.2.2.2.2 rfl ⟨by omega, by omega, by omega, by omega⟩ (by exact Nat.le_of_ble_eq_true rfl) rfl dX5_takeFigures_41 ?_
    refine g_bipush (v := (48 : Int32)) C dX5_takeFigures_44 (by decide) ?_
    refine g_isub C dX5_takeFigures_46 ?_
    refine g_imul C dX5_takeFigures_47 ?_
    refine g_iload_n C dX5_takeFigures_48 rfl ?_
    refine g_iadd C dX5_takeFigures_49 ?_
    refine g_goto (tgt := 54) C dX5_takeFigures_50 (by decide) ?_
    refine g_sub (lv' := [some (.ref (E.2.1 + l0)), none]) ⟨rfl, trivial⟩ ?_
    exact l_Re_takeFigures_b54 C HR  hf
theorem c_Re_takeFigures (E : EE) {G : Hp} {l0 : Nat} {G' : Hp} (h : f_Re_takeFigures G l0 = some G') : gCt E y_Re_takeFigures cX5_takeFigures 2 none 1 21 0 0 [.ref (E.2.1 + l0)] G none G' := gCt_of (own := "FavoursGoOff$Reader") (ini := false) [some (.ref (E.2.1 + l0)), none] (by decide +kernel) rfl (fun h => by cases h) (Nat.le_of_ble_eq_true rfl) ⟨rfl, trivial⟩ (fun X C HR => l_Re_takeFigures C HR h)
set_option maxRecDepth 20000 in
theorem l_Re_step_b162 {E : EE} {X : CT} {G : Hp} (C : gCx E X cX5_step "FavoursGoOff$Reader" none 2 45 0 0 false 2) {G' : Hp} (HR : gRet E X cX5_step none 0 0 none G') (hf : f_Re_step_b162 G = some G') : gV E X 0 0 G 162 [none, none] [] := by
  unfold f_Re_step_b162 at hf
  obtain rfl := rP_ok hf
  exact g_vret HR dX5_step_162
set_option maxRecDepth 20000 in
theorem l_Re_step_b159 {E : EE} {X : CT} {G : Hp} (C : gCx E X cX5_step "FavoursGoOff$Reader" none 2 45 0 0 false 2) {G' : Hp} (HR : gRet E X cX5_step none 0 0 none G') {s0 : Nat} {s1 : Int32} (hf : f_Re_step_b159 G s0 s1 = some G') : gV E X 0 0 G 159 [none, none] [.int s1, .ref (E.2.1 + s0)] := by
  unfold f_Re_step_b159 at hf
  obtain ⟨G1, hG1, hg, hf⟩ := pI_ok hf
  refine e_putI C fl_Re_38 dX5_step_159 hG1 hg (Or.inl rfl) rfl rfl ?_
  refine g_sub (lv' := [none, none]) trivial ?_
  exact l_Re_step_b162 C HR  hf
set_option maxRecDepth 20000 in
theorem l_Re_step_b51 {E : EE} {X : CT} {G : Hp} (C : gCx E X cX5_step "FavoursGoOff$Reader" none 2 45 0 0 false 2) {G' : Hp} (HR : gRet E X cX5_step none 0 0 none G') {l0 : Nat} (hf : f_Re_step_b51 G l0 = some G') : gV E X 0 0 G 51 [some (.ref (E.2.1 + l0)), none] [] := by
  unfold f_Re_step_b51 at hf
  refine g_aload_n C dX5_step_51 rfl ?_
  obtain ⟨x1, hg, hf⟩ := gR_ok hf
  refine g_getR C fl_Re_12 dX5_step_52 hg ?_
  refine g_aload_n C dX5_step_55 rfl ?_
  obtain ⟨x2, hx2, hg, hf⟩ := gI_ok hf
  refine e_getI C fl_Re_115 dX5_step_56 hx2 hg ?_
  obtain ⟨x3, hg, h1, hf⟩ := vP_ok hf
  refine g_invV (As := [.int x2]) (st := []) C (c_Te_at E h1) (rfl : vwCl[8]? = some (y_Te_at.cls, TX8, 2)) (by decide) hg ml_Re_121 cm_Te_at.1 cm_Te_at.2.1 cm_Te_at.2.2.1 cm_Te_at.2.2.2.1 cm_Te_at.2.2.2.2 rfl ⟨by omega, by omega, by omega, by omega⟩ (by exact Nat.le_of_ble_eq_true rfl) rfl dX5_step_59 ?_
  refine g_istore_n (lv' := [some (.ref (E.2.1 + l0)), some (.int x3)]) C dX5_step_62 (by decide) rfl ?_
  refine g_aload_n C dX5_step_63 rfl ?_
  refine g_aload_n C dX5_step_64 rfl ?_
  obtain ⟨x4, hx4, hg, hf⟩ := gI_ok hf
  refine e_getI C fl_Re_115 dX5_step_65 hx4 hg ?_
  refine g_iconst (v := (1 : Int32)) C dX5_step_68 (by decide) ?_
  refine g_iadd C dX5_step_69 ?_
  obtain ⟨G5, hG5, hg, hf⟩ := pI_ok hf
  refine e_putI C fl_Re_29 dX5_step_70 hG5 hg (Or.inl rfl) rfl rfl ?_
  refine g_iload_n C dX5_step_73 rfl ?_
  refine g_iconst (v := (-1 : Int32)) C dX5_step_74 (by decide) ?_
  refine g_icmp_ne (tgt := 86) C dX5_step_75 (by decide) (fun hc => ?_) (fun hc => ?_)
  · have hf := iteF hf hc
    refine g_iload_n C dX5_step_86 rfl ?_
    refine g_bipush (v := (97 : Int32)) C dX5_step_87 (by decide) ?_
    refine g_bipush (v := (122 : Int32)) C dX5_step_89 (by decide) ?_
    obtain ⟨x6, h1, hf⟩ := cP_ok hf
    refine g_invSN (As := [.int x3, .int (97 : Int32), .int (122 : Int32)]) (st := []) (host := "FavoursGoOff") C (c_Fa_isWithin E h1) (List.mem_of_getElem? (i := 7) rfl) cm_Fa_isWithin.1 cm_Fa_isWithin.2.1 cm_Fa_isWithin.2.2.1 cm_Fa_isWithin.2.2.2 rfl ⟨by omega, by omega, by omega, by omega⟩ (by exact Nat.le_of_ble_eq_true rfl) rfl dX5_step_91 ?_
    refine g_if_eq (tgt := 117) C dX5_step_94 (by decide) (fun hc => ?_) (fun hc => ?_)
    · have hf := iteT hf hc
      refine g_iload_n C dX5_step_117 rfl ?_
      refine g_bipush (v := (48 : Int32)) C dX5_step_118 (by decide) ?_
      refine g_bipush (v := (57 : Int32)) C dX5_step_120 (by decide) ?_
      obtain ⟨x7, h1, hf⟩ := cP_ok hf
      refine g_invSN (As := [.int x3, .int (48 : Int32), .int (57 : Int32)]) (st := []) (host := "FavoursGoOff") C (c_Fa_isWithin E h1) (List.mem_of_getElem? (i := 7) rfl) cm_Fa_isWithin.1 cm_Fa_isWithin.2.1 cm_Fa_isWithin.2.2.1 cm_Fa_isWithin.2.2.2 rfl ⟨by omega, by omega, by omega, by omega⟩ (by exact Nat.le_of_ble_eq_true rfl) rfl dX5_step_122 ?_
      refine g_if_eq (tgt := 147) C dX5_step_125 (by decide) (fun hc => ?_) (fun hc => ?_)
      · have hf := iteT hf hc
        refine g_aload_n C dX5_step_147 rfl ?_
        refine g_iload_n C dX5_step_148 rfl ?_
        refine g_bipush (v := (59 : Int32)) C dX5_step_149 (by decide) ?_
        refine g_icmp_ne (tgt := 158) C dX5_step_151 (by decide) (fun hc => ?_) (fun hc => ?_)
        · have hf := iteF hf hc
          refine g_iconst (v := (4 : Int32)) C dX5_step_158 (by decide) ?_
          refine g_sub (lv' := [none, none]) trivial ?_
          exact l_Re_step_b159 C HR  hf
        · have hf := iteT hf hc
          refine g_iconst (v := (3 : Int32)) C dX5_step_154 (by decide) ?_
          refine g_goto (tgt := 159) C dX5_step_155 (by decide) ?_
          refine g_sub (lv' := [none, none]) trivial ?_
          exact l_Re_step_b159 C HR  hf
      · have hf := iteF hf hc
        refine g_aload_n C dX5_step_128 rfl ?_
        refine g_aload_n C dX5_step_129 rfl ?_
        refine g_bipush (v := (48 : Int32)) C dX5_step_130 (by decide) ?_
        refine g_bipush (v := (57 : Int32)) C dX5_step_132 (by decide) ?_
        obtain ⟨x8, hg, h1, hf⟩ := vP_ok hf
        refine g_invV (As := [.int (48 : Int32), .int (57 : Int32)]) (st := [.ref (E.2.1 + l0)]) C (c_Re_endOfRun E h1) (rfl : vwCl[5]? = some (y_Re_endOfRun.cls, TX5, 8)) (by decide) hg ml_Re_129 cm_Re_endOfRun.1 cm_Re_endOfRun.2.1 cm_Re_endOfRun.2.2.1 cm_Re_endOfRun.2.2.2.1 cm_Re_endOfRun.2.2.2.2 rfl ⟨by omega, by omega, by omega, by omega⟩ (by exact Nat.le_of_ble_eq_true rfl) rfl dX5_step_134 ?_
        obtain ⟨G9, hG9, hg, hf⟩ := pI_ok hf
        refine e_putI C fl_Re_29 dX5_step_137 hG9 hg (Or.inl rfl) rfl rfl ?_
        refine g_aload_n C dX5_step_140 rfl ?_
        obtain ⟨G10, hg, h1, hf⟩ := vP_ok hf
        refine g_invV (As := []) (st := []) C (c_Re_takeFigures E h1) (rfl : vwCl[5]? = some (y_Re_takeFigures.cls, TX5, 8)) (by decide) hg ml_Re_132 cm_Re_takeFigures.1 cm_Re_takeFigures.2.1 cm_Re_takeFigures.2.2.1 cm_Re_takeFigures.2.2.2.1 cm_Re_takeFigures.2.2.2.2 rfl ⟨by omega, by omega, by omega, by omega⟩ (by exact Nat.le_of_ble_eq_true rfl) rfl dX5_step_141 ?_
        refine g_goto (tgt := 162) C dX5_step_144 (by decide) ?_
        refine g_sub (lv' := [none, none]) trivial ?_
        exact l_Re_step_b162 C HR  hf
    · have hf := iteF hf hc
      refine g_aload_n C dX5_step_97 rfl ?_
      refine g_iconst (v := (1 : Int32)) C dX5_step_98 (by decide) ?_
      obtain ⟨G11, hG11, hg, hf⟩ := pI_ok hf
      refine e_putI C fl_Re_38 dX5_step_99 hG11 hg (Or.inl rfl) rfl rfl ?_
      refine g_aload_n C dX5_step_102 rfl ?_
      refine g_aload_n C dX5_step_103 rfl ?_
      refine g_bipush (v := (97 : Int32)) C dX5_step_104 (by decide) ?_
      refine g_bipush (v := (122 : Int32)) C dX5_step_106 (by decide) ?_
      obtain ⟨x12, hg, h1, hf⟩ := vP_ok hf
      refine g_invV (As := [.int (97 : Int32), .int (122 : Int32)]) (st := [.ref (E.2.1 + l0)]) C (c_Re_endOfRun E h1) (rfl : vwCl[5]? = some (y_Re_endOfRun.cls, TX5, 8)) (by decide) hg ml_Re_129 cm_Re_endOfRun.1 cm_Re_endOfRun.2.1 cm_Re_endOfRun.2.2.1 cm_Re_endOfRun.2.2.2.1 cm_Re_endOfRun.2.2.2.2 rfl ⟨by omega, by omega, by omega, by omega⟩ (by exact Nat.le_of_ble_eq_true rfl) rfl dX5_step_108 ?_
      obtain ⟨G13, hG13, hg, hf⟩ := pI_ok hf
      refine e_putI C fl_Re_29 dX5_step_111 hG13 hg (Or.inl rfl) rfl rfl ?_
      refine g_goto (tgt := 162) C dX5_step_114 (by decide) ?_
      refine g_sub (lv' := [none, none]) trivial ?_
      exact l_Re_step_b162 C HR  hf
  · have hf := iteT hf hc
    refine g_aload_n C dX5_step_78 rfl ?_
    refine g_iconst (v := (0 : Int32)) C dX5_step_79 (by decide) ?_
    obtain ⟨G14, hG14, hg, hf⟩ := pI_ok hf
    refine e_putI C fl_Re_38 dX5_step_80 hG14 hg (Or.inl rfl) rfl rfl ?_
    refine g_goto (tgt := 162) C dX5_step_83 (by decide) ?_
    refine g_sub (lv' := [none, none]) trivial ?_
    exact l_Re_step_b162 C HR  hf
set_option maxRecDepth 20000 in
theorem l_Re_step_b8k {E : EE} {X : CT} {G : Hp} (C : gCx E X cX5_step "FavoursGoOff$Reader" none 2 45 0 0 false 2) {G' : Hp} (HR : gRet E X cX5_step none 0 0 none G') {k8 : Hp → Nat → Option Hp} (K8 : ∀ {G : Hp} {l0 : Nat}, k8 G l0 = some G' → gV E X 0 0 G 8 [some (.ref (E.2.1 + l0)), none] []) {l0 : Nat} (hf : f_Re_step_b8_k k8 G l0 = some G') : gV E X 0 0 G 8 [some (.ref (E.2.1 + l0)), none] [] := by
  unfold f_Re_step_b8_k at hf
  refine g_aload_n C dX5_step_8 rfl ?_
  obtain ⟨x1, hx1, hg, hf⟩ := gI_ok hf
  refine e_getI C fl_Re_115 dX5_step_9 hx1 hg ?_
  refine g_aload_n C dX5_step_12 rfl ?_
  obtain ⟨x2, hg, hf⟩ := gR_ok hf
  refine g_getR C fl_Re_12 dX5_step_13 hg ?_
  obtain ⟨x3, hx3, hg, hf⟩ := gI_ok hf
  refine e_getI C fl_Re_118 dX5_step_16 hx3 hg ?_
  refine g_icmp_ge (tgt := 51) C dX5_step_19 (by decide) (fun hc => ?_) (fun hc => ?_)
  · have hf := iteT hf hc
    refine g_sub (lv' := [some (.ref (E.2.1 + l0)), none]) ⟨rfl, trivial⟩ ?_
    exact l_Re_step_b51 C HR  hf
  · have hf := iteF hf hc
    refine g_aload_n C dX5_step_22 rfl ?_
    obtain ⟨x4, hg, hf⟩ := gR_ok hf
    refine g_getR C fl_Re_12 dX5_step_23 hg ?_
    refine g_aload_n C dX5_step_26 rfl ?_
    obtain ⟨x5, hx5, hg, hf⟩ := gI_ok hf
    refine e_getI C fl_Re_115 dX5_step_27 hx5 hg ?_
    obtain ⟨x6, hg, h1, hf⟩ := vP_ok hf
    refine g_invV (As := [.int x5]) (st := []) C (c_Te_at E h1) (rfl : vwCl[8]? = some (y_Te_at.cls, TX8, 2)) (by decide) hg ml_Re_121 cm_Te_at.1 cm_Te_at.2.1 cm_Te_at.2.2.1 cm_Te_at.2.2.2.1 cm_Te_at.2.2.2.2 rfl ⟨by omega, by omega, by omega, by omega⟩ (by exact Nat.le_of_ble_eq_true rfl) rfl dX5_step_30 ?_
    refine g_bipush (v := (32 : Int32)) C dX5_step_33 (by decide) ?_
    refine g_icmp_ne (tgt := 51) C dX5_step_35 (by decide) (fun hc => ?_) (fun hc => ?_)
    · have hf := iteF hf hc
      refine g_sub (lv' := [some (.ref (E.2.1 + l0)), none]) ⟨rfl, trivial⟩ ?_
      exact l_Re_step_b51 C HR  hf
    · have hf := iteT hf hc
      refine g_aload_n C dX5_step_38 rfl ?_
      refine g_dup C dX5_step_39 rfl ?_
      obtain ⟨x7, hx7, hg, hf⟩ := gI_ok hf
      refine e_getI C fl_Re_115 dX5_step_40 hx7 hg ?_
      refine g_iconst (v := (1 : Int32)) C dX5_step_43 (by decide) ?_
      refine g_iadd C dX5_step_44 ?_
      obtain ⟨G8, hG8, hg, hf⟩ := pI_ok hf
      refine e_putI C fl_Re_115 dX5_step_45 hG8 hg (Or.inl rfl) rfl rfl ?_
      refine g_goto (tgt := 8) C dX5_step_48 (by decide) ?_
      refine g_sub (lv' := [some (.ref (E.2.1 + l0)), none]) ⟨rfl, trivial⟩ ?_
      exact K8 hf
theorem l_Re_step_b8 {E : EE} {X : CT} (C : gCx E X cX5_step "FavoursGoOff$Reader" none 2 45 0 0 false 2) {G' : Hp} (HR : gRet E X cX5_step none 0 0 none G') : ∀ (nn : Nat) {G : Hp} {l0 : Nat}, f_Re_step_b8 nn G l0 = some G' → gV E X 0 0 G 8 [some (.ref (E.2.1 + l0)), none] []
  | 0, _, _, hf => by have h0 : (none : Option Hp) = some G' := hf; cases h0
  | nn + 1, _, _, hf => l_Re_step_b8k C HR (fun h => l_Re_step_b8 C HR nn h) hf
set_option maxRecDepth 20000 in
theorem l_Re_step {E : EE} {X : CT} {G : Hp} (C : gCx E X cX5_step "FavoursGoOff$Reader" none 2 45 0 0 false 2) {G' : Hp} (HR : gRet E X cX5_step none 0 0 none G') {l0 : Nat} (hf : f_Re_step G l0 = some G') : gV E X 0 0 G 0 [some (.ref (E.2.1 + l0)), none] [] := by
  unfold f_Re_step at hf
  refine g_aload_n C dX5_step_0 rfl ?_
  refine g_aload_n C dX5_step_1 rfl ?_
  obtain ⟨x1, hx1, hg, hf⟩ := gI_ok hf
  refine e_getI C fl_Re_29 dX5_step_2 hx1 hg ?_
  obtain ⟨G2, hG2, hg, hf⟩ := pI_ok hf
  refine e_putI C fl_Re_115 dX5_step_5 hG2 hg (Or.inl rfl) rfl rfl ?_
  refine g_sub (lv' := [some (.ref (E.2.1 + l0)), none]) ⟨rfl, trivial⟩ ?_
  exact l_Re_step_b8 C HR  FU hf
theorem c_Re_step (E : EE) {G : Hp} {l0 : Nat} {G' : Hp} (h : f_Re_step G l0 = some G') : gCt E y_Re_step cX5_step 2 none 2 45 0 0 [.ref (E.2.1 + l0)] G none G' := gCt_of (own := "FavoursGoOff$Reader") (ini := false) [some (.ref (E.2.1 + l0)), none] (by decide +kernel) rfl (fun h => by cases h) (Nat.le_of_ble_eq_true rfl) ⟨rfl, trivial⟩ (fun X C HR => l_Re_step C HR h)
set_option maxRecDepth 20000 in
theorem l_Re_isWord_b24 {E : EE} {X : CT} {G : Hp} (C : gCx E X cX5_isWord "FavoursGoOff$Reader" (some .boolean) 4 200 0 0 false 3) {r : Int32} (HR : gRet E X cX5_isWord (some .boolean) 0 0 (some (.int r)) G) (hf : f_Re_isWord_b24 G = some r) : gV E X 0 0 G 24 [none, none, none] [] := by
  unfold f_Re_isWord_b24 at hf
  refine g_iconst (v := (0 : Int32)) C dX5_isWord_24 (by decide) ?_
  obtain rfl := rP_ok hf
  exact g_zret HR (Or.inl rfl) dX5_isWord_25
set_option maxRecDepth 20000 in
theorem l_Re_isWord_b28k {E : EE} {X : CT} {G : Hp} (C : gCx E X cX5_isWord "FavoursGoOff$Reader" (some .boolean) 4 200 0 0 false 3) {r : Int32} (HR : gRet E X cX5_isWord (some .boolean) 0 0 (some (.int r)) G) {k28 : Nat → Nat → Int32 → Option Int32} (K28 : ∀ {l0 : Nat} {l1 : Nat} {l2 : Int32}, k28 l0 l1 l2 = some r → gV E X 0 0 G 28 [some (.ref (E.2.1 + l0)), some (.ref (E.2.2.2.2.1 l1)), some (.int l2)] []) {l0 : Nat} {l1 : Nat} {l2 : Int32} (hf : f_Re_isWord_b28_k G k28 l0 l1 l2 = some r) : gV E X 0 0 G 28 [some (.ref (E.2.1 + l0)), some (.ref (E.2.2.2.2.1 l1)), some (.int l2)] [] := by
  unfold f_Re_isWord_b28_k at hf
  refine g_iload_n C dX5_isWord_28 rfl ?_
  refine g_aload_n C dX5_isWord_29 rfl ?_
  obtain ⟨x1, hx1, hg, hf⟩ := sL_ok hf
  refine e_sL C ml_Re_135 hx1 hg ⟨by omega, by omega, by omega, by omega⟩ (by exact Nat.le_of_ble_eq_true rfl) dX5_isWord_30 ?_
  refine g_icmp_ge (tgt := 65) C dX5_isWord_33 (by decide) (fun hc => ?_) (fun hc => ?_)
  · have hf := iteT hf hc
    refine g_iconst (v := (1 : Int32)) C dX5_isWord_65 (by decide) ?_
    obtain rfl := rP_ok hf
    exact g_zret HR (Or.inr rfl) dX5_isWord_66
  · have hf := iteF hf hc
    refine g_aload_n C dX5_isWord_36 rfl ?_
    obtain ⟨x2, hg, hf⟩ := gR_ok hf
    refine g_getR C fl_Re_12 dX5_isWord_37 hg ?_
    refine g_aload_n C dX5_isWord_40 rfl ?_
    obtain ⟨x3, hx3, hg, hf⟩ := gI_ok hf
    refine e_getI C fl_Re_115 dX5_isWord_41 hx3 hg ?_
    refine g_iload_n C dX5_isWord_44 rfl ?_
    refine g_iadd C dX5_isWord_45 ?_
    obtain ⟨x4, hg, h1, hf⟩ := vP_ok hf
    refine g_invV (As := [.int (x3 + l2)]) (st := []) C (c_Te_at E h1) (rfl : vwCl[8]? = some (y_Te_at.cls, TX8, 2)) (by decide) hg ml_Re_121 cm_Te_at.1 cm_Te_at.2.1 cm_Te_at.2.2.1 cm_Te_at.2.2.2.1 cm_Te_at.2.2.2.2 rfl ⟨by omega, by omega, by omega, by omega⟩ (by exact Nat.le_of_ble_eq_true rfl) rfl dX5_isWord_46 ?_
    refine g_aload_n C dX5_isWord_49 rfl ?_
    refine g_iload_n C dX5_isWord_50 rfl ?_
    obtain ⟨x5, hx5, hg, hf⟩ := sC_ok hf
    refine e_sC C ml_Re_140 hx5 hg ⟨by omega, by omega, by omega, by omega⟩ (by exact Nat.le_of_ble_eq_true rfl) dX5_isWord_51 ?_
    refine g_icmp_eq (tgt := 59) C dX5_isWord_54 (by decide) (fun hc => ?_) (fun hc => ?_)
    · have hf := iteT hf hc
      refine g_iinc (v := (l2 + 1)) (lv' := [some (.ref (E.2.1 + l0)), some (.ref (E.2.2.2.2.1 l1)), some (.int (l2 + 1))]) C dX5_isWord_59 (by decide) rfl rfl rfl ?_
      refine g_goto (tgt := 28) C dX5_isWord_62 (by decide) ?_
      refine g_sub (lv' := [some (.ref (E.2.1 + l0)), some (.ref (E.2.2.2.2.1 l1)), some (.int (l2 + 1))]) ⟨rfl, ⟨rfl, ⟨rfl, trivial⟩⟩⟩ ?_
      exact K28 hf
    · have hf := iteF hf hc
      refine g_iconst (v := (0 : Int32)) C dX5_isWord_57 (by decide) ?_
      obtain rfl := rP_ok hf
      exact g_zret HR (Or.inl rfl) dX5_isWord_58
theorem l_Re_isWord_b28 {E : EE} {X : CT} {G : Hp} (C : gCx E X cX5_isWord "FavoursGoOff$Reader" (some .boolean) 4 200 0 0 false 3) {r : Int32} (HR : gRet E X cX5_isWord (some .boolean) 0 0 (some (.int r)) G) : ∀ (nn : Nat) {l0 : Nat} {l1 : Nat} {l2 : Int32}, f_Re_isWord_b28 G nn l0 l1 l2 = some r → gV E X 0 0 G 28 [some (.ref (E.2.1 + l0)), some (.ref (E.2.2.2.2.1 l1)), some (.int l2)] []
  | 0, _, _, _, hf => by have h0 : (none : Option Int32) = some r := hf; cases h0
  | nn + 1, _, _, _, hf => l_Re_isWord_b28k C HR (fun h => l_Re_isWord_b28 C HR nn h) hf
set_option maxRecDepth 20000 in
theorem l_Re_isWord {E : EE} {X : CT} {G : Hp} (C : gCx E X cX5_isWord "FavoursGoOff$Reader" (some .boolean) 4 200 0 0 false 3) {r : Int32} (HR : gRet E X cX5_isWord (some .boolean) 0 0 (some (.int r)) G) {l0 : Nat} {l1 : Nat} (hf : f_Re_isWord G l0 l1 = some r) : gV E X 0 0 G 0 [some (.ref (E.2.1 + l0)), some (.ref (E.2.2.2.2.1 l1)), none] [] := by
  unfold f_Re_isWord at hf
  refine g_aload_n C dX5_isWord_0 rfl ?_
  obtain ⟨x1, hx1, hg, hf⟩ := gI_ok hf
  refine e_getI C fl_Re_38 dX5_isWord_1 hx1 hg ?_
  refine g_iconst (v := (1 : Int32)) C dX5_isWord_4 (by decide) ?_
  refine g_icmp_ne (tgt := 24) C dX5_isWord_5 (by decide) (fun hc => ?_) (fun hc => ?_)
  · have hf := iteF hf hc
    refine g_sub (lv' := [none, none, none]) trivial ?_
    exact l_Re_isWord_b24 C HR  hf
  · have hf := iteT hf hc
    refine g_aload_n C dX5_isWord_8 rfl ?_
    obtain ⟨x2, hx2, hg, hf⟩ := gI_ok hf
    refine e_getI C fl_Re_29 dX5_isWord_9 hx2 hg ?_
    refine g_aload_n C dX5_isWord_12 rfl ?_
    obtain ⟨x3, hx3, hg, hf⟩ := gI_ok hf
    refine e_getI C fl_Re_115 dX5_isWord_13 hx3 hg ?_
    refine g_isub C dX5_isWord_16 ?_
    refine g_aload_n C dX5_isWord_17 rfl ?_
    obtain ⟨x4, hx4, hg, hf⟩ := sL_ok hf
    refine e_sL C ml_Re_135 hx4 hg ⟨by omega, by omega, by omega, by omega⟩ (by exact Nat.le_of_ble_eq_true rfl) dX5_isWord_18 ?_
    refine g_icmp_eq (tgt := 26) C dX5_isWord_21 (by decide) (fun hc => ?_) (fun hc => ?_)
    · have hf := iteT hf hc
      refine g_iconst (v := (0 : Int32)) C dX5_isWord_26 (by decide) ?_
      refine g_istore_n (lv' := [some (.ref (E.2.1 + l0)), some (.ref (E.2.2.2.2.1 l1)), some (.int (0 : Int32))]) C dX5_isWord_27 (by decide) rfl ?_
      refine g_sub (lv' := [some (.ref (E.2.1 + l0)), some (.ref (E.2.2.2.2.1 l1)), some (.int (0 : Int32))]) ⟨rfl, ⟨rfl, ⟨rfl, trivial⟩⟩⟩ ?_
      exact l_Re_isWord_b28 C HR  FU hf
    · have hf := iteF hf hc
      refine g_sub (lv' := [none, none, none]) trivial ?_
      exact l_Re_isWord_b24 C HR  hf
theorem c_Re_isWord (E : EE) {G : Hp} {l0 : Nat} {l1 : Nat} {r : Int32} (h : f_Re_isWord G l0 l1 = some r) : gCt E y_Re_isWord cX5_isWord 3 (some .boolean) 4 200 0 0 [.ref (E.2.1 + l0), .ref (E.2.2.2.2.1 l1)] G (some (.int r)) G := gCt_of (own := "FavoursGoOff$Reader") (ini := false) [some (.ref (E.2.1 + l0)), some (.ref (E.2.2.2.2.1 l1)), none] (by decide +kernel) rfl (fun h => by cases h) (Nat.le_of_ble_eq_true rfl) ⟨rfl, ⟨rfl, trivial⟩⟩ (fun X C HR => l_Re_isWord C HR h)
set_option maxRecDepth 20000 in
theorem l_Re_fail_b16 {E : EE} {X : CT} {G : Hp} (C : gCx E X cX5_fail "FavoursGoOff$Reader" none 0 0 0 0 false 1) {G' : Hp} (HR : gRet E X cX5_fail none 0 0 none G') (hf : f_Re_fail_b16 G = some G') : gV E X 0 0 G 16 [none] [] := by
  unfold f_Re_fail_b16 at hf
  obtain rfl := rP_ok hf
  exact g_vret HR dX5_fail_16
set_option maxRecDepth 20000 in
theorem l_Re_fail {E : EE} {X : CT} {G : Hp} (C : gCx E X cX5_fail "FavoursGoOff$Reader" none 0 0 0 0 false 1) {G' : Hp} (HR : gRet E X cX5_fail none 0 0 none G') {l0 : Nat} (hf : f_Re_fail G l0 = some G') : gV E X 0 0 G 0 [some (.ref (E.2.1 + l0))] [] := by
  unfold f_Re_fail at hf
  refine g_aload_n C dX5_fail_0 rfl ?_
  obtain ⟨x1, hx1, hg, hf⟩ := gI_ok hf
  refine e_getI C fl_Re_25 dX5_fail_1 hx1 hg ?_
  refine g_iconst (v := (-1 : Int32)) C dX5_fail_4 (by decide) ?_
  refine g_icmp_ne (tgt := 16) C dX5_fail_5 (by decide) (fun hc => ?_) (fun hc => ?_)
  · have hf := iteF hf hc
    refine g_sub (lv' := [none]) trivial ?_
    exact l_Re_fail_b16 C HR  hf
  · have hf := iteT hf hc
    refine g_aload_n C dX5_fail_8 rfl ?_
    refine g_aload_n C dX5_fail_9 rfl ?_
    obtain ⟨x2, hx2, hg, hf⟩ := gI_ok hf
    refine e_getI C fl_Re_115 dX5_fail_10 hx2 hg ?_
    obtain ⟨G3, hG3, hg, hf⟩ := pI_ok hf
    refine e_putI C fl_Re_25 dX5_fail_13 hG3 hg (Or.inl rfl) rfl rfl ?_
    refine g_sub (lv' := [none]) trivial ?_
    exact l_Re_fail_b16 C HR  hf
theorem c_Re_fail (E : EE) {G : Hp} {l0 : Nat} {G' : Hp} (h : f_Re_fail G l0 = some G') : gCt E y_Re_fail cX5_fail 1 none 0 0 0 0 [.ref (E.2.1 + l0)] G none G' := gCt_of (own := "FavoursGoOff$Reader") (ini := false) [some (.ref (E.2.1 + l0))] (by decide +kernel) rfl (fun h => by cases h) (Nat.le_of_ble_eq_true rfl) ⟨rfl, trivial⟩ (fun X C HR => l_Re_fail C HR h)
set_option maxRecDepth 20000 in
theorem l_Re_takeNumber_b32 {E : EE} {X : CT} {G : Hp} (C : gCx E X cX5_takeNumber "FavoursGoOff$Reader" (some .int) 3 66 0 0 false 4) {r : Int32} {G' : Hp} (HR : gRet E X cX5_takeNumber (some .int) 0 0 (some (.int r)) G') {l0 : Nat} {l1 : Int32} (hf : f_Re_takeNumber_b32 G l0 l1 = some (r, G')) : gV E X 0 0 G 32 [some (.ref (E.2.1 + l0)), some (.int l1), none, none] [] := by
  unfold f_Re_takeNumber_b32 at hf
  refine g_aload_n C dX5_takeNumber_32 rfl ?_
  obtain ⟨G1, hg, h1, hf⟩ := vP_ok hf
  refine g_invV (As := []) (st := []) C (c_Re_fail E h1) (rfl : vwCl[5]? = some (y_Re_fail.cls, TX5, 8)) (by decide) hg ml_Re_50 cm_Re_fail.1 cm_Re_fail.2.1 cm_Re_fail.2.2.1 cm_Re_fail.2.2.2.1 cm_Re_fail.2.2.2.2 rfl ⟨by omega, by omega, by omega, by omega⟩ (by exact Nat.le_of_ble_eq_true rfl) rfl dX5_takeNumber_33 ?_
  refine g_iload_n C dX5_takeNumber_36 rfl ?_
  obtain ⟨rfl, rfl⟩ := rH_ok hf
  exact g_iret HR dX5_takeNumber_37
set_option maxRecDepth 20000 in
theorem l_Re_takeNumber {E : EE} {X : CT} {G : Hp} (C : gCx E X cX5_takeNumber "FavoursGoOff$Reader" (some .int) 3 66 0 0 false 4) {r : Int32} {G' : Hp} (HR : gRet E X cX5_takeNumber (some .int) 0 0 (some (.int r)) G') {l0 : Nat} {l1 : Int32} {l2 : Int32} (hf : f_Re_takeNumber G l0 l1 l2 = some (r, G')) : gV E X 0 0 G 0 [some (.ref (E.2.1 + l0)), some (.int l1), some (.int l2), none] [] := by
  unfold f_Re_takeNumber at hf
  refine g_aload_n C dX5_takeNumber_0 rfl ?_
  obtain ⟨x1, hx1, hg, hf⟩ := gI_ok hf
  refine e_getI C fl_Re_25 dX5_takeNumber_1 hx1 hg ?_
  refine g_iconst (v := (-1 : Int32)) C dX5_takeNumber_4 (by decide) ?_
  refine g_icmp_ne (tgt := 32) C dX5_takeNumber_5 (by decide) (fun hc => ?_) (fun hc => ?_)
  · have hf := iteF hf hc
    refine g_sub (lv' := [some (.ref (E.2.1 + l0)), some (.int l1), none, none]) ⟨rfl, ⟨rfl, trivial⟩⟩ ?_
    exact l_Re_takeNumber_b32 C HR  hf
  · have hf := iteT hf hc
    refine g_aload_n C dX5_takeNumber_8 rfl ?_
    obtain ⟨x2, hx2, hg, hf⟩ := gI_ok hf
    refine e_getI C fl_Re_38 dX5_takeNumber_9 hx2 hg ?_
    refine g_iconst (v := (2 : Int32)) C dX5_takeNumber_12 (by decide) ?_
    refine g_icmp_ne (tgt := 32) C dX5_takeNumber_13 (by decide) (fun hc => ?_) (fun hc => ?_)
    · have hf := iteF hf hc
      refine g_sub (lv' := [some (.ref (E.2.1 + l0)), some (.int l1), none, none]) ⟨rfl, ⟨rfl, trivial⟩⟩ ?_
      exact l_Re_takeNumber_b32 C HR  hf
    · have hf := iteT hf hc
      refine g_aload_n C dX5_takeNumber_16 rfl ?_
      obtain ⟨x3, hx3, hg, hf⟩ := gI_ok hf
      refine e_getI C fl_Re_112 dX5_takeNumber_17 hx3 hg ?_
      refine g_iload_n C dX5_takeNumber_20 rfl ?_
      refine g_icmp_lt (tgt := 32) C dX5_takeNumber_21 (by decide) (fun hc => ?_) (fun hc => ?_)
      · have hf := iteT hf hc
        refine g_sub (lv' := [some (.ref (E.2.1 + l0)), some (.int l1), none, none]) ⟨rfl, ⟨rfl, trivial⟩⟩ ?_
        exact l_Re_takeNumber_b32 C HR  hf
      · have hf := iteF hf hc
        refine g_aload_n C dX5_takeNumber_24 rfl ?_
        obtain ⟨x4, hx4, hg, hf⟩ := gI_ok hf
        refine e_getI C fl_Re_112 dX5_takeNumber_25 hx4 hg ?_
        refine g_iload_n C dX5_takeNumber_28 rfl ?_
        refine g_icmp_le (tgt := 38) C dX5_takeNumber_29 (by decide) (fun hc => ?_) (fun hc => ?_)
        · have hf := iteT hf hc
          refine g_aload_n C dX5_takeNumber_38 rfl ?_
          obtain ⟨x5, hx5, hg, hf⟩ := gI_ok hf
          refine e_getI C fl_Re_112 dX5_takeNumber_39 hx5 hg ?_
          refine g_istore_n (lv' := [some (.ref (E.2.1 + l0)), some (.int l1), some (.int l2), some (.int x5)]) C dX5_takeNumber_42 (by decide) rfl ?_
          refine g_aload_n C dX5_takeNumber_43 rfl ?_
          obtain ⟨G6, hg, h1, hf⟩ := vP_ok hf
          refine g_invV (As := []) (st := []) C (c_Re_step E h1) (rfl : vwCl[5]? = some (y_Re_step.cls, TX5, 8)) (by decide) hg ml_Re_32 cm_Re_step.1 cm_Re_step.2.1 cm_Re_step.2.2.1 cm_Re_step.2.2.2.1 cm_Re_step.2.2.2.2 rfl ⟨by omega, by omega, by omega, by omega⟩ (by exact Nat.le_of_ble_eq_true rfl) rfl dX5_takeNumber_44 ?_
          refine g_iload_n C dX5_takeNumber_47 rfl ?_
          obtain ⟨rfl, rfl⟩ := rH_ok hf
          exact g_iret HR dX5_takeNumber_48
        · have hf := iteF hf hc
          refine g_sub (lv' := [some (.ref (E.2.1 + l0)), some (.int l1), none, none]) ⟨rfl, ⟨rfl, trivial⟩⟩ ?_
          exact l_Re_takeNumber_b32 C HR  hf
theorem c_Re_takeNumber (E : EE) {G : Hp} {l0 : Nat} {l1 : Int32} {l2 : Int32} {r : Int32} {G' : Hp} (h : f_Re_takeNumber G l0 l1 l2 = some (r, G')) : gCt E y_Re_takeNumber cX5_takeNumber 4 (some .int) 3 66 0 0 [.ref (E.2.1 + l0), .int l1, .int l2] G (some (.int r)) G' := gCt_of (own := "FavoursGoOff$Reader") (ini := false) [some (.ref (E.2.1 + l0)), some (.int l1), some (.int l2), none] (by decide +kernel) rfl (fun h => by cases h) (Nat.le_of_ble_eq_true rfl) ⟨rfl, ⟨rfl, ⟨rfl, trivial⟩⟩⟩ (fun X C HR => l_Re_takeNumber C HR h)
set_option maxRecDepth 20000 in
theorem l_Re_takeStop_b16 {E : EE} {X : CT} {G : Hp} (C : gCx E X cX5_takeStop "FavoursGoOff$Reader" none 3 66 0 0 false 1) {G' : Hp} (HR : gRet E X cX5_takeStop none 0 0 none G') {l0 : Nat} (hf : f_Re_takeStop_b16 G l0 = some G') : gV E X 0 0 G 16 [some (.ref (E.2.1 + l0))] [] := by
  unfold f_Re_takeStop_b16 at hf
  refine g_aload_n C dX5_takeStop_16 rfl ?_
  obtain ⟨G1, hg, h1, hf⟩ := vP_ok hf
  refine g_invV (As := []) (st := []) C (c_Re_fail E h1) (rfl : vwCl[5]? = some (y_Re_fail.cls, TX5, 8)) (by decide) hg ml_Re_50 cm_Re_fail.1 cm_Re_fail.2.1 cm_Re_fail.2.2.1 cm_Re_fail.2.2.2.1 cm_Re_fail.2.2.2.2 rfl ⟨by omega, by omega, by omega, by omega⟩ (by exact Nat.le_of_ble_eq_true rfl) rfl dX5_takeStop_17 ?_
  obtain rfl := rP_ok hf
  exact g_vret HR dX5_takeStop_20
set_option maxRecDepth 20000 in
theorem l_Re_takeStop {E : EE} {X : CT} {G : Hp} (C : gCx E X cX5_takeStop "FavoursGoOff$Reader" none 3 66 0 0 false 1) {G' : Hp} (HR : gRet E X cX5_takeStop none 0 0 none G') {l0 : Nat} (hf : f_Re_takeStop G l0 = some G') : gV E X 0 0 G 0 [some (.ref (E.2.1 + l0))] [] := by
  unfold f_Re_takeStop at hf
  refine g_aload_n C dX5_takeStop_0 rfl ?_
  obtain ⟨x1, hx1, hg, hf⟩ := gI_ok hf
  refine e_getI C fl_Re_25 dX5_takeStop_1 hx1 hg ?_
  refine g_iconst (v := (-1 : Int32)) C dX5_takeStop_4 (by decide) ?_
  refine g_icmp_ne (tgt := 16) C dX5_takeStop_5 (by decide) (fun hc => ?_) (fun hc => ?_)
  · have hf := iteF hf hc
    refine g_sub (lv' := [some (.ref (E.2.1 + l0))]) ⟨rfl, trivial⟩ ?_
    exact l_Re_takeStop_b16 C HR  hf
  · have hf := iteT hf hc
    refine g_aload_n C dX5_takeStop_8 rfl ?_
    obtain ⟨x2, hx2, hg, hf⟩ := gI_ok hf
    refine e_getI C fl_Re_38 dX5_takeStop_9 hx2 hg ?_
    refine g_iconst (v := (3 : Int32)) C dX5_takeStop_12 (by decide) ?_
    refine g_icmp_eq (tgt := 21) C dX5_takeStop_13 (by decide) (fun hc => ?_) (fun hc => ?_)
    · have hf := iteT hf hc
      refine g_aload_n C dX5_takeStop_21 rfl ?_
      obtain ⟨G3, hg, h1, hf⟩ := vP_ok hf
      refine g_invV (As := []) (st := []) C (c_Re_step E h1) (rfl : vwCl[5]? = some (y_Re_step.cls, TX5, 8)) (by decide) hg ml_Re_32 cm_Re_step.1 cm_Re_step.2.1 cm_Re_step.2.2.1 cm_Re_step.2.2.2.1 cm_Re_step.2.2.2.2 rfl ⟨by omega, by omega, by omega, by omega⟩ (by exact Nat.le_of_ble_eq_true rfl) rfl dX5_takeStop_22 ?_
      obtain rfl := rP_ok hf
      exact g_vret HR dX5_takeStop_25
    · have hf := iteF hf hc
      refine g_sub (lv' := [some (.ref (E.2.1 + l0))]) ⟨rfl, trivial⟩ ?_
      exact l_Re_takeStop_b16 C HR  hf
theorem c_Re_takeStop (E : EE) {G : Hp} {l0 : Nat} {G' : Hp} (h : f_Re_takeStop G l0 = some G') : gCt E y_Re_takeStop cX5_takeStop 1 none 3 66 0 0 [.ref (E.2.1 + l0)] G none G' := gCt_of (own := "FavoursGoOff$Reader") (ini := false) [some (.ref (E.2.1 + l0))] (by decide +kernel) rfl (fun h => by cases h) (Nat.le_of_ble_eq_true rfl) ⟨rfl, trivial⟩ (fun X C HR => l_Re_takeStop C HR h)
set_option maxRecDepth 20000 in
theorem l_Ta_empty {E : EE} {X : CT} {G : Hp} (C : gCx E X cX7_empty "FavoursGoOff$Table" (some .int) 0 0 0 0 false 2) {r : Int32} {G' : Hp} (HR : gRet E X cX7_empty (some .int) 0 0 (some (.int r)) G') {l0 : Nat} (hf : f_Ta_empty G l0 = some (r, G')) : gV E X 0 0 G 0 [some (.ref (E.2.1 + l0)), none] [] := by
  unfold f_Ta_empty at hf
  refine g_aload_n C dX7_empty_0 rfl ?_
  obtain ⟨x1, hx1, hg, hf⟩ := gI_ok hf
  refine e_getI C fl_Ta_25 dX7_empty_1 hx1 hg ?_
  refine g_istore_n (lv' := [some (.ref (E.2.1 + l0)), some (.int x1)]) C dX7_empty_4 (by decide) rfl ?_
  refine g_aload_n C dX7_empty_5 rfl ?_
  refine g_iconst (v := (0 : Int32)) C dX7_empty_6 (by decide) ?_
  obtain ⟨G2, hG2, hg, hf⟩ := pI_ok hf
  refine e_putI C fl_Ta_25 dX7_empty_7 hG2 hg (Or.inl rfl) rfl rfl ?_
  refine g_iload_n C dX7_empty_10 rfl ?_
  obtain ⟨rfl, rfl⟩ := rH_ok hf
  exact g_iret HR dX7_empty_11
theorem c_Ta_empty (E : EE) {G : Hp} {l0 : Nat} {r : Int32} {G' : Hp} (h : f_Ta_empty G l0 = some (r, G')) : gCt E y_Ta_empty cX7_empty 2 (some .int) 0 0 0 0 [.ref (E.2.1 + l0)] G (some (.int r)) G' := gCt_of (own := "FavoursGoOff$Table") (ini := false) [some (.ref (E.2.1 + l0)), none] (by decide +kernel) rfl (fun h => by cases h) (Nat.le_of_ble_eq_true rfl) ⟨rfl, trivial⟩ (fun X C HR => l_Ta_empty C HR h)
set_option maxRecDepth 20000 in
theorem l_Ta_isFull_b24 {E : EE} {X : CT} {G : Hp} (C : gCx E X cX7_isFull "FavoursGoOff$Table" (some .boolean) 0 0 0 0 false 1) {r : Int32} (HR : gRet E X cX7_isFull (some .boolean) 0 0 (some (.int r)) G) {s0 : Int32} (hf : f_Ta_isFull_b24 G s0 = some r) : gV E X 0 0 G 24 [none] [.int s0] := by
  unfold f_Ta_isFull_b24 at hf
  obtain ⟨hv, hf⟩ := zR_ok hf
  obtain rfl := rP_ok hf
  exact g_zret HR hv dX7_isFull_24
set_option maxRecDepth 20000 in
theorem l_Ta_isFull {E : EE} {X : CT} {G : Hp} (C : gCx E X cX7_isFull "FavoursGoOff$Table" (some .boolean) 0 0 0 0 false 1) {r : Int32} (HR : gRet E X cX7_isFull (some .boolean) 0 0 (some (.int r)) G) {l0 : Nat} (hf : f_Ta_isFull G l0 = some r) : gV E X 0 0 G 0 [some (.ref (E.2.1 + l0))] [] := by
  unfold f_Ta_isFull at hf
  refine g_aload_n C dX7_isFull_0 rfl ?_
  obtain ⟨x1, hx1, hg, hf⟩ := gI_ok hf
  refine e_getI C fl_Ta_25 dX7_isFull_1 hx1 hg ?_
  refine g_iconst (v := (1 : Int32)) C dX7_isFull_4 (by decide) ?_
  refine g_iadd C dX7_isFull_5 ?_
  refine g_aload_n C dX7_isFull_6 rfl ?_
  obtain ⟨x2, hx2, hg, hf⟩ := gI_ok hf
  refine e_getI C fl_Ta_9 dX7_isFull_7 hx2 hg ?_
  refine g_imul C dX7_isFull_10 ?_
  refine g_aload_n C dX7_isFull_11 rfl ?_
  obtain ⟨x3, hg, hf⟩ := gR_ok hf
  refine g_getR C fl_Ta_21 dX7_isFull_12 hg ?_
  obtain ⟨x4, hx4, hg, hf⟩ := aL_ok hf
  refine e_alen C dX7_isFull_15 hx4 hg ?_
  refine g_icmp_le (tgt := 23) C dX7_isFull_16 (by decide) (fun hc => ?_) (fun hc => ?_)
  · have hf := iteT hf hc
    refine g_iconst (v := (0 : Int32)) C dX7_isFull_23 (by decide) ?_
    refine g_sub (lv' := [none]) trivial ?_
    exact l_Ta_isFull_b24 C HR  hf
  · have hf := iteF hf hc
    refine g_iconst (v := (1 : Int32)) C dX7_isFull_19 (by decide) ?_
    refine g_goto (tgt := 24) C dX7_isFull_20 (by decide) ?_
    refine g_sub (lv' := [none]) trivial ?_
    exact l_Ta_isFull_b24 C HR  hf
theorem c_Ta_isFull (E : EE) {G : Hp} {l0 : Nat} {r : Int32} (h : f_Ta_isFull G l0 = some r) : gCt E y_Ta_isFull cX7_isFull 1 (some .boolean) 0 0 0 0 [.ref (E.2.1 + l0)] G (some (.int r)) G := gCt_of (own := "FavoursGoOff$Table") (ini := false) [some (.ref (E.2.1 + l0))] (by decide +kernel) rfl (fun h => by cases h) (Nat.le_of_ble_eq_true rfl) ⟨rfl, trivial⟩ (fun X C HR => l_Ta_isFull C HR h)
set_option maxRecDepth 20000 in
theorem l_Ta_add {E : EE} {X : CT} {G : Hp} (C : gCx E X cX7_add "FavoursGoOff$Table" (some .int) 1 20 0 0 false 1) {r : Int32} {G' : Hp} (HR : gRet E X cX7_add (some .int) 0 0 (some (.int r)) G') {l0 : Nat} (hf : f_Ta_add G l0 = some (r, G')) : gV E X 0 0 G 0 [some (.ref (E.2.1 + l0))] [] := by
  unfold f_Ta_add at hf
  refine g_aload_n C dX7_add_0 rfl ?_
  obtain ⟨x1, hg, h1, hf⟩ := vP_ok hf
  refine g_invV (As := []) (st := []) C (c_Ta_isFull E h1) (rfl : vwCl[7]? = some (y_Ta_isFull.cls, TX7, 3)) (by decide) hg ml_Ta_38 cm_Ta_isFull.1 cm_Ta_isFull.2.1 cm_Ta_isFull.2.2.1 cm_Ta_isFull.2.2.2.1 cm_Ta_isFull.2.2.2.2 rfl ⟨by omega, by omega, by omega, by omega⟩ (by exact Nat.le_of_ble_eq_true rfl) rfl dX7_add_1 ?_
  refine g_if_eq (tgt := 9) C dX7_add_4 (by decide) (fun hc => ?_) (fun hc => ?_)
  · have hf := iteT hf hc
    refine g_aload_n C dX7_add_9 rfl ?_
    refine g_dup C dX7_add_10 rfl ?_
    obtain ⟨x2, hx2, hg, hf⟩ := gI_ok hf
    refine e_getI C fl_Ta_25 dX7_add_11 hx2 hg ?_
    refine g_iconst (v := (1 : Int32)) C dX7_add_14 (by decide) ?_
    refine g_iadd C dX7_add_15 ?_
    obtain ⟨G3, hG3, hg, hf⟩ := pI_ok hf
    refine e_putI C fl_Ta_25 dX7_add_16 hG3 hg (Or.inl rfl) rfl rfl ?_
    refine g_aload_n C dX7_add_19 rfl ?_
    obtain ⟨x4, hx4, hg, hf⟩ := gI_ok hf
    refine e_getI C fl_Ta_25 dX7_add_20 hx4 hg ?_
    refine g_iconst (v := (1 : Int32)) C dX7_add_23 (by decide) ?_
    refine g_isub C dX7_add_24 ?_
    obtain ⟨rfl, rfl⟩ := rH_ok hf
    exact g_iret HR dX7_add_25
  · have hf := iteF hf hc
    refine g_iconst (v := (-1 : Int32)) C dX7_add_7 (by decide) ?_
    obtain ⟨rfl, rfl⟩ := rH_ok hf
    exact g_iret HR dX7_add_8
theorem c_Ta_add (E : EE) {G : Hp} {l0 : Nat} {r : Int32} {G' : Hp} (h : f_Ta_add G l0 = some (r, G')) : gCt E y_Ta_add cX7_add 1 (some .int) 1 20 0 0 [.ref (E.2.1 + l0)] G (some (.int r)) G' := gCt_of (own := "FavoursGoOff$Table") (ini := false) [some (.ref (E.2.1 + l0))] (by decide +kernel) rfl (fun h => by cases h) (Nat.le_of_ble_eq_true rfl) ⟨rfl, trivial⟩ (fun X C HR => l_Ta_add C HR h)
set_option maxRecDepth 20000 in
theorem l_St_open_b10k {E : EE} {X : CT} {G : Hp} (C : gCx E X cX6_open "FavoursGoOff$Street" none 2 47 0 0 false 4) {G' : Hp} (HR : gRet E X cX6_open none 0 0 none G') {k10 : Hp → Nat → Int32 → Int32 → Option Hp} (K10 : ∀ {G : Hp} {l0 : Nat} {l1 : Int32} {l2 : Int32}, k10 G l0 l1 l2 = some G' → gV E X 0 0 G 10 [some (.ref (E.2.1 + l0)), some (.int l1), some (.int l2), none] []) {l0 : Nat} {l1 : Int32} {l2 : Int32} (hf : f_St_open_b10_k k10 G l0 l1 l2 = some G') : gV E X 0 0 G 10 [some (.ref (E.2.1 + l0)), some (.int l1), some (.int l2), none] [] := by
  unfold f_St_open_b10_k at hf
  refine g_iload_n C dX6_open_10 rfl ?_
  refine g_iload_n C dX6_open_11 rfl ?_
  refine g_icmp_ge (tgt := 50) C dX6_open_12 (by decide) (fun hc => ?_) (fun hc => ?_)
  · have hf := iteT hf hc
    refine g_aload_n C dX6_open_50 rfl ?_
    obtain ⟨x1, hg, hf⟩ := gR_ok hf
    refine g_getR C fl_St_20 dX6_open_51 hg ?_
    obtain ⟨x2, G3, hg, h1, hf⟩ := vH_ok hf
    refine g_invV (As := []) (st := []) C (c_Ta_empty E h1) (rfl : vwCl[7]? = some (y_Ta_empty.cls, TX7, 3)) (by decide) hg ml_St_36 cm_Ta_empty.1 cm_Ta_empty.2.1 cm_Ta_empty.2.2.1 cm_Ta_empty.2.2.2.1 cm_Ta_empty.2.2.2.2 rfl ⟨by omega, by omega, by omega, by omega⟩ (by exact Nat.le_of_ble_eq_true rfl) rfl dX6_open_54 ?_
    refine g_pop C dX6_open_57 rfl ?_
    refine g_aload_n C dX6_open_58 rfl ?_
    obtain ⟨x4, hg, hf⟩ := gR_ok hf
    refine g_getR C fl_St_23 dX6_open_59 hg ?_
    obtain ⟨x5, G6, hg, h1, hf⟩ := vH_ok hf
    refine g_invV (As := []) (st := []) C (c_Ta_empty E h1) (rfl : vwCl[7]? = some (y_Ta_empty.cls, TX7, 3)) (by decide) hg ml_St_36 cm_Ta_empty.1 cm_Ta_empty.2.1 cm_Ta_empty.2.2.1 cm_Ta_empty.2.2.2.1 cm_Ta_empty.2.2.2.2 rfl ⟨by omega, by omega, by omega, by omega⟩ (by exact Nat.le_of_ble_eq_true rfl) rfl dX6_open_62 ?_
    refine g_pop C dX6_open_65 rfl ?_
    refine g_aload_n C dX6_open_66 rfl ?_
    obtain ⟨x7, hg, hf⟩ := gR_ok hf
    refine g_getR C fl_St_26 dX6_open_67 hg ?_
    obtain ⟨x8, G9, hg, h1, hf⟩ := vH_ok hf
    refine g_invV (As := []) (st := []) C (c_Ta_empty E h1) (rfl : vwCl[7]? = some (y_Ta_empty.cls, TX7, 3)) (by decide) hg ml_St_36 cm_Ta_empty.1 cm_Ta_empty.2.1 cm_Ta_empty.2.2.1 cm_Ta_empty.2.2.2.1 cm_Ta_empty.2.2.2.2 rfl ⟨by omega, by omega, by omega, by omega⟩ (by exact Nat.le_of_ble_eq_true rfl) rfl dX6_open_70 ?_
    refine g_pop C dX6_open_73 rfl ?_
    refine g_aload_n C dX6_open_74 rfl ?_
    refine g_iconst (v := (0 : Int32)) C dX6_open_75 (by decide) ?_
    obtain ⟨G10, hG10, hg, hf⟩ := pI_ok hf
    refine e_putI C fl_St_47 dX6_open_76 hG10 hg (Or.inl rfl) rfl rfl ?_
    obtain rfl := rP_ok hf
    exact g_vret HR dX6_open_79
  · have hf := iteF hf hc
    refine g_aload_n C dX6_open_15 rfl ?_
    obtain ⟨x11, hg, hf⟩ := gR_ok hf
    refine g_getR C fl_St_14 dX6_open_16 hg ?_
    obtain ⟨x12, G13, hg, h1, hf⟩ := vH_ok hf
    refine g_invV (As := []) (st := []) C (c_Ta_add E h1) (rfl : vwCl[7]? = some (y_Ta_add.cls, TX7, 3)) (by decide) hg ml_St_40 cm_Ta_add.1 cm_Ta_add.2.1 cm_Ta_add.2.2.1 cm_Ta_add.2.2.2.1 cm_Ta_add.2.2.2.2 rfl ⟨by omega, by omega, by omega, by omega⟩ (by exact Nat.le_of_ble_eq_true rfl) rfl dX6_open_19 ?_
    refine g_istore_n (lv' := [some (.ref (E.2.1 + l0)), some (.int l1), some (.int l2), some (.int x12)]) C dX6_open_22 (by decide) rfl ?_
    refine g_aload_n C dX6_open_23 rfl ?_
    obtain ⟨x14, hg, hf⟩ := gR_ok hf
    refine g_getR C fl_St_14 dX6_open_24 hg ?_
    refine g_iload_n C dX6_open_27 rfl ?_
    refine g_iconst (v := (0 : Int32)) C dX6_open_28 (by decide) ?_
    refine g_bipush (v := (20 : Int32)) C dX6_open_29 (by decide) ?_
    obtain ⟨G15, hg, h1, hf⟩ := vP_ok hf
    refine g_invV (As := [.int x12, .int (0 : Int32), .int (20 : Int32)]) (st := []) C (c_Ta_put E h1) (rfl : vwCl[7]? = some (y_Ta_put.cls, TX7, 3)) (by decide) hg ml_St_43 cm_Ta_put.1 cm_Ta_put.2.1 cm_Ta_put.2.2.1 cm_Ta_put.2.2.2.1 cm_Ta_put.2.2.2.2 rfl ⟨by omega, by omega, by omega, by omega⟩ (by exact Nat.le_of_ble_eq_true rfl) rfl dX6_open_31 ?_
    refine g_aload_n C dX6_open_34 rfl ?_
    obtain ⟨x16, hg, hf⟩ := gR_ok hf
    refine g_getR C fl_St_14 dX6_open_35 hg ?_
    refine g_iload_n C dX6_open_38 rfl ?_
    refine g_iconst (v := (1 : Int32)) C dX6_open_39 (by decide) ?_
    refine g_iconst (v := (0 : Int32)) C dX6_open_40 (by decide) ?_
    obtain ⟨G17, hg, h1, hf⟩ := vP_ok hf
    refine g_invV (As := [.int x12, .int (1 : Int32), .int (0 : Int32)]) (st := []) C (c_Ta_put E h1) (rfl : vwCl[7]? = some (y_Ta_put.cls, TX7, 3)) (by decide) hg ml_St_43 cm_Ta_put.1 cm_Ta_put.2.1 cm_Ta_put.2.2.1 cm_Ta_put.2.2.2.1 cm_Ta_put.2.2.2.2 rfl ⟨by omega, by omega, by omega, by omega⟩ (by exact Nat.le_of_ble_eq_true rfl) rfl dX6_open_41 ?_
    refine g_iinc (v := (l2 + 1)) (lv' := [some (.ref (E.2.1 + l0)), some (.int l1), some (.int (l2 + 1)), some (.int x12)]) C dX6_open_44 (by decide) rfl rfl rfl ?_
    refine g_goto (tgt := 10) C dX6_open_47 (by decide) ?_
    refine g_sub (lv' := [some (.ref (E.2.1 + l0)), some (.int l1), some (.int (l2 + 1)), none]) ⟨rfl, ⟨rfl, ⟨rfl, trivial⟩⟩⟩ ?_
    exact K10 hf
theorem l_St_open_b10 {E : EE} {X : CT} (C : gCx E X cX6_open "FavoursGoOff$Street" none 2 47 0 0 false 4) {G' : Hp} (HR : gRet E X cX6_open none 0 0 none G') : ∀ (nn : Nat) {G : Hp} {l0 : Nat} {l1 : Int32} {l2 : Int32}, f_St_open_b10 nn G l0 l1 l2 = some G' → gV E X 0 0 G 10 [some (.ref (E.2.1 + l0)), some (.int l1), some (.int l2), none] []
  | 0, _, _, _, _, hf => by have h0 : (none : Option Hp) = some G' := hf; cases h0
  | nn + 1, _, _, _, _, hf => l_St_open_b10k C HR (fun h => l_St_open_b10 C HR nn h) hf
set_option maxRecDepth 20000 in
theorem l_St_open {E : EE} {X : CT} {G : Hp} (C : gCx E X cX6_open "FavoursGoOff$Street" none 2 47 0 0 false 4) {G' : Hp} (HR : gRet E X cX6_open none 0 0 none G') {l0 : Nat} {l1 : Int32} (hf : f_St_open G l0 l1 = some G') : gV E X 0 0 G 0 [some (.ref (E.2.1 + l0)), some (.int l1), none, none] [] := by
  unfold f_St_open at hf
  refine g_aload_n C dX6_open_0 rfl ?_
  obtain ⟨x1, hg, hf⟩ := gR_ok hf
  refine g_getR C fl_St_14 dX6_open_1 hg ?_
  obtain ⟨x2, G3, hg, h1, hf⟩ := vH_ok hf
  refine g_invV (As := []) (st := []) C (c_Ta_empty E h1) (rfl : vwCl[7]? = some (y_Ta_empty.cls, TX7, 3)) (by decide) hg ml_St_36 cm_Ta_empty.1 cm_Ta_empty.2.1 cm_Ta_empty.2.2.1 cm_Ta_empty.2.2.2.1 cm_Ta_empty.2.2.2.2 rfl ⟨by omega, by omega, by omega, by omega⟩ (by exact Nat.le_of_ble_eq_true rfl) rfl dX6_open_4 ?_
  refine g_pop C dX6_open_7 rfl ?_
  refine g_iconst (v := (0 : Int32)) C dX6_open_8 (by decide) ?_
  refine g_istore_n (lv' := [some (.ref (E.2.1 + l0)), some (.int l1), some (.int (0 : Int32)), none]) C dX6_open_9 (by decide) rfl ?_
  refine g_sub (lv' := [some (.ref (E.2.1 + l0)), some (.int l1), some (.int (0 : Int32)), none]) ⟨rfl, ⟨rfl, ⟨rfl, trivial⟩⟩⟩ ?_
  exact l_St_open_b10 C HR  FU hf
theorem c_St_open (E : EE) {G : Hp} {l0 : Nat} {l1 : Int32} {G' : Hp} (h : f_St_open G l0 l1 = some G') : gCt E y_St_open cX6_open 4 none 2 47 0 0 [.ref (E.2.1 + l0), .int l1] G none G' := gCt_of (own := "FavoursGoOff$Street") (ini := false) [some (.ref (E.2.1 + l0)), some (.int l1), none, none] (by decide +kernel) rfl (fun h => by cases h) (Nat.le_of_ble_eq_true rfl) ⟨rfl, ⟨rfl, trivial⟩⟩ (fun X C HR => l_St_open C HR h)
set_option maxRecDepth 20000 in
theorem l_Re_readPeople_b53 {E : EE} {X : CT} {G : Hp} (C : gCx E X cX5_readPeople "FavoursGoOff$Reader" none 5 222 0 0 false 2) {G' : Hp} (HR : gRet E X cX5_readPeople none 0 0 none G') (hf : f_Re_readPeople_b53 G = some G') : gV E X 0 0 G 53 [none, none] [] := by
  unfold f_Re_readPeople_b53 at hf
  obtain rfl := rP_ok hf
  exact g_vret HR dX5_readPeople_53
set_option maxRecDepth 20000 in
theorem l_Re_readPeople {E : EE} {X : CT} {G : Hp} (C : gCx E X cX5_readPeople "FavoursGoOff$Reader" none 5 222 0 0 false 2) {G' : Hp} (HR : gRet E X cX5_readPeople none 0 0 none G') {l0 : Nat} (hf : f_Re_readPeople G l0 = some G') : gV E X 0 0 G 0 [some (.ref (E.2.1 + l0)), none] [] := by
  unfold f_Re_readPeople at hf
  refine g_aload_n C dX5_readPeople_0 rfl ?_
  refine g_ldcS (i := 0) C rfl dX5_readPeople_1 ?_
  obtain ⟨x1, hg, h1, hf⟩ := vP_ok hf
  refine g_invV (As := [.ref (E.2.2.2.2.1 0)]) (st := []) C (c_Re_isWord E h1) (rfl : vwCl[5]? = some (y_Re_isWord.cls, TX5, 8)) (by decide) hg ml_Re_46 cm_Re_isWord.1 cm_Re_isWord.2.1 cm_Re_isWord.2.2.1 cm_Re_isWord.2.2.2.1 cm_Re_isWord.2.2.2.2 rfl ⟨by omega, by omega, by omega, by omega⟩ (by exact Nat.le_of_ble_eq_true rfl) rfl dX5_readPeople_3 ?_
  refine g_if_ne (tgt := 14) C dX5_readPeople_6 (by decide) (fun hc => ?_) (fun hc => ?_)
  · have hf := iteF hf hc
    refine g_aload_n C dX5_readPeople_14 rfl ?_
    obtain ⟨G2, hg, h1, hf⟩ := vP_ok hf
    refine g_invV (As := []) (st := []) C (c_Re_step E h1) (rfl : vwCl[5]? = some (y_Re_step.cls, TX5, 8)) (by decide) hg ml_Re_32 cm_Re_step.1 cm_Re_step.2.1 cm_Re_step.2.2.1 cm_Re_step.2.2.2.1 cm_Re_step.2.2.2.2 rfl ⟨by omega, by omega, by omega, by omega⟩ (by exact Nat.le_of_ble_eq_true rfl) rfl dX5_readPeople_15 ?_
    refine g_aload_n C dX5_readPeople_18 rfl ?_
    refine g_iconst (v := (2 : Int32)) C dX5_readPeople_19 (by decide) ?_
    refine g_bipush (v := (6 : Int32)) C dX5_readPeople_20 (by decide) ?_
    obtain ⟨x3, G4, hg, h1, hf⟩ := vH_ok hf
    refine g_invV (As := [.int (2 : Int32), .int (6 : Int32)]) (st := []) C (c_Re_takeNumber E h1) (rfl : vwCl[5]? = some (y_Re_takeNumber.cls, TX5, 8)) (by decide) hg ml_Re_53 cm_Re_takeNumber.1 cm_Re_takeNumber.2.1 cm_Re_takeNumber.2.2.1 cm_Re_takeNumber.2.2.2.1 cm_Re_takeNumber.2.2.2.2 rfl ⟨by omega, by omega, by omega, by omega⟩ (by exact Nat.le_of_ble_eq_true rfl) rfl dX5_readPeople_22 ?_
    refine g_istore_n (lv' := [some (.ref (E.2.1 + l0)), some (.int x3)]) C dX5_readPeople_25 (by decide) rfl ?_
    refine g_aload_n C dX5_readPeople_26 rfl ?_
    obtain ⟨G5, hg, h1, hf⟩ := vP_ok hf
    refine g_invV (As := []) (st := []) C (c_Re_takeStop E h1) (rfl : vwCl[5]? = some (y_Re_takeStop.cls, TX5, 8)) (by decide) hg ml_Re_57 cm_Re_takeStop.1 cm_Re_takeStop.2.1 cm_Re_takeStop.2.2.1 cm_Re_takeStop.2.2.2.1 cm_Re_takeStop.2.2.2.2 rfl ⟨by omega, by omega, by omega, by omega⟩ (by exact Nat.le_of_ble_eq_true rfl) rfl dX5_readPeople_27 ?_
    refine g_aload_n C dX5_readPeople_30 rfl ?_
    obtain ⟨x6, hx6, hg, hf⟩ := gI_ok hf
    refine e_getI C fl_Re_25 dX5_readPeople_31 hx6 hg ?_
    refine g_iconst (v := (-1 : Int32)) C dX5_readPeople_34 (by decide) ?_
    refine g_icmp_ne (tgt := 53) C dX5_readPeople_35 (by decide) (fun hc => ?_) (fun hc => ?_)
    · have hf := iteF hf hc
      refine g_sub (lv' := [none, none]) trivial ?_
      exact l_Re_readPeople_b53 C HR  hf
    · have hf := iteT hf hc
      refine g_aload_n C dX5_readPeople_38 rfl ?_
      obtain ⟨x7, hg, hf⟩ := gR_ok hf
      refine g_getR C fl_Re_21 dX5_readPeople_39 hg ?_
      refine g_iload_n C dX5_readPeople_42 rfl ?_
      obtain ⟨G8, hg, h1, hf⟩ := vP_ok hf
      refine g_invV (As := [.int x3]) (st := []) C (c_St_open E h1) (rfl : vwCl[6]? = some (y_St_open.cls, TX6, 6)) (by decide) hg ml_Re_60 cm_St_open.1 cm_St_open.2.1 cm_St_open.2.2.1 cm_St_open.2.2.2.1 cm_St_open.2.2.2.2 rfl ⟨by omega, by omega, by omega, by omega⟩ (by exact Nat.le_of_ble_eq_true rfl) rfl dX5_readPeople_43 ?_
      refine g_aload_n C dX5_readPeople_46 rfl ?_
      refine g_iload_n C dX5_readPeople_47 rfl ?_
      refine g_iconst (v := (1 : Int32)) C dX5_readPeople_48 (by decide) ?_
      refine g_isub C dX5_readPeople_49 ?_
      obtain ⟨G9, hG9, hg, hf⟩ := pI_ok hf
      refine e_putI C fl_Re_64 dX5_readPeople_50 hG9 hg (Or.inl rfl) rfl rfl ?_
      refine g_sub (lv' := [none, none]) trivial ?_
      exact l_Re_readPeople_b53 C HR  hf
  · have hf := iteT hf hc
    refine g_aload_n C dX5_readPeople_9 rfl ?_
    obtain ⟨G10, hg, h1, hf⟩ := vP_ok hf
    refine g_invV (As := []) (st := []) C (c_Re_fail E h1) (rfl : vwCl[5]? = some (y_Re_fail.cls, TX5, 8)) (by decide) hg ml_Re_50 cm_Re_fail.1 cm_Re_fail.2.1 cm_Re_fail.2.2.1 cm_Re_fail.2.2.2.1 cm_Re_fail.2.2.2.2 rfl ⟨by omega, by omega, by omega, by omega⟩ (by exact Nat.le_of_ble_eq_true rfl) rfl dX5_readPeople_10 ?_
    obtain rfl := rP_ok hf
    exact g_vret HR dX5_readPeople_13
theorem c_Re_readPeople (E : EE) {G : Hp} {l0 : Nat} {G' : Hp} (h : f_Re_readPeople G l0 = some G') : gCt E y_Re_readPeople cX5_readPeople 2 none 5 222 0 0 [.ref (E.2.1 + l0)] G none G' := gCt_of (own := "FavoursGoOff$Reader") (ini := false) [some (.ref (E.2.1 + l0)), none] (by decide +kernel) rfl (fun h => by cases h) (Nat.le_of_ble_eq_true rfl) ⟨rfl, trivial⟩ (fun X C HR => l_Re_readPeople C HR h)
set_option maxRecDepth 20000 in
theorem l_Re_readStrong_b47 {E : EE} {X : CT} {G : Hp} (C : gCx E X cX5_readStrong "FavoursGoOff$Reader" none 4 89 0 0 false 3) {G' : Hp} (HR : gRet E X cX5_readStrong none 0 0 none G') (hf : f_Re_readStrong_b47 G = some G') : gV E X 0 0 G 47 [none, none, none] [] := by
  unfold f_Re_readStrong_b47 at hf
  obtain rfl := rP_ok hf
  exact g_vret HR dX5_readStrong_47
set_option maxRecDepth 20000 in
theorem l_Re_readStrong {E : EE} {X : CT} {G : Hp} (C : gCx E X cX5_readStrong "FavoursGoOff$Reader" none 4 89 0 0 false 3) {G' : Hp} (HR : gRet E X cX5_readStrong none 0 0 none G') {l0 : Nat} (hf : f_Re_readStrong G l0 = some G') : gV E X 0 0 G 0 [some (.ref (E.2.1 + l0)), none, none] [] := by
  unfold f_Re_readStrong at hf
  refine g_aload_n C dX5_readStrong_0 rfl ?_
  obtain ⟨G1, hg, h1, hf⟩ := vP_ok hf
  refine g_invV (As := []) (st := []) C (c_Re_step E h1) (rfl : vwCl[5]? = some (y_Re_step.cls, TX5, 8)) (by decide) hg ml_Re_32 cm_Re_step.1 cm_Re_step.2.1 cm_Re_step.2.2.1 cm_Re_step.2.2.2.1 cm_Re_step.2.2.2.2 rfl ⟨by omega, by omega, by omega, by omega⟩ (by exact Nat.le_of_ble_eq_true rfl) rfl dX5_readStrong_1 ?_
  refine g_aload_n C dX5_readStrong_4 rfl ?_
  refine g_iconst (v := (0 : Int32)) C dX5_readStrong_5 (by decide) ?_
  refine g_aload_n C dX5_readStrong_6 rfl ?_
  obtain ⟨x2, hx2, hg, hf⟩ := gI_ok hf
  refine e_getI C fl_Re_64 dX5_readStrong_7 hx2 hg ?_
  obtain ⟨x3, G4, hg, h1, hf⟩ := vH_ok hf
  refine g_invV (As := [.int (0 : Int32), .int x2]) (st := []) C (c_Re_takeNumber E h1) (rfl : vwCl[5]? = some (y_Re_takeNumber.cls, TX5, 8)) (by decide) hg ml_Re_53 cm_Re_takeNumber.1 cm_Re_takeNumber.2.1 cm_Re_takeNumber.2.2.1 cm_Re_takeNumber.2.2.2.1 cm_Re_takeNumber.2.2.2.2 rfl ⟨by omega, by omega, by omega, by omega⟩ (by exact Nat.le_of_ble_eq_true rfl) rfl dX5_readStrong_10 ?_
  refine g_istore_n (lv' := [some (.ref (E.2.1 + l0)), some (.int x3), none]) C dX5_readStrong_13 (by decide) rfl ?_
  refine g_aload_n C dX5_readStrong_14 rfl ?_
  refine g_iconst (v := (0 : Int32)) C dX5_readStrong_15 (by decide) ?_
  refine g_bipush (v := (99 : Int32)) C dX5_readStrong_16 (by decide) ?_
  obtain ⟨x5, G6, hg, h1, hf⟩ := vH_ok hf
  refine g_invV (As := [.int (0 : Int32), .int (99 : Int32)]) (st := []) C (c_Re_takeNumber E h1) (rfl : vwCl[5]? = some (y_Re_takeNumber.cls, TX5, 8)) (by decide) hg ml_Re_53 cm_Re_takeNumber.1 cm_Re_takeNumber.2.1 cm_Re_takeNumber.2.2.1 cm_Re_takeNumber.2.2.2.1 cm_Re_takeNumber.2.2.2.2 rfl ⟨by omega, by omega, by omega, by omega⟩ (by exact Nat.le_of_ble_eq_true rfl) rfl dX5_readStrong_18 ?_
  refine g_istore_n (lv' := [some (.ref (E.2.1 + l0)), some (.int x3), some (.int x5)]) C dX5_readStrong_21 (by decide) rfl ?_
  refine g_aload_n C dX5_readStrong_22 rfl ?_
  obtain ⟨G7, hg, h1, hf⟩ := vP_ok hf
  refine g_invV (As := []) (st := []) C (c_Re_takeStop E h1) (rfl : vwCl[5]? = some (y_Re_takeStop.cls, TX5, 8)) (by decide) hg ml_Re_57 cm_Re_takeStop.1 cm_Re_takeStop.2.1 cm_Re_takeStop.2.2.1 cm_Re_takeStop.2.2.2.1 cm_Re_takeStop.2.2.2.2 rfl ⟨by omega, by omega, by omega, by omega⟩ (by exact Nat.le_of_ble_eq_true rfl) rfl dX5_readStrong_23 ?_
  refine g_aload_n C dX5_readStrong_26 rfl ?_
  obtain ⟨x8, hx8, hg, hf⟩ := gI_ok hf
  refine e_getI C fl_Re_25 dX5_readStrong_27 hx8 hg ?_
  refine g_iconst (v := (-1 : Int32)) C dX5_readStrong_30 (by decide) ?_
  refine g_icmp_ne (tgt := 47) C dX5_readStrong_31 (by decide) (fun hc => ?_) (fun hc => ?_)
  · have hf := iteF hf hc
    refine g_sub (lv' := [none, none, none]) trivial ?_
    exact l_Re_readStrong_b47 C HR  hf
  · have hf := iteT hf hc
    refine g_aload_n C dX5_readStrong_34 rfl ?_
    obtain ⟨x9, hg, hf⟩ := gR_ok hf
    refine g_getR C fl_Re_21 dX5_readStrong_35 hg ?_
    obtain ⟨x10, hg, hf⟩ := gR_ok hf
    refine g_getR C fl_Re_95 dX5_readStrong_38 hg ?_
    refine g_iload_n C dX5_readStrong_41 rfl ?_
    refine g_iconst (v := (0 : Int32)) C dX5_readStrong_42 (by decide) ?_
    refine g_iload_n C dX5_readStrong_43 rfl ?_
    obtain ⟨G11, hg, h1, hf⟩ := vP_ok hf
    refine g_invV (As := [.int x3, .int (0 : Int32), .int x5]) (st := []) C (c_Ta_put E h1) (rfl : vwCl[7]? = some (y_Ta_put.cls, TX7, 3)) (by decide) hg ml_Re_97 cm_Ta_put.1 cm_Ta_put.2.1 cm_Ta_put.2.2.1 cm_Ta_put.2.2.2.1 cm_Ta_put.2.2.2.2 rfl ⟨by omega, by omega, by omega, by omega⟩ (by exact Nat.le_of_ble_eq_true rfl) rfl dX5_readStrong_44 ?_
    refine g_sub (lv' := [none, none, none]) trivial ?_
    exact l_Re_readStrong_b47 C HR  hf
theorem c_Re_readStrong (E : EE) {G : Hp} {l0 : Nat} {G' : Hp} (h : f_Re_readStrong G l0 = some G') : gCt E y_Re_readStrong cX5_readStrong 3 none 4 89 0 0 [.ref (E.2.1 + l0)] G none G' := gCt_of (own := "FavoursGoOff$Reader") (ini := false) [some (.ref (E.2.1 + l0)), none, none] (by decide +kernel) rfl (fun h => by cases h) (Nat.le_of_ble_eq_true rfl) ⟨rfl, trivial⟩ (fun X C HR => l_Re_readStrong C HR h)
set_option maxRecDepth 20000 in
theorem l_Re_refuse_b20 {E : EE} {X : CT} {G : Hp} (C : gCx E X cX5_refuse "FavoursGoOff$Reader" none 1 20 0 0 false 2) {G' : Hp} (HR : gRet E X cX5_refuse none 0 0 none G') (hf : f_Re_refuse_b20 G = some G') : gV E X 0 0 G 20 [none, none] [] := by
  unfold f_Re_refuse_b20 at hf
  obtain rfl := rP_ok hf
  exact g_vret HR dX5_refuse_20
set_option maxRecDepth 20000 in
theorem l_Re_refuse {E : EE} {X : CT} {G : Hp} (C : gCx E X cX5_refuse "FavoursGoOff$Reader" none 1 20 0 0 false 2) {G' : Hp} (HR : gRet E X cX5_refuse none 0 0 none G') {l0 : Nat} {l1 : Int32} (hf : f_Re_refuse G l0 l1 = some G') : gV E X 0 0 G 0 [some (.ref (E.2.1 + l0)), some (.int l1)] [] := by
  unfold f_Re_refuse at hf
  refine g_aload_n C dX5_refuse_0 rfl ?_
  obtain ⟨x1, hx1, hg, hf⟩ := gI_ok hf
  refine e_getI C fl_Re_38 dX5_refuse_1 hx1 hg ?_
  refine g_iconst (v := (2 : Int32)) C dX5_refuse_4 (by decide) ?_
  refine g_icmp_ne (tgt := 20) C dX5_refuse_5 (by decide) (fun hc => ?_) (fun hc => ?_)
  · have hf := iteF hf hc
    refine g_sub (lv' := [none, none]) trivial ?_
    exact l_Re_refuse_b20 C HR  hf
  · have hf := iteT hf hc
    refine g_aload_n C dX5_refuse_8 rfl ?_
    obtain ⟨x2, hx2, hg, hf⟩ := gI_ok hf
    refine e_getI C fl_Re_112 dX5_refuse_9 hx2 hg ?_
    refine g_iload_n C dX5_refuse_12 rfl ?_
    refine g_icmp_ne (tgt := 20) C dX5_refuse_13 (by decide) (fun hc => ?_) (fun hc => ?_)
    · have hf := iteF hf hc
      refine g_sub (lv' := [none, none]) trivial ?_
      exact l_Re_refuse_b20 C HR  hf
    · have hf := iteT hf hc
      refine g_aload_n C dX5_refuse_16 rfl ?_
      obtain ⟨G3, hg, h1, hf⟩ := vP_ok hf
      refine g_invV (As := []) (st := []) C (c_Re_fail E h1) (rfl : vwCl[5]? = some (y_Re_fail.cls, TX5, 8)) (by decide) hg ml_Re_50 cm_Re_fail.1 cm_Re_fail.2.1 cm_Re_fail.2.2.1 cm_Re_fail.2.2.2.1 cm_Re_fail.2.2.2.2 rfl ⟨by omega, by omega, by omega, by omega⟩ (by exact Nat.le_of_ble_eq_true rfl) rfl dX5_refuse_17 ?_
      refine g_sub (lv' := [none, none]) trivial ?_
      exact l_Re_refuse_b20 C HR  hf
theorem c_Re_refuse (E : EE) {G : Hp} {l0 : Nat} {l1 : Int32} {G' : Hp} (h : f_Re_refuse G l0 l1 = some G') : gCt E y_Re_refuse cX5_refuse 2 none 1 20 0 0 [.ref (E.2.1 + l0), .int l1] G none G' := gCt_of (own := "FavoursGoOff$Reader") (ini := false) [some (.ref (E.2.1 + l0)), some (.int l1)] (by decide +kernel) rfl (fun h => by cases h) (Nat.le_of_ble_eq_true rfl) ⟨rfl, ⟨rfl, trivial⟩⟩ (fun X C HR => l_Re_refuse C HR h)
set_option maxRecDepth 20000 in
theorem l_St_addFavour {E : EE} {X : CT} {G : Hp} (C : gCx E X cX6_addFavour "FavoursGoOff$Street" (some .int) 2 47 0 0 false 8) {r : Int32} {G' : Hp} (HR : gRet E X cX6_addFavour (some .int) 0 0 (some (.int r)) G') {l0 : Nat} {l1 : Int32} {l2 : Int32} {l3 : Int32} {l4 : Int32} {l5 : Int32} {l6 : Int32} (hf : f_St_addFavour G l0 l1 l2 l3 l4 l5 l6 = some (r, G')) : gV E X 0 0 G 0 [some (.ref (E.2.1 + l0)), some (.int l1), some (.int l2), some (.int l3), some (.int l4), some (.int l5), some (.int l6), none] [] := by
  unfold f_St_addFavour at hf
  refine g_aload_n C dX6_addFavour_0 rfl ?_
  obtain ⟨x1, hg, hf⟩ := gR_ok hf
  refine g_getR C fl_St_20 dX6_addFavour_1 hg ?_
  obtain ⟨x2, G3, hg, h1, hf⟩ := vH_ok hf
  refine g_invV (As := []) (st := []) C (c_Ta_add E h1) (rfl : vwCl[7]? = some (y_Ta_add.cls, TX7, 3)) (by decide) hg ml_St_40 cm_Ta_add.1 cm_Ta_add.2.1 cm_Ta_add.2.2.1 cm_Ta_add.2.2.2.1 cm_Ta_add.2.2.2.2 rfl ⟨by omega, by omega, by omega, by omega⟩ (by exact Nat.le_of_ble_eq_true rfl) rfl dX6_addFavour_4 ?_
  refine g_istore (lv' := [some (.ref (E.2.1 + l0)), some (.int l1), some (.int l2), some (.int l3), some (.int l4), some (.int l5), some (.int l6), some (.int x2)]) C dX6_addFavour_7 (by decide) rfl ?_
  refine g_aload_n C dX6_addFavour_9 rfl ?_
  obtain ⟨x4, hg, hf⟩ := gR_ok hf
  refine g_getR C fl_St_20 dX6_addFavour_10 hg ?_
  refine g_iload C dX6_addFavour_13 rfl ?_
  refine g_iconst (v := (0 : Int32)) C dX6_addFavour_15 (by decide) ?_
  refine g_iload_n C dX6_addFavour_16 rfl ?_
  obtain ⟨G5, hg, h1, hf⟩ := vP_ok hf
  refine g_invV (As := [.int x2, .int (0 : Int32), .int l1]) (st := []) C (c_Ta_put E h1) (rfl : vwCl[7]? = some (y_Ta_put.cls, TX7, 3)) (by decide) hg ml_St_43 cm_Ta_put.1 cm_Ta_put.2.1 cm_Ta_put.2.2.1 cm_Ta_put.2.2.2.1 cm_Ta_put.2.2.2.2 rfl ⟨by omega, by omega, by omega, by omega⟩ (by exact Nat.le_of_ble_eq_true rfl) rfl dX6_addFavour_17 ?_
  refine g_aload_n C dX6_addFavour_20 rfl ?_
  obtain ⟨x6, hg, hf⟩ := gR_ok hf
  refine g_getR C fl_St_20 dX6_addFavour_21 hg ?_
  refine g_iload C dX6_addFavour_24 rfl ?_
  refine g_iconst (v := (1 : Int32)) C dX6_addFavour_26 (by decide) ?_
  refine g_iload_n C dX6_addFavour_27 rfl ?_
  obtain ⟨G7, hg, h1, hf⟩ := vP_ok hf
  refine g_invV (As := [.int x2, .int (1 : Int32), .int l2]) (st := []) C (c_Ta_put E h1) (rfl : vwCl[7]? = some (y_Ta_put.cls, TX7, 3)) (by decide) hg ml_St_43 cm_Ta_put.1 cm_Ta_put.2.1 cm_Ta_put.2.2.1 cm_Ta_put.2.2.2.1 cm_Ta_put.2.2.2.2 rfl ⟨by omega, by omega, by omega, by omega⟩ (by exact Nat.le_of_ble_eq_true rfl) rfl dX6_addFavour_28 ?_
  refine g_aload_n C dX6_addFavour_31 rfl ?_
  obtain ⟨x8, hg, hf⟩ := gR_ok hf
  refine g_getR C fl_St_20 dX6_addFavour_32 hg ?_
  refine g_iload C dX6_addFavour_35 rfl ?_
  refine g_iconst (v := (2 : Int32)) C dX6_addFavour_37 (by decide) ?_
  refine g_iload_n C dX6_addFavour_38 rfl ?_
  obtain ⟨G9, hg, h1, hf⟩ := vP_ok hf
  refine g_invV (As := [.int x2, .int (2 : Int32), .int l3]) (st := []) C (c_Ta_put E h1) (rfl : vwCl[7]? = some (y_Ta_put.cls, TX7, 3)) (by decide) hg ml_St_43 cm_Ta_put.1 cm_Ta_put.2.1 cm_Ta_put.2.2.1 cm_Ta_put.2.2.2.1 cm_Ta_put.2.2.2.2 rfl ⟨by omega, by omega, by omega, by omega⟩ (by exact Nat.le_of_ble_eq_true rfl) rfl dX6_addFavour_39 ?_
  refine g_aload_n C dX6_addFavour_42 rfl ?_
  obtain ⟨x10, hg, hf⟩ := gR_ok hf
  refine g_getR C fl_St_20 dX6_addFavour_43 hg ?_
  refine g_iload C dX6_addFavour_46 rfl ?_
  refine g_iconst (v := (3 : Int32)) C dX6_addFavour_48 (by decide) ?_
  refine g_iload C dX6_addFavour_49 rfl ?_
  obtain ⟨G11, hg, h1, hf⟩ := vP_ok hf
  refine g_invV (As := [.int x2, .int (3 : Int32), .int l4]) (st := []) C (c_Ta_put E h1) (rfl : vwCl[7]? = some (y_Ta_put.cls, TX7, 3)) (by decide) hg ml_St_43 cm_Ta_put.1 cm_Ta_put.2.1 cm_Ta_put.2.2.1 cm_Ta_put.2.2.2.1 cm_Ta_put.2.2.2.2 rfl ⟨by omega, by omega, by omega, by omega⟩ (by exact Nat.le_of_ble_eq_true rfl) rfl dX6_addFavour_51 ?_
  refine g_aload_n C dX6_addFavour_54 rfl ?_
  obtain ⟨x12, hg, hf⟩ := gR_ok hf
  refine g_getR C fl_St_20 dX6_addFavour_55 hg ?_
  refine g_iload C dX6_addFavour_58 rfl ?_
  refine g_iconst (v := (4 : Int32)) C dX6_addFavour_60 (by decide) ?_
  refine g_iload C dX6_addFavour_61 rfl ?_
  obtain ⟨G13, hg, h1, hf⟩ := vP_ok hf
  refine g_invV (As := [.int x2, .int (4 : Int32), .int l5]) (st := []) C (c_Ta_put E h1) (rfl : vwCl[7]? = some (y_Ta_put.cls, TX7, 3)) (by decide) hg ml_St_43 cm_Ta_put.1 cm_Ta_put.2.1 cm_Ta_put.2.2.1 cm_Ta_put.2.2.2.1 cm_Ta_put.2.2.2.2 rfl ⟨by omega, by omega, by omega, by omega⟩ (by exact Nat.le_of_ble_eq_true rfl) rfl dX6_addFavour_63 ?_
  refine g_aload_n C dX6_addFavour_66 rfl ?_
  obtain ⟨x14, hg, hf⟩ := gR_ok hf
  refine g_getR C fl_St_20 dX6_addFavour_67 hg ?_
  refine g_iload C dX6_addFavour_70 rfl ?_
  refine g_iconst (v := (5 : Int32)) C dX6_addFavour_72 (by decide) ?_
  refine g_iload C dX6_addFavour_73 rfl ?_
  obtain ⟨G15, hg, h1, hf⟩ := vP_ok hf
  refine g_invV (As := [.int x2, .int (5 : Int32), .int l6]) (st := []) C (c_Ta_put E h1) (rfl : vwCl[7]? = some (y_Ta_put.cls, TX7, 3)) (by decide) hg ml_St_43 cm_Ta_put.1 cm_Ta_put.2.1 cm_Ta_put.2.2.1 cm_Ta_put.2.2.2.1 cm_Ta_put.2.2.2.2 rfl ⟨by omega, by omega, by omega, by omega⟩ (by exact Nat.le_of_ble_eq_true rfl) rfl dX6_addFavour_75 ?_
  refine g_aload_n C dX6_addFavour_78 rfl ?_
  obtain ⟨x16, hg, hf⟩ := gR_ok hf
  refine g_getR C fl_St_20 dX6_addFavour_79 hg ?_
  refine g_iload C dX6_addFavour_82 rfl ?_
  refine g_bipush (v := (6 : Int32)) C dX6_addFavour_84 (by decide) ?_
  refine g_aload_n C dX6_addFavour_86 rfl ?_
  obtain ⟨x17, hx17, hg, hf⟩ := gI_ok hf
  refine e_getI C fl_St_47 dX6_addFavour_87 hx17 hg ?_
  obtain ⟨G18, hg, h1, hf⟩ := vP_ok hf
  refine g_invV (As := [.int x2, .int (6 : Int32), .int x17]) (st := []) C (c_Ta_put E h1) (rfl : vwCl[7]? = some (y_Ta_put.cls, TX7, 3)) (by decide) hg ml_St_43 cm_Ta_put.1 cm_Ta_put.2.1 cm_Ta_put.2.2.1 cm_Ta_put.2.2.2.1 cm_Ta_put.2.2.2.2 rfl ⟨by omega, by omega, by omega, by omega⟩ (by exact Nat.le_of_ble_eq_true rfl) rfl dX6_addFavour_90 ?_
  refine g_iload C dX6_addFavour_93 rfl ?_
  obtain ⟨rfl, rfl⟩ := rH_ok hf
  exact g_iret HR dX6_addFavour_95
theorem c_St_addFavour (E : EE) {G : Hp} {l0 : Nat} {l1 : Int32} {l2 : Int32} {l3 : Int32} {l4 : Int32} {l5 : Int32} {l6 : Int32} {r : Int32} {G' : Hp} (h : f_St_addFavour G l0 l1 l2 l3 l4 l5 l6 = some (r, G')) : gCt E y_St_addFavour cX6_addFavour 8 (some .int) 2 47 0 0 [.ref (E.2.1 + l0), .int l1, .int l2, .int l3, .int l4, .int l5, .int l6] G (some (.int r)) G' := gCt_of (own := "FavoursGoOff$Street") (ini := false) [some (.ref (E.2.1 + l0)), some (.int l1), some (.int l2), some (.int l3), some (.int l4), some (.int l5), some (.int l6), none] (by decide +kernel) rfl (fun h => by cases h) (Nat.le_of_ble_eq_true rfl) ⟨rfl, ⟨rfl, ⟨rfl, ⟨rfl, ⟨rfl, ⟨rfl, ⟨rfl, trivial⟩⟩⟩⟩⟩⟩⟩ (fun X C HR => l_St_addFavour C HR h)
set_option maxRecDepth 20000 in
theorem l_Re_readFavour_b91 {E : EE} {X : CT} {G : Hp} (C : gCx E X cX5_readFavour "FavoursGoOff$Reader" none 4 89 0 0 false 7) {G' : Hp} (HR : gRet E X cX5_readFavour none 0 0 none G') (hf : f_Re_readFavour_b91 G = some G') : gV E X 0 0 G 91 [none, none, none, none, none, none, none] [] := by
  unfold f_Re_readFavour_b91 at hf
  obtain rfl := rP_ok hf
  exact g_vret HR dX5_readFavour_91
set_option maxRecDepth 20000 in
theorem l_Re_readFavour {E : EE} {X : CT} {G : Hp} (C : gCx E X cX5_readFavour "FavoursGoOff$Reader" none 4 89 0 0 false 7) {G' : Hp} (HR : gRet E X cX5_readFavour none 0 0 none G') {l0 : Nat} (hf : f_Re_readFavour G l0 = some G') : gV E X 0 0 G 0 [some (.ref (E.2.1 + l0)), none, none, none, none, none, none] [] := by
  unfold f_Re_readFavour at hf
  refine g_aload_n C dX5_readFavour_0 rfl ?_
  obtain ⟨G1, hg, h1, hf⟩ := vP_ok hf
  refine g_invV (As := []) (st := []) C (c_Re_step E h1) (rfl : vwCl[5]? = some (y_Re_step.cls, TX5, 8)) (by decide) hg ml_Re_32 cm_Re_step.1 cm_Re_step.2.1 cm_Re_step.2.2.1 cm_Re_step.2.2.2.1 cm_Re_step.2.2.2.2 rfl ⟨by omega, by omega, by omega, by omega⟩ (by exact Nat.le_of_ble_eq_true rfl) rfl dX5_readFavour_1 ?_
  refine g_aload_n C dX5_readFavour_4 rfl ?_
  refine g_iconst (v := (0 : Int32)) C dX5_readFavour_5 (by decide) ?_
  refine g_iconst (v := (4 : Int32)) C dX5_readFavour_6 (by decide) ?_
  obtain ⟨x2, G3, hg, h1, hf⟩ := vH_ok hf
  refine g_invV (As := [.int (0 : Int32), .int (4 : Int32)]) (st := []) C (c_Re_takeNumber E h1) (rfl : vwCl[5]? = some (y_Re_takeNumber.cls, TX5, 8)) (by decide) hg ml_Re_53 cm_Re_takeNumber.1 cm_Re_takeNumber.2.1 cm_Re_takeNumber.2.2.1 cm_Re_takeNumber.2.2.2.1 cm_Re_takeNumber.2.2.2.2 rfl ⟨by omega, by omega, by omega, by omega⟩ (by exact Nat.le_of_ble_eq_true rfl) rfl dX5_readFavour_7 ?_
  refine g_istore_n (lv' := [some (.ref (E.2.1 + l0)), some (.int x2), none, none, none, none, none]) C dX5_readFavour_10 (by decide) rfl ?_
  refine g_aload_n C dX5_readFavour_11 rfl ?_
  refine g_iconst (v := (0 : Int32)) C dX5_readFavour_12 (by decide) ?_
  refine g_aload_n C dX5_readFavour_13 rfl ?_
  obtain ⟨x4, hx4, hg, hf⟩ := gI_ok hf
  refine e_getI C fl_Re_64 dX5_readFavour_14 hx4 hg ?_
  obtain ⟨x5, G6, hg, h1, hf⟩ := vH_ok hf
  refine g_invV (As := [.int (0 : Int32), .int x4]) (st := []) C (c_Re_takeNumber E h1) (rfl : vwCl[5]? = some (y_Re_takeNumber.cls, TX5, 8)) (by decide) hg ml_Re_53 cm_Re_takeNumber.1 cm_Re_takeNumber.2.1 cm_Re_takeNumber.2.2.1 cm_Re_takeNumber.2.2.2.1 cm_Re_takeNumber.2.2.2.2 rfl ⟨by omega, by omega, by omega, by omega⟩ (by exact Nat.le_of_ble_eq_true rfl) rfl dX5_readFavour_17 ?_
  refine g_istore_n (lv' := [some (.ref (E.2.1 + l0)), some (.int x2), some (.int x5), none, none, none, none]) C dX5_readFavour_20 (by decide) rfl ?_
  refine g_aload_n C dX5_readFavour_21 rfl ?_
  refine g_iload_n C dX5_readFavour_22 rfl ?_
  obtain ⟨G7, hg, h1, hf⟩ := vP_ok hf
  refine g_invV (As := [.int x5]) (st := []) C (c_Re_refuse E h1) (rfl : vwCl[5]? = some (y_Re_refuse.cls, TX5, 8)) (by decide) hg ml_Re_101 cm_Re_refuse.1 cm_Re_refuse.2.1 cm_Re_refuse.2.2.1 cm_Re_refuse.2.2.2.1 cm_Re_refuse.2.2.2.2 rfl ⟨by omega, by omega, by omega, by omega⟩ (by exact Nat.le_of_ble_eq_true rfl) rfl dX5_readFavour_23 ?_
  refine g_aload_n C dX5_readFavour_26 rfl ?_
  refine g_iconst (v := (0 : Int32)) C dX5_readFavour_27 (by decide) ?_
  refine g_aload_n C dX5_readFavour_28 rfl ?_
  obtain ⟨x8, hx8, hg, hf⟩ := gI_ok hf
  refine e_getI C fl_Re_64 dX5_readFavour_29 hx8 hg ?_
  obtain ⟨x9, G10, hg, h1, hf⟩ := vH_ok hf
  refine g_invV (As := [.int (0 : Int32), .int x8]) (st := []) C (c_Re_takeNumber E h1) (rfl : vwCl[5]? = some (y_Re_takeNumber.cls, TX5, 8)) (by decide) hg ml_Re_53 cm_Re_takeNumber.1 cm_Re_takeNumber.2.1 cm_Re_takeNumber.2.2.1 cm_Re_takeNumber.2.2.2.1 cm_Re_takeNumber.2.2.2.2 rfl ⟨by omega, by omega, by omega, by omega⟩ (by exact Nat.le_of_ble_eq_true rfl) rfl dX5_readFavour_32 ?_
  refine g_istore_n (lv' := [some (.ref (E.2.1 + l0)), some (.int x2), some (.int x5), some (.int x9), none, none, none]) C dX5_readFavour_35 (by decide) rfl ?_
  refine g_aload_n C dX5_readFavour_36 rfl ?_
  refine g_iconst (v := (0 : Int32)) C dX5_readFavour_37 (by decide) ?_
  refine g_iconst (v := (3 : Int32)) C dX5_readFavour_38 (by decide) ?_
  obtain ⟨x11, G12, hg, h1, hf⟩ := vH_ok hf
  refine g_invV (As := [.int (0 : Int32), .int (3 : Int32)]) (st := []) C (c_Re_takeNumber E h1) (rfl : vwCl[5]? = some (y_Re_takeNumber.cls, TX5, 8)) (by decide) hg ml_Re_53 cm_Re_takeNumber.1 cm_Re_takeNumber.2.1 cm_Re_takeNumber.2.2.1 cm_Re_takeNumber.2.2.2.1 cm_Re_takeNumber.2.2.2.2 rfl ⟨by omega, by omega, by omega, by omega⟩ (by exact Nat.le_of_ble_eq_true rfl) rfl dX5_readFavour_39 ?_
  refine g_istore (lv' := [some (.ref (E.2.1 + l0)), some (.int x2), some (.int x5), some (.int x9), some (.int x11), none, none]) C dX5_readFavour_42 (by decide) rfl ?_
  refine g_aload_n C dX5_readFavour_44 rfl ?_
  refine g_iconst (v := (1 : Int32)) C dX5_readFavour_45 (by decide) ?_
  refine g_bipush (v := (40 : Int32)) C dX5_readFavour_46 (by decide) ?_
  obtain ⟨x13, G14, hg, h1, hf⟩ := vH_ok hf
  refine g_invV (As := [.int (1 : Int32), .int (40 : Int32)]) (st := []) C (c_Re_takeNumber E h1) (rfl : vwCl[5]? = some (y_Re_takeNumber.cls, TX5, 8)) (by decide) hg ml_Re_53 cm_Re_takeNumber.1 cm_Re_takeNumber.2.1 cm_Re_takeNumber.2.2.1 cm_Re_takeNumber.2.2.2.1 cm_Re_takeNumber.2.2.2.2 rfl ⟨by omega, by omega, by omega, by omega⟩ (by exact Nat.le_of_ble_eq_true rfl) rfl dX5_readFavour_48 ?_
  refine g_istore (lv' := [some (.ref (E.2.1 + l0)), some (.int x2), some (.int x5), some (.int x9), some (.int x11), some (.int x13), none]) C dX5_readFavour_51 (by decide) rfl ?_
  refine g_aload_n C dX5_readFavour_53 rfl ?_
  refine g_iconst (v := (0 : Int32)) C dX5_readFavour_54 (by decide) ?_
  refine g_bipush (v := (99 : Int32)) C dX5_readFavour_55 (by decide) ?_
  obtain ⟨x15, G16, hg, h1, hf⟩ := vH_ok hf
  refine g_invV (As := [.int (0 : Int32), .int (99 : Int32)]) (st := []) C (c_Re_takeNumber E h1) (rfl : vwCl[5]? = some (y_Re_takeNumber.cls, TX5, 8)) (by decide) hg ml_Re_53 cm_Re_takeNumber.1 cm_Re_takeNumber.2.1 cm_Re_takeNumber.2.2.1 cm_Re_takeNumber.2.2.2.1 cm_Re_takeNumber.2.2.2.2 rfl ⟨by omega, by omega, by omega, by omega⟩ (by exact Nat.le_of_ble_eq_true rfl) rfl dX5_readFavour_57 ?_
  refine g_istore (lv' := [some (.ref (E.2.1 + l0)), some (.int x2), some (.int x5), some (.int x9), some (.int x11), some (.int x13), some (.int x15)]) C dX5_readFavour_60 (by decide) rfl ?_
  refine g_aload_n C dX5_readFavour_62 rfl ?_
  obtain ⟨G17, hg, h1, hf⟩ := vP_ok hf
  refine g_invV (As := []) (st := []) C (c_Re_takeStop E h1) (rfl : vwCl[5]? = some (y_Re_takeStop.cls, TX5, 8)) (by decide) hg ml_Re_57 cm_Re_takeStop.1 cm_Re_takeStop.2.1 cm_Re_takeStop.2.2.1 cm_Re_takeStop.2.2.2.1 cm_Re_takeStop.2.2.2.2 rfl ⟨by omega, by omega, by omega, by omega⟩ (by exact Nat.le_of_ble_eq_true rfl) rfl dX5_readFavour_63 ?_
  refine g_aload_n C dX5_readFavour_66 rfl ?_
  obtain ⟨x18, hx18, hg, hf⟩ := gI_ok hf
  refine e_getI C fl_Re_25 dX5_readFavour_67 hx18 hg ?_
  refine g_iconst (v := (-1 : Int32)) C dX5_readFavour_70 (by decide) ?_
  refine g_icmp_ne (tgt := 91) C dX5_readFavour_71 (by decide) (fun hc => ?_) (fun hc => ?_)
  · have hf := iteF hf hc
    refine g_sub (lv' := [none, none, none, none, none, none, none]) trivial ?_
    exact l_Re_readFavour_b91 C HR  hf
  · have hf := iteT hf hc
    refine g_aload_n C dX5_readFavour_74 rfl ?_
    obtain ⟨x19, hg, hf⟩ := gR_ok hf
    refine g_getR C fl_Re_21 dX5_readFavour_75 hg ?_
    refine g_iload_n C dX5_readFavour_78 rfl ?_
    refine g_iload_n C dX5_readFavour_79 rfl ?_
    refine g_iload_n C dX5_readFavour_80 rfl ?_
    refine g_iload C dX5_readFavour_81 rfl ?_
    refine g_iload C dX5_readFavour_83 rfl ?_
    refine g_iload C dX5_readFavour_85 rfl ?_
    obtain ⟨x20, G21, hg, h1, hf⟩ := vH_ok hf
    refine g_invV (As := [.int x2, .int x5, .int x9, .int x11, .int x13, .int x15]) (st := []) C (c_St_addFavour E h1) (rfl : vwCl[6]? = some (y_St_addFavour.cls, TX6, 6)) (by decide) hg ml_Re_104 cm_St_addFavour.1 cm_St_addFavour.2.1 cm_St_addFavour.2.2.1 cm_St_addFavour.2.2.2.1 cm_St_addFavour.2.2.2.2 rfl ⟨by omega, by omega, by omega, by omega⟩ (by exact Nat.le_of_ble_eq_true rfl) rfl dX5_readFavour_87 ?_
    refine g_pop C dX5_readFavour_90 rfl ?_
    refine g_sub (lv' := [none, none, none, none, none, none, none]) trivial ?_
    exact l_Re_readFavour_b91 C HR  hf
theorem c_Re_readFavour (E : EE) {G : Hp} {l0 : Nat} {G' : Hp} (h : f_Re_readFavour G l0 = some G') : gCt E y_Re_readFavour cX5_readFavour 7 none 4 89 0 0 [.ref (E.2.1 + l0)] G none G' := gCt_of (own := "FavoursGoOff$Reader") (ini := false) [some (.ref (E.2.1 + l0)), none, none, none, none, none, none] (by decide +kernel) rfl (fun h => by cases h) (Nat.le_of_ble_eq_true rfl) ⟨rfl, trivial⟩ (fun X C HR => l_Re_readFavour C HR h)
set_option maxRecDepth 20000 in
theorem l_St_addNeed {E : EE} {X : CT} {G : Hp} (C : gCx E X cX6_addNeed "FavoursGoOff$Street" (some .int) 2 47 0 0 false 6) {r : Int32} {G' : Hp} (HR : gRet E X cX6_addNeed (some .int) 0 0 (some (.int r)) G') {l0 : Nat} {l1 : Int32} {l2 : Int32} {l3 : Int32} {l4 : Int32} (hf : f_St_addNeed G l0 l1 l2 l3 l4 = some (r, G')) : gV E X 0 0 G 0 [some (.ref (E.2.1 + l0)), some (.int l1), some (.int l2), some (.int l3), some (.int l4), none] [] := by
  unfold f_St_addNeed at hf
  refine g_aload_n C dX6_addNeed_0 rfl ?_
  obtain ⟨x1, hg, hf⟩ := gR_ok hf
  refine g_getR C fl_St_23 dX6_addNeed_1 hg ?_
  obtain ⟨x2, G3, hg, h1, hf⟩ := vH_ok hf
  refine g_invV (As := []) (st := []) C (c_Ta_add E h1) (rfl : vwCl[7]? = some (y_Ta_add.cls, TX7, 3)) (by decide) hg ml_St_40 cm_Ta_add.1 cm_Ta_add.2.1 cm_Ta_add.2.2.1 cm_Ta_add.2.2.2.1 cm_Ta_add.2.2.2.2 rfl ⟨by omega, by omega, by omega, by omega⟩ (by exact Nat.le_of_ble_eq_true rfl) rfl dX6_addNeed_4 ?_
  refine g_istore (lv' := [some (.ref (E.2.1 + l0)), some (.int l1), some (.int l2), some (.int l3), some (.int l4), some (.int x2)]) C dX6_addNeed_7 (by decide) rfl ?_
  refine g_aload_n C dX6_addNeed_9 rfl ?_
  obtain ⟨x4, hg, hf⟩ := gR_ok hf
  refine g_getR C fl_St_23 dX6_addNeed_10 hg ?_
  refine g_iload C dX6_addNeed_13 rfl ?_
  refine g_iconst (v := (0 : Int32)) C dX6_addNeed_15 (by decide) ?_
  refine g_iload_n C dX6_addNeed_16 rfl ?_
  obtain ⟨G5, hg, h1, hf⟩ := vP_ok hf
  refine g_invV (As := [.int x2, .int (0 : Int32), .int l1]) (st := []) C (c_Ta_put E h1) (rfl : vwCl[7]? = some (y_Ta_put.cls, TX7, 3)) (by decide) hg ml_St_43 cm_Ta_put.1 cm_Ta_put.2.1 cm_Ta_put.2.2.1 cm_Ta_put.2.2.2.1 cm_Ta_put.2.2.2.2 rfl ⟨by omega, by omega, by omega, by omega⟩ (by exact Nat.le_of_ble_eq_true rfl) rfl dX6_addNeed_17 ?_
  refine g_aload_n C dX6_addNeed_20 rfl ?_
  obtain ⟨x6, hg, hf⟩ := gR_ok hf
  refine g_getR C fl_St_23 dX6_addNeed_21 hg ?_
  refine g_iload C dX6_addNeed_24 rfl ?_
  refine g_iconst (v := (1 : Int32)) C dX6_addNeed_26 (by decide) ?_
  refine g_iload_n C dX6_addNeed_27 rfl ?_
  obtain ⟨G7, hg, h1, hf⟩ := vP_ok hf
  refine g_invV (As := [.int x2, .int (1 : Int32), .int l2]) (st := []) C (c_Ta_put E h1) (rfl : vwCl[7]? = some (y_Ta_put.cls, TX7, 3)) (by decide) hg ml_St_43 cm_Ta_put.1 cm_Ta_put.2.1 cm_Ta_put.2.2.1 cm_Ta_put.2.2.2.1 cm_Ta_put.2.2.2.2 rfl ⟨by omega, by omega, by omega, by omega⟩ (by exact Nat.le_of_ble_eq_true rfl) rfl dX6_addNeed_28 ?_
  refine g_aload_n C dX6_addNeed_31 rfl ?_
  obtain ⟨x8, hg, hf⟩ := gR_ok hf
  refine g_getR C fl_St_23 dX6_addNeed_32 hg ?_
  refine g_iload C dX6_addNeed_35 rfl ?_
  refine g_iconst (v := (2 : Int32)) C dX6_addNeed_37 (by decide) ?_
  refine g_iload_n C dX6_addNeed_38 rfl ?_
  obtain ⟨G9, hg, h1, hf⟩ := vP_ok hf
  refine g_invV (As := [.int x2, .int (2 : Int32), .int l3]) (st := []) C (c_Ta_put E h1) (rfl : vwCl[7]? = some (y_Ta_put.cls, TX7, 3)) (by decide) hg ml_St_43 cm_Ta_put.1 cm_Ta_put.2.1 cm_Ta_put.2.2.1 cm_Ta_put.2.2.2.1 cm_Ta_put.2.2.2.2 rfl ⟨by omega, by omega, by omega, by omega⟩ (by exact Nat.le_of_ble_eq_true rfl) rfl dX6_addNeed_39 ?_
  refine g_aload_n C dX6_addNeed_42 rfl ?_
  obtain ⟨x10, hg, hf⟩ := gR_ok hf
  refine g_getR C fl_St_23 dX6_addNeed_43 hg ?_
  refine g_iload C dX6_addNeed_46 rfl ?_
  refine g_iconst (v := (3 : Int32)) C dX6_addNeed_48 (by decide) ?_
  refine g_iload C dX6_addNeed_49 rfl ?_
  obtain ⟨G11, hg, h1, hf⟩ := vP_ok hf
  refine g_invV (As := [.int x2, .int (3 : Int32), .int l4]) (st := []) C (c_Ta_put E h1) (rfl : vwCl[7]? = some (y_Ta_put.cls, TX7, 3)) (by decide) hg ml_St_43 cm_Ta_put.1 cm_Ta_put.2.1 cm_Ta_put.2.2.1 cm_Ta_put.2.2.2.1 cm_Ta_put.2.2.2.2 rfl ⟨by omega, by omega, by omega, by omega⟩ (by exact Nat.le_of_ble_eq_true rfl) rfl dX6_addNeed_51 ?_
  refine g_iload C dX6_addNeed_54 rfl ?_
  obtain ⟨rfl, rfl⟩ := rH_ok hf
  exact g_iret HR dX6_addNeed_56
theorem c_St_addNeed (E : EE) {G : Hp} {l0 : Nat} {l1 : Int32} {l2 : Int32} {l3 : Int32} {l4 : Int32} {r : Int32} {G' : Hp} (h : f_St_addNeed G l0 l1 l2 l3 l4 = some (r, G')) : gCt E y_St_addNeed cX6_addNeed 6 (some .int) 2 47 0 0 [.ref (E.2.1 + l0), .int l1, .int l2, .int l3, .int l4] G (some (.int r)) G' := gCt_of (own := "FavoursGoOff$Street") (ini := false) [some (.ref (E.2.1 + l0)), some (.int l1), some (.int l2), some (.int l3), some (.int l4), none] (by decide +kernel) rfl (fun h => by cases h) (Nat.le_of_ble_eq_true rfl) ⟨rfl, ⟨rfl, ⟨rfl, ⟨rfl, ⟨rfl, trivial⟩⟩⟩⟩⟩ (fun X C HR => l_St_addNeed C HR h)
set_option maxRecDepth 20000 in
theorem l_Re_readNeed_b63 {E : EE} {X : CT} {G : Hp} (C : gCx E X cX5_readNeed "FavoursGoOff$Reader" none 4 89 0 0 false 5) {G' : Hp} (HR : gRet E X cX5_readNeed none 0 0 none G') (hf : f_Re_readNeed_b63 G = some G') : gV E X 0 0 G 63 [none, none, none, none, none] [] := by
  unfold f_Re_readNeed_b63 at hf
  obtain rfl := rP_ok hf
  exact g_vret HR dX5_readNeed_63
set_option maxRecDepth 20000 in
theorem l_Re_readNeed {E : EE} {X : CT} {G : Hp} (C : gCx E X cX5_readNeed "FavoursGoOff$Reader" none 4 89 0 0 false 5) {G' : Hp} (HR : gRet E X cX5_readNeed none 0 0 none G') {l0 : Nat} (hf : f_Re_readNeed G l0 = some G') : gV E X 0 0 G 0 [some (.ref (E.2.1 + l0)), none, none, none, none] [] := by
  unfold f_Re_readNeed at hf
  refine g_aload_n C dX5_readNeed_0 rfl ?_
  obtain ⟨G1, hg, h1, hf⟩ := vP_ok hf
  refine g_invV (As := []) (st := []) C (c_Re_step E h1) (rfl : vwCl[5]? = some (y_Re_step.cls, TX5, 8)) (by decide) hg ml_Re_32 cm_Re_step.1 cm_Re_step.2.1 cm_Re_step.2.2.1 cm_Re_step.2.2.2.1 cm_Re_step.2.2.2.2 rfl ⟨by omega, by omega, by omega, by omega⟩ (by exact Nat.le_of_ble_eq_true rfl) rfl dX5_readNeed_1 ?_
  refine g_aload_n C dX5_readNeed_4 rfl ?_
  refine g_iconst (v := (0 : Int32)) C dX5_readNeed_5 (by decide) ?_
  refine g_aload_n C dX5_readNeed_6 rfl ?_
  obtain ⟨x2, hx2, hg, hf⟩ := gI_ok hf
  refine e_getI C fl_Re_64 dX5_readNeed_7 hx2 hg ?_
  obtain ⟨x3, G4, hg, h1, hf⟩ := vH_ok hf
  refine g_invV (As := [.int (0 : Int32), .int x2]) (st := []) C (c_Re_takeNumber E h1) (rfl : vwCl[5]? = some (y_Re_takeNumber.cls, TX5, 8)) (by decide) hg ml_Re_53 cm_Re_takeNumber.1 cm_Re_takeNumber.2.1 cm_Re_takeNumber.2.2.1 cm_Re_takeNumber.2.2.2.1 cm_Re_takeNumber.2.2.2.2 rfl ⟨by omega, by omega, by omega, by omega⟩ (by exact Nat.le_of_ble_eq_true rfl) rfl dX5_readNeed_10 ?_
  refine g_istore_n (lv' := [some (.ref (E.2.1 + l0)), some (.int x3), none, none, none]) C dX5_readNeed_13 (by decide) rfl ?_
  refine g_aload_n C dX5_readNeed_14 rfl ?_
  refine g_iconst (v := (0 : Int32)) C dX5_readNeed_15 (by decide) ?_
  refine g_iconst (v := (3 : Int32)) C dX5_readNeed_16 (by decide) ?_
  obtain ⟨x5, G6, hg, h1, hf⟩ := vH_ok hf
  refine g_invV (As := [.int (0 : Int32), .int (3 : Int32)]) (st := []) C (c_Re_takeNumber E h1) (rfl : vwCl[5]? = some (y_Re_takeNumber.cls, TX5, 8)) (by decide) hg ml_Re_53 cm_Re_takeNumber.1 cm_Re_takeNumber.2.1 cm_Re_takeNumber.2.2.1 cm_Re_takeNumber.2.2.2.1 cm_Re_takeNumber.2.2.2.2 rfl ⟨by omega, by omega, by omega, by omega⟩ (by exact Nat.le_of_ble_eq_true rfl) rfl dX5_readNeed_17 ?_
  refine g_istore_n (lv' := [some (.ref (E.2.1 + l0)), some (.int x3), some (.int x5), none, none]) C dX5_readNeed_20 (by decide) rfl ?_
  refine g_aload_n C dX5_readNeed_21 rfl ?_
  refine g_iconst (v := (1 : Int32)) C dX5_readNeed_22 (by decide) ?_
  refine g_bipush (v := (40 : Int32)) C dX5_readNeed_23 (by decide) ?_
  obtain ⟨x7, G8, hg, h1, hf⟩ := vH_ok hf
  refine g_invV (As := [.int (1 : Int32), .int (40 : Int32)]) (st := []) C (c_Re_takeNumber E h1) (rfl : vwCl[5]? = some (y_Re_takeNumber.cls, TX5, 8)) (by decide) hg ml_Re_53 cm_Re_takeNumber.1 cm_Re_takeNumber.2.1 cm_Re_takeNumber.2.2.1 cm_Re_takeNumber.2.2.2.1 cm_Re_takeNumber.2.2.2.2 rfl ⟨by omega, by omega, by omega, by omega⟩ (by exact Nat.le_of_ble_eq_true rfl) rfl dX5_readNeed_25 ?_
  refine g_istore_n (lv' := [some (.ref (E.2.1 + l0)), some (.int x3), some (.int x5), some (.int x7), none]) C dX5_readNeed_28 (by decide) rfl ?_
  refine g_aload_n C dX5_readNeed_29 rfl ?_
  refine g_iconst (v := (0 : Int32)) C dX5_readNeed_30 (by decide) ?_
  refine g_bipush (v := (99 : Int32)) C dX5_readNeed_31 (by decide) ?_
  obtain ⟨x9, G10, hg, h1, hf⟩ := vH_ok hf
  refine g_invV (As := [.int (0 : Int32), .int (99 : Int32)]) (st := []) C (c_Re_takeNumber E h1) (rfl : vwCl[5]? = some (y_Re_takeNumber.cls, TX5, 8)) (by decide) hg ml_Re_53 cm_Re_takeNumber.1 cm_Re_takeNumber.2.1 cm_Re_takeNumber.2.2.1 cm_Re_takeNumber.2.2.2.1 cm_Re_takeNumber.2.2.2.2 rfl ⟨by omega, by omega, by omega, by omega⟩ (by exact Nat.le_of_ble_eq_true rfl) rfl dX5_readNeed_33 ?_
  refine g_istore (lv' := [some (.ref (E.2.1 + l0)), some (.int x3), some (.int x5), some (.int x7), some (.int x9)]) C dX5_readNeed_36 (by decide) rfl ?_
  refine g_aload_n C dX5_readNeed_38 rfl ?_
  obtain ⟨G11, hg, h1, hf⟩ := vP_ok hf
  refine g_invV (As := []) (st := []) C (c_Re_takeStop E h1) (rfl : vwCl[5]? = some (y_Re_takeStop.cls, TX5, 8)) (by decide) hg ml_Re_57 cm_Re_takeStop.1 cm_Re_takeStop.2.1 cm_Re_takeStop.2.2.1 cm_Re_takeStop.2.2.2.1 cm_Re_takeStop.2.2.2.2 rfl ⟨by omega, by omega, by omega, by omega⟩ (by exact Nat.le_of_ble_eq_true rfl) rfl dX5_readNeed_39 ?_
  refine g_aload_n C dX5_readNeed_42 rfl ?_
  obtain ⟨x12, hx12, hg, hf⟩ := gI_ok hf
  refine e_getI C fl_Re_25 dX5_readNeed_43 hx12 hg ?_
  refine g_iconst (v := (-1 : Int32)) C dX5_readNeed_46 (by decide) ?_
  refine g_icmp_ne (tgt := 63) C dX5_readNeed_47 (by decide) (fun hc => ?_) (fun hc => ?_)
  · have hf := iteF hf hc
    refine g_sub (lv' := [none, none, none, none, none]) trivial ?_
    exact l_Re_readNeed_b63 C HR  hf
  · have hf := iteT hf hc
    refine g_aload_n C dX5_readNeed_50 rfl ?_
    obtain ⟨x13, hg, hf⟩ := gR_ok hf
    refine g_getR C fl_Re_21 dX5_readNeed_51 hg ?_
    refine g_iload_n C dX5_readNeed_54 rfl ?_
    refine g_iload_n C dX5_readNeed_55 rfl ?_
    refine g_iload_n C dX5_readNeed_56 rfl ?_
    refine g_iload C dX5_readNeed_57 rfl ?_
    obtain ⟨x14, G15, hg, h1, hf⟩ := vH_ok hf
    refine g_invV (As := [.int x3, .int x5, .int x7, .int x9]) (st := []) C (c_St_addNeed E h1) (rfl : vwCl[6]? = some (y_St_addNeed.cls, TX6, 6)) (by decide) hg ml_Re_108 cm_St_addNeed.1 cm_St_addNeed.2.1 cm_St_addNeed.2.2.1 cm_St_addNeed.2.2.2.1 cm_St_addNeed.2.2.2.2 rfl ⟨by omega, by omega, by omega, by omega⟩ (by exact Nat.le_of_ble_eq_true rfl) rfl dX5_readNeed_59 ?_
    refine g_pop C dX5_readNeed_62 rfl ?_
    refine g_sub (lv' := [none, none, none, none, none]) trivial ?_
    exact l_Re_readNeed_b63 C HR  hf
theorem c_Re_readNeed (E : EE) {G : Hp} {l0 : Nat} {G' : Hp} (h : f_Re_readNeed G l0 = some G') : gCt E y_Re_readNeed cX5_readNeed 5 none 4 89 0 0 [.ref (E.2.1 + l0)] G none G' := gCt_of (own := "FavoursGoOff$Reader") (ini := false) [some (.ref (E.2.1 + l0)), none, none, none, none] (by decide +kernel) rfl (fun h => by cases h) (Nat.le_of_ble_eq_true rfl) ⟨rfl, trivial⟩ (fun X C HR => l_Re_readNeed C HR h)
