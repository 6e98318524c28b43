/-! ===== each method does as its function says ===== -/
set_option maxRecDepth 20000 in
theorem l_Ci_init {E : EE} {X : CT} {G : Hp} (C : gCx E X cX0_init "FavoursGoOff$Circle" none 1 30 1 6 true 1) {G' : Hp} (HR : gRet E X cX0_init none 1 6 none G') {l0 : Nat} (hf : f_Ci_init G l0 = some G') : gV E X 0 0 G 0 [some (.ref (E.2.1 + l0))] [] := by
  unfold f_Ci_init at hf
  refine g_aload_n C dX0_init_0 rfl ?_
  refine g_objInit C ml_Ci_3 cm_obj.1 cm_obj.2 (by omega) (Nat.le_trans (m := 30) (by exact Nat.le_of_ble_eq_true rfl) (by omega)) dX0_init_1 ?_
  refine g_aload_n C dX0_init_4 rfl ?_
  refine g_bipush (v := (6 : Int32)) C dX0_init_5 (by decide) ?_
  obtain ⟨a2, G1, ha2, hG1, hz, hf⟩ := nA_ok hf
  refine e_newa (sl := 6) C (Or.inl ⟨rfl, rfl⟩) ac_int hz (by decide) (by omega) dX0_init_7 ha2 hG1 ?_
  obtain ⟨G3, hG3, hg, hf⟩ := pR_ok hf
  refine e_putR C fl_Ci_9 dX0_init_9 hG3 hg (Or.inr ⟨rfl, rfl⟩) rfl rfl ?_
  obtain rfl := rP_ok hf
  exact g_vret HR dX0_init_12
theorem c_Ci_init (E : EE) {G : Hp} {l0 : Nat} {G' : Hp} (h : f_Ci_init G l0 = some G') : gCt E y_Ci_init cX0_init 1 none 1 30 1 6 [.ref (E.2.1 + l0)] G none G' := gCt_of (own := "FavoursGoOff$Circle") (ini := true) [some (.ref (E.2.1 + l0))] (by decide +kernel) rfl (fun _ => rfl) (Nat.le_of_ble_eq_true rfl) ⟨rfl, trivial⟩ (fun X C HR => l_Ci_init C HR h)
set_option maxRecDepth 20000 in
theorem l_Ci_member_b23 {E : EE} {X : CT} {G : Hp} (C : gCx E X cX0_member "FavoursGoOff$Circle" (some .int) 0 0 0 0 false 2) {r : Int32} (HR : gRet E X cX0_member (some .int) 0 0 (some (.int r)) G) {s0 : Int32} (hf : f_Ci_member_b23 G s0 = some r) : gV E X 0 0 G 23 [none, none] [.int s0] := by
  unfold f_Ci_member_b23 at hf
  obtain rfl := rP_ok hf
  exact g_iret HR dX0_member_23
set_option maxRecDepth 20000 in
theorem l_Ci_member_b22 {E : EE} {X : CT} {G : Hp} (C : gCx E X cX0_member "FavoursGoOff$Circle" (some .int) 0 0 0 0 false 2) {r : Int32} (HR : gRet E X cX0_member (some .int) 0 0 (some (.int r)) G) (hf : f_Ci_member_b22 G = some r) : gV E X 0 0 G 22 [none, none] [] := by
  unfold f_Ci_member_b22 at hf
  refine g_iconst (v := (-1 : Int32)) C dX0_member_22 (by decide) ?_
  refine g_sub (lv' := [none, none]) trivial ?_
  exact l_Ci_member_b23 C HR  hf
set_option maxRecDepth 20000 in
theorem l_Ci_member {E : EE} {X : CT} {G : Hp} (C : gCx E X cX0_member "FavoursGoOff$Circle" (some .int) 0 0 0 0 false 2) {r : Int32} (HR : gRet E X cX0_member (some .int) 0 0 (some (.int r)) G) {l0 : Nat} {l1 : Int32} (hf : f_Ci_member G l0 l1 = some r) : gV E X 0 0 G 0 [some (.ref (E.2.1 + l0)), some (.int l1)] [] := by
  unfold f_Ci_member at hf
  refine g_iload_n C dX0_member_0 rfl ?_
  refine g_if_lt (tgt := 22) C dX0_member_1 (by decide) (fun hc => ?_) (fun hc => ?_)
  · have hf := iteT hf hc
    refine g_sub (lv' := [none, none]) trivial ?_
    exact l_Ci_member_b22 C HR  hf
  · have hf := iteF hf hc
    refine g_iload_n C dX0_member_4 rfl ?_
    refine g_aload_n C dX0_member_5 rfl ?_
    obtain ⟨x1, hg, hf⟩ := gR_ok hf
    refine g_getR C fl_Ci_9 dX0_member_6 hg ?_
    obtain ⟨x2, hx2, hg, hf⟩ := aL_ok hf
    refine e_alen C dX0_member_9 hx2 hg ?_
    refine g_icmp_ge (tgt := 22) C dX0_member_10 (by decide) (fun hc => ?_) (fun hc => ?_)
    · have hf := iteT hf hc
      refine g_sub (lv' := [none, none]) trivial ?_
      exact l_Ci_member_b22 C HR  hf
    · have hf := iteF hf hc
      refine g_aload_n C dX0_member_13 rfl ?_
      obtain ⟨x3, hg, hf⟩ := gR_ok hf
      refine g_getR C fl_Ci_9 dX0_member_14 hg ?_
      refine g_iload_n C dX0_member_17 rfl ?_
      obtain ⟨x4, hx4, hg, hf⟩ := aI_ok hf
      refine e_iald C dX0_member_18 hx4 hg ?_
      refine g_goto (tgt := 23) C dX0_member_19 (by decide) ?_
      refine g_sub (lv' := [none, none]) trivial ?_
      exact l_Ci_member_b23 C HR  hf
theorem c_Ci_member (E : EE) {G : Hp} {l0 : Nat} {l1 : Int32} {r : Int32} (h : f_Ci_member G l0 l1 = some r) : gCt E y_Ci_member cX0_member 2 (some .int) 0 0 0 0 [.ref (E.2.1 + l0), .int l1] G (some (.int r)) G := gCt_of (own := "FavoursGoOff$Circle") (ini := false) [some (.ref (E.2.1 + l0)), some (.int l1)] (by decide +kernel) rfl (fun h => by cases h) (Nat.le_of_ble_eq_true rfl) ⟨rfl, ⟨rfl, trivial⟩⟩ (fun X C HR => l_Ci_member C HR h)
set_option maxRecDepth 20000 in
theorem l_Ta_placeOf_b46 {E : EE} {X : CT} {G : Hp} (C : gCx E X cX7_placeOf "FavoursGoOff$Table" (some .int) 0 0 0 0 false 4) {r : Int32} (HR : gRet E X cX7_placeOf (some .int) 0 0 (some (.int r)) G) {s0 : Int32} (hf : f_Ta_placeOf_b46 G s0 = some r) : gV E X 0 0 G 46 [none, none, none, none] [.int s0] := by
  unfold f_Ta_placeOf_b46 at hf
  obtain rfl := rP_ok hf
  exact g_iret HR dX7_placeOf_46
set_option maxRecDepth 20000 in
theorem l_Ta_placeOf_b29 {E : EE} {X : CT} {G : Hp} (C : gCx E X cX7_placeOf "FavoursGoOff$Table" (some .int) 0 0 0 0 false 4) {r : Int32} (HR : gRet E X cX7_placeOf (some .int) 0 0 (some (.int r)) G) {l0 : Nat} {l1 : Int32} {l2 : Int32} {s0 : Int32} (hf : f_Ta_placeOf_b29 G l0 l1 l2 s0 = some r) : gV E X 0 0 G 29 [some (.ref (E.2.1 + l0)), some (.int l1), some (.int l2), none] [.int s0] := by
  unfold f_Ta_placeOf_b29 at hf
  refine g_istore_n (lv' := [some (.ref (E.2.1 + l0)), some (.int l1), some (.int l2), some (.int s0)]) C dX7_placeOf_29 (by decide) rfl ?_
  refine g_iload_n C dX7_placeOf_30 rfl ?_
  refine g_if_eq (tgt := 45) C dX7_placeOf_31 (by decide) (fun hc => ?_) (fun hc => ?_)
  · have hf := iteT hf hc
    refine g_iconst (v := (-1 : Int32)) C dX7_placeOf_45 (by decide) ?_
    refine g_sub (lv' := [none, none, none, none]) trivial ?_
    exact l_Ta_placeOf_b46 C HR  hf
  · have hf := iteF hf hc
    refine g_iload_n C dX7_placeOf_34 rfl ?_
    refine g_aload_n C dX7_placeOf_35 rfl ?_
    obtain ⟨x1, hx1, hg, hf⟩ := gI_ok hf
    refine e_getI C fl_Ta_9 dX7_placeOf_36 hx1 hg ?_
    refine g_imul C dX7_placeOf_39 ?_
    refine g_iload_n C dX7_placeOf_40 rfl ?_
    refine g_iadd C dX7_placeOf_41 ?_
    refine g_goto (tgt := 46) C dX7_placeOf_42 (by decide) ?_
    refine g_sub (lv' := [none, none, none, none]) trivial ?_
    exact l_Ta_placeOf_b46 C HR  hf
set_option maxRecDepth 20000 in
theorem l_Ta_placeOf_b28 {E : EE} {X : CT} {G : Hp} (C : gCx E X cX7_placeOf "FavoursGoOff$Table" (some .int) 0 0 0 0 false 4) {r : Int32} (HR : gRet E X cX7_placeOf (some .int) 0 0 (some (.int r)) G) {l0 : Nat} {l1 : Int32} {l2 : Int32} (hf : f_Ta_placeOf_b28 G l0 l1 l2 = some r) : gV E X 0 0 G 28 [some (.ref (E.2.1 + l0)), some (.int l1), some (.int l2), none] [] := by
  unfold f_Ta_placeOf_b28 at hf
  refine g_iconst (v := (0 : Int32)) C dX7_placeOf_28 (by decide) ?_
  refine g_sub (lv' := [some (.ref (E.2.1 + l0)), some (.int l1), some (.int l2), none]) ⟨rfl, ⟨rfl, ⟨rfl, trivial⟩⟩⟩ ?_
  exact l_Ta_placeOf_b29 C HR  hf
set_option maxRecDepth 20000 in
theorem l_Ta_placeOf {E : EE} {X : CT} {G : Hp} (C : gCx E X cX7_placeOf "FavoursGoOff$Table" (some .int) 0 0 0 0 false 4) {r : Int32} (HR : gRet E X cX7_placeOf (some .int) 0 0 (some (.int r)) G) {l0 : Nat} {l1 : Int32} {l2 : Int32} (hf : f_Ta_placeOf G l0 l1 l2 = some r) : gV E X 0 0 G 0 [some (.ref (E.2.1 + l0)), some (.int l1), some (.int l2), none] [] := by
  unfold f_Ta_placeOf at hf
  refine g_iload_n C dX7_placeOf_0 rfl ?_
  refine g_if_lt (tgt := 28) C dX7_placeOf_1 (by decide) (fun hc => ?_) (fun hc => ?_)
  · have hf := iteT hf hc
    refine g_sub (lv' := [some (.ref (E.2.1 + l0)), some (.int l1), some (.int l2), none]) ⟨rfl, ⟨rfl, ⟨rfl, trivial⟩⟩⟩ ?_
    exact l_Ta_placeOf_b28 C HR  hf
  · have hf := iteF hf hc
    refine g_iload_n C dX7_placeOf_4 rfl ?_
    refine g_aload_n C dX7_placeOf_5 rfl ?_
    obtain ⟨x1, hx1, hg, hf⟩ := gI_ok hf
    refine e_getI C fl_Ta_25 dX7_placeOf_6 hx1 hg ?_
    refine g_icmp_ge (tgt := 28) C dX7_placeOf_9 (by decide) (fun hc => ?_) (fun hc => ?_)
    · have hf := iteT hf hc
      refine g_sub (lv' := [some (.ref (E.2.1 + l0)), some (.int l1), some (.int l2), none]) ⟨rfl, ⟨rfl, ⟨rfl, trivial⟩⟩⟩ ?_
      exact l_Ta_placeOf_b28 C HR  hf
    · have hf := iteF hf hc
      refine g_iload_n C dX7_placeOf_12 rfl ?_
      refine g_if_lt (tgt := 28) C dX7_placeOf_13 (by decide) (fun hc => ?_) (fun hc => ?_)
      · have hf := iteT hf hc
        refine g_sub (lv' := [some (.ref (E.2.1 + l0)), some (.int l1), some (.int l2), none]) ⟨rfl, ⟨rfl, ⟨rfl, trivial⟩⟩⟩ ?_
        exact l_Ta_placeOf_b28 C HR  hf
      · have hf := iteF hf hc
        refine g_iload_n C dX7_placeOf_16 rfl ?_
        refine g_aload_n C dX7_placeOf_17 rfl ?_
        obtain ⟨x2, hx2, hg, hf⟩ := gI_ok hf
        refine e_getI C fl_Ta_9 dX7_placeOf_18 hx2 hg ?_
        refine g_icmp_ge (tgt := 28) C dX7_placeOf_21 (by decide) (fun hc => ?_) (fun hc => ?_)
        · have hf := iteT hf hc
          refine g_sub (lv' := [some (.ref (E.2.1 + l0)), some (.int l1), some (.int l2), none]) ⟨rfl, ⟨rfl, ⟨rfl, trivial⟩⟩⟩ ?_
          exact l_Ta_placeOf_b28 C HR  hf
        · have hf := iteF hf hc
          refine g_iconst (v := (1 : Int32)) C dX7_placeOf_24 (by decide) ?_
          refine g_goto (tgt := 29) C dX7_placeOf_25 (by decide) ?_
          refine g_sub (lv' := [some (.ref (E.2.1 + l0)), some (.int l1), some (.int l2), none]) ⟨rfl, ⟨rfl, ⟨rfl, trivial⟩⟩⟩ ?_
          exact l_Ta_placeOf_b29 C HR  hf
theorem c_Ta_placeOf (E : EE) {G : Hp} {l0 : Nat} {l1 : Int32} {l2 : Int32} {r : Int32} (h : f_Ta_placeOf G l0 l1 l2 = some r) : gCt E y_Ta_placeOf cX7_placeOf 4 (some .int) 0 0 0 0 [.ref (E.2.1 + l0), .int l1, .int l2] G (some (.int r)) G := gCt_of (own := "FavoursGoOff$Table") (ini := false) [some (.ref (E.2.1 + l0)), some (.int l1), some (.int l2), none] (by decide +kernel) rfl (fun h => by cases h) (Nat.le_of_ble_eq_true rfl) ⟨rfl, ⟨rfl, ⟨rfl, trivial⟩⟩⟩ (fun X C HR => l_Ta_placeOf C HR h)
set_option maxRecDepth 20000 in
theorem l_Ta_at_b30 {E : EE} {X : CT} {G : Hp} (C : gCx E X cX7_at "FavoursGoOff$Table" (some .int) 1 23 0 0 false 4) {r : Int32} (HR : gRet E X cX7_at (some .int) 0 0 (some (.int r)) G) {s0 : Int32} (hf : f_Ta_at_b30 G s0 = some r) : gV E X 0 0 G 30 [none, none, none, none] [.int s0] := by
  unfold f_Ta_at_b30 at hf
  obtain rfl := rP_ok hf
  exact g_iret HR dX7_at_30
set_option maxRecDepth 20000 in
theorem l_Ta_at_b29 {E : EE} {X : CT} {G : Hp} (C : gCx E X cX7_at "FavoursGoOff$Table" (some .int) 1 23 0 0 false 4) {r : Int32} (HR : gRet E X cX7_at (some .int) 0 0 (some (.int r)) G) (hf : f_Ta_at_b29 G = some r) : gV E X 0 0 G 29 [none, none, none, none] [] := by
  unfold f_Ta_at_b29 at hf
  refine g_iconst (v := (0 : Int32)) C dX7_at_29 (by decide) ?_
  refine g_sub (lv' := [none, none, none, none]) trivial ?_
  exact l_Ta_at_b30 C HR  hf
set_option maxRecDepth 20000 in
theorem l_Ta_at {E : EE} {X : CT} {G : Hp} (C : gCx E X cX7_at "FavoursGoOff$Table" (some .int) 1 23 0 0 false 4) {r : Int32} (HR : gRet E X cX7_at (some .int) 0 0 (some (.int r)) G) {l0 : Nat} {l1 : Int32} {l2 : Int32} (hf : f_Ta_at G l0 l1 l2 = some r) : gV E X 0 0 G 0 [some (.ref (E.2.1 + l0)), some (.int l1), some (.int l2), none] [] := by
  unfold f_Ta_at at hf
  refine g_aload_n C dX7_at_0 rfl ?_
  refine g_iload_n C dX7_at_1 rfl ?_
  refine g_iload_n C dX7_at_2 rfl ?_
  obtain ⟨x1, hg, h1, hf⟩ := vP_ok hf
  refine g_invV (As := [.int l1, .int l2]) (st := []) C (c_Ta_placeOf E h1) (rfl : vwCl[7]? = some (y_Ta_placeOf.cls, TX7, 3)) (by decide) hg ml_Ta_28 cm_Ta_placeOf.1 cm_Ta_placeOf.2.1 cm_Ta_placeOf.2.2.1 cm_Ta_placeOf.2.2.2.1 cm_Ta_placeOf.2.2.2.2 rfl ⟨by omega, by omega, by omega, by omega⟩ (by exact Nat.le_of_ble_eq_true rfl) rfl dX7_at_3 ?_
  refine g_istore_n (lv' := [some (.ref (E.2.1 + l0)), some (.int l1), some (.int l2), some (.int x1)]) C dX7_at_6 (by decide) rfl ?_
  refine g_iload_n C dX7_at_7 rfl ?_
  refine g_if_lt (tgt := 29) C dX7_at_8 (by decide) (fun hc => ?_) (fun hc => ?_)
  · have hf := iteT hf hc
    refine g_sub (lv' := [none, none, none, none]) trivial ?_
    exact l_Ta_at_b29 C HR  hf
  · have hf := iteF hf hc
    refine g_iload_n C dX7_at_11 rfl ?_
    refine g_aload_n C dX7_at_12 rfl ?_
    obtain ⟨x2, hg, hf⟩ := gR_ok hf
    refine g_getR C fl_Ta_21 dX7_at_13 hg ?_
    obtain ⟨x3, hx3, hg, hf⟩ := aL_ok hf
    refine e_alen C dX7_at_16 hx3 hg ?_
    refine g_icmp_ge (tgt := 29) C dX7_at_17 (by decide) (fun hc => ?_) (fun hc => ?_)
    · have hf := iteT hf hc
      refine g_sub (lv' := [none, none, none, none]) trivial ?_
      exact l_Ta_at_b29 C HR  hf
    · have hf := iteF hf hc
      refine g_aload_n C dX7_at_20 rfl ?_
      obtain ⟨x4, hg, hf⟩ := gR_ok hf
      refine g_getR C fl_Ta_21 dX7_at_21 hg ?_
      refine g_iload_n C dX7_at_24 rfl ?_
      obtain ⟨x5, hx5, hg, hf⟩ := aI_ok hf
      refine e_iald C dX7_at_25 hx5 hg ?_
      refine g_goto (tgt := 30) C dX7_at_26 (by decide) ?_
      refine g_sub (lv' := [none, none, none, none]) trivial ?_
      exact l_Ta_at_b30 C HR  hf
theorem c_Ta_at (E : EE) {G : Hp} {l0 : Nat} {l1 : Int32} {l2 : Int32} {r : Int32} (h : f_Ta_at G l0 l1 l2 = some r) : gCt E y_Ta_at cX7_at 4 (some .int) 1 23 0 0 [.ref (E.2.1 + l0), .int l1, .int l2] G (some (.int r)) G := gCt_of (own := "FavoursGoOff$Table") (ini := false) [some (.ref (E.2.1 + l0)), some (.int l1), some (.int l2), none] (by decide +kernel) rfl (fun h => by cases h) (Nat.le_of_ble_eq_true rfl) ⟨rfl, ⟨rfl, ⟨rfl, trivial⟩⟩⟩ (fun X C HR => l_Ta_at C HR h)
set_option maxRecDepth 20000 in
theorem l_De_between {E : EE} {X : CT} {G : Hp} (C : gCx E X cX1_between "FavoursGoOff$Debts" (some .int) 2 46 0 0 false 3) {r : Int32} (HR : gRet E X cX1_between (some .int) 0 0 (some (.int r)) G) {l0 : Nat} {l1 : Int32} {l2 : Int32} (hf : f_De_between G l0 l1 l2 = some r) : gV E X 0 0 G 0 [some (.ref (E.2.1 + l0)), some (.int l1), some (.int l2)] [] := by
  unfold f_De_between at hf
  refine g_aload_n C dX1_between_0 rfl ?_
  obtain ⟨x1, hg, hf⟩ := gR_ok hf
  refine g_getR C fl_De_14 dX1_between_1 hg ?_
  refine g_iload_n C dX1_between_4 rfl ?_
  refine g_iload_n C dX1_between_5 rfl ?_
  obtain ⟨x2, hg, h1, hf⟩ := vP_ok hf
  refine g_invV (As := [.int l1, .int l2]) (st := []) C (c_Ta_at E h1) (rfl : vwCl[7]? = some (y_Ta_at.cls, TX7, 3)) (by decide) hg ml_De_50 cm_Ta_at.1 cm_Ta_at.2.1 cm_Ta_at.2.2.1 cm_Ta_at.2.2.2.1 cm_Ta_at.2.2.2.2 rfl ⟨by omega, by omega, by omega, by omega⟩ (by exact Nat.le_of_ble_eq_true rfl) rfl dX1_between_6 ?_
  obtain rfl := rP_ok hf
  exact g_iret HR dX1_between_9
theorem c_De_between (E : EE) {G : Hp} {l0 : Nat} {l1 : Int32} {l2 : Int32} {r : Int32} (h : f_De_between G l0 l1 l2 = some r) : gCt E y_De_between cX1_between 3 (some .int) 2 46 0 0 [.ref (E.2.1 + l0), .int l1, .int l2] G (some (.int r)) G := gCt_of (own := "FavoursGoOff$Debts") (ini := false) [some (.ref (E.2.1 + l0)), some (.int l1), some (.int l2)] (by decide +kernel) rfl (fun h => by cases h) (Nat.le_of_ble_eq_true rfl) ⟨rfl, ⟨rfl, ⟨rfl, trivial⟩⟩⟩ (fun X C HR => l_De_between C HR h)
set_option maxRecDepth 20000 in
theorem l_Ci_holds_b2k {E : EE} {X : CT} {G : Hp} (C : gCx E X cX0_holds "FavoursGoOff$Circle" (some .boolean) 1 21 0 0 false 4) {r : Int32} (HR : gRet E X cX0_holds (some .boolean) 0 0 (some (.int r)) G) {k2 : Nat → Int32 → Int32 → Int32 → Option Int32} (K2 : ∀ {l0 : Nat} {l1 : Int32} {l2 : Int32} {l3 : Int32}, k2 l0 l1 l2 l3 = some r → gV E X 0 0 G 2 [some (.ref (E.2.1 + l0)), some (.int l1), some (.int l2), some (.int l3)] []) {l0 : Nat} {l1 : Int32} {l2 : Int32} {l3 : Int32} (hf : f_Ci_holds_b2_k G k2 l0 l1 l2 l3 = some r) : gV E X 0 0 G 2 [some (.ref (E.2.1 + l0)), some (.int l1), some (.int l2), some (.int l3)] [] := by
  unfold f_Ci_holds_b2_k at hf
  refine g_iload_n C dX0_holds_2 rfl ?_
  refine g_iload_n C dX0_holds_3 rfl ?_
  refine g_icmp_ge (tgt := 24) C dX0_holds_4 (by decide) (fun hc => ?_) (fun hc => ?_)
  · have hf := iteT hf hc
    refine g_iconst (v := (0 : Int32)) C dX0_holds_24 (by decide) ?_
    obtain rfl := rP_ok hf
    exact g_zret HR (Or.inl rfl) dX0_holds_25
  · have hf := iteF hf hc
    refine g_aload_n C dX0_holds_7 rfl ?_
    refine g_iload_n C dX0_holds_8 rfl ?_
    obtain ⟨x1, hg, h1, hf⟩ := vP_ok hf
    refine g_invV (As := [.int l3]) (st := []) C (c_Ci_member E h1) (rfl : vwCl[0]? = some (y_Ci_member.cls, TX0, 2)) (by decide) hg ml_Ci_28 cm_Ci_member.1 cm_Ci_member.2.1 cm_Ci_member.2.2.1 cm_Ci_member.2.2.2.1 cm_Ci_member.2.2.2.2 rfl ⟨by omega, by omega, by omega, by omega⟩ (by exact Nat.le_of_ble_eq_true rfl) rfl dX0_holds_9 ?_
    refine g_iload_n C dX0_holds_12 rfl ?_
    refine g_icmp_ne (tgt := 18) C dX0_holds_13 (by decide) (fun hc => ?_) (fun hc => ?_)
    · have hf := iteF hf hc
      refine g_iinc (v := (l3 + 1)) (lv' := [some (.ref (E.2.1 + l0)), some (.int l1), some (.int l2), some (.int (l3 + 1))]) C dX0_holds_18 (by decide) rfl rfl rfl ?_
      refine g_goto (tgt := 2) C dX0_holds_21 (by decide) ?_
      refine g_sub (lv' := [some (.ref (E.2.1 + l0)), some (.int l1), some (.int l2), some (.int (l3 + 1))]) ⟨rfl, ⟨rfl, ⟨rfl, ⟨rfl, trivial⟩⟩⟩⟩ ?_
      exact K2 hf
    · have hf := iteT hf hc
      refine g_iconst (v := (1 : Int32)) C dX0_holds_16 (by decide) ?_
      obtain rfl := rP_ok hf
      exact g_zret HR (Or.inr rfl) dX0_holds_17
theorem l_Ci_holds_b2 {E : EE} {X : CT} {G : Hp} (C : gCx E X cX0_holds "FavoursGoOff$Circle" (some .boolean) 1 21 0 0 false 4) {r : Int32} (HR : gRet E X cX0_holds (some .boolean) 0 0 (some (.int r)) G) : ∀ (nn : Nat) {l0 : Nat} {l1 : Int32} {l2 : Int32} {l3 : Int32}, f_Ci_holds_b2 G nn l0 l1 l2 l3 = some r → gV E X 0 0 G 2 [some (.ref (E.2.1 + l0)), some (.int l1), some (.int l2), some (.int l3)] []
  | 0, _, _, _, _, hf => by have h0 : (none : Option Int32) = some r := hf; cases h0
  | nn + 1, _, _, _, _, hf => l_Ci_holds_b2k C HR (fun h => l_Ci_holds_b2 C HR nn h) hf
set_option maxRecDepth 20000 in
theorem l_Ci_holds {E : EE} {X : CT} {G : Hp} (C : gCx E X cX0_holds "FavoursGoOff$Circle" (some .boolean) 1 21 0 0 false 4) {r : Int32} (HR : gRet E X cX0_holds (some .boolean) 0 0 (some (.int r)) G) {l0 : Nat} {l1 : Int32} {l2 : Int32} (hf : f_Ci_holds G l0 l1 l2 = some r) : gV E X 0 0 G 0 [some (.ref (E.2.1 + l0)), some (.int l1), some (.int l2), none] [] := by
  unfold f_Ci_holds at hf
  refine g_iconst (v := (0 : Int32)) C dX0_holds_0 (by decide) ?_
  refine g_istore_n (lv' := [some (.ref (E.2.1 + l0)), some (.int l1), some (.int l2), some (.int (0 : Int32))]) C dX0_holds_1 (by decide) rfl ?_
  refine g_sub (lv' := [some (.ref (E.2.1 + l0)), some (.int l1), some (.int l2), some (.int (0 : Int32))]) ⟨rfl, ⟨rfl, ⟨rfl, ⟨rfl, trivial⟩⟩⟩⟩ ?_
  exact l_Ci_holds_b2 C HR  FU hf
theorem c_Ci_holds (E : EE) {G : Hp} {l0 : Nat} {l1 : Int32} {l2 : Int32} {r : Int32} (h : f_Ci_holds G l0 l1 l2 = some r) : gCt E y_Ci_holds cX0_holds 4 (some .boolean) 1 21 0 0 [.ref (E.2.1 + l0), .int l1, .int l2] G (some (.int r)) G := gCt_of (own := "FavoursGoOff$Circle") (ini := false) [some (.ref (E.2.1 + l0)), some (.int l1), some (.int l2), none] (by decide +kernel) rfl (fun h => by cases h) (Nat.le_of_ble_eq_true rfl) ⟨rfl, ⟨rfl, ⟨rfl, trivial⟩⟩⟩ (fun X C HR => l_Ci_holds C HR h)
set_option maxRecDepth 20000 in
theorem l_Ci_closes_b51 {E : EE} {X : CT} {G : Hp} {rr : Nat} (C : gCx E X cX0_closes "FavoursGoOff$Circle" (some .boolean) (3 + (rr + 1)) (68 + 60 * (rr + 1)) 0 0 false 7) {r : Int32} {G' : Hp} (HR : gRet E X cX0_closes (some .boolean) 0 0 (some (.int r)) G') {sf : Hp → Nat → Nat → Int32 → Int32 → Option (Int32 × Hp)} (Sf : ∀ {G : Hp} {l0 : Nat} {l1 : Nat} {l2 : Int32} {l3 : Int32} {r : Int32} {G' : Hp}, sf G l0 l1 l2 l3 = some (r, G') → gCt E y_Ci_closes cX0_closes 7 (some .boolean) (3 + rr) (68 + 60 * rr) 0 0 [.ref (E.2.1 + l0), .ref (E.2.1 + l1), .int l2, .int l3] G (some (.int r)) G') {s0 : Int32} (hf : f_Ci_closes_b51 sf G s0 = some (r, G')) : gV E X 0 0 G 51 [none, none, none, none, none, none, none] [.int s0] := by
  unfold f_Ci_closes_b51 at hf
  obtain ⟨hv, hf⟩ := zR_ok hf
  obtain ⟨rfl, rfl⟩ := rH_ok hf
  exact g_zret HR hv dX0_closes_51
set_option maxRecDepth 20000 in
theorem l_Ci_closes_b35 {E : EE} {X : CT} {G : Hp} {rr : Nat} (C : gCx E X cX0_closes "FavoursGoOff$Circle" (some .boolean) (3 + (rr + 1)) (68 + 60 * (rr + 1)) 0 0 false 7) {r : Int32} {G' : Hp} (HR : gRet E X cX0_closes (some .boolean) 0 0 (some (.int r)) G') {sf : Hp → Nat → Nat → Int32 → Int32 → Option (Int32 × Hp)} (Sf : ∀ {G : Hp} {l0 : Nat} {l1 : Nat} {l2 : Int32} {l3 : Int32} {r : Int32} {G' : Hp}, sf G l0 l1 l2 l3 = some (r, G') → gCt E y_Ci_closes cX0_closes 7 (some .boolean) (3 + rr) (68 + 60 * rr) 0 0 [.ref (E.2.1 + l0), .ref (E.2.1 + l1), .int l2, .int l3] G (some (.int r)) G') {l1 : Nat} {l4 : Int32} {l5 : Int32} (hf : f_Ci_closes_b35 sf G l1 l4 l5 = some (r, G')) : gV E X 0 0 G 35 [none, some (.ref (E.2.1 + l1)), none, none, some (.int l4), some (.int l5), none] [] := by
  unfold f_Ci_closes_b35 at hf
  refine g_aload_n C dX0_closes_35 rfl ?_
  refine g_iload C dX0_closes_36 rfl ?_
  refine g_iload C dX0_closes_38 rfl ?_
  obtain ⟨x1, hg, h1, hf⟩ := vP_ok hf
  refine g_invV (As := [.int l5, .int l4]) (st := []) C (c_De_between E h1) (rfl : vwCl[1]? = some (y_De_between.cls, TX1, 6)) (by decide) hg ml_Ci_32 cm_De_between.1 cm_De_between.2.1 cm_De_between.2.2.1 cm_De_between.2.2.2.1 cm_De_between.2.2.2.2 rfl ⟨by omega, by omega, by omega, by omega⟩ (by exact Nat.le_of_ble_eq_true rfl) rfl dX0_closes_40 ?_
  refine g_if_le (tgt := 50) C dX0_closes_43 (by decide) (fun hc => ?_) (fun hc => ?_)
  · have hf := iteT hf hc
    refine g_iconst (v := (0 : Int32)) C dX0_closes_50 (by decide) ?_
    refine g_sub (lv' := [none, none, none, none, none, none, none]) trivial ?_
    exact l_Ci_closes_b51 C HR Sf hf
  · have hf := iteF hf hc
    refine g_iconst (v := (1 : Int32)) C dX0_closes_46 (by decide) ?_
    refine g_goto (tgt := 51) C dX0_closes_47 (by decide) ?_
    refine g_sub (lv' := [none, none, none, none, none, none, none]) trivial ?_
    exact l_Ci_closes_b51 C HR Sf hf
set_option maxRecDepth 20000 in
theorem l_Ci_closes_b110 {E : EE} {X : CT} {G : Hp} {rr : Nat} (C : gCx E X cX0_closes "FavoursGoOff$Circle" (some .boolean) (3 + (rr + 1)) (68 + 60 * (rr + 1)) 0 0 false 7) {r : Int32} {G' : Hp} (HR : gRet E X cX0_closes (some .boolean) 0 0 (some (.int r)) G') {sf : Hp → Nat → Nat → Int32 → Int32 → Option (Int32 × Hp)} (Sf : ∀ {G : Hp} {l0 : Nat} {l1 : Nat} {l2 : Int32} {l3 : Int32} {r : Int32} {G' : Hp}, sf G l0 l1 l2 l3 = some (r, G') → gCt E y_Ci_closes cX0_closes 7 (some .boolean) (3 + rr) (68 + 60 * rr) 0 0 [.ref (E.2.1 + l0), .ref (E.2.1 + l1), .int l2, .int l3] G (some (.int r)) G') {k58 : Hp → Nat → Nat → Int32 → Int32 → Int32 → Int32 → Option (Int32 × Hp)} (K58 : ∀ {G : Hp} {l0 : Nat} {l1 : Nat} {l2 : Int32} {l3 : Int32} {l5 : Int32} {l6 : Int32}, k58 G l0 l1 l2 l3 l5 l6 = some (r, G') → gV E X 0 0 G 58 [some (.ref (E.2.1 + l0)), some (.ref (E.2.1 + l1)), some (.int l2), some (.int l3), none, some (.int l5), some (.int l6)] []) {l0 : Nat} {l1 : Nat} {l2 : Int32} {l3 : Int32} {l5 : Int32} {l6 : Int32} (hf : f_Ci_closes_b110 sf k58 G l0 l1 l2 l3 l5 l6 = some (r, G')) : gV E X 0 0 G 110 [some (.ref (E.2.1 + l0)), some (.ref (E.2.1 + l1)), some (.int l2), some (.int l3), none, some (.int l5), some (.int l6)] [] := by
  unfold f_Ci_closes_b110 at hf
  refine g_iinc (v := (l6 + 1)) (lv' := [some (.ref (E.2.1 + l0)), some (.ref (E.2.1 + l1)), some (.int l2), some (.int l3), none, some (.int l5), some (.int (l6 + 1))]) C dX0_closes_110 (by decide) rfl rfl rfl ?_
  refine g_goto (tgt := 58) C dX0_closes_113 (by decide) ?_
  refine g_sub (lv' := [some (.ref (E.2.1 + l0)), some (.ref (E.2.1 + l1)), some (.int l2), some (.int l3), none, some (.int l5), some (.int (l6 + 1))]) ⟨rfl, ⟨rfl, ⟨rfl, ⟨rfl, ⟨rfl, ⟨rfl, trivial⟩⟩⟩⟩⟩⟩ ?_
  exact K58 hf
set_option maxRecDepth 20000 in
theorem l_Ci_closes_b58k {E : EE} {X : CT} {G : Hp} {rr : Nat} (C : gCx E X cX0_closes "FavoursGoOff$Circle" (some .boolean) (3 + (rr + 1)) (68 + 60 * (rr + 1)) 0 0 false 7) {r : Int32} {G' : Hp} (HR : gRet E X cX0_closes (some .boolean) 0 0 (some (.int r)) G') {sf : Hp → Nat → Nat → Int32 → Int32 → Option (Int32 × Hp)} (Sf : ∀ {G : Hp} {l0 : Nat} {l1 : Nat} {l2 : Int32} {l3 : Int32} {r : Int32} {G' : Hp}, sf G l0 l1 l2 l3 = some (r, G') → gCt E y_Ci_closes cX0_closes 7 (some .boolean) (3 + rr) (68 + 60 * rr) 0 0 [.ref (E.2.1 + l0), .ref (E.2.1 + l1), .int l2, .int l3] G (some (.int r)) G') {k58 : Hp → Nat → Nat → Int32 → Int32 → Int32 → Int32 → Option (Int32 × Hp)} (K58 : ∀ {G : Hp} {l0 : Nat} {l1 : Nat} {l2 : Int32} {l3 : Int32} {l5 : Int32} {l6 : Int32}, k58 G l0 l1 l2 l3 l5 l6 = some (r, G') → gV E X 0 0 G 58 [some (.ref (E.2.1 + l0)), some (.ref (E.2.1 + l1)), some (.int l2), some (.int l3), none, some (.int l5), some (.int l6)] []) {l0 : Nat} {l1 : Nat} {l2 : Int32} {l3 : Int32} {l5 : Int32} {l6 : Int32} (hf : f_Ci_closes_b58_k sf k58 G l0 l1 l2 l3 l5 l6 = some (r, G')) : gV E X 0 0 G 58 [some (.ref (E.2.1 + l0)), some (.ref (E.2.1 + l1)), some (.int l2), some (.int l3), none, some (.int l5), some (.int l6)] [] := by
  unfold f_Ci_closes_b58_k at hf
  refine g_iload C dX0_closes_58 rfl ?_
  refine g_aload_n C dX0_closes_60 rfl ?_
  obtain ⟨x1, hx1, hg, hf⟩ := gI_ok hf
  refine e_getI C fl_Ci_19 dX0_closes_61 hx1 hg ?_
  refine g_icmp_ge (tgt := 116) C dX0_closes_64 (by decide) (fun hc => ?_) (fun hc => ?_)
  · have hf := iteT hf hc
    refine g_iconst (v := (0 : Int32)) C dX0_closes_116 (by decide) ?_
    obtain ⟨rfl, rfl⟩ := rH_ok hf
    exact g_zret HR (Or.inl rfl) dX0_closes_117
  · have hf := iteF hf hc
    refine g_aload_n C dX0_closes_67 rfl ?_
    refine g_iload C dX0_closes_68 rfl ?_
    refine g_iload C dX0_closes_70 rfl ?_
    obtain ⟨x2, hg, h1, hf⟩ := vP_ok hf
    refine g_invV (As := [.int l5, .int l6]) (st := []) C (c_De_between E h1) (rfl : vwCl[1]? = some (y_De_between.cls, TX1, 6)) (by decide) hg ml_Ci_32 cm_De_between.1 cm_De_between.2.1 cm_De_between.2.2.1 cm_De_between.2.2.2.1 cm_De_between.2.2.2.2 rfl ⟨by omega, by omega, by omega, by omega⟩ (by exact Nat.le_of_ble_eq_true rfl) rfl dX0_closes_72 ?_
    refine g_if_le (tgt := 110) C dX0_closes_75 (by decide) (fun hc => ?_) (fun hc => ?_)
    · have hf := iteT hf hc
      refine g_sub (lv' := [some (.ref (E.2.1 + l0)), some (.ref (E.2.1 + l1)), some (.int l2), some (.int l3), none, some (.int l5), some (.int l6)]) ⟨rfl, ⟨rfl, ⟨rfl, ⟨rfl, ⟨rfl, ⟨rfl, trivial⟩⟩⟩⟩⟩⟩ ?_
      exact l_Ci_closes_b110 C HR Sf K58 hf
    · have hf := iteF hf hc
      refine g_aload_n C dX0_closes_78 rfl ?_
      refine g_iload C dX0_closes_79 rfl ?_
      refine g_iload_n C dX0_closes_81 rfl ?_
      obtain ⟨x3, hg, h1, hf⟩ := vP_ok hf
      refine g_invV (As := [.int l6, .int l2]) (st := []) C (c_Ci_holds E h1) (rfl : vwCl[0]? = some (y_Ci_holds.cls, TX0, 2)) (by decide) hg ml_Ci_36 cm_Ci_holds.1 cm_Ci_holds.2.1 cm_Ci_holds.2.2.1 cm_Ci_holds.2.2.2.1 cm_Ci_holds.2.2.2.2 rfl ⟨by omega, by omega, by omega, by omega⟩ (by exact Nat.le_of_ble_eq_true rfl) rfl dX0_closes_82 ?_
      refine g_if_ne (tgt := 110) C dX0_closes_85 (by decide) (fun hc => ?_) (fun hc => ?_)
      · have hf := iteF hf hc
        refine g_sub (lv' := [some (.ref (E.2.1 + l0)), some (.ref (E.2.1 + l1)), some (.int l2), some (.int l3), none, some (.int l5), some (.int l6)]) ⟨rfl, ⟨rfl, ⟨rfl, ⟨rfl, ⟨rfl, ⟨rfl, trivial⟩⟩⟩⟩⟩⟩ ?_
        exact l_Ci_closes_b110 C HR Sf K58 hf
      · have hf := iteT hf hc
        refine g_aload_n C dX0_closes_88 rfl ?_
        obtain ⟨x4, hg, hf⟩ := gR_ok hf
        refine g_getR C fl_Ci_9 dX0_closes_89 hg ?_
        refine g_iload_n C dX0_closes_92 rfl ?_
        refine g_iload C dX0_closes_93 rfl ?_
        obtain ⟨G5, hG5, hg, hf⟩ := sI_ok hf
        refine e_iast C dX0_closes_95 hG5 hg ?_
        refine g_aload_n C dX0_closes_96 rfl ?_
        refine g_aload_n C dX0_closes_97 rfl ?_
        refine g_iload_n C dX0_closes_98 rfl ?_
        refine g_iconst (v := (1 : Int32)) C dX0_closes_99 (by decide) ?_
        refine g_iadd C dX0_closes_100 ?_
        refine g_iload_n C dX0_closes_101 rfl ?_
        obtain ⟨x6, G7, h1, hf⟩ := cH_ok hf
        refine g_invS (As := [.ref (E.2.1 + l0), .ref (E.2.1 + l1), .int (l2 + (1 : Int32)), .int l3]) (st := []) C (Sf h1) ml_Ci_24 cm_Ci_closes.1 cm_Ci_closes.2.1 cm_Ci_closes.2.2.1 cm_Ci_closes.2.2.2 rfl ⟨by omega, by omega, by omega, by omega⟩ (by exact Nat.le_of_ble_eq_true rfl) rfl dX0_closes_102 ?_
        refine g_if_eq (tgt := 110) C dX0_closes_105 (by decide) (fun hc => ?_) (fun hc => ?_)
        · have hf := iteT hf hc
          refine g_sub (lv' := [some (.ref (E.2.1 + l0)), some (.ref (E.2.1 + l1)), some (.int l2), some (.int l3), none, some (.int l5), some (.int l6)]) ⟨rfl, ⟨rfl, ⟨rfl, ⟨rfl, ⟨rfl, ⟨rfl, trivial⟩⟩⟩⟩⟩⟩ ?_
          exact l_Ci_closes_b110 C HR Sf K58 hf
        · have hf := iteF hf hc
          refine g_iconst (v := (1 : Int32)) C dX0_closes_108 (by decide) ?_
          obtain ⟨rfl, rfl⟩ := rH_ok hf
          exact g_zret HR (Or.inr rfl) dX0_closes_109
theorem l_Ci_closes_b58 {E : EE} {X : CT} {rr : Nat} (C : gCx E X cX0_closes "FavoursGoOff$Circle" (some .boolean) (3 + (rr + 1)) (68 + 60 * (rr + 1)) 0 0 false 7) {r : Int32} {G' : Hp} (HR : gRet E X cX0_closes (some .boolean) 0 0 (some (.int r)) G') {sf : Hp → Nat → Nat → Int32 → Int32 → Option (Int32 × Hp)} (Sf : ∀ {G : Hp} {l0 : Nat} {l1 : Nat} {l2 : Int32} {l3 : Int32} {r : Int32} {G' : Hp}, sf G l0 l1 l2 l3 = some (r, G') → gCt E y_Ci_closes cX0_closes 7 (some .boolean) (3 + rr) (68 + 60 * rr) 0 0 [.ref (E.2.1 + l0), .ref (E.2.1 + l1), .int l2, .int l3] G (some (.int r)) G') : ∀ (nn : Nat) {G : Hp} {l0 : Nat} {l1 : Nat} {l2 : Int32} {l3 : Int32} {l5 : Int32} {l6 : Int32}, f_Ci_closes_b58 sf nn G l0 l1 l2 l3 l5 l6 = some (r, G') → gV E X 0 0 G 58 [some (.ref (E.2.1 + l0)), some (.ref (E.2.1 + l1)), some (.int l2), some (.int l3), none, some (.int l5), some (.int l6)] []
  | 0, _, _, _, _, _, _, _, hf => by have h0 : (none : Option (Int32 × Hp)) = some (r, G') := hf; cases h0
  | nn + 1, _, _, _, _, _, _, _, hf => l_Ci_closes_b58k C HR Sf (fun h => l_Ci_closes_b58 C HR Sf nn h) hf
set_option maxRecDepth 20000 in
theorem l_Ci_closes {E : EE} {X : CT} {G : Hp} {rr : Nat} (C : gCx E X cX0_closes "FavoursGoOff$Circle" (some .boolean) (3 + (rr + 1)) (68 + 60 * (rr + 1)) 0 0 false 7) {r : Int32} {G' : Hp} (HR : gRet E X cX0_closes (some .boolean) 0 0 (some (.int r)) G') {sf : Hp → Nat → Nat → Int32 → Int32 → Option (Int32 × Hp)} (Sf : ∀ {G : Hp} {l0 : Nat} {l1 : Nat} {l2 : Int32} {l3 : Int32} {r : Int32} {G' : Hp}, sf G l0 l1 l2 l3 = some (r, G') → gCt E y_Ci_closes cX0_closes 7 (some .boolean) (3 + rr) (68 + 60 * rr) 0 0 [.ref (E.2.1 + l0), .ref (E.2.1 + l1), .int l2, .int l3] G (some (.int r)) G') {l0 : Nat} {l1 : Nat} {l2 : Int32} {l3 : Int32} (hf : f_Ci_closes_r sf G l0 l1 l2 l3 = some (r, G')) : gV E X 0 0 G 0 [some (.ref (E.2.1 + l0)), some (.ref (E.2.1 + l1)), some (.int l2), some (.int l3), none, none, none] [] := by
  unfold f_Ci_closes_r at hf
  refine g_aload_n C dX0_closes_0 rfl ?_
  refine g_iconst (v := (0 : Int32)) C dX0_closes_1 (by decide) ?_
  obtain ⟨x1, hg, h1, hf⟩ := vP_ok hf
  refine g_invV (As := [.int (0 : Int32)]) (st := []) C (c_Ci_member E h1) (rfl : vwCl[0]? = some (y_Ci_member.cls, TX0, 2)) (by decide) hg ml_Ci_28 cm_Ci_member.1 cm_Ci_member.2.1 cm_Ci_member.2.2.1 cm_Ci_member.2.2.2.1 cm_Ci_member.2.2.2.2 rfl ⟨by omega, by omega, by omega, by omega⟩ (by exact Nat.le_of_ble_eq_true rfl) rfl dX0_closes_2 ?_
  refine g_istore (lv' := [some (.ref (E.2.1 + l0)), some (.ref (E.2.1 + l1)), some (.int l2), some (.int l3), some (.int x1), none, none]) C dX0_closes_5 (by decide) rfl ?_
  refine g_aload_n C dX0_closes_7 rfl ?_
  refine g_iload_n C dX0_closes_8 rfl ?_
  refine g_iconst (v := (1 : Int32)) C dX0_closes_9 (by decide) ?_
  refine g_isub C dX0_closes_10 ?_
  obtain ⟨x2, hg, h1, hf⟩ := vP_ok hf
  refine g_invV (As := [.int (l2 - (1 : Int32))]) (st := []) C (c_Ci_member E h1) (rfl : vwCl[0]? = some (y_Ci_member.cls, TX0, 2)) (by decide) hg ml_Ci_28 cm_Ci_member.1 cm_Ci_member.2.1 cm_Ci_member.2.2.1 cm_Ci_member.2.2.2.1 cm_Ci_member.2.2.2.2 rfl ⟨by omega, by omega, by omega, by omega⟩ (by exact Nat.le_of_ble_eq_true rfl) rfl dX0_closes_11 ?_
  refine g_istore (lv' := [some (.ref (E.2.1 + l0)), some (.ref (E.2.1 + l1)), some (.int l2), some (.int l3), some (.int x1), some (.int x2), none]) C dX0_closes_14 (by decide) rfl ?_
  refine g_iload_n C dX0_closes_16 rfl ?_
  refine g_iconst (v := (1 : Int32)) C dX0_closes_17 (by decide) ?_
  refine g_icmp_lt (tgt := 35) C dX0_closes_18 (by decide) (fun hc => ?_) (fun hc => ?_)
  · have hf := iteT hf hc
    refine g_sub (lv' := [none, some (.ref (E.2.1 + l1)), none, none, some (.int x1), some (.int x2), none]) ⟨rfl, ⟨rfl, ⟨rfl, trivial⟩⟩⟩ ?_
    exact l_Ci_closes_b35 C HR Sf hf
  · have hf := iteF hf hc
    refine g_iload_n C dX0_closes_21 rfl ?_
    refine g_iload_n C dX0_closes_22 rfl ?_
    refine g_icmp_ge (tgt := 35) C dX0_closes_23 (by decide) (fun hc => ?_) (fun hc => ?_)
    · have hf := iteT hf hc
      refine g_sub (lv' := [none, some (.ref (E.2.1 + l1)), none, none, some (.int x1), some (.int x2), none]) ⟨rfl, ⟨rfl, ⟨rfl, trivial⟩⟩⟩ ?_
      exact l_Ci_closes_b35 C HR Sf hf
    · have hf := iteF hf hc
      refine g_iload_n C dX0_closes_26 rfl ?_
      refine g_aload_n C dX0_closes_27 rfl ?_
      obtain ⟨x3, hg, hf⟩ := gR_ok hf
      refine g_getR C fl_Ci_9 dX0_closes_28 hg ?_
      obtain ⟨x4, hx4, hg, hf⟩ := aL_ok hf
      refine e_alen C dX0_closes_31 hx4 hg ?_
      refine g_icmp_lt (tgt := 52) C dX0_closes_32 (by decide) (fun hc => ?_) (fun hc => ?_)
      · have hf := iteT hf hc
        refine g_iload C dX0_closes_52 rfl ?_
        refine g_iconst (v := (1 : Int32)) C dX0_closes_54 (by decide) ?_
        refine g_iadd C dX0_closes_55 ?_
        obtain ⟨x5, hx5, hf⟩ := lt_ok hf
        refine e_top hx5 ?_
        refine g_istore (lv' := [some (.ref (E.2.1 + l0)), some (.ref (E.2.1 + l1)), some (.int l2), some (.int l3), some (.int x1), some (.int x2), some (.int x5)]) C dX0_closes_56 (by decide) rfl ?_
        refine g_sub (lv' := [some (.ref (E.2.1 + l0)), some (.ref (E.2.1 + l1)), some (.int l2), some (.int l3), none, some (.int x2), some (.int x5)]) ⟨rfl, ⟨rfl, ⟨rfl, ⟨rfl, ⟨rfl, ⟨rfl, trivial⟩⟩⟩⟩⟩⟩ ?_
        exact l_Ci_closes_b58 C HR Sf FU hf
      · have hf := iteF hf hc
        refine g_sub (lv' := [none, some (.ref (E.2.1 + l1)), none, none, some (.int x1), some (.int x2), none]) ⟨rfl, ⟨rfl, ⟨rfl, trivial⟩⟩⟩ ?_
        exact l_Ci_closes_b35 C HR Sf hf
theorem c_Ci_closes (E : EE) : ∀ (nn : Nat) {G : Hp} {l0 : Nat} {l1 : Nat} {l2 : Int32} {l3 : Int32} {r : Int32} {G' : Hp} , f_Ci_closes nn G l0 l1 l2 l3 = some (r, G') → gCt E y_Ci_closes cX0_closes 7 (some .boolean) (3 + nn) (68 + 60 * nn) 0 0 [.ref (E.2.1 + l0), .ref (E.2.1 + l1), .int l2, .int l3] G (some (.int r)) G'
  | 0, _, _, _, _, _, _, _, hf => by have h0 : (none : Option (Int32 × Hp)) = _ := hf; cases h0
  | nn + 1, G, l0, l1, l2, l3, r, G', hf => gCt_of (own := "FavoursGoOff$Circle") (ini := false) [some (.ref (E.2.1 + l0)), some (.ref (E.2.1 + l1)), some (.int l2), some (.int l3), none, none, none] (by decide +kernel) rfl (fun h => by cases h) (Nat.le_of_ble_eq_true rfl) ⟨rfl, ⟨rfl, ⟨rfl, ⟨rfl, trivial⟩⟩⟩⟩ (fun X C HR => l_Ci_closes (rr := nn) C HR (fun h => c_Ci_closes E nn h) hf)
set_option maxRecDepth 20000 in
theorem l_Ci_find_b17k {E : EE} {X : CT} {G : Hp} (C : gCx E X cX0_find "FavoursGoOff$Circle" none 12 574 0 0 false 4) {G' : Hp} (HR : gRet E X cX0_find none 0 0 none G') {k7 : Hp → Nat → Nat → Int32 → Option Hp} (K7 : ∀ {G : Hp} {l0 : Nat} {l1 : Nat} {l2 : Int32}, k7 G l0 l1 l2 = some G' → gV E X 0 0 G 7 [some (.ref (E.2.1 + l0)), some (.ref (E.2.1 + l1)), some (.int l2), none] []) {k17 : Hp → Nat → Nat → Int32 → Int32 → Option Hp} (K17 : ∀ {G : Hp} {l0 : Nat} {l1 : Nat} {l2 : Int32} {l3 : Int32}, k17 G l0 l1 l2 l3 = some G' → gV E X 0 0 G 17 [some (.ref (E.2.1 + l0)), some (.ref (E.2.1 + l1)), some (.int l2), some (.int l3)] []) {l0 : Nat} {l1 : Nat} {l2 : Int32} {l3 : Int32} (hf : f_Ci_find_b17_k k7 k17 G l0 l1 l2 l3 = some G') : gV E X 0 0 G 17 [some (.ref (E.2.1 + l0)), some (.ref (E.2.1 + l1)), some (.int l2), some (.int l3)] [] := by
  unfold f_Ci_find_b17_k at hf
  refine g_iload_n C dX0_find_17 rfl ?_
  refine g_aload_n C dX0_find_18 rfl ?_
  obtain ⟨x1, hx1, hg, hf⟩ := gI_ok hf
  refine e_getI C fl_Ci_19 dX0_find_19 hx1 hg ?_
  refine g_icmp_ge (tgt := 54) C dX0_find_22 (by decide) (fun hc => ?_) (fun hc => ?_)
  · have hf := iteT hf hc
    refine g_iinc (v := (l2 + 1)) (lv' := [some (.ref (E.2.1 + l0)), some (.ref (E.2.1 + l1)), some (.int (l2 + 1)), some (.int l3)]) C dX0_find_54 (by decide) rfl rfl rfl ?_
    refine g_goto (tgt := 7) C dX0_find_57 (by decide) ?_
    refine g_sub (lv' := [some (.ref (E.2.1 + l0)), some (.ref (E.2.1 + l1)), some (.int (l2 + 1)), none]) ⟨rfl, ⟨rfl, ⟨rfl, trivial⟩⟩⟩ ?_
    exact K7 hf
  · have hf := iteF hf hc
    refine g_aload_n C dX0_find_25 rfl ?_
    obtain ⟨x2, hg, hf⟩ := gR_ok hf
    refine g_getR C fl_Ci_9 dX0_find_26 hg ?_
    refine g_iconst (v := (0 : Int32)) C dX0_find_29 (by decide) ?_
    refine g_iload_n C dX0_find_30 rfl ?_
    obtain ⟨G3, hG3, hg, hf⟩ := sI_ok hf
    refine e_iast C dX0_find_31 hG3 hg ?_
    refine g_aload_n C dX0_find_32 rfl ?_
    refine g_aload_n C dX0_find_33 rfl ?_
    refine g_iconst (v := (1 : Int32)) C dX0_find_34 (by decide) ?_
    refine g_iload_n C dX0_find_35 rfl ?_
    obtain ⟨x4, G5, h1, hf⟩ := cH_ok hf
    refine g_invS (As := [.ref (E.2.1 + l0), .ref (E.2.1 + l1), .int (1 : Int32), .int l2]) (st := []) C (c_Ci_closes E 8 h1) ml_Ci_24 cm_Ci_closes.1 cm_Ci_closes.2.1 cm_Ci_closes.2.2.1 cm_Ci_closes.2.2.2 rfl ⟨by omega, by omega, by omega, by omega⟩ (by exact Nat.le_of_ble_eq_true rfl) rfl dX0_find_36 ?_
    refine g_if_eq (tgt := 48) C dX0_find_39 (by decide) (fun hc => ?_) (fun hc => ?_)
    · have hf := iteT hf hc
      refine g_iinc (v := (l3 + 1)) (lv' := [some (.ref (E.2.1 + l0)), some (.ref (E.2.1 + l1)), some (.int l2), some (.int (l3 + 1))]) C dX0_find_48 (by decide) rfl rfl rfl ?_
      refine g_goto (tgt := 17) C dX0_find_51 (by decide) ?_
      refine g_sub (lv' := [some (.ref (E.2.1 + l0)), some (.ref (E.2.1 + l1)), some (.int l2), some (.int (l3 + 1))]) ⟨rfl, ⟨rfl, ⟨rfl, ⟨rfl, trivial⟩⟩⟩⟩ ?_
      exact K17 hf
    · have hf := iteF hf hc
      refine g_aload_n C dX0_find_42 rfl ?_
      refine g_iload_n C dX0_find_43 rfl ?_
      obtain ⟨G6, hG6, hg, hf⟩ := pI_ok hf
      refine e_putI C fl_Ci_15 dX0_find_44 hG6 hg (Or.inl rfl) rfl rfl ?_
      obtain rfl := rP_ok hf
      exact g_vret HR dX0_find_47
theorem l_Ci_find_b17 {E : EE} {X : CT} (C : gCx E X cX0_find "FavoursGoOff$Circle" none 12 574 0 0 false 4) {G' : Hp} (HR : gRet E X cX0_find none 0 0 none G') {k7 : Hp → Nat → Nat → Int32 → Option Hp} (K7 : ∀ {G : Hp} {l0 : Nat} {l1 : Nat} {l2 : Int32}, k7 G l0 l1 l2 = some G' → gV E X 0 0 G 7 [some (.ref (E.2.1 + l0)), some (.ref (E.2.1 + l1)), some (.int l2), none] []) : ∀ (nn : Nat) {G : Hp} {l0 : Nat} {l1 : Nat} {l2 : Int32} {l3 : Int32}, f_Ci_find_b17 k7 nn G l0 l1 l2 l3 = some G' → gV E X 0 0 G 17 [some (.ref (E.2.1 + l0)), some (.ref (E.2.1 + l1)), some (.int l2), some (.int l3)] []
  | 0, _, _, _, _, _, hf => by have h0 : (none : Option Hp) = some G' := hf; cases h0
  | nn + 1, _, _, _, _, _, hf => l_Ci_find_b17k C HR K7 (fun h => l_Ci_find_b17 C HR K7 nn h) hf
set_option maxRecDepth 20000 in
theorem l_Ci_find_b7k {E : EE} {X : CT} {G : Hp} (C : gCx E X cX0_find "FavoursGoOff$Circle" none 12 574 0 0 false 4) {G' : Hp} (HR : gRet E X cX0_find none 0 0 none G') {k7 : Hp → Nat → Nat → Int32 → Option Hp} (K7 : ∀ {G : Hp} {l0 : Nat} {l1 : Nat} {l2 : Int32}, k7 G l0 l1 l2 = some G' → gV E X 0 0 G 7 [some (.ref (E.2.1 + l0)), some (.ref (E.2.1 + l1)), some (.int l2), none] []) {l0 : Nat} {l1 : Nat} {l2 : Int32} (hf : f_Ci_find_b7_k k7 G l0 l1 l2 = some G') : gV E X 0 0 G 7 [some (.ref (E.2.1 + l0)), some (.ref (E.2.1 + l1)), some (.int l2), none] [] := by
  unfold f_Ci_find_b7_k at hf
  refine g_iload_n C dX0_find_7 rfl ?_
  refine g_aload_n C dX0_find_8 rfl ?_
  obtain ⟨x1, hx1, hg, hf⟩ := gI_ok hf
  refine e_getI C fl_Ci_19 dX0_find_9 hx1 hg ?_
  refine g_icmp_gt (tgt := 60) C dX0_find_12 (by decide) (fun hc => ?_) (fun hc => ?_)
  · have hf := iteT hf hc
    obtain rfl := rP_ok hf
    exact g_vret HR dX0_find_60
  · have hf := iteF hf hc
    refine g_iconst (v := (0 : Int32)) C dX0_find_15 (by decide) ?_
    refine g_istore_n (lv' := [some (.ref (E.2.1 + l0)), some (.ref (E.2.1 + l1)), some (.int l2), some (.int (0 : Int32))]) C dX0_find_16 (by decide) rfl ?_
    refine g_sub (lv' := [some (.ref (E.2.1 + l0)), some (.ref (E.2.1 + l1)), some (.int l2), some (.int (0 : Int32))]) ⟨rfl, ⟨rfl, ⟨rfl, ⟨rfl, trivial⟩⟩⟩⟩ ?_
    exact l_Ci_find_b17 C HR K7 FU hf
theorem l_Ci_find_b7 {E : EE} {X : CT} (C : gCx E X cX0_find "FavoursGoOff$Circle" none 12 574 0 0 false 4) {G' : Hp} (HR : gRet E X cX0_find none 0 0 none G') : ∀ (nn : Nat) {G : Hp} {l0 : Nat} {l1 : Nat} {l2 : Int32}, f_Ci_find_b7 nn G l0 l1 l2 = some G' → gV E X 0 0 G 7 [some (.ref (E.2.1 + l0)), some (.ref (E.2.1 + l1)), some (.int l2), none] []
  | 0, _, _, _, _, hf => by have h0 : (none : Option Hp) = some G' := hf; cases h0
  | nn + 1, _, _, _, _, hf => l_Ci_find_b7k C HR (fun h => l_Ci_find_b7 C HR nn h) hf
set_option maxRecDepth 20000 in
theorem l_Ci_find {E : EE} {X : CT} {G : Hp} (C : gCx E X cX0_find "FavoursGoOff$Circle" none 12 574 0 0 false 4) {G' : Hp} (HR : gRet E X cX0_find none 0 0 none G') {l0 : Nat} {l1 : Nat} (hf : f_Ci_find G l0 l1 = some G') : gV E X 0 0 G 0 [some (.ref (E.2.1 + l0)), some (.ref (E.2.1 + l1)), none, none] [] := by
  unfold f_Ci_find at hf
  refine g_aload_n C dX0_find_0 rfl ?_
  refine g_iconst (v := (0 : Int32)) C dX0_find_1 (by decide) ?_
  obtain ⟨G1, hG1, hg, hf⟩ := pI_ok hf
  refine e_putI C fl_Ci_15 dX0_find_2 hG1 hg (Or.inl rfl) rfl rfl ?_
  refine g_iconst (v := (2 : Int32)) C dX0_find_5 (by decide) ?_
  refine g_istore_n (lv' := [some (.ref (E.2.1 + l0)), some (.ref (E.2.1 + l1)), some (.int (2 : Int32)), none]) C dX0_find_6 (by decide) rfl ?_
  refine g_sub (lv' := [some (.ref (E.2.1 + l0)), some (.ref (E.2.1 + l1)), some (.int (2 : Int32)), none]) ⟨rfl, ⟨rfl, ⟨rfl, trivial⟩⟩⟩ ?_
  exact l_Ci_find_b7 C HR  FU hf
theorem c_Ci_find (E : EE) {G : Hp} {l0 : Nat} {l1 : Nat} {G' : Hp} (h : f_Ci_find G l0 l1 = some G') : gCt E y_Ci_find cX0_find 4 none 12 574 0 0 [.ref (E.2.1 + l0), .ref (E.2.1 + l1)] G none G' := gCt_of (own := "FavoursGoOff$Circle") (ini := false) [some (.ref (E.2.1 + l0)), some (.ref (E.2.1 + l1)), none, none] (by decide +kernel) rfl (fun h => by cases h) (Nat.le_of_ble_eq_true rfl) ⟨rfl, ⟨rfl, trivial⟩⟩ (fun X C HR => l_Ci_find C HR h)
set_option maxRecDepth 20000 in
theorem l_Ta_init {E : EE} {X : CT} {G : Hp} (C : gCx E X cX7_init "FavoursGoOff$Table" none 1 30 1 1000 true 3) {G' : Hp} (HR : gRet E X cX7_init none 1 1000 none G') {l0 : Nat} {l1 : Int32} {l2 : Int32} (hf : f_Ta_init G l0 l1 l2 = some G') : gV E X 0 0 G 0 [some (.ref (E.2.1 + l0)), some (.int l1), some (.int l2)] [] := by
  unfold f_Ta_init at hf
  refine g_aload_n C dX7_init_0 rfl ?_
  refine g_objInit C ml_Ta_3 cm_obj.1 cm_obj.2 (by omega) (Nat.le_trans (m := 30) (by exact Nat.le_of_ble_eq_true rfl) (by omega)) dX7_init_1 ?_
  refine g_aload_n C dX7_init_4 rfl ?_
  refine g_iload_n C dX7_init_5 rfl ?_
  obtain ⟨G1, hG1, hg, hf⟩ := pI_ok hf
  refine e_putI C fl_Ta_9 dX7_init_6 hG1 hg (Or.inr ⟨rfl, rfl⟩) rfl rfl ?_
  refine g_aload_n C dX7_init_9 rfl ?_
  refine g_iconst (v := (0 : Int32)) C dX7_init_10 (by decide) ?_
  refine g_iload_n C dX7_init_11 rfl ?_
  refine g_iload_n C dX7_init_12 rfl ?_
  refine g_imul C dX7_init_13 ?_
  refine e_max C ml_Ta_15 cm_max (by omega) (Nat.le_trans (m := 30) (by exact Nat.le_of_ble_eq_true rfl) (by omega)) ⟨by omega, by omega⟩ dX7_init_14 ?_
  obtain ⟨a3, G2, ha3, hG2, hz, hf⟩ := nA_ok hf
  refine e_newa (sl := 1000) C (Or.inl ⟨rfl, rfl⟩) ac_int hz hz.2 (by omega) dX7_init_17 ha3 hG2 ?_
  obtain ⟨G4, hG4, hg, hf⟩ := pR_ok hf
  refine e_putR C fl_Ta_21 dX7_init_19 hG4 hg (Or.inr ⟨rfl, rfl⟩) rfl rfl ?_
  obtain rfl := rP_ok hf
  exact g_vret HR dX7_init_22
theorem c_Ta_init (E : EE) {G : Hp} {l0 : Nat} {l1 : Int32} {l2 : Int32} {G' : Hp} (h : f_Ta_init G l0 l1 l2 = some G') : gCt E y_Ta_init cX7_init 3 none 1 30 1 1000 [.ref (E.2.1 + l0), .int l1, .int l2] G none G' := gCt_of (own := "FavoursGoOff$Table") (ini := true) [some (.ref (E.2.1 + l0)), some (.int l1), some (.int l2)] (by decide +kernel) rfl (fun _ => rfl) (Nat.le_of_ble_eq_true rfl) ⟨rfl, ⟨rfl, ⟨rfl, trivial⟩⟩⟩ (fun X C HR => l_Ta_init C HR h)
set_option maxRecDepth 20000 in
theorem l_De_init {E : EE} {X : CT} {G : Hp} (C : gCx E X cX1_init "FavoursGoOff$Debts" none 2 52 4 1073 true 1) {G' : Hp} (HR : gRet E X cX1_init none 4 1073 none G') {l0 : Nat} (hf : f_De_init G l0 = some G') : gV E X 0 0 G 0 [some (.ref (E.2.1 + l0))] [] := by
  unfold f_De_init at hf
  refine g_aload_n C dX1_init_0 rfl ?_
  refine g_objInit C ml_De_3 cm_obj.1 cm_obj.2 (by omega) (Nat.le_trans (m := 30) (by exact Nat.le_of_ble_eq_true rfl) (by omega)) dX1_init_1 ?_
  refine g_aload_n C dX1_init_4 rfl ?_
  obtain ⟨a2, G1, ha2, hG1, hf⟩ := nO_ok hf
  refine e_new C tyX7 (rfl : vwCl[7]? = some ("FavoursGoOff$Table", TX7, 3)) (by decide) ul_7 tyX7_ok rfl ft_7 cl_De_9 in_Ta it_Ta (by omega) dX1_init_5 ha2 hG1 ?_
  refine g_dup C dX1_init_8 rfl ?_
  refine g_bipush (v := (6 : Int32)) C dX1_init_9 (by decide) ?_
  refine g_bipush (v := (6 : Int32)) C dX1_init_11 (by decide) ?_
  obtain ⟨G3, h1, hf⟩ := cP_ok hf
  refine g_invI (As := [.int (6 : Int32), .int (6 : Int32)]) (st := [.ref (E.2.1 + a2), .ref (E.2.1 + l0)]) C (c_Ta_init E h1) ml_De_11 cm_Ta_init.1 cm_Ta_init.2.1 cm_Ta_init.2.2.1 cm_Ta_init.2.2.2.1 cm_Ta_init.2.2.2.2 rfl ⟨by omega, by omega, by omega, by omega⟩ (by exact Nat.le_of_ble_eq_true rfl) rfl dX1_init_13 ?_
  obtain ⟨G4, hG4, hg, hf⟩ := pR_ok hf
  refine e_putR C fl_De_14 dX1_init_16 hG4 hg (Or.inr ⟨rfl, rfl⟩) rfl rfl ?_
  refine g_aload_n C dX1_init_19 rfl ?_
  refine g_bipush (v := (6 : Int32)) C dX1_init_20 (by decide) ?_
  obtain ⟨a6, G5, ha6, hG5, hz, hf⟩ := nA_ok hf
  refine e_newa (sl := 6) C (Or.inl ⟨rfl, rfl⟩) ac_int hz (by decide) (by omega) dX1_init_22 ha6 hG5 ?_
  obtain ⟨G7, hG7, hg, hf⟩ := pR_ok hf
  refine e_putR C fl_De_20 dX1_init_24 hG7 hg (Or.inr ⟨rfl, rfl⟩) rfl rfl ?_
  refine g_aload_n C dX1_init_27 rfl ?_
  refine g_bipush (v := (64 : Int32)) C dX1_init_28 (by decide) ?_
  obtain ⟨a9, G8, ha9, hG8, hz, hf⟩ := nA_ok hf
  refine e_newa (sl := 64) C (Or.inl ⟨rfl, rfl⟩) ac_int hz (by decide) (by omega) dX1_init_30 ha9 hG8 ?_
  obtain ⟨G10, hG10, hg, hf⟩ := pR_ok hf
  refine e_putR C fl_De_24 dX1_init_32 hG10 hg (Or.inr ⟨rfl, rfl⟩) rfl rfl ?_
  obtain rfl := rP_ok hf
  exact g_vret HR dX1_init_35
theorem c_De_init (E : EE) {G : Hp} {l0 : Nat} {G' : Hp} (h : f_De_init G l0 = some G') : gCt E y_De_init cX1_init 1 none 2 52 4 1073 [.ref (E.2.1 + l0)] G none G' := gCt_of (own := "FavoursGoOff$Debts") (ini := true) [some (.ref (E.2.1 + l0))] (by decide +kernel) rfl (fun _ => rfl) (Nat.le_of_ble_eq_true rfl) ⟨rfl, trivial⟩ (fun X C HR => l_De_init C HR h)
set_option maxRecDepth 20000 in
theorem l_Ta_put_b31 {E : EE} {X : CT} {G : Hp} (C : gCx E X cX7_put "FavoursGoOff$Table" none 1 23 0 0 false 5) {G' : Hp} (HR : gRet E X cX7_put none 0 0 none G') (hf : f_Ta_put_b31 G = some G') : gV E X 0 0 G 31 [none, none, none, none, none] [] := by
  unfold f_Ta_put_b31 at hf
  obtain rfl := rP_ok hf
  exact g_vret HR dX7_put_31
set_option maxRecDepth 20000 in
theorem l_Ta_put {E : EE} {X : CT} {G : Hp} (C : gCx E X cX7_put "FavoursGoOff$Table" none 1 23 0 0 false 5) {G' : Hp} (HR : gRet E X cX7_put none 0 0 none G') {l0 : Nat} {l1 : Int32} {l2 : Int32} {l3 : Int32} (hf : f_Ta_put G l0 l1 l2 l3 = some G') : gV E X 0 0 G 0 [some (.ref (E.2.1 + l0)), some (.int l1), some (.int l2), some (.int l3), none] [] := by
  unfold f_Ta_put at hf
  refine g_aload_n C dX7_put_0 rfl ?_
  refine g_iload_n C dX7_put_1 rfl ?_
  refine g_iload_n C dX7_put_2 rfl ?_
  obtain ⟨x1, hg, h1, hf⟩ := vP_ok hf
  refine g_invV (As := [.int l1, .int l2]) (st := []) C (c_Ta_placeOf E h1) (rfl : vwCl[7]? = some (y_Ta_placeOf.cls, TX7, 3)) (by decide) hg ml_Ta_28 cm_Ta_placeOf.1 cm_Ta_placeOf.2.1 cm_Ta_placeOf.2.2.1 cm_Ta_placeOf.2.2.2.1 cm_Ta_placeOf.2.2.2.2 rfl ⟨by omega, by omega, by omega, by omega⟩ (by exact Nat.le_of_ble_eq_true rfl) rfl dX7_put_3 ?_
  refine g_istore (lv' := [some (.ref (E.2.1 + l0)), some (.int l1), some (.int l2), some (.int l3), some (.int x1)]) C dX7_put_6 (by decide) rfl ?_
  refine g_iload C dX7_put_8 rfl ?_
  refine g_if_lt (tgt := 31) C dX7_put_10 (by decide) (fun hc => ?_) (fun hc => ?_)
  · have hf := iteT hf hc
    refine g_sub (lv' := [none, none, none, none, none]) trivial ?_
    exact l_Ta_put_b31 C HR  hf
  · have hf := iteF hf hc
    refine g_iload C dX7_put_13 rfl ?_
    refine g_aload_n C dX7_put_15 rfl ?_
    obtain ⟨x2, hg, hf⟩ := gR_ok hf
    refine g_getR C fl_Ta_21 dX7_put_16 hg ?_
    obtain ⟨x3, hx3, hg, hf⟩ := aL_ok hf
    refine e_alen C dX7_put_19 hx3 hg ?_
    refine g_icmp_ge (tgt := 31) C dX7_put_20 (by decide) (fun hc => ?_) (fun hc => ?_)
    · have hf := iteT hf hc
      refine g_sub (lv' := [none, none, none, none, none]) trivial ?_
      exact l_Ta_put_b31 C HR  hf
    · have hf := iteF hf hc
      refine g_aload_n C dX7_put_23 rfl ?_
      obtain ⟨x4, hg, hf⟩ := gR_ok hf
      refine g_getR C fl_Ta_21 dX7_put_24 hg ?_
      refine g_iload C dX7_put_27 rfl ?_
      refine g_iload_n C dX7_put_29 rfl ?_
      obtain ⟨G5, hG5, hg, hf⟩ := sI_ok hf
      refine e_iast C dX7_put_30 hG5 hg ?_
      refine g_sub (lv' := [none, none, none, none, none]) trivial ?_
      exact l_Ta_put_b31 C HR  hf
theorem c_Ta_put (E : EE) {G : Hp} {l0 : Nat} {l1 : Int32} {l2 : Int32} {l3 : Int32} {G' : Hp} (h : f_Ta_put G l0 l1 l2 l3 = some G') : gCt E y_Ta_put cX7_put 5 none 1 23 0 0 [.ref (E.2.1 + l0), .int l1, .int l2, .int l3] G none G' := gCt_of (own := "FavoursGoOff$Table") (ini := false) [some (.ref (E.2.1 + l0)), some (.int l1), some (.int l2), some (.int l3), none] (by decide +kernel) rfl (fun h => by cases h) (Nat.le_of_ble_eq_true rfl) ⟨rfl, ⟨rfl, ⟨rfl, ⟨rfl, trivial⟩⟩⟩⟩ (fun X C HR => l_Ta_put C HR h)
set_option maxRecDepth 20000 in
theorem l_Ta_fillRow_b2k {E : EE} {X : CT} {G : Hp} (C : gCx E X cX7_fillRow "FavoursGoOff$Table" none 2 47 0 0 false 4) {G' : Hp} (HR : gRet E X cX7_fillRow none 0 0 none G') {k2 : Hp → Nat → Int32 → Int32 → Int32 → Option Hp} (K2 : ∀ {G : Hp} {l0 : Nat} {l1 : Int32} {l2 : Int32} {l3 : Int32}, k2 G l0 l1 l2 l3 = some G' → gV E X 0 0 G 2 [some (.ref (E.2.1 + l0)), some (.int l1), some (.int l2), some (.int l3)] []) {l0 : Nat} {l1 : Int32} {l2 : Int32} {l3 : Int32} (hf : f_Ta_fillRow_b2_k k2 G l0 l1 l2 l3 = some G') : gV E X 0 0 G 2 [some (.ref (E.2.1 + l0)), some (.int l1), some (.int l2), some (.int l3)] [] := by
  unfold f_Ta_fillRow_b2_k at hf
  refine g_iload_n C dX7_fillRow_2 rfl ?_
  refine g_aload_n C dX7_fillRow_3 rfl ?_
  obtain ⟨x1, hx1, hg, hf⟩ := gI_ok hf
  refine e_getI C fl_Ta_9 dX7_fillRow_4 hx1 hg ?_
  refine g_icmp_ge (tgt := 23) C dX7_fillRow_7 (by decide) (fun hc => ?_) (fun hc => ?_)
  · have hf := iteT hf hc
    obtain rfl := rP_ok hf
    exact g_vret HR dX7_fillRow_23
  · have hf := iteF hf hc
    refine g_aload_n C dX7_fillRow_10 rfl ?_
    refine g_iload_n C dX7_fillRow_11 rfl ?_
    refine g_iload_n C dX7_fillRow_12 rfl ?_
    refine g_iload_n C dX7_fillRow_13 rfl ?_
    obtain ⟨G2, hg, h1, hf⟩ := vP_ok hf
    refine g_invV (As := [.int l1, .int l3, .int l2]) (st := []) C (c_Ta_put E h1) (rfl : vwCl[7]? = some (y_Ta_put.cls, TX7, 3)) (by decide) hg ml_Ta_34 cm_Ta_put.1 cm_Ta_put.2.1 cm_Ta_put.2.2.1 cm_Ta_put.2.2.2.1 cm_Ta_put.2.2.2.2 rfl ⟨by omega, by omega, by omega, by omega⟩ (by exact Nat.le_of_ble_eq_true rfl) rfl dX7_fillRow_14 ?_
    refine g_iinc (v := (l3 + 1)) (lv' := [some (.ref (E.2.1 + l0)), some (.int l1), some (.int l2), some (.int (l3 + 1))]) C dX7_fillRow_17 (by decide) rfl rfl rfl ?_
    refine g_goto (tgt := 2) C dX7_fillRow_20 (by decide) ?_
    refine g_sub (lv' := [some (.ref (E.2.1 + l0)), some (.int l1), some (.int l2), some (.int (l3 + 1))]) ⟨rfl, ⟨rfl, ⟨rfl, ⟨rfl, trivial⟩⟩⟩⟩ ?_
    exact K2 hf
theorem l_Ta_fillRow_b2 {E : EE} {X : CT} (C : gCx E X cX7_fillRow "FavoursGoOff$Table" none 2 47 0 0 false 4) {G' : Hp} (HR : gRet E X cX7_fillRow none 0 0 none G') : ∀ (nn : Nat) {G : Hp} {l0 : Nat} {l1 : Int32} {l2 : Int32} {l3 : Int32}, f_Ta_fillRow_b2 nn G l0 l1 l2 l3 = some G' → gV E X 0 0 G 2 [some (.ref (E.2.1 + l0)), some (.int l1), some (.int l2), some (.int l3)] []
  | 0, _, _, _, _, _, hf => by have h0 : (none : Option Hp) = some G' := hf; cases h0
  | nn + 1, _, _, _, _, _, hf => l_Ta_fillRow_b2k C HR (fun h => l_Ta_fillRow_b2 C HR nn h) hf
set_option maxRecDepth 20000 in
theorem l_Ta_fillRow {E : EE} {X : CT} {G : Hp} (C : gCx E X cX7_fillRow "FavoursGoOff$Table" none 2 47 0 0 false 4) {G' : Hp} (HR : gRet E X cX7_fillRow none 0 0 none G') {l0 : Nat} {l1 : Int32} {l2 : Int32} (hf : f_Ta_fillRow G l0 l1 l2 = some G') : gV E X 0 0 G 0 [some (.ref (E.2.1 + l0)), some (.int l1), some (.int l2), none] [] := by
  unfold f_Ta_fillRow at hf
  refine g_iconst (v := (0 : Int32)) C dX7_fillRow_0 (by decide) ?_
  refine g_istore_n (lv' := [some (.ref (E.2.1 + l0)), some (.int l1), some (.int l2), some (.int (0 : Int32))]) C dX7_fillRow_1 (by decide) rfl ?_
  refine g_sub (lv' := [some (.ref (E.2.1 + l0)), some (.int l1), some (.int l2), some (.int (0 : Int32))]) ⟨rfl, ⟨rfl, ⟨rfl, ⟨rfl, trivial⟩⟩⟩⟩ ?_
  exact l_Ta_fillRow_b2 C HR  FU hf
theorem c_Ta_fillRow (E : EE) {G : Hp} {l0 : Nat} {l1 : Int32} {l2 : Int32} {G' : Hp} (h : f_Ta_fillRow G l0 l1 l2 = some G') : gCt E y_Ta_fillRow cX7_fillRow 4 none 2 47 0 0 [.ref (E.2.1 + l0), .int l1, .int l2] G none G' := gCt_of (own := "FavoursGoOff$Table") (ini := false) [some (.ref (E.2.1 + l0)), some (.int l1), some (.int l2), none] (by decide +kernel) rfl (fun h => by cases h) (Nat.le_of_ble_eq_true rfl) ⟨rfl, ⟨rfl, ⟨rfl, trivial⟩⟩⟩ (fun X C HR => l_Ta_fillRow C HR h)
set_option maxRecDepth 20000 in
theorem l_St_valueOn_b143 {E : EE} {X : CT} {G : Hp} (C : gCx E X cX6_valueOn "FavoursGoOff$Street" (some .int) 2 46 0 0 false 7) {r : Int32} (HR : gRet E X cX6_valueOn (some .int) 0 0 (some (.int r)) G) {s0 : Int32} (hf : f_St_valueOn_b143 G s0 = some r) : gV E X 0 0 G 143 [none, none, none, none, none, none, none] [.int s0] := by
  unfold f_St_valueOn_b143 at hf
  obtain rfl := rP_ok hf
  exact g_iret HR dX6_valueOn_143
set_option maxRecDepth 20000 in
theorem l_St_valueOn_b47 {E : EE} {X : CT} {G : Hp} (C : gCx E X cX6_valueOn "FavoursGoOff$Street" (some .int) 2 46 0 0 false 7) {r : Int32} (HR : gRet E X cX6_valueOn (some .int) 0 0 (some (.int r)) G) {l0 : Nat} {l1 : Int32} {l2 : Int32} {l3 : Int32} {l4 : Int32} {s0 : Int32} (hf : f_St_valueOn_b47 G l0 l1 l2 l3 l4 s0 = some r) : gV E X 0 0 G 47 [some (.ref (E.2.1 + l0)), some (.int l1), some (.int l2), some (.int l3), some (.int l4), none, none] [.int s0] := by
  unfold f_St_valueOn_b47 at hf
  refine g_istore (lv' := [some (.ref (E.2.1 + l0)), some (.int l1), some (.int l2), some (.int l3), some (.int l4), some (.int s0), none]) C dX6_valueOn_47 (by decide) rfl ?_
  refine g_iconst (v := (0 : Int32)) C dX6_valueOn_49 (by decide) ?_
  refine g_iload_n C dX6_valueOn_50 rfl ?_
  refine g_aload_n C dX6_valueOn_51 rfl ?_
  obtain ⟨x1, hg, hf⟩ := gR_ok hf
  refine g_getR C fl_St_20 dX6_valueOn_52 hg ?_
  refine g_iload_n C dX6_valueOn_55 rfl ?_
  refine g_bipush (v := (6 : Int32)) C dX6_valueOn_56 (by decide) ?_
  obtain ⟨x2, hg, h1, hf⟩ := vP_ok hf
  refine g_invV (As := [.int l1, .int (6 : Int32)]) (st := [.int l2, .int (0 : Int32)]) C (c_Ta_at E h1) (rfl : vwCl[7]? = some (y_Ta_at.cls, TX7, 3)) (by decide) hg ml_St_62 cm_Ta_at.1 cm_Ta_at.2.1 cm_Ta_at.2.2.1 cm_Ta_at.2.2.2.1 cm_Ta_at.2.2.2.2 rfl ⟨by omega, by omega, by omega, by omega⟩ (by exact Nat.le_of_ble_eq_true rfl) rfl dX6_valueOn_58 ?_
  refine g_isub C dX6_valueOn_61 ?_
  refine e_max C ml_St_65 cm_max (by omega) (Nat.le_trans (m := 30) (by exact Nat.le_of_ble_eq_true rfl) (by omega)) ⟨by omega, by omega⟩ dX6_valueOn_62 ?_
  obtain ⟨x3, hx3, hf⟩ := lt_ok hf
  refine e_top hx3 ?_
  refine g_istore (lv' := [some (.ref (E.2.1 + l0)), some (.int l1), some (.int l2), some (.int l3), some (.int l4), some (.int s0), some (.int x3)]) C dX6_valueOn_65 (by decide) rfl ?_
  refine g_aload_n C dX6_valueOn_67 rfl ?_
  obtain ⟨x4, hg, hf⟩ := gR_ok hf
  refine g_getR C fl_St_20 dX6_valueOn_68 hg ?_
  refine g_iload_n C dX6_valueOn_71 rfl ?_
  refine g_iconst (v := (0 : Int32)) C dX6_valueOn_72 (by decide) ?_
  obtain ⟨x5, hg, h1, hf⟩ := vP_ok hf
  refine g_invV (As := [.int l1, .int (0 : Int32)]) (st := []) C (c_Ta_at E h1) (rfl : vwCl[7]? = some (y_Ta_at.cls, TX7, 3)) (by decide) hg ml_St_62 cm_Ta_at.1 cm_Ta_at.2.1 cm_Ta_at.2.2.1 cm_Ta_at.2.2.2.1 cm_Ta_at.2.2.2.2 rfl ⟨by omega, by omega, by omega, by omega⟩ (by exact Nat.le_of_ble_eq_true rfl) rfl dX6_valueOn_73 ?_
  by_cases hc0 : x5 = 1
  · have hf := iteT hf hc0
    refine g_tabIn (tgt := 108) C dX6_valueOn_76 1 (by rw [hc0]; rfl) (by decide) (by decide) rfl (by decide) ?_
    refine g_iconst (v := (0 : Int32)) C dX6_valueOn_108 (by decide) ?_
    refine g_iload C dX6_valueOn_109 rfl ?_
    refine g_iload C dX6_valueOn_111 rfl ?_
    refine g_isub C dX6_valueOn_113 ?_
    refine e_max C ml_St_65 cm_max (by omega) (Nat.le_trans (m := 30) (by exact Nat.le_of_ble_eq_true rfl) (by omega)) ⟨by omega, by omega⟩ dX6_valueOn_114 ?_
    obtain rfl := rP_ok hf
    exact g_iret HR dX6_valueOn_117
  · have hf := iteF hf hc0
    by_cases hc1 : x5 = 2
    · have hf := iteT hf hc1
      refine g_tabIn (tgt := 118) C dX6_valueOn_76 2 (by rw [hc1]; rfl) (by decide) (by decide) rfl (by decide) ?_
      refine g_iload_n C dX6_valueOn_118 rfl ?_
      refine g_iconst (v := (0 : Int32)) C dX6_valueOn_119 (by decide) ?_
      refine g_iload_n C dX6_valueOn_120 rfl ?_
      refine g_iload C dX6_valueOn_121 rfl ?_
      refine g_isub C dX6_valueOn_123 ?_
      refine e_max C ml_St_65 cm_max (by omega) (Nat.le_trans (m := 30) (by exact Nat.le_of_ble_eq_true rfl) (by omega)) ⟨by omega, by omega⟩ dX6_valueOn_124 ?_
      refine g_bipush (v := (10 : Int32)) C dX6_valueOn_127 (by decide) ?_
      obtain ⟨hy, hf⟩ := dI_ok hf
      refine g_idiv C dX6_valueOn_129 hy ?_
      refine g_iadd C dX6_valueOn_130 ?_
      obtain rfl := rP_ok hf
      exact g_iret HR dX6_valueOn_131
    · have hf := iteF hf hc1
      by_cases hc2 : x5 = 3
      · have hf := iteT hf hc2
        refine g_tabIn (tgt := 132) C dX6_valueOn_76 3 (by rw [hc2]; rfl) (by decide) (by decide) rfl (by decide) ?_
        refine g_iload_n C dX6_valueOn_132 rfl ?_
        refine g_iload C dX6_valueOn_133 rfl ?_
        refine g_icmp_ge (tgt := 142) C dX6_valueOn_135 (by decide) (fun hc => ?_) (fun hc => ?_)
        · have hf := iteT hf hc
          refine g_iload_n C dX6_valueOn_142 rfl ?_
          refine g_sub (lv' := [none, none, none, none, none, none, none]) trivial ?_
          exact l_St_valueOn_b143 C HR  hf
        · have hf := iteF hf hc
          refine g_iconst (v := (0 : Int32)) C dX6_valueOn_138 (by decide) ?_
          refine g_goto (tgt := 143) C dX6_valueOn_139 (by decide) ?_
          refine g_sub (lv' := [none, none, none, none, none, none, none]) trivial ?_
          exact l_St_valueOn_b143 C HR  hf
      · have hf := iteF hf hc2
        by_cases hc3 : x5 = 4
        · have hf := iteT hf hc3
          refine g_tabIn (tgt := 144) C dX6_valueOn_76 4 (by rw [hc3]; rfl) (by decide) (by decide) rfl (by decide) ?_
          refine g_iconst (v := (0 : Int32)) C dX6_valueOn_144 (by decide) ?_
          refine g_iload C dX6_valueOn_145 rfl ?_
          refine g_iconst (v := (2 : Int32)) C dX6_valueOn_147 (by decide) ?_
          refine g_iload C dX6_valueOn_148 rfl ?_
          refine g_imul C dX6_valueOn_150 ?_
          refine g_isub C dX6_valueOn_151 ?_
          refine e_max C ml_St_65 cm_max (by omega) (Nat.le_trans (m := 30) (by exact Nat.le_of_ble_eq_true rfl) (by omega)) ⟨by omega, by omega⟩ dX6_valueOn_152 ?_
          obtain rfl := rP_ok hf
          exact g_iret HR dX6_valueOn_155
        · have hf := iteF hf hc3
          have hi0 : ¬ x5.toInt = 1 := fun h => hc0 (Int32.toInt_inj.mp (h.trans rfl))
          have hi1 : ¬ x5.toInt = 2 := fun h => hc1 (Int32.toInt_inj.mp (h.trans rfl))
          have hi2 : ¬ x5.toInt = 3 := fun h => hc2 (Int32.toInt_inj.mp (h.trans rfl))
          have hi3 : ¬ x5.toInt = 4 := fun h => hc3 (Int32.toInt_inj.mp (h.trans rfl))
          refine g_tabOut (tgt := 156) C dX6_valueOn_76 (by omega) (by decide) ?_
          refine g_iload C dX6_valueOn_156 rfl ?_
          obtain rfl := rP_ok hf
          exact g_iret HR dX6_valueOn_158
set_option maxRecDepth 20000 in
theorem l_St_valueOn {E : EE} {X : CT} {G : Hp} (C : gCx E X cX6_valueOn "FavoursGoOff$Street" (some .int) 2 46 0 0 false 7) {r : Int32} (HR : gRet E X cX6_valueOn (some .int) 0 0 (some (.int r)) G) {l0 : Nat} {l1 : Int32} {l2 : Int32} (hf : f_St_valueOn G l0 l1 l2 = some r) : gV E X 0 0 G 0 [some (.ref (E.2.1 + l0)), some (.int l1), some (.int l2), none, none, none, none] [] := by
  unfold f_St_valueOn at hf
  refine g_aload_n C dX6_valueOn_0 rfl ?_
  obtain ⟨x1, hg, hf⟩ := gR_ok hf
  refine g_getR C fl_St_20 dX6_valueOn_1 hg ?_
  refine g_iload_n C dX6_valueOn_4 rfl ?_
  refine g_iconst (v := (2 : Int32)) C dX6_valueOn_5 (by decide) ?_
  obtain ⟨x2, hg, h1, hf⟩ := vP_ok hf
  refine g_invV (As := [.int l1, .int (2 : Int32)]) (st := []) C (c_Ta_at E h1) (rfl : vwCl[7]? = some (y_Ta_at.cls, TX7, 3)) (by decide) hg ml_St_62 cm_Ta_at.1 cm_Ta_at.2.1 cm_Ta_at.2.2.1 cm_Ta_at.2.2.2.1 cm_Ta_at.2.2.2.2 rfl ⟨by omega, by omega, by omega, by omega⟩ (by exact Nat.le_of_ble_eq_true rfl) rfl dX6_valueOn_6 ?_
  refine g_iconst (v := (-1 : Int32)) C dX6_valueOn_9 (by decide) ?_
  refine g_icmp_ne (tgt := 15) C dX6_valueOn_10 (by decide) (fun hc => ?_) (fun hc => ?_)
  · have hf := iteF hf hc
    refine g_aload_n C dX6_valueOn_15 rfl ?_
    obtain ⟨x3, hg, hf⟩ := gR_ok hf
    refine g_getR C fl_St_20 dX6_valueOn_16 hg ?_
    refine g_iload_n C dX6_valueOn_19 rfl ?_
    refine g_iconst (v := (4 : Int32)) C dX6_valueOn_20 (by decide) ?_
    obtain ⟨x4, hg, h1, hf⟩ := vP_ok hf
    refine g_invV (As := [.int l1, .int (4 : Int32)]) (st := []) C (c_Ta_at E h1) (rfl : vwCl[7]? = some (y_Ta_at.cls, TX7, 3)) (by decide) hg ml_St_62 cm_Ta_at.1 cm_Ta_at.2.1 cm_Ta_at.2.2.1 cm_Ta_at.2.2.2.1 cm_Ta_at.2.2.2.2 rfl ⟨by omega, by omega, by omega, by omega⟩ (by exact Nat.le_of_ble_eq_true rfl) rfl dX6_valueOn_21 ?_
    refine g_istore_n (lv' := [some (.ref (E.2.1 + l0)), some (.int l1), some (.int l2), some (.int x4), none, none, none]) C dX6_valueOn_24 (by decide) rfl ?_
    refine g_aload_n C dX6_valueOn_25 rfl ?_
    obtain ⟨x5, hg, hf⟩ := gR_ok hf
    refine g_getR C fl_St_20 dX6_valueOn_26 hg ?_
    refine g_iload_n C dX6_valueOn_29 rfl ?_
    refine g_iconst (v := (5 : Int32)) C dX6_valueOn_30 (by decide) ?_
    obtain ⟨x6, hg, h1, hf⟩ := vP_ok hf
    refine g_invV (As := [.int l1, .int (5 : Int32)]) (st := []) C (c_Ta_at E h1) (rfl : vwCl[7]? = some (y_Ta_at.cls, TX7, 3)) (by decide) hg ml_St_62 cm_Ta_at.1 cm_Ta_at.2.1 cm_Ta_at.2.2.1 cm_Ta_at.2.2.2.1 cm_Ta_at.2.2.2.2 rfl ⟨by omega, by omega, by omega, by omega⟩ (by exact Nat.le_of_ble_eq_true rfl) rfl dX6_valueOn_31 ?_
    refine g_istore (lv' := [some (.ref (E.2.1 + l0)), some (.int l1), some (.int l2), some (.int x4), some (.int x6), none, none]) C dX6_valueOn_34 (by decide) rfl ?_
    refine g_iload_n C dX6_valueOn_36 rfl ?_
    refine g_iload C dX6_valueOn_37 rfl ?_
    refine g_icmp_gt (tgt := 46) C dX6_valueOn_39 (by decide) (fun hc => ?_) (fun hc => ?_)
    · have hf := iteT hf hc
      refine g_iconst (v := (0 : Int32)) C dX6_valueOn_46 (by decide) ?_
      refine g_sub (lv' := [some (.ref (E.2.1 + l0)), some (.int l1), some (.int l2), some (.int x4), some (.int x6), none, none]) ⟨rfl, ⟨rfl, ⟨rfl, ⟨rfl, ⟨rfl, trivial⟩⟩⟩⟩⟩ ?_
      exact l_St_valueOn_b47 C HR  hf
    · have hf := iteF hf hc
      refine g_iload_n C dX6_valueOn_42 rfl ?_
      refine g_goto (tgt := 47) C dX6_valueOn_43 (by decide) ?_
      refine g_sub (lv' := [some (.ref (E.2.1 + l0)), some (.int l1), some (.int l2), some (.int x4), some (.int x6), none, none]) ⟨rfl, ⟨rfl, ⟨rfl, ⟨rfl, ⟨rfl, trivial⟩⟩⟩⟩⟩ ?_
      exact l_St_valueOn_b47 C HR  hf
  · have hf := iteT hf hc
    refine g_iconst (v := (0 : Int32)) C dX6_valueOn_13 (by decide) ?_
    obtain rfl := rP_ok hf
    exact g_iret HR dX6_valueOn_14
theorem c_St_valueOn (E : EE) {G : Hp} {l0 : Nat} {l1 : Int32} {l2 : Int32} {r : Int32} (h : f_St_valueOn G l0 l1 l2 = some r) : gCt E y_St_valueOn cX6_valueOn 7 (some .int) 2 46 0 0 [.ref (E.2.1 + l0), .int l1, .int l2] G (some (.int r)) G := gCt_of (own := "FavoursGoOff$Street") (ini := false) [some (.ref (E.2.1 + l0)), some (.int l1), some (.int l2), none, none, none, none] (by decide +kernel) rfl (fun h => by cases h) (Nat.le_of_ble_eq_true rfl) ⟨rfl, ⟨rfl, ⟨rfl, trivial⟩⟩⟩ (fun X C HR => l_St_valueOn C HR h)
set_option maxRecDepth 20000 in
theorem l_Ta_more {E : EE} {X : CT} {G : Hp} (C : gCx E X cX7_more "FavoursGoOff$Table" none 2 47 0 0 false 4) {G' : Hp} (HR : gRet E X cX7_more none 0 0 none G') {l0 : Nat} {l1 : Int32} {l2 : Int32} {l3 : Int32} (hf : f_Ta_more G l0 l1 l2 l3 = some G') : gV E X 0 0 G 0 [some (.ref (E.2.1 + l0)), some (.int l1), some (.int l2), some (.int l3)] [] := by
  unfold f_Ta_more at hf
  refine g_aload_n C dX7_more_0 rfl ?_
  refine g_iload_n C dX7_more_1 rfl ?_
  refine g_iload_n C dX7_more_2 rfl ?_
  refine g_aload_n C dX7_more_3 rfl ?_
  refine g_iload_n C dX7_more_4 rfl ?_
  refine g_iload_n C dX7_more_5 rfl ?_
  obtain ⟨x1, hg, h1, hf⟩ := vP_ok hf
  refine g_invV (As := [.int l1, .int l2]) (st := [.int l2, .int l1, .ref (E.2.1 + l0)]) C (c_Ta_at E h1) (rfl : vwCl[7]? = some (y_Ta_at.cls, TX7, 3)) (by decide) hg ml_Ta_31 cm_Ta_at.1 cm_Ta_at.2.1 cm_Ta_at.2.2.1 cm_Ta_at.2.2.2.1 cm_Ta_at.2.2.2.2 rfl ⟨by omega, by omega, by omega, by omega⟩ (by exact Nat.le_of_ble_eq_true rfl) rfl dX7_more_6 ?_
  refine g_iload_n C dX7_more_9 rfl ?_
  refine g_iadd C dX7_more_10 ?_
  obtain ⟨G2, hg, h1, hf⟩ := vP_ok hf
  refine g_invV (As := [.int l1, .int l2, .int (x1 + l3)]) (st := []) C (c_Ta_put E h1) (rfl : vwCl[7]? = some (y_Ta_put.cls, TX7, 3)) (by decide) hg ml_Ta_34 cm_Ta_put.1 cm_Ta_put.2.1 cm_Ta_put.2.2.1 cm_Ta_put.2.2.2.1 cm_Ta_put.2.2.2.2 rfl ⟨by omega, by omega, by omega, by omega⟩ (by exact Nat.le_of_ble_eq_true rfl) rfl dX7_more_11 ?_
  obtain rfl := rP_ok hf
  exact g_vret HR dX7_more_14
theorem c_Ta_more (E : EE) {G : Hp} {l0 : Nat} {l1 : Int32} {l2 : Int32} {l3 : Int32} {G' : Hp} (h : f_Ta_more G l0 l1 l2 l3 = some G') : gCt E y_Ta_more cX7_more 4 none 2 47 0 0 [.ref (E.2.1 + l0), .int l1, .int l2, .int l3] G none G' := gCt_of (own := "FavoursGoOff$Table") (ini := false) [some (.ref (E.2.1 + l0)), some (.int l1), some (.int l2), some (.int l3)] (by decide +kernel) rfl (fun h => by cases h) (Nat.le_of_ble_eq_true rfl) ⟨rfl, ⟨rfl, ⟨rfl, ⟨rfl, trivial⟩⟩⟩⟩ (fun X C HR => l_Ta_more C HR h)
set_option maxRecDepth 20000 in
theorem l_De_addUp_b54k {E : EE} {X : CT} {G : Hp} (C : gCx E X cX1_addUp "FavoursGoOff$Debts" none 3 72 0 0 false 4) {G' : Hp} (HR : gRet E X cX1_addUp none 0 0 none G') {k54 : Hp → Nat → Nat → Int32 → Int32 → Option Hp} (K54 : ∀ {G : Hp} {l0 : Nat} {l1 : Nat} {l2 : Int32} {l3 : Int32}, k54 G l0 l1 l2 l3 = some G' → gV E X 0 0 G 54 [some (.ref (E.2.1 + l0)), some (.ref (E.2.1 + l1)), some (.int l2), some (.int l3)] []) {l0 : Nat} {l1 : Nat} {l2 : Int32} {l3 : Int32} (hf : f_De_addUp_b54_k k54 G l0 l1 l2 l3 = some G') : gV E X 0 0 G 54 [some (.ref (E.2.1 + l0)), some (.ref (E.2.1 + l1)), some (.int l2), some (.int l3)] [] := by
  unfold f_De_addUp_b54_k at hf
  refine g_iload_n C dX1_addUp_54 rfl ?_
  refine g_aload_n C dX1_addUp_55 rfl ?_
  obtain ⟨x1, hg, hf⟩ := gR_ok hf
  refine g_getR C fl_De_47 dX1_addUp_56 hg ?_
  obtain ⟨x2, hx2, hg, hf⟩ := gI_ok hf
  refine e_getI C fl_De_32 dX1_addUp_59 hx2 hg ?_
  refine g_icmp_ge (tgt := 102) C dX1_addUp_62 (by decide) (fun hc => ?_) (fun hc => ?_)
  · have hf := iteT hf hc
    obtain rfl := rP_ok hf
    exact g_vret HR dX1_addUp_102
  · have hf := iteF hf hc
    refine g_aload_n C dX1_addUp_65 rfl ?_
    obtain ⟨x3, hg, hf⟩ := gR_ok hf
    refine g_getR C fl_De_14 dX1_addUp_66 hg ?_
    refine g_aload_n C dX1_addUp_69 rfl ?_
    obtain ⟨x4, hg, hf⟩ := gR_ok hf
    refine g_getR C fl_De_47 dX1_addUp_70 hg ?_
    refine g_iload_n C dX1_addUp_73 rfl ?_
    refine g_iconst (v := (1 : Int32)) C dX1_addUp_74 (by decide) ?_
    obtain ⟨x5, hg, h1, hf⟩ := vP_ok hf
    refine g_invV (As := [.int l3, .int (1 : Int32)]) (st := [.ref (E.2.1 + x3)]) C (c_Ta_at E h1) (rfl : vwCl[7]? = some (y_Ta_at.cls, TX7, 3)) (by decide) hg ml_De_50 cm_Ta_at.1 cm_Ta_at.2.1 cm_Ta_at.2.2.1 cm_Ta_at.2.2.2.1 cm_Ta_at.2.2.2.2 rfl ⟨by omega, by omega, by omega, by omega⟩ (by exact Nat.le_of_ble_eq_true rfl) rfl dX1_addUp_75 ?_
    refine g_aload_n C dX1_addUp_78 rfl ?_
    obtain ⟨x6, hg, hf⟩ := gR_ok hf
    refine g_getR C fl_De_47 dX1_addUp_79 hg ?_
    refine g_iload_n C dX1_addUp_82 rfl ?_
    refine g_iconst (v := (2 : Int32)) C dX1_addUp_83 (by decide) ?_
    obtain ⟨x7, hg, h1, hf⟩ := vP_ok hf
    refine g_invV (As := [.int l3, .int (2 : Int32)]) (st := [.int x5, .ref (E.2.1 + x3)]) C (c_Ta_at E h1) (rfl : vwCl[7]? = some (y_Ta_at.cls, TX7, 3)) (by decide) hg ml_De_50 cm_Ta_at.1 cm_Ta_at.2.1 cm_Ta_at.2.2.1 cm_Ta_at.2.2.2.1 cm_Ta_at.2.2.2.2 rfl ⟨by omega, by omega, by omega, by omega⟩ (by exact Nat.le_of_ble_eq_true rfl) rfl dX1_addUp_84 ?_
    refine g_aload_n C dX1_addUp_87 rfl ?_
    refine g_iload_n C dX1_addUp_88 rfl ?_
    refine g_iload_n C dX1_addUp_89 rfl ?_
    obtain ⟨x8, hg, h1, hf⟩ := vP_ok hf
    refine g_invV (As := [.int l3, .int l2]) (st := [.int x7, .int x5, .ref (E.2.1 + x3)]) C (c_St_valueOn E h1) (rfl : vwCl[6]? = some (y_St_valueOn.cls, TX6, 6)) (by decide) hg ml_De_53 cm_St_valueOn.1 cm_St_valueOn.2.1 cm_St_valueOn.2.2.1 cm_St_valueOn.2.2.2.1 cm_St_valueOn.2.2.2.2 rfl ⟨by omega, by omega, by omega, by omega⟩ (by exact Nat.le_of_ble_eq_true rfl) rfl dX1_addUp_90 ?_
    obtain ⟨G9, hg, h1, hf⟩ := vP_ok hf
    refine g_invV (As := [.int x5, .int x7, .int x8]) (st := []) C (c_Ta_more E h1) (rfl : vwCl[7]? = some (y_Ta_more.cls, TX7, 3)) (by decide) hg ml_De_56 cm_Ta_more.1 cm_Ta_more.2.1 cm_Ta_more.2.2.1 cm_Ta_more.2.2.2.1 cm_Ta_more.2.2.2.2 rfl ⟨by omega, by omega, by omega, by omega⟩ (by exact Nat.le_of_ble_eq_true rfl) rfl dX1_addUp_93 ?_
    refine g_iinc (v := (l3 + 1)) (lv' := [some (.ref (E.2.1 + l0)), some (.ref (E.2.1 + l1)), some (.int l2), some (.int (l3 + 1))]) C dX1_addUp_96 (by decide) rfl rfl rfl ?_
    refine g_goto (tgt := 54) C dX1_addUp_99 (by decide) ?_
    refine g_sub (lv' := [some (.ref (E.2.1 + l0)), some (.ref (E.2.1 + l1)), some (.int l2), some (.int (l3 + 1))]) ⟨rfl, ⟨rfl, ⟨rfl, ⟨rfl, trivial⟩⟩⟩⟩ ?_
    exact K54 hf
theorem l_De_addUp_b54 {E : EE} {X : CT} (C : gCx E X cX1_addUp "FavoursGoOff$Debts" none 3 72 0 0 false 4) {G' : Hp} (HR : gRet E X cX1_addUp none 0 0 none G') : ∀ (nn : Nat) {G : Hp} {l0 : Nat} {l1 : Nat} {l2 : Int32} {l3 : Int32}, f_De_addUp_b54 nn G l0 l1 l2 l3 = some G' → gV E X 0 0 G 54 [some (.ref (E.2.1 + l0)), some (.ref (E.2.1 + l1)), some (.int l2), some (.int l3)] []
  | 0, _, _, _, _, _, hf => by have h0 : (none : Option Hp) = some G' := hf; cases h0
  | nn + 1, _, _, _, _, _, hf => l_De_addUp_b54k C HR (fun h => l_De_addUp_b54 C HR nn h) hf
set_option maxRecDepth 20000 in
theorem l_De_addUp_b29k {E : EE} {X : CT} {G : Hp} (C : gCx E X cX1_addUp "FavoursGoOff$Debts" none 3 72 0 0 false 4) {G' : Hp} (HR : gRet E X cX1_addUp none 0 0 none G') {k29 : Hp → Nat → Nat → Int32 → Int32 → Option Hp} (K29 : ∀ {G : Hp} {l0 : Nat} {l1 : Nat} {l2 : Int32} {l3 : Int32}, k29 G l0 l1 l2 l3 = some G' → gV E X 0 0 G 29 [some (.ref (E.2.1 + l0)), some (.ref (E.2.1 + l1)), some (.int l2), some (.int l3)] []) {l0 : Nat} {l1 : Nat} {l2 : Int32} {l3 : Int32} (hf : f_De_addUp_b29_k k29 G l0 l1 l2 l3 = some G') : gV E X 0 0 G 29 [some (.ref (E.2.1 + l0)), some (.ref (E.2.1 + l1)), some (.int l2), some (.int l3)] [] := by
  unfold f_De_addUp_b29_k at hf
  refine g_iload_n C dX1_addUp_29 rfl ?_
  refine g_aload_n C dX1_addUp_30 rfl ?_
  obtain ⟨x1, hx1, hg, hf⟩ := gI_ok hf
  refine e_getI C fl_De_42 dX1_addUp_31 hx1 hg ?_
  refine g_icmp_ge (tgt := 52) C dX1_addUp_34 (by decide) (fun hc => ?_) (fun hc => ?_)
  · have hf := iteT hf hc
    refine g_iconst (v := (0 : Int32)) C dX1_addUp_52 (by decide) ?_
    refine g_istore_n (lv' := [some (.ref (E.2.1 + l0)), some (.ref (E.2.1 + l1)), some (.int l2), some (.int (0 : Int32))]) C dX1_addUp_53 (by decide) rfl ?_
    refine g_sub (lv' := [some (.ref (E.2.1 + l0)), some (.ref (E.2.1 + l1)), some (.int l2), some (.int (0 : Int32))]) ⟨rfl, ⟨rfl, ⟨rfl, ⟨rfl, trivial⟩⟩⟩⟩ ?_
    exact l_De_addUp_b54 C HR  FU hf
  · have hf := iteF hf hc
    refine g_aload_n C dX1_addUp_37 rfl ?_
    obtain ⟨x2, hg, hf⟩ := gR_ok hf
    refine g_getR C fl_De_14 dX1_addUp_38 hg ?_
    refine g_iload_n C dX1_addUp_41 rfl ?_
    refine g_iconst (v := (0 : Int32)) C dX1_addUp_42 (by decide) ?_
    obtain ⟨G3, hg, h1, hf⟩ := vP_ok hf
    refine g_invV (As := [.int l3, .int (0 : Int32)]) (st := []) C (c_Ta_fillRow E h1) (rfl : vwCl[7]? = some (y_Ta_fillRow.cls, TX7, 3)) (by decide) hg ml_De_44 cm_Ta_fillRow.1 cm_Ta_fillRow.2.1 cm_Ta_fillRow.2.2.1 cm_Ta_fillRow.2.2.2.1 cm_Ta_fillRow.2.2.2.2 rfl ⟨by omega, by omega, by omega, by omega⟩ (by exact Nat.le_of_ble_eq_true rfl) rfl dX1_addUp_43 ?_
    refine g_iinc (v := (l3 + 1)) (lv' := [some (.ref (E.2.1 + l0)), some (.ref (E.2.1 + l1)), some (.int l2), some (.int (l3 + 1))]) C dX1_addUp_46 (by decide) rfl rfl rfl ?_
    refine g_goto (tgt := 29) C dX1_addUp_49 (by decide) ?_
    refine g_sub (lv' := [some (.ref (E.2.1 + l0)), some (.ref (E.2.1 + l1)), some (.int l2), some (.int (l3 + 1))]) ⟨rfl, ⟨rfl, ⟨rfl, ⟨rfl, trivial⟩⟩⟩⟩ ?_
    exact K29 hf
theorem l_De_addUp_b29 {E : EE} {X : CT} (C : gCx E X cX1_addUp "FavoursGoOff$Debts" none 3 72 0 0 false 4) {G' : Hp} (HR : gRet E X cX1_addUp none 0 0 none G') : ∀ (nn : Nat) {G : Hp} {l0 : Nat} {l1 : Nat} {l2 : Int32} {l3 : Int32}, f_De_addUp_b29 nn G l0 l1 l2 l3 = some G' → gV E X 0 0 G 29 [some (.ref (E.2.1 + l0)), some (.ref (E.2.1 + l1)), some (.int l2), some (.int l3)] []
  | 0, _, _, _, _, _, hf => by have h0 : (none : Option Hp) = some G' := hf; cases h0
  | nn + 1, _, _, _, _, _, hf => l_De_addUp_b29k C HR (fun h => l_De_addUp_b29 C HR nn h) hf
set_option maxRecDepth 20000 in
theorem l_De_addUp {E : EE} {X : CT} {G : Hp} (C : gCx E X cX1_addUp "FavoursGoOff$Debts" none 3 72 0 0 false 4) {G' : Hp} (HR : gRet E X cX1_addUp none 0 0 none G') {l0 : Nat} {l1 : Nat} {l2 : Int32} (hf : f_De_addUp G l0 l1 l2 = some G') : gV E X 0 0 G 0 [some (.ref (E.2.1 + l0)), some (.ref (E.2.1 + l1)), some (.int l2), none] [] := by
  unfold f_De_addUp at hf
  refine g_aload_n C dX1_addUp_0 rfl ?_
  refine g_bipush (v := (6 : Int32)) C dX1_addUp_1 (by decide) ?_
  refine g_aload_n C dX1_addUp_3 rfl ?_
  obtain ⟨x1, hg, hf⟩ := gR_ok hf
  refine g_getR C fl_De_27 dX1_addUp_4 hg ?_
  obtain ⟨x2, hx2, hg, hf⟩ := gI_ok hf
  refine e_getI C fl_De_32 dX1_addUp_7 hx2 hg ?_
  refine e_min C ml_De_36 cm_min (by omega) (Nat.le_trans (m := 30) (by exact Nat.le_of_ble_eq_true rfl) (by omega)) ⟨by omega, by omega⟩ dX1_addUp_10 ?_
  obtain ⟨G3, hG3, hg, hf⟩ := pI_ok hf
  refine e_putI C fl_De_42 dX1_addUp_13 hG3 hg (Or.inl rfl) rfl rfl ?_
  refine g_aload_n C dX1_addUp_16 rfl ?_
  obtain ⟨x4, hg, hf⟩ := gR_ok hf
  refine g_getR C fl_De_14 dX1_addUp_17 hg ?_
  refine g_aload_n C dX1_addUp_20 rfl ?_
  obtain ⟨x5, hx5, hg, hf⟩ := gI_ok hf
  refine e_getI C fl_De_42 dX1_addUp_21 hx5 hg ?_
  obtain ⟨G6, hG6, hg, hf⟩ := pI_ok hf
  refine e_putI C fl_De_32 dX1_addUp_24 hG6 hg (Or.inl rfl) rfl rfl ?_
  refine g_iconst (v := (0 : Int32)) C dX1_addUp_27 (by decide) ?_
  refine g_istore_n (lv' := [some (.ref (E.2.1 + l0)), some (.ref (E.2.1 + l1)), some (.int l2), some (.int (0 : Int32))]) C dX1_addUp_28 (by decide) rfl ?_
  refine g_sub (lv' := [some (.ref (E.2.1 + l0)), some (.ref (E.2.1 + l1)), some (.int l2), some (.int (0 : Int32))]) ⟨rfl, ⟨rfl, ⟨rfl, ⟨rfl, trivial⟩⟩⟩⟩ ?_
  exact l_De_addUp_b29 C HR  FU hf
theorem c_De_addUp (E : EE) {G : Hp} {l0 : Nat} {l1 : Nat} {l2 : Int32} {G' : Hp} (h : f_De_addUp G l0 l1 l2 = some G') : gCt E y_De_addUp cX1_addUp 4 none 3 72 0 0 [.ref (E.2.1 + l0), .ref (E.2.1 + l1), .int l2] G none G' := gCt_of (own := "FavoursGoOff$Debts") (ini := false) [some (.ref (E.2.1 + l0)), some (.ref (E.2.1 + l1)), some (.int l2), none] (by decide +kernel) rfl (fun h => by cases h) (Nat.le_of_ble_eq_true rfl) ⟨rfl, ⟨rfl, ⟨rfl, trivial⟩⟩⟩ (fun X C HR => l_De_addUp C HR h)
set_option maxRecDepth 20000 in
theorem l_De_doneFor_b33 {E : EE} {X : CT} {G : Hp} (C : gCx E X cX1_doneFor "FavoursGoOff$Debts" (some .int) 3 68 0 0 false 5) {r : Int32} (HR : gRet E X cX1_doneFor (some .int) 0 0 (some (.int r)) G) {k5 : Nat → Int32 → Int32 → Int32 → Int32 → Option Int32} (K5 : ∀ {l0 : Nat} {l1 : Int32} {l2 : Int32} {l3 : Int32} {l4 : Int32}, k5 l0 l1 l2 l3 l4 = some r → gV E X 0 0 G 5 [some (.ref (E.2.1 + l0)), some (.int l1), some (.int l2), some (.int l3), some (.int l4)] []) {l0 : Nat} {l1 : Int32} {l2 : Int32} {l3 : Int32} {l4 : Int32} (hf : f_De_doneFor_b33 G k5 l0 l1 l2 l3 l4 = some r) : gV E X 0 0 G 33 [some (.ref (E.2.1 + l0)), some (.int l1), some (.int l2), some (.int l3), some (.int l4)] [] := by
  unfold f_De_doneFor_b33 at hf
  refine g_iinc (v := (l4 + 1)) (lv' := [some (.ref (E.2.1 + l0)), some (.int l1), some (.int l2), some (.int l3), some (.int (l4 + 1))]) C dX1_doneFor_33 (by decide) rfl rfl rfl ?_
  refine g_goto (tgt := 5) C dX1_doneFor_36 (by decide) ?_
  refine g_sub (lv' := [some (.ref (E.2.1 + l0)), some (.int l1), some (.int l2), some (.int l3), some (.int (l4 + 1))]) ⟨rfl, ⟨rfl, ⟨rfl, ⟨rfl, ⟨rfl, trivial⟩⟩⟩⟩⟩ ?_
  exact K5 hf
set_option maxRecDepth 20000 in
theorem l_De_doneFor_b5k {E : EE} {X : CT} {G : Hp} (C : gCx E X cX1_doneFor "FavoursGoOff$Debts" (some .int) 3 68 0 0 false 5) {r : Int32} (HR : gRet E X cX1_doneFor (some .int) 0 0 (some (.int r)) G) {k5 : Nat → Int32 → Int32 → Int32 → Int32 → Option Int32} (K5 : ∀ {l0 : Nat} {l1 : Int32} {l2 : Int32} {l3 : Int32} {l4 : Int32}, k5 l0 l1 l2 l3 l4 = some r → gV E X 0 0 G 5 [some (.ref (E.2.1 + l0)), some (.int l1), some (.int l2), some (.int l3), some (.int l4)] []) {l0 : Nat} {l1 : Int32} {l2 : Int32} {l3 : Int32} {l4 : Int32} (hf : f_De_doneFor_b5_k G k5 l0 l1 l2 l3 l4 = some r) : gV E X 0 0 G 5 [some (.ref (E.2.1 + l0)), some (.int l1), some (.int l2), some (.int l3), some (.int l4)] [] := by
  unfold f_De_doneFor_b5_k at hf
  refine g_iload C dX1_doneFor_5 rfl ?_
  refine g_aload_n C dX1_doneFor_7 rfl ?_
  obtain ⟨x1, hx1, hg, hf⟩ := gI_ok hf
  refine e_getI C fl_De_42 dX1_doneFor_8 hx1 hg ?_
  refine g_icmp_ge (tgt := 39) C dX1_doneFor_11 (by decide) (fun hc => ?_) (fun hc => ?_)
  · have hf := iteT hf hc
    refine g_iload_n C dX1_doneFor_39 rfl ?_
    obtain rfl := rP_ok hf
    exact g_iret HR dX1_doneFor_40
  · have hf := iteF hf hc
    refine g_iload_n C dX1_doneFor_14 rfl ?_
    refine g_iconst (v := (1 : Int32)) C dX1_doneFor_15 (by decide) ?_
    refine g_iload C dX1_doneFor_16 rfl ?_
    refine g_ishl C dX1_doneFor_18 ?_
    refine g_iand C dX1_doneFor_19 ?_
    refine g_if_ne (tgt := 33) C dX1_doneFor_20 (by decide) (fun hc => ?_) (fun hc => ?_)
    · have hf := iteF hf hc
      refine g_sub (lv' := [some (.ref (E.2.1 + l0)), some (.int l1), some (.int l2), some (.int l3), some (.int l4)]) ⟨rfl, ⟨rfl, ⟨rfl, ⟨rfl, ⟨rfl, trivial⟩⟩⟩⟩⟩ ?_
      exact l_De_doneFor_b33 C HR K5 hf
    · have hf := iteT hf hc
      refine g_iload_n C dX1_doneFor_23 rfl ?_
      refine g_aload_n C dX1_doneFor_24 rfl ?_
      refine g_iload C dX1_doneFor_25 rfl ?_
      refine g_iload_n C dX1_doneFor_27 rfl ?_
      obtain ⟨x2, hg, h1, hf⟩ := vP_ok hf
      refine g_invV (As := [.int l4, .int l1]) (st := [.int l3]) C (c_De_between E h1) (rfl : vwCl[1]? = some (y_De_between.cls, TX1, 6)) (by decide) hg ml_De_82 cm_De_between.1 cm_De_between.2.1 cm_De_between.2.2.1 cm_De_between.2.2.2.1 cm_De_between.2.2.2.2 rfl ⟨by omega, by omega, by omega, by omega⟩ (by exact Nat.le_of_ble_eq_true rfl) rfl dX1_doneFor_28 ?_
      refine g_iadd C dX1_doneFor_31 ?_
      obtain ⟨x3, hx3, hf⟩ := lt_ok hf
      refine e_top hx3 ?_
      refine g_istore_n (lv' := [some (.ref (E.2.1 + l0)), some (.int l1), some (.int l2), some (.int x3), some (.int l4)]) C dX1_doneFor_32 (by decide) rfl ?_
      refine g_sub (lv' := [some (.ref (E.2.1 + l0)), some (.int l1), some (.int l2), some (.int x3), some (.int l4)]) ⟨rfl, ⟨rfl, ⟨rfl, ⟨rfl, ⟨rfl, trivial⟩⟩⟩⟩⟩ ?_
      exact l_De_doneFor_b33 C HR K5 hf
theorem l_De_doneFor_b5 {E : EE} {X : CT} {G : Hp} (C : gCx E X cX1_doneFor "FavoursGoOff$Debts" (some .int) 3 68 0 0 false 5) {r : Int32} (HR : gRet E X cX1_doneFor (some .int) 0 0 (some (.int r)) G) : ∀ (nn : Nat) {l0 : Nat} {l1 : Int32} {l2 : Int32} {l3 : Int32} {l4 : Int32}, f_De_doneFor_b5 G nn l0 l1 l2 l3 l4 = some r → gV E X 0 0 G 5 [some (.ref (E.2.1 + l0)), some (.int l1), some (.int l2), some (.int l3), some (.int l4)] []
  | 0, _, _, _, _, _, hf => by have h0 : (none : Option Int32) = some r := hf; cases h0
  | nn + 1, _, _, _, _, _, hf => l_De_doneFor_b5k C HR (fun h => l_De_doneFor_b5 C HR nn h) hf
set_option maxRecDepth 20000 in
theorem l_De_doneFor {E : EE} {X : CT} {G : Hp} (C : gCx E X cX1_doneFor "FavoursGoOff$Debts" (some .int) 3 68 0 0 false 5) {r : Int32} (HR : gRet E X cX1_doneFor (some .int) 0 0 (some (.int r)) G) {l0 : Nat} {l1 : Int32} {l2 : Int32} (hf : f_De_doneFor G l0 l1 l2 = some r) : gV E X 0 0 G 0 [some (.ref (E.2.1 + l0)), some (.int l1), some (.int l2), none, none] [] := by
  unfold f_De_doneFor at hf
  refine g_iconst (v := (0 : Int32)) C dX1_doneFor_0 (by decide) ?_
  refine g_istore_n (lv' := [some (.ref (E.2.1 + l0)), some (.int l1), some (.int l2), some (.int (0 : Int32)), none]) C dX1_doneFor_1 (by decide) rfl ?_
  refine g_iconst (v := (0 : Int32)) C dX1_doneFor_2 (by decide) ?_
  refine g_istore (lv' := [some (.ref (E.2.1 + l0)), some (.int l1), some (.int l2), some (.int (0 : Int32)), some (.int (0 : Int32))]) C dX1_doneFor_3 (by decide) rfl ?_
  refine g_sub (lv' := [some (.ref (E.2.1 + l0)), some (.int l1), some (.int l2), some (.int (0 : Int32)), some (.int (0 : Int32))]) ⟨rfl, ⟨rfl, ⟨rfl, ⟨rfl, ⟨rfl, trivial⟩⟩⟩⟩⟩ ?_
  exact l_De_doneFor_b5 C HR  FU hf
theorem c_De_doneFor (E : EE) {G : Hp} {l0 : Nat} {l1 : Int32} {l2 : Int32} {r : Int32} (h : f_De_doneFor G l0 l1 l2 = some r) : gCt E y_De_doneFor cX1_doneFor 5 (some .int) 3 68 0 0 [.ref (E.2.1 + l0), .int l1, .int l2] G (some (.int r)) G := gCt_of (own := "FavoursGoOff$Debts") (ini := false) [some (.ref (E.2.1 + l0)), some (.int l1), some (.int l2), none, none] (by decide +kernel) rfl (fun h => by cases h) (Nat.le_of_ble_eq_true rfl) ⟨rfl, ⟨rfl, ⟨rfl, trivial⟩⟩⟩ (fun X C HR => l_De_doneFor C HR h)
set_option maxRecDepth 20000 in
theorem l_De_dueFrom_b4k {E : EE} {X : CT} {G : Hp} (C : gCx E X cX1_dueFrom "FavoursGoOff$Debts" (some .int) 3 68 0 0 false 4) {r : Int32} (HR : gRet E X cX1_dueFrom (some .int) 0 0 (some (.int r)) G) {k4 : Nat → Int32 → Int32 → Int32 → Option Int32} (K4 : ∀ {l0 : Nat} {l1 : Int32} {l2 : Int32} {l3 : Int32}, k4 l0 l1 l2 l3 = some r → gV E X 0 0 G 4 [some (.ref (E.2.1 + l0)), some (.int l1), some (.int l2), some (.int l3)] []) {l0 : Nat} {l1 : Int32} {l2 : Int32} {l3 : Int32} (hf : f_De_dueFrom_b4_k G k4 l0 l1 l2 l3 = some r) : gV E X 0 0 G 4 [some (.ref (E.2.1 + l0)), some (.int l1), some (.int l2), some (.int l3)] [] := by
  unfold f_De_dueFrom_b4_k at hf
  refine g_iload_n C dX1_dueFrom_4 rfl ?_
  refine g_aload_n C dX1_dueFrom_5 rfl ?_
  obtain ⟨x1, hx1, hg, hf⟩ := gI_ok hf
  refine e_getI C fl_De_42 dX1_dueFrom_6 hx1 hg ?_
  refine g_icmp_ge (tgt := 27) C dX1_dueFrom_9 (by decide) (fun hc => ?_) (fun hc => ?_)
  · have hf := iteT hf hc
    refine g_iload_n C dX1_dueFrom_27 rfl ?_
    obtain rfl := rP_ok hf
    exact g_iret HR dX1_dueFrom_28
  · have hf := iteF hf hc
    refine g_iload_n C dX1_dueFrom_12 rfl ?_
    refine g_aload_n C dX1_dueFrom_13 rfl ?_
    refine g_iload_n C dX1_dueFrom_14 rfl ?_
    refine g_iload_n C dX1_dueFrom_15 rfl ?_
    obtain ⟨x2, hg, h1, hf⟩ := vP_ok hf
    refine g_invV (As := [.int l1, .int l3]) (st := [.int l2]) C (c_De_between E h1) (rfl : vwCl[1]? = some (y_De_between.cls, TX1, 6)) (by decide) hg ml_De_82 cm_De_between.1 cm_De_between.2.1 cm_De_between.2.2.1 cm_De_between.2.2.2.1 cm_De_between.2.2.2.2 rfl ⟨by omega, by omega, by omega, by omega⟩ (by exact Nat.le_of_ble_eq_true rfl) rfl dX1_dueFrom_16 ?_
    refine g_iadd C dX1_dueFrom_19 ?_
    obtain ⟨x3, hx3, hf⟩ := lt_ok hf
    refine e_top hx3 ?_
    refine g_istore_n (lv' := [some (.ref (E.2.1 + l0)), some (.int l1), some (.int x3), some (.int l3)]) C dX1_dueFrom_20 (by decide) rfl ?_
    refine g_iinc (v := (l3 + 1)) (lv' := [some (.ref (E.2.1 + l0)), some (.int l1), some (.int x3), some (.int (l3 + 1))]) C dX1_dueFrom_21 (by decide) rfl rfl rfl ?_
    refine g_goto (tgt := 4) C dX1_dueFrom_24 (by decide) ?_
    refine g_sub (lv' := [some (.ref (E.2.1 + l0)), some (.int l1), some (.int x3), some (.int (l3 + 1))]) ⟨rfl, ⟨rfl, ⟨rfl, ⟨rfl, trivial⟩⟩⟩⟩ ?_
    exact K4 hf
theorem l_De_dueFrom_b4 {E : EE} {X : CT} {G : Hp} (C : gCx E X cX1_dueFrom "FavoursGoOff$Debts" (some .int) 3 68 0 0 false 4) {r : Int32} (HR : gRet E X cX1_dueFrom (some .int) 0 0 (some (.int r)) G) : ∀ (nn : Nat) {l0 : Nat} {l1 : Int32} {l2 : Int32} {l3 : Int32}, f_De_dueFrom_b4 G nn l0 l1 l2 l3 = some r → gV E X 0 0 G 4 [some (.ref (E.2.1 + l0)), some (.int l1), some (.int l2), some (.int l3)] []
  | 0, _, _, _, _, hf => by have h0 : (none : Option Int32) = some r := hf; cases h0
  | nn + 1, _, _, _, _, hf => l_De_dueFrom_b4k C HR (fun h => l_De_dueFrom_b4 C HR nn h) hf
set_option maxRecDepth 20000 in
theorem l_De_dueFrom {E : EE} {X : CT} {G : Hp} (C : gCx E X cX1_dueFrom "FavoursGoOff$Debts" (some .int) 3 68 0 0 false 4) {r : Int32} (HR : gRet E X cX1_dueFrom (some .int) 0 0 (some (.int r)) G) {l0 : Nat} {l1 : Int32} (hf : f_De_dueFrom G l0 l1 = some r) : gV E X 0 0 G 0 [some (.ref (E.2.1 + l0)), some (.int l1), none, none] [] := by
  unfold f_De_dueFrom at hf
  refine g_iconst (v := (0 : Int32)) C dX1_dueFrom_0 (by decide) ?_
  refine g_istore_n (lv' := [some (.ref (E.2.1 + l0)), some (.int l1), some (.int (0 : Int32)), none]) C dX1_dueFrom_1 (by decide) rfl ?_
  refine g_iconst (v := (0 : Int32)) C dX1_dueFrom_2 (by decide) ?_
  refine g_istore_n (lv' := [some (.ref (E.2.1 + l0)), some (.int l1), some (.int (0 : Int32)), some (.int (0 : Int32))]) C dX1_dueFrom_3 (by decide) rfl ?_
  refine g_sub (lv' := [some (.ref (E.2.1 + l0)), some (.int l1), some (.int (0 : Int32)), some (.int (0 : Int32))]) ⟨rfl, ⟨rfl, ⟨rfl, ⟨rfl, trivial⟩⟩⟩⟩ ?_
  exact l_De_dueFrom_b4 C HR  FU hf
theorem c_De_dueFrom (E : EE) {G : Hp} {l0 : Nat} {l1 : Int32} {r : Int32} (h : f_De_dueFrom G l0 l1 = some r) : gCt E y_De_dueFrom cX1_dueFrom 4 (some .int) 3 68 0 0 [.ref (E.2.1 + l0), .int l1] G (some (.int r)) G := gCt_of (own := "FavoursGoOff$Debts") (ini := false) [some (.ref (E.2.1 + l0)), some (.int l1), none, none] (by decide +kernel) rfl (fun h => by cases h) (Nat.le_of_ble_eq_true rfl) ⟨rfl, ⟨rfl, trivial⟩⟩ (fun X C HR => l_De_dueFrom C HR h)
set_option maxRecDepth 20000 in
theorem l_De_balance {E : EE} {X : CT} {G : Hp} (C : gCx E X cX1_balance "FavoursGoOff$Debts" (some .int) 4 92 0 0 false 2) {r : Int32} (HR : gRet E X cX1_balance (some .int) 0 0 (some (.int r)) G) {l0 : Nat} {l1 : Int32} (hf : f_De_balance G l0 l1 = some r) : gV E X 0 0 G 0 [some (.ref (E.2.1 + l0)), some (.int l1)] [] := by
  unfold f_De_balance at hf
  refine g_aload_n C dX1_balance_0 rfl ?_
  refine g_iload_n C dX1_balance_1 rfl ?_
  refine g_iconst (v := (0 : Int32)) C dX1_balance_2 (by decide) ?_
  obtain ⟨x1, hg, h1, hf⟩ := vP_ok hf
  refine g_invV (As := [.int l1, .int (0 : Int32)]) (st := []) C (c_De_doneFor E h1) (rfl : vwCl[1]? = some (y_De_doneFor.cls, TX1, 6)) (by decide) hg ml_De_60 cm_De_doneFor.1 cm_De_doneFor.2.1 cm_De_doneFor.2.2.1 cm_De_doneFor.2.2.2.1 cm_De_doneFor.2.2.2.2 rfl ⟨by omega, by omega, by omega, by omega⟩ (by exact Nat.le_of_ble_eq_true rfl) rfl dX1_balance_3 ?_
  refine g_aload_n C dX1_balance_6 rfl ?_
  refine g_iload_n C dX1_balance_7 rfl ?_
  obtain ⟨x2, hg, h1, hf⟩ := vP_ok hf
  refine g_invV (As := [.int l1]) (st := [.int x1]) C (c_De_dueFrom E h1) (rfl : vwCl[1]? = some (y_De_dueFrom.cls, TX1, 6)) (by decide) hg ml_De_63 cm_De_dueFrom.1 cm_De_dueFrom.2.1 cm_De_dueFrom.2.2.1 cm_De_dueFrom.2.2.2.1 cm_De_dueFrom.2.2.2.2 rfl ⟨by omega, by omega, by omega, by omega⟩ (by exact Nat.le_of_ble_eq_true rfl) rfl dX1_balance_8 ?_
  refine g_isub C dX1_balance_11 ?_
  obtain rfl := rP_ok hf
  exact g_iret HR dX1_balance_12
theorem c_De_balance (E : EE) {G : Hp} {l0 : Nat} {l1 : Int32} {r : Int32} (h : f_De_balance G l0 l1 = some r) : gCt E y_De_balance cX1_balance 2 (some .int) 4 92 0 0 [.ref (E.2.1 + l0), .int l1] G (some (.int r)) G := gCt_of (own := "FavoursGoOff$Debts") (ini := false) [some (.ref (E.2.1 + l0)), some (.int l1)] (by decide +kernel) rfl (fun h => by cases h) (Nat.le_of_ble_eq_true rfl) ⟨rfl, ⟨rfl, trivial⟩⟩ (fun X C HR => l_De_balance C HR h)
set_option maxRecDepth 20000 in
theorem l_De_mostGroups_b54 {E : EE} {X : CT} {G : Hp} (C : gCx E X cX1_mostGroups "FavoursGoOff$Debts" (some .int) 1 30 0 0 false 6) {r : Int32} (HR : gRet E X cX1_mostGroups (some .int) 0 0 (some (.int r)) G) {k7 : Nat → Int32 → Int32 → Int32 → Int32 → Option Int32} (K7 : ∀ {l0 : Nat} {l1 : Int32} {l2 : Int32} {l3 : Int32} {l4 : Int32}, k7 l0 l1 l2 l3 l4 = some r → gV E X 0 0 G 7 [some (.ref (E.2.1 + l0)), some (.int l1), some (.int l2), some (.int l3), some (.int l4), none] []) {l0 : Nat} {l1 : Int32} {l2 : Int32} {l3 : Int32} {l4 : Int32} (hf : f_De_mostGroups_b54 G k7 l0 l1 l2 l3 l4 = some r) : gV E X 0 0 G 54 [some (.ref (E.2.1 + l0)), some (.int l1), some (.int l2), some (.int l3), some (.int l4), none] [] := by
  unfold f_De_mostGroups_b54 at hf
  refine g_iinc (v := (l4 + 1)) (lv' := [some (.ref (E.2.1 + l0)), some (.int l1), some (.int l2), some (.int l3), some (.int (l4 + 1)), none]) C dX1_mostGroups_54 (by decide) rfl rfl rfl ?_
  refine g_goto (tgt := 7) C dX1_mostGroups_57 (by decide) ?_
  refine g_sub (lv' := [some (.ref (E.2.1 + l0)), some (.int l1), some (.int l2), some (.int l3), some (.int (l4 + 1)), none]) ⟨rfl, ⟨rfl, ⟨rfl, ⟨rfl, ⟨rfl, trivial⟩⟩⟩⟩⟩ ?_
  exact K7 hf
set_option maxRecDepth 20000 in
theorem l_De_mostGroups_b71 {E : EE} {X : CT} {G : Hp} (C : gCx E X cX1_mostGroups "FavoursGoOff$Debts" (some .int) 1 30 0 0 false 6) {r : Int32} (HR : gRet E X cX1_mostGroups (some .int) 0 0 (some (.int r)) G) {s0 : Int32} (hf : f_De_mostGroups_b71 G s0 = some r) : gV E X 0 0 G 71 [none, none, none, none, none, none] [.int s0] := by
  unfold f_De_mostGroups_b71 at hf
  obtain rfl := rP_ok hf
  exact g_iret HR dX1_mostGroups_71
set_option maxRecDepth 20000 in
theorem l_De_mostGroups_b7k {E : EE} {X : CT} {G : Hp} (C : gCx E X cX1_mostGroups "FavoursGoOff$Debts" (some .int) 1 30 0 0 false 6) {r : Int32} (HR : gRet E X cX1_mostGroups (some .int) 0 0 (some (.int r)) G) {k7 : Nat → Int32 → Int32 → Int32 → Int32 → Option Int32} (K7 : ∀ {l0 : Nat} {l1 : Int32} {l2 : Int32} {l3 : Int32} {l4 : Int32}, k7 l0 l1 l2 l3 l4 = some r → gV E X 0 0 G 7 [some (.ref (E.2.1 + l0)), some (.int l1), some (.int l2), some (.int l3), some (.int l4), none] []) {l0 : Nat} {l1 : Int32} {l2 : Int32} {l3 : Int32} {l4 : Int32} (hf : f_De_mostGroups_b7_k G k7 l0 l1 l2 l3 l4 = some r) : gV E X 0 0 G 7 [some (.ref (E.2.1 + l0)), some (.int l1), some (.int l2), some (.int l3), some (.int l4), none] [] := by
  unfold f_De_mostGroups_b7_k at hf
  refine g_iload C dX1_mostGroups_7 rfl ?_
  refine g_aload_n C dX1_mostGroups_9 rfl ?_
  obtain ⟨x1, hx1, hg, hf⟩ := gI_ok hf
  refine e_getI C fl_De_42 dX1_mostGroups_10 hx1 hg ?_
  refine g_icmp_ge (tgt := 60) C dX1_mostGroups_13 (by decide) (fun hc => ?_) (fun hc => ?_)
  · have hf := iteT hf hc
    refine g_iload_n C dX1_mostGroups_60 rfl ?_
    refine g_if_ne (tgt := 70) C dX1_mostGroups_61 (by decide) (fun hc => ?_) (fun hc => ?_)
    · have hf := iteF hf hc
      refine g_iload_n C dX1_mostGroups_70 rfl ?_
      refine g_sub (lv' := [none, none, none, none, none, none]) trivial ?_
      exact l_De_mostGroups_b71 C HR  hf
    · have hf := iteT hf hc
      refine g_iload_n C dX1_mostGroups_64 rfl ?_
      refine g_iconst (v := (1 : Int32)) C dX1_mostGroups_65 (by decide) ?_
      refine g_iadd C dX1_mostGroups_66 ?_
      refine g_goto (tgt := 71) C dX1_mostGroups_67 (by decide) ?_
      refine g_sub (lv' := [none, none, none, none, none, none]) trivial ?_
      exact l_De_mostGroups_b71 C HR  hf
  · have hf := iteF hf hc
    refine g_iload_n C dX1_mostGroups_16 rfl ?_
    refine g_iconst (v := (1 : Int32)) C dX1_mostGroups_17 (by decide) ?_
    refine g_iload C dX1_mostGroups_18 rfl ?_
    refine g_ishl C dX1_mostGroups_20 ?_
    refine g_iconst (v := (-1 : Int32)) C dX1_mostGroups_21 (by decide) ?_
    refine g_ixor C dX1_mostGroups_22 ?_
    refine g_iand C dX1_mostGroups_23 ?_
    obtain ⟨x2, hx2, hf⟩ := lt_ok hf
    refine e_top hx2 ?_
    refine g_istore (lv' := [some (.ref (E.2.1 + l0)), some (.int l1), some (.int l2), some (.int l3), some (.int l4), some (.int x2)]) C dX1_mostGroups_24 (by decide) rfl ?_
    refine g_iload C dX1_mostGroups_26 rfl ?_
    refine g_iload_n C dX1_mostGroups_28 rfl ?_
    refine g_icmp_ge (tgt := 54) C dX1_mostGroups_29 (by decide) (fun hc => ?_) (fun hc => ?_)
    · have hf := iteT hf hc
      refine g_sub (lv' := [some (.ref (E.2.1 + l0)), some (.int l1), some (.int l2), some (.int l3), some (.int l4), none]) ⟨rfl, ⟨rfl, ⟨rfl, ⟨rfl, ⟨rfl, trivial⟩⟩⟩⟩⟩ ?_
      exact l_De_mostGroups_b54 C HR K7 hf
    · have hf := iteF hf hc
      refine g_iload_n C dX1_mostGroups_32 rfl ?_
      refine g_aload_n C dX1_mostGroups_33 rfl ?_
      obtain ⟨x3, hg, hf⟩ := gR_ok hf
      refine g_getR C fl_De_24 dX1_mostGroups_34 hg ?_
      refine g_iload C dX1_mostGroups_37 rfl ?_
      obtain ⟨x4, hx4, hg, hf⟩ := aI_ok hf
      refine e_iald C dX1_mostGroups_39 hx4 hg ?_
      refine e_max C ml_De_73 cm_max (by omega) (Nat.le_trans (m := 30) (by exact Nat.le_of_ble_eq_true rfl) (by omega)) ⟨by omega, by omega⟩ dX1_mostGroups_40 ?_
      obtain ⟨x5, hx5, hf⟩ := lt_ok hf
      refine e_top hx5 ?_
      refine g_istore_n (lv' := [some (.ref (E.2.1 + l0)), some (.int l1), some (.int x5), some (.int l3), some (.int l4), some (.int x2)]) C dX1_mostGroups_43 (by decide) rfl ?_
      refine g_iload_n C dX1_mostGroups_44 rfl ?_
      refine g_aload_n C dX1_mostGroups_45 rfl ?_
      obtain ⟨x6, hg, hf⟩ := gR_ok hf
      refine g_getR C fl_De_20 dX1_mostGroups_46 hg ?_
      refine g_iload C dX1_mostGroups_49 rfl ?_
      obtain ⟨x7, hx7, hg, hf⟩ := aI_ok hf
      refine e_iald C dX1_mostGroups_51 hx7 hg ?_
      refine g_iadd C dX1_mostGroups_52 ?_
      obtain ⟨x8, hx8, hf⟩ := lt_ok hf
      refine e_top hx8 ?_
      refine g_istore_n (lv' := [some (.ref (E.2.1 + l0)), some (.int l1), some (.int x5), some (.int x8), some (.int l4), some (.int x2)]) C dX1_mostGroups_53 (by decide) rfl ?_
      refine g_sub (lv' := [some (.ref (E.2.1 + l0)), some (.int l1), some (.int x5), some (.int x8), some (.int l4), none]) ⟨rfl, ⟨rfl, ⟨rfl, ⟨rfl, ⟨rfl, trivial⟩⟩⟩⟩⟩ ?_
      exact l_De_mostGroups_b54 C HR K7 hf
theorem l_De_mostGroups_b7 {E : EE} {X : CT} {G : Hp} (C : gCx E X cX1_mostGroups "FavoursGoOff$Debts" (some .int) 1 30 0 0 false 6) {r : Int32} (HR : gRet E X cX1_mostGroups (some .int) 0 0 (some (.int r)) G) : ∀ (nn : Nat) {l0 : Nat} {l1 : Int32} {l2 : Int32} {l3 : Int32} {l4 : Int32}, f_De_mostGroups_b7 G nn l0 l1 l2 l3 l4 = some r → gV E X 0 0 G 7 [some (.ref (E.2.1 + l0)), some (.int l1), some (.int l2), some (.int l3), some (.int l4), none] []
  | 0, _, _, _, _, _, hf => by have h0 : (none : Option Int32) = some r := hf; cases h0
  | nn + 1, _, _, _, _, _, hf => l_De_mostGroups_b7k C HR (fun h => l_De_mostGroups_b7 C HR nn h) hf
set_option maxRecDepth 20000 in
theorem l_De_mostGroups {E : EE} {X : CT} {G : Hp} (C : gCx E X cX1_mostGroups "FavoursGoOff$Debts" (some .int) 1 30 0 0 false 6) {r : Int32} (HR : gRet E X cX1_mostGroups (some .int) 0 0 (some (.int r)) G) {l0 : Nat} {l1 : Int32} (hf : f_De_mostGroups G l0 l1 = some r) : gV E X 0 0 G 0 [some (.ref (E.2.1 + l0)), some (.int l1), none, none, none, none] [] := by
  unfold f_De_mostGroups at hf
  refine g_iconst (v := (0 : Int32)) C dX1_mostGroups_0 (by decide) ?_
  refine g_istore_n (lv' := [some (.ref (E.2.1 + l0)), some (.int l1), some (.int (0 : Int32)), none, none, none]) C dX1_mostGroups_1 (by decide) rfl ?_
  refine g_iconst (v := (0 : Int32)) C dX1_mostGroups_2 (by decide) ?_
  refine g_istore_n (lv' := [some (.ref (E.2.1 + l0)), some (.int l1), some (.int (0 : Int32)), some (.int (0 : Int32)), none, none]) C dX1_mostGroups_3 (by decide) rfl ?_
  refine g_iconst (v := (0 : Int32)) C dX1_mostGroups_4 (by decide) ?_
  refine g_istore (lv' := [some (.ref (E.2.1 + l0)), some (.int l1), some (.int (0 : Int32)), some (.int (0 : Int32)), some (.int (0 : Int32)), none]) C dX1_mostGroups_5 (by decide) rfl ?_
  refine g_sub (lv' := [some (.ref (E.2.1 + l0)), some (.int l1), some (.int (0 : Int32)), some (.int (0 : Int32)), some (.int (0 : Int32)), none]) ⟨rfl, ⟨rfl, ⟨rfl, ⟨rfl, ⟨rfl, trivial⟩⟩⟩⟩⟩ ?_
  exact l_De_mostGroups_b7 C HR  FU hf
theorem c_De_mostGroups (E : EE) {G : Hp} {l0 : Nat} {l1 : Int32} {r : Int32} (h : f_De_mostGroups G l0 l1 = some r) : gCt E y_De_mostGroups cX1_mostGroups 6 (some .int) 1 30 0 0 [.ref (E.2.1 + l0), .int l1] G (some (.int r)) G := gCt_of (own := "FavoursGoOff$Debts") (ini := false) [some (.ref (E.2.1 + l0)), some (.int l1), none, none, none, none] (by decide +kernel) rfl (fun h => by cases h) (Nat.le_of_ble_eq_true rfl) ⟨rfl, ⟨rfl, trivial⟩⟩ (fun X C HR => l_De_mostGroups C HR h)
set_option maxRecDepth 20000 in
theorem l_De_fewestPayments_b44k {E : EE} {X : CT} {G : Hp} (C : gCx E X cX1_fewestPayments "FavoursGoOff$Debts" (some .int) 5 113 0 0 false 3) {r : Int32} {G' : Hp} (HR : gRet E X cX1_fewestPayments (some .int) 0 0 (some (.int r)) G') {k44 : Hp → Nat → Int32 → Int32 → Option (Int32 × Hp)} (K44 : ∀ {G : Hp} {l0 : Nat} {l1 : Int32} {l2 : Int32}, k44 G l0 l1 l2 = some (r, G') → gV E X 0 0 G 44 [some (.ref (E.2.1 + l0)), some (.int l1), some (.int l2)] []) {l0 : Nat} {l1 : Int32} {l2 : Int32} (hf : f_De_fewestPayments_b44_k k44 G l0 l1 l2 = some (r, G')) : gV E X 0 0 G 44 [some (.ref (E.2.1 + l0)), some (.int l1), some (.int l2)] [] := by
  unfold f_De_fewestPayments_b44_k at hf
  refine g_iload_n C dX1_fewestPayments_44 rfl ?_
  refine g_iload_n C dX1_fewestPayments_45 rfl ?_
  refine g_icmp_ge (tgt := 66) C dX1_fewestPayments_46 (by decide) (fun hc => ?_) (fun hc => ?_)
  · have hf := iteT hf hc
    refine g_aload_n C dX1_fewestPayments_66 rfl ?_
    obtain ⟨x1, hx1, hg, hf⟩ := gI_ok hf
    refine e_getI C fl_De_42 dX1_fewestPayments_67 hx1 hg ?_
    refine g_aload_n C dX1_fewestPayments_70 rfl ?_
    obtain ⟨x2, hg, hf⟩ := gR_ok hf
    refine g_getR C fl_De_24 dX1_fewestPayments_71 hg ?_
    refine g_iload_n C dX1_fewestPayments_74 rfl ?_
    refine g_iconst (v := (1 : Int32)) C dX1_fewestPayments_75 (by decide) ?_
    refine g_isub C dX1_fewestPayments_76 ?_
    obtain ⟨x3, hx3, hg, hf⟩ := aI_ok hf
    refine e_iald C dX1_fewestPayments_77 hx3 hg ?_
    refine g_isub C dX1_fewestPayments_78 ?_
    obtain ⟨rfl, rfl⟩ := rH_ok hf
    exact g_iret HR dX1_fewestPayments_79
  · have hf := iteF hf hc
    refine g_aload_n C dX1_fewestPayments_49 rfl ?_
    obtain ⟨x4, hg, hf⟩ := gR_ok hf
    refine g_getR C fl_De_24 dX1_fewestPayments_50 hg ?_
    refine g_iload_n C dX1_fewestPayments_53 rfl ?_
    refine g_aload_n C dX1_fewestPayments_54 rfl ?_
    refine g_iload_n C dX1_fewestPayments_55 rfl ?_
    obtain ⟨x5, hg, h1, hf⟩ := vP_ok hf
    refine g_invV (As := [.int l2]) (st := [.int l2, .ref (E.2.1 + x4)]) C (c_De_mostGroups E h1) (rfl : vwCl[1]? = some (y_De_mostGroups.cls, TX1, 6)) (by decide) hg ml_De_70 cm_De_mostGroups.1 cm_De_mostGroups.2.1 cm_De_mostGroups.2.2.1 cm_De_mostGroups.2.2.2.1 cm_De_mostGroups.2.2.2.2 rfl ⟨by omega, by omega, by omega, by omega⟩ (by exact Nat.le_of_ble_eq_true rfl) rfl dX1_fewestPayments_56 ?_
    obtain ⟨G6, hG6, hg, hf⟩ := sI_ok hf
    refine e_iast C dX1_fewestPayments_59 hG6 hg ?_
    refine g_iinc (v := (l2 + 1)) (lv' := [some (.ref (E.2.1 + l0)), some (.int l1), some (.int (l2 + 1))]) C dX1_fewestPayments_60 (by decide) rfl rfl rfl ?_
    refine g_goto (tgt := 44) C dX1_fewestPayments_63 (by decide) ?_
    refine g_sub (lv' := [some (.ref (E.2.1 + l0)), some (.int l1), some (.int (l2 + 1))]) ⟨rfl, ⟨rfl, ⟨rfl, trivial⟩⟩⟩ ?_
    exact K44 hf
theorem l_De_fewestPayments_b44 {E : EE} {X : CT} (C : gCx E X cX1_fewestPayments "FavoursGoOff$Debts" (some .int) 5 113 0 0 false 3) {r : Int32} {G' : Hp} (HR : gRet E X cX1_fewestPayments (some .int) 0 0 (some (.int r)) G') : ∀ (nn : Nat) {G : Hp} {l0 : Nat} {l1 : Int32} {l2 : Int32}, f_De_fewestPayments_b44 nn G l0 l1 l2 = some (r, G') → gV E X 0 0 G 44 [some (.ref (E.2.1 + l0)), some (.int l1), some (.int l2)] []
  | 0, _, _, _, _, hf => by have h0 : (none : Option (Int32 × Hp)) = some (r, G') := hf; cases h0
  | nn + 1, _, _, _, _, hf => l_De_fewestPayments_b44k C HR (fun h => l_De_fewestPayments_b44 C HR nn h) hf
set_option maxRecDepth 20000 in
theorem l_De_fewestPayments_b2k {E : EE} {X : CT} {G : Hp} (C : gCx E X cX1_fewestPayments "FavoursGoOff$Debts" (some .int) 5 113 0 0 false 3) {r : Int32} {G' : Hp} (HR : gRet E X cX1_fewestPayments (some .int) 0 0 (some (.int r)) G') {k2 : Hp → Nat → Int32 → Option (Int32 × Hp)} (K2 : ∀ {G : Hp} {l0 : Nat} {l1 : Int32}, k2 G l0 l1 = some (r, G') → gV E X 0 0 G 2 [some (.ref (E.2.1 + l0)), some (.int l1), none] []) {l0 : Nat} {l1 : Int32} (hf : f_De_fewestPayments_b2_k k2 G l0 l1 = some (r, G')) : gV E X 0 0 G 2 [some (.ref (E.2.1 + l0)), some (.int l1), none] [] := by
  unfold f_De_fewestPayments_b2_k at hf
  refine g_iload_n C dX1_fewestPayments_2 rfl ?_
  refine g_aload_n C dX1_fewestPayments_3 rfl ?_
  obtain ⟨x1, hx1, hg, hf⟩ := gI_ok hf
  refine e_getI C fl_De_42 dX1_fewestPayments_4 hx1 hg ?_
  refine g_icmp_ge (tgt := 27) C dX1_fewestPayments_7 (by decide) (fun hc => ?_) (fun hc => ?_)
  · have hf := iteT hf hc
    refine g_iconst (v := (1 : Int32)) C dX1_fewestPayments_27 (by decide) ?_
    refine g_aload_n C dX1_fewestPayments_28 rfl ?_
    obtain ⟨x2, hx2, hg, hf⟩ := gI_ok hf
    refine e_getI C fl_De_42 dX1_fewestPayments_29 hx2 hg ?_
    refine g_ishl C dX1_fewestPayments_32 ?_
    refine g_aload_n C dX1_fewestPayments_33 rfl ?_
    obtain ⟨x3, hg, hf⟩ := gR_ok hf
    refine g_getR C fl_De_24 dX1_fewestPayments_34 hg ?_
    obtain ⟨x4, hx4, hg, hf⟩ := aL_ok hf
    refine e_alen C dX1_fewestPayments_37 hx4 hg ?_
    refine e_min C ml_De_36 cm_min (by omega) (Nat.le_trans (m := 30) (by exact Nat.le_of_ble_eq_true rfl) (by omega)) ⟨by omega, by omega⟩ dX1_fewestPayments_38 ?_
    obtain ⟨x5, hx5, hf⟩ := lt_ok hf
    refine e_top hx5 ?_
    refine g_istore_n (lv' := [some (.ref (E.2.1 + l0)), some (.int x5), none]) C dX1_fewestPayments_41 (by decide) rfl ?_
    refine g_iconst (v := (1 : Int32)) C dX1_fewestPayments_42 (by decide) ?_
    refine g_istore_n (lv' := [some (.ref (E.2.1 + l0)), some (.int x5), some (.int (1 : Int32))]) C dX1_fewestPayments_43 (by decide) rfl ?_
    refine g_sub (lv' := [some (.ref (E.2.1 + l0)), some (.int x5), some (.int (1 : Int32))]) ⟨rfl, ⟨rfl, ⟨rfl, trivial⟩⟩⟩ ?_
    exact l_De_fewestPayments_b44 C HR  FU hf
  · have hf := iteF hf hc
    refine g_aload_n C dX1_fewestPayments_10 rfl ?_
    obtain ⟨x6, hg, hf⟩ := gR_ok hf
    refine g_getR C fl_De_20 dX1_fewestPayments_11 hg ?_
    refine g_iload_n C dX1_fewestPayments_14 rfl ?_
    refine g_aload_n C dX1_fewestPayments_15 rfl ?_
    refine g_iload_n C dX1_fewestPayments_16 rfl ?_
    obtain ⟨x7, hg, h1, hf⟩ := vP_ok hf
    refine g_invV (As := [.int l1]) (st := [.int l1, .ref (E.2.1 + x6)]) C (c_De_balance E h1) (rfl : vwCl[1]? = some (y_De_balance.cls, TX1, 6)) (by decide) hg ml_De_67 cm_De_balance.1 cm_De_balance.2.1 cm_De_balance.2.2.1 cm_De_balance.2.2.2.1 cm_De_balance.2.2.2.2 rfl ⟨by omega, by omega, by omega, by omega⟩ (by exact Nat.le_of_ble_eq_true rfl) rfl dX1_fewestPayments_17 ?_
    obtain ⟨G8, hG8, hg, hf⟩ := sI_ok hf
    refine e_iast C dX1_fewestPayments_20 hG8 hg ?_
    refine g_iinc (v := (l1 + 1)) (lv' := [some (.ref (E.2.1 + l0)), some (.int (l1 + 1)), none]) C dX1_fewestPayments_21 (by decide) rfl rfl rfl ?_
    refine g_goto (tgt := 2) C dX1_fewestPayments_24 (by decide) ?_
    refine g_sub (lv' := [some (.ref (E.2.1 + l0)), some (.int (l1 + 1)), none]) ⟨rfl, ⟨rfl, trivial⟩⟩ ?_
    exact K2 hf
theorem l_De_fewestPayments_b2 {E : EE} {X : CT} (C : gCx E X cX1_fewestPayments "FavoursGoOff$Debts" (some .int) 5 113 0 0 false 3) {r : Int32} {G' : Hp} (HR : gRet E X cX1_fewestPayments (some .int) 0 0 (some (.int r)) G') : ∀ (nn : Nat) {G : Hp} {l0 : Nat} {l1 : Int32}, f_De_fewestPayments_b2 nn G l0 l1 = some (r, G') → gV E X 0 0 G 2 [some (.ref (E.2.1 + l0)), some (.int l1), none] []
  | 0, _, _, _, hf => by have h0 : (none : Option (Int32 × Hp)) = some (r, G') := hf; cases h0
  | nn + 1, _, _, _, hf => l_De_fewestPayments_b2k C HR (fun h => l_De_fewestPayments_b2 C HR nn h) hf
set_option maxRecDepth 20000 in
theorem l_De_fewestPayments {E : EE} {X : CT} {G : Hp} (C : gCx E X cX1_fewestPayments "FavoursGoOff$Debts" (some .int) 5 113 0 0 false 3) {r : Int32} {G' : Hp} (HR : gRet E X cX1_fewestPayments (some .int) 0 0 (some (.int r)) G') {l0 : Nat} (hf : f_De_fewestPayments G l0 = some (r, G')) : gV E X 0 0 G 0 [some (.ref (E.2.1 + l0)), none, none] [] := by
  unfold f_De_fewestPayments at hf
  refine g_iconst (v := (0 : Int32)) C dX1_fewestPayments_0 (by decide) ?_
  refine g_istore_n (lv' := [some (.ref (E.2.1 + l0)), some (.int (0 : Int32)), none]) C dX1_fewestPayments_1 (by decide) rfl ?_
  refine g_sub (lv' := [some (.ref (E.2.1 + l0)), some (.int (0 : Int32)), none]) ⟨rfl, ⟨rfl, trivial⟩⟩ ?_
  exact l_De_fewestPayments_b2 C HR  FU hf
theorem c_De_fewestPayments (E : EE) {G : Hp} {l0 : Nat} {r : Int32} {G' : Hp} (h : f_De_fewestPayments G l0 = some (r, G')) : gCt E y_De_fewestPayments cX1_fewestPayments 3 (some .int) 5 113 0 0 [.ref (E.2.1 + l0)] G (some (.int r)) G' := gCt_of (own := "FavoursGoOff$Debts") (ini := false) [some (.ref (E.2.1 + l0)), none, none] (by decide +kernel) rfl (fun h => by cases h) (Nat.le_of_ble_eq_true rfl) ⟨rfl, trivial⟩ (fun X C HR => l_De_fewestPayments C HR h)
set_option maxRecDepth 20000 in
theorem l_De_callAllIn_b94 {E : EE} {X : CT} {G : Hp} (C : gCx E X cX1_callAllIn "FavoursGoOff$Debts" none 4 92 0 0 false 7) {G' : Hp} (HR : gRet E X cX1_callAllIn none 0 0 none G') {k12 : Hp → Nat → Nat → Int32 → Option Hp} (K12 : ∀ {G : Hp} {l0 : Nat} {l1 : Nat} {l2 : Int32}, k12 G l0 l1 l2 = some G' → gV E X 0 0 G 12 [some (.ref (E.2.1 + l0)), some (.ref (E.2.1 + l1)), some (.int l2), none, none, none, none] []) {k25 : Hp → Nat → Nat → Int32 → Int32 → Int32 → Option Hp} (K25 : ∀ {G : Hp} {l0 : Nat} {l1 : Nat} {l2 : Int32} {l3 : Int32} {l4 : Int32}, k25 G l0 l1 l2 l3 l4 = some G' → gV E X 0 0 G 25 [some (.ref (E.2.1 + l0)), some (.ref (E.2.1 + l1)), some (.int l2), some (.int l3), some (.int l4), none, none] []) {l0 : Nat} {l1 : Nat} {l2 : Int32} {l3 : Int32} {l4 : Int32} (hf : f_De_callAllIn_b94 k12 k25 G l0 l1 l2 l3 l4 = some G') : gV E X 0 0 G 94 [some (.ref (E.2.1 + l0)), some (.ref (E.2.1 + l1)), some (.int l2), some (.int l3), some (.int l4), none, none] [] := by
  unfold f_De_callAllIn_b94 at hf
  refine g_iinc (v := (l4 + 1)) (lv' := [some (.ref (E.2.1 + l0)), some (.ref (E.2.1 + l1)), some (.int l2), some (.int l3), some (.int (l4 + 1)), none, none]) C dX1_callAllIn_94 (by decide) rfl rfl rfl ?_
  refine g_goto (tgt := 25) C dX1_callAllIn_97 (by decide) ?_
  refine g_sub (lv' := [some (.ref (E.2.1 + l0)), some (.ref (E.2.1 + l1)), some (.int l2), some (.int l3), some (.int (l4 + 1)), none, none]) ⟨rfl, ⟨rfl, ⟨rfl, ⟨rfl, ⟨rfl, trivial⟩⟩⟩⟩⟩ ?_
  exact K25 hf
set_option maxRecDepth 20000 in
theorem l_De_callAllIn_b55 {E : EE} {X : CT} {G : Hp} (C : gCx E X cX1_callAllIn "FavoursGoOff$Debts" none 4 92 0 0 false 7) {G' : Hp} (HR : gRet E X cX1_callAllIn none 0 0 none G') {k12 : Hp → Nat → Nat → Int32 → Option Hp} (K12 : ∀ {G : Hp} {l0 : Nat} {l1 : Nat} {l2 : Int32}, k12 G l0 l1 l2 = some G' → gV E X 0 0 G 12 [some (.ref (E.2.1 + l0)), some (.ref (E.2.1 + l1)), some (.int l2), none, none, none, none] []) {k25 : Hp → Nat → Nat → Int32 → Int32 → Int32 → Option Hp} (K25 : ∀ {G : Hp} {l0 : Nat} {l1 : Nat} {l2 : Int32} {l3 : Int32} {l4 : Int32}, k25 G l0 l1 l2 l3 l4 = some G' → gV E X 0 0 G 25 [some (.ref (E.2.1 + l0)), some (.ref (E.2.1 + l1)), some (.int l2), some (.int l3), some (.int l4), none, none] []) {l0 : Nat} {l1 : Nat} {l2 : Int32} {l3 : Int32} {l4 : Int32} {l5 : Int32} {s0 : Int32} (hf : f_De_callAllIn_b55 k12 k25 G l0 l1 l2 l3 l4 l5 s0 = some G') : gV E X 0 0 G 55 [some (.ref (E.2.1 + l0)), some (.ref (E.2.1 + l1)), some (.int l2), some (.int l3), some (.int l4), some (.int l5), none] [.int s0] := by
  unfold f_De_callAllIn_b55 at hf
  refine g_istore (lv' := [some (.ref (E.2.1 + l0)), some (.ref (E.2.1 + l1)), some (.int l2), some (.int l3), some (.int l4), some (.int l5), some (.int s0)]) C dX1_callAllIn_55 (by decide) rfl ?_
  refine g_iload C dX1_callAllIn_57 rfl ?_
  refine g_if_eq (tgt := 94) C dX1_callAllIn_59 (by decide) (fun hc => ?_) (fun hc => ?_)
  · have hf := iteT hf hc
    refine g_sub (lv' := [some (.ref (E.2.1 + l0)), some (.ref (E.2.1 + l1)), some (.int l2), some (.int l3), some (.int l4), none, none]) ⟨rfl, ⟨rfl, ⟨rfl, ⟨rfl, ⟨rfl, trivial⟩⟩⟩⟩⟩ ?_
    exact l_De_callAllIn_b94 C HR K12 K25 hf
  · have hf := iteF hf hc
    refine g_aload_n C dX1_callAllIn_62 rfl ?_
    refine g_iload C dX1_callAllIn_63 rfl ?_
    obtain ⟨x1, hg, h1, hf⟩ := vP_ok hf
    refine g_invV (As := [.int l4]) (st := []) C (c_De_dueFrom E h1) (rfl : vwCl[1]? = some (y_De_dueFrom.cls, TX1, 6)) (by decide) hg ml_De_63 cm_De_dueFrom.1 cm_De_dueFrom.2.1 cm_De_dueFrom.2.2.1 cm_De_dueFrom.2.2.2.1 cm_De_dueFrom.2.2.2.2 rfl ⟨by omega, by omega, by omega, by omega⟩ (by exact Nat.le_of_ble_eq_true rfl) rfl dX1_callAllIn_65 ?_
    refine g_aload_n C dX1_callAllIn_68 rfl ?_
    refine g_iload C dX1_callAllIn_69 rfl ?_
    refine g_iconst (v := (0 : Int32)) C dX1_callAllIn_71 (by decide) ?_
    obtain ⟨x2, hg, h1, hf⟩ := vP_ok hf
    refine g_invV (As := [.int l4, .int (0 : Int32)]) (st := [.int x1]) C (c_Ta_at E h1) (rfl : vwCl[7]? = some (y_Ta_at.cls, TX7, 3)) (by decide) hg ml_De_50 cm_Ta_at.1 cm_Ta_at.2.1 cm_Ta_at.2.2.1 cm_Ta_at.2.2.2.1 cm_Ta_at.2.2.2.2 rfl ⟨by omega, by omega, by omega, by omega⟩ (by exact Nat.le_of_ble_eq_true rfl) rfl dX1_callAllIn_72 ?_
    refine g_aload_n C dX1_callAllIn_75 rfl ?_
    refine g_iload C dX1_callAllIn_76 rfl ?_
    refine g_aload_n C dX1_callAllIn_78 rfl ?_
    obtain ⟨x3, hx3, hg, hf⟩ := gI_ok hf
    refine e_getI C fl_De_76 dX1_callAllIn_79 hx3 hg ?_
    obtain ⟨x4, hg, h1, hf⟩ := vP_ok hf
    refine g_invV (As := [.int l4, .int x3]) (st := [.int x2, .int x1]) C (c_De_doneFor E h1) (rfl : vwCl[1]? = some (y_De_doneFor.cls, TX1, 6)) (by decide) hg ml_De_60 cm_De_doneFor.1 cm_De_doneFor.2.1 cm_De_doneFor.2.2.1 cm_De_doneFor.2.2.2.1 cm_De_doneFor.2.2.2.2 rfl ⟨by omega, by omega, by omega, by omega⟩ (by exact Nat.le_of_ble_eq_true rfl) rfl dX1_callAllIn_82 ?_
    refine g_iadd C dX1_callAllIn_85 ?_
    refine g_icmp_le (tgt := 94) C dX1_callAllIn_86 (by decide) (fun hc => ?_) (fun hc => ?_)
    · have hf := iteT hf hc
      refine g_sub (lv' := [some (.ref (E.2.1 + l0)), some (.ref (E.2.1 + l1)), some (.int l2), some (.int l3), some (.int l4), none, none]) ⟨rfl, ⟨rfl, ⟨rfl, ⟨rfl, ⟨rfl, trivial⟩⟩⟩⟩⟩ ?_
      exact l_De_callAllIn_b94 C HR K12 K25 hf
    · have hf := iteF hf hc
      refine g_iload_n C dX1_callAllIn_89 rfl ?_
      refine g_iload C dX1_callAllIn_90 rfl ?_
      refine g_ior C dX1_callAllIn_92 ?_
      obtain ⟨x5, hx5, hf⟩ := lt_ok hf
      refine e_top hx5 ?_
      refine g_istore_n (lv' := [some (.ref (E.2.1 + l0)), some (.ref (E.2.1 + l1)), some (.int l2), some (.int x5), some (.int l4), some (.int l5), some (.int s0)]) C dX1_callAllIn_93 (by decide) rfl ?_
      refine g_sub (lv' := [some (.ref (E.2.1 + l0)), some (.ref (E.2.1 + l1)), some (.int l2), some (.int x5), some (.int l4), none, none]) ⟨rfl, ⟨rfl, ⟨rfl, ⟨rfl, ⟨rfl, trivial⟩⟩⟩⟩⟩ ?_
      exact l_De_callAllIn_b94 C HR K12 K25 hf
set_option maxRecDepth 20000 in
theorem l_De_callAllIn_b25k {E : EE} {X : CT} {G : Hp} (C : gCx E X cX1_callAllIn "FavoursGoOff$Debts" none 4 92 0 0 false 7) {G' : Hp} (HR : gRet E X cX1_callAllIn none 0 0 none G') {k12 : Hp → Nat → Nat → Int32 → Option Hp} (K12 : ∀ {G : Hp} {l0 : Nat} {l1 : Nat} {l2 : Int32}, k12 G l0 l1 l2 = some G' → gV E X 0 0 G 12 [some (.ref (E.2.1 + l0)), some (.ref (E.2.1 + l1)), some (.int l2), none, none, none, none] []) {k25 : Hp → Nat → Nat → Int32 → Int32 → Int32 → Option Hp} (K25 : ∀ {G : Hp} {l0 : Nat} {l1 : Nat} {l2 : Int32} {l3 : Int32} {l4 : Int32}, k25 G l0 l1 l2 l3 l4 = some G' → gV E X 0 0 G 25 [some (.ref (E.2.1 + l0)), some (.ref (E.2.1 + l1)), some (.int l2), some (.int l3), some (.int l4), none, none] []) {l0 : Nat} {l1 : Nat} {l2 : Int32} {l3 : Int32} {l4 : Int32} (hf : f_De_callAllIn_b25_k k12 k25 G l0 l1 l2 l3 l4 = some G') : gV E X 0 0 G 25 [some (.ref (E.2.1 + l0)), some (.ref (E.2.1 + l1)), some (.int l2), some (.int l3), some (.int l4), none, none] [] := by
  unfold f_De_callAllIn_b25_k at hf
  refine g_iload C dX1_callAllIn_25 rfl ?_
  refine g_aload_n C dX1_callAllIn_27 rfl ?_
  obtain ⟨x1, hx1, hg, hf⟩ := gI_ok hf
  refine e_getI C fl_De_42 dX1_callAllIn_28 hx1 hg ?_
  refine g_icmp_ge (tgt := 100) C dX1_callAllIn_31 (by decide) (fun hc => ?_) (fun hc => ?_)
  · have hf := iteT hf hc
    refine g_iload_n C dX1_callAllIn_100 rfl ?_
    refine g_if_ne (tgt := 105) C dX1_callAllIn_101 (by decide) (fun hc => ?_) (fun hc => ?_)
    · have hf := iteF hf hc
      refine g_aload_n C dX1_callAllIn_105 rfl ?_
      refine g_dup C dX1_callAllIn_106 rfl ?_
      obtain ⟨x2, hx2, hg, hf⟩ := gI_ok hf
      refine e_getI C fl_De_76 dX1_callAllIn_107 hx2 hg ?_
      refine g_iload_n C dX1_callAllIn_110 rfl ?_
      refine g_ior C dX1_callAllIn_111 ?_
      obtain ⟨G3, hG3, hg, hf⟩ := pI_ok hf
      refine e_putI C fl_De_76 dX1_callAllIn_112 hG3 hg (Or.inl rfl) rfl rfl ?_
      refine g_aload_n C dX1_callAllIn_115 rfl ?_
      refine g_dup C dX1_callAllIn_116 rfl ?_
      obtain ⟨x4, hx4, hg, hf⟩ := gI_ok hf
      refine e_getI C fl_De_79 dX1_callAllIn_117 hx4 hg ?_
      refine g_iconst (v := (1 : Int32)) C dX1_callAllIn_120 (by decide) ?_
      refine g_iadd C dX1_callAllIn_121 ?_
      obtain ⟨G5, hG5, hg, hf⟩ := pI_ok hf
      refine e_putI C fl_De_79 dX1_callAllIn_122 hG5 hg (Or.inl rfl) rfl rfl ?_
      refine g_iinc (v := (l2 + 1)) (lv' := [some (.ref (E.2.1 + l0)), some (.ref (E.2.1 + l1)), some (.int (l2 + 1)), some (.int l3), some (.int l4), none, none]) C dX1_callAllIn_125 (by decide) rfl rfl rfl ?_
      refine g_goto (tgt := 12) C dX1_callAllIn_128 (by decide) ?_
      refine g_sub (lv' := [some (.ref (E.2.1 + l0)), some (.ref (E.2.1 + l1)), some (.int (l2 + 1)), none, none, none, none]) ⟨rfl, ⟨rfl, ⟨rfl, trivial⟩⟩⟩ ?_
      exact K12 hf
    · have hf := iteT hf hc
      obtain rfl := rP_ok hf
      exact g_vret HR dX1_callAllIn_104
  · have hf := iteF hf hc
    refine g_iconst (v := (1 : Int32)) C dX1_callAllIn_34 (by decide) ?_
    refine g_iload C dX1_callAllIn_35 rfl ?_
    refine g_ishl C dX1_callAllIn_37 ?_
    obtain ⟨x6, hx6, hf⟩ := lt_ok hf
    refine e_top hx6 ?_
    refine g_istore (lv' := [some (.ref (E.2.1 + l0)), some (.ref (E.2.1 + l1)), some (.int l2), some (.int l3), some (.int l4), some (.int x6), none]) C dX1_callAllIn_38 (by decide) rfl ?_
    refine g_aload_n C dX1_callAllIn_40 rfl ?_
    obtain ⟨x7, hx7, hg, hf⟩ := gI_ok hf
    refine e_getI C fl_De_76 dX1_callAllIn_41 hx7 hg ?_
    refine g_iload C dX1_callAllIn_44 rfl ?_
    refine g_iand C dX1_callAllIn_46 ?_
    refine g_if_ne (tgt := 54) C dX1_callAllIn_47 (by decide) (fun hc => ?_) (fun hc => ?_)
    · have hf := iteF hf hc
      refine g_iconst (v := (0 : Int32)) C dX1_callAllIn_54 (by decide) ?_
      refine g_sub (lv' := [some (.ref (E.2.1 + l0)), some (.ref (E.2.1 + l1)), some (.int l2), some (.int l3), some (.int l4), some (.int x6), none]) ⟨rfl, ⟨rfl, ⟨rfl, ⟨rfl, ⟨rfl, ⟨rfl, trivial⟩⟩⟩⟩⟩⟩ ?_
      exact l_De_callAllIn_b55 C HR K12 K25 hf
    · have hf := iteT hf hc
      refine g_iconst (v := (1 : Int32)) C dX1_callAllIn_50 (by decide) ?_
      refine g_goto (tgt := 55) C dX1_callAllIn_51 (by decide) ?_
      refine g_sub (lv' := [some (.ref (E.2.1 + l0)), some (.ref (E.2.1 + l1)), some (.int l2), some (.int l3), some (.int l4), some (.int x6), none]) ⟨rfl, ⟨rfl, ⟨rfl, ⟨rfl, ⟨rfl, ⟨rfl, trivial⟩⟩⟩⟩⟩⟩ ?_
      exact l_De_callAllIn_b55 C HR K12 K25 hf
theorem l_De_callAllIn_b25 {E : EE} {X : CT} (C : gCx E X cX1_callAllIn "FavoursGoOff$Debts" none 4 92 0 0 false 7) {G' : Hp} (HR : gRet E X cX1_callAllIn none 0 0 none G') {k12 : Hp → Nat → Nat → Int32 → Option Hp} (K12 : ∀ {G : Hp} {l0 : Nat} {l1 : Nat} {l2 : Int32}, k12 G l0 l1 l2 = some G' → gV E X 0 0 G 12 [some (.ref (E.2.1 + l0)), some (.ref (E.2.1 + l1)), some (.int l2), none, none, none, none] []) : ∀ (nn : Nat) {G : Hp} {l0 : Nat} {l1 : Nat} {l2 : Int32} {l3 : Int32} {l4 : Int32}, f_De_callAllIn_b25 k12 nn G l0 l1 l2 l3 l4 = some G' → gV E X 0 0 G 25 [some (.ref (E.2.1 + l0)), some (.ref (E.2.1 + l1)), some (.int l2), some (.int l3), some (.int l4), none, none] []
  | 0, _, _, _, _, _, _, hf => by have h0 : (none : Option Hp) = some G' := hf; cases h0
  | nn + 1, _, _, _, _, _, _, hf => l_De_callAllIn_b25k C HR K12 (fun h => l_De_callAllIn_b25 C HR K12 nn h) hf
set_option maxRecDepth 20000 in
theorem l_De_callAllIn_b12k {E : EE} {X : CT} {G : Hp} (C : gCx E X cX1_callAllIn "FavoursGoOff$Debts" none 4 92 0 0 false 7) {G' : Hp} (HR : gRet E X cX1_callAllIn none 0 0 none G') {k12 : Hp → Nat → Nat → Int32 → Option Hp} (K12 : ∀ {G : Hp} {l0 : Nat} {l1 : Nat} {l2 : Int32}, k12 G l0 l1 l2 = some G' → gV E X 0 0 G 12 [some (.ref (E.2.1 + l0)), some (.ref (E.2.1 + l1)), some (.int l2), none, none, none, none] []) {l0 : Nat} {l1 : Nat} {l2 : Int32} (hf : f_De_callAllIn_b12_k k12 G l0 l1 l2 = some G') : gV E X 0 0 G 12 [some (.ref (E.2.1 + l0)), some (.ref (E.2.1 + l1)), some (.int l2), none, none, none, none] [] := by
  unfold f_De_callAllIn_b12_k at hf
  refine g_iload_n C dX1_callAllIn_12 rfl ?_
  refine g_aload_n C dX1_callAllIn_13 rfl ?_
  obtain ⟨x1, hx1, hg, hf⟩ := gI_ok hf
  refine e_getI C fl_De_42 dX1_callAllIn_14 hx1 hg ?_
  refine g_icmp_ge (tgt := 131) C dX1_callAllIn_17 (by decide) (fun hc => ?_) (fun hc => ?_)
  · have hf := iteT hf hc
    obtain rfl := rP_ok hf
    exact g_vret HR dX1_callAllIn_131
  · have hf := iteF hf hc
    refine g_iconst (v := (0 : Int32)) C dX1_callAllIn_20 (by decide) ?_
    refine g_istore_n (lv' := [some (.ref (E.2.1 + l0)), some (.ref (E.2.1 + l1)), some (.int l2), some (.int (0 : Int32)), none, none, none]) C dX1_callAllIn_21 (by decide) rfl ?_
    refine g_iconst (v := (0 : Int32)) C dX1_callAllIn_22 (by decide) ?_
    refine g_istore (lv' := [some (.ref (E.2.1 + l0)), some (.ref (E.2.1 + l1)), some (.int l2), some (.int (0 : Int32)), some (.int (0 : Int32)), none, none]) C dX1_callAllIn_23 (by decide) rfl ?_
    refine g_sub (lv' := [some (.ref (E.2.1 + l0)), some (.ref (E.2.1 + l1)), some (.int l2), some (.int (0 : Int32)), some (.int (0 : Int32)), none, none]) ⟨rfl, ⟨rfl, ⟨rfl, ⟨rfl, ⟨rfl, trivial⟩⟩⟩⟩⟩ ?_
    exact l_De_callAllIn_b25 C HR K12 FU hf
theorem l_De_callAllIn_b12 {E : EE} {X : CT} (C : gCx E X cX1_callAllIn "FavoursGoOff$Debts" none 4 92 0 0 false 7) {G' : Hp} (HR : gRet E X cX1_callAllIn none 0 0 none G') : ∀ (nn : Nat) {G : Hp} {l0 : Nat} {l1 : Nat} {l2 : Int32}, f_De_callAllIn_b12 nn G l0 l1 l2 = some G' → gV E X 0 0 G 12 [some (.ref (E.2.1 + l0)), some (.ref (E.2.1 + l1)), some (.int l2), none, none, none, none] []
  | 0, _, _, _, _, hf => by have h0 : (none : Option Hp) = some G' := hf; cases h0
  | nn + 1, _, _, _, _, hf => l_De_callAllIn_b12k C HR (fun h => l_De_callAllIn_b12 C HR nn h) hf
set_option maxRecDepth 20000 in
theorem l_De_callAllIn {E : EE} {X : CT} {G : Hp} (C : gCx E X cX1_callAllIn "FavoursGoOff$Debts" none 4 92 0 0 false 7) {G' : Hp} (HR : gRet E X cX1_callAllIn none 0 0 none G') {l0 : Nat} {l1 : Nat} (hf : f_De_callAllIn G l0 l1 = some G') : gV E X 0 0 G 0 [some (.ref (E.2.1 + l0)), some (.ref (E.2.1 + l1)), none, none, none, none, none] [] := by
  unfold f_De_callAllIn at hf
  refine g_aload_n C dX1_callAllIn_0 rfl ?_
  refine g_iconst (v := (0 : Int32)) C dX1_callAllIn_1 (by decide) ?_
  obtain ⟨G1, hG1, hg, hf⟩ := pI_ok hf
  refine e_putI C fl_De_76 dX1_callAllIn_2 hG1 hg (Or.inl rfl) rfl rfl ?_
  refine g_aload_n C dX1_callAllIn_5 rfl ?_
  refine g_iconst (v := (0 : Int32)) C dX1_callAllIn_6 (by decide) ?_
  obtain ⟨G2, hG2, hg, hf⟩ := pI_ok hf
  refine e_putI C fl_De_79 dX1_callAllIn_7 hG2 hg (Or.inl rfl) rfl rfl ?_
  refine g_iconst (v := (0 : Int32)) C dX1_callAllIn_10 (by decide) ?_
  refine g_istore_n (lv' := [some (.ref (E.2.1 + l0)), some (.ref (E.2.1 + l1)), some (.int (0 : Int32)), none, none, none, none]) C dX1_callAllIn_11 (by decide) rfl ?_
  refine g_sub (lv' := [some (.ref (E.2.1 + l0)), some (.ref (E.2.1 + l1)), some (.int (0 : Int32)), none, none, none, none]) ⟨rfl, ⟨rfl, ⟨rfl, trivial⟩⟩⟩ ?_
  exact l_De_callAllIn_b12 C HR  FU hf
theorem c_De_callAllIn (E : EE) {G : Hp} {l0 : Nat} {l1 : Nat} {G' : Hp} (h : f_De_callAllIn G l0 l1 = some G') : gCt E y_De_callAllIn cX1_callAllIn 7 none 4 92 0 0 [.ref (E.2.1 + l0), .ref (E.2.1 + l1)] G none G' := gCt_of (own := "FavoursGoOff$Debts") (ini := false) [some (.ref (E.2.1 + l0)), some (.ref (E.2.1 + l1)), none, none, none, none, none] (by decide +kernel) rfl (fun h => by cases h) (Nat.le_of_ble_eq_true rfl) ⟨rfl, ⟨rfl, trivial⟩⟩ (fun X C HR => l_De_callAllIn C HR h)
