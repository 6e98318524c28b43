/-! ===== each method does as its function says ===== -/
set_option maxRecDepth 20000 in
theorem l_Fa_isDayToCome {E : EE} {X : CT} {G : Hp} (C : gCx E X cX9_isDayToCome "FavoursGoOff" (some .boolean) 1 22 0 0 false 2) {r : Int32} (HR : gRet E X cX9_isDayToCome (some .boolean) 0 0 (some (.int r)) G) {l0 : Nat} {l1 : Int32} (hf : f_Fa_isDayToCome G l0 l1 = some r) : gV E X 0 0 G 0 [some (.ref (E.2.1 + l0)), some (.int l1)] [] := by
  unfold f_Fa_isDayToCome at hf
  refine g_iload_n C dX9_isDayToCome_0 rfl ?_
  refine g_aload_n C dX9_isDayToCome_1 rfl ?_
  obtain ⟨x1, hg, hf⟩ := gR_ok hf
  refine g_getR C fl_Fa_26 dX9_isDayToCome_2 hg ?_
  obtain ⟨x2, hx2, hg, hf⟩ := gI_ok hf
  refine e_getI C fl_Fa_187 dX9_isDayToCome_5 hx2 hg ?_
  refine g_bipush (v := (99 : Int32)) C dX9_isDayToCome_8 (by decide) ?_
  obtain ⟨x3, h1, hf⟩ := cP_ok hf
  refine g_invS (As := [.int l1, .int x2, .int (99 : Int32)]) (st := []) C (c_Fa_isWithin E h1) ml_Fa_79 cm_Fa_isWithin.1 cm_Fa_isWithin.2.1 cm_Fa_isWithin.2.2.1 cm_Fa_isWithin.2.2.2 rfl ⟨by omega, by omega, by omega, by omega⟩ (by exact Nat.le_of_ble_eq_true rfl) rfl dX9_isDayToCome_10 ?_
  obtain ⟨hv, hf⟩ := zR_ok hf
  obtain rfl := rP_ok hf
  exact g_zret HR hv dX9_isDayToCome_13
theorem c_Fa_isDayToCome (E : EE) {G : Hp} {l0 : Nat} {l1 : Int32} {r : Int32} (h : f_Fa_isDayToCome G l0 l1 = some r) : gCt E y_Fa_isDayToCome cX9_isDayToCome 2 (some .boolean) 1 22 0 0 [.ref (E.2.1 + l0), .int l1] G (some (.int r)) G := gCt_of (own := "FavoursGoOff") (ini := false) [some (.ref (E.2.1 + l0)), some (.int l1)] (by decide +kernel) rfl (fun h => by cases h) (Nat.le_of_ble_eq_true rfl) ⟨rfl, ⟨rfl, trivial⟩⟩ (fun X C HR => l_Fa_isDayToCome C HR h)
set_option maxRecDepth 20000 in
theorem l_Fa_need_b40 {E : EE} {X : CT} {G : Hp} (C : gCx E X cX9_need "FavoursGoOff" (some .int) 3 72 0 0 false 5) {r : Int32} {G' : Hp} (HR : gRet E X cX9_need (some .int) 0 0 (some (.int r)) G') {l0 : Nat} (hf : f_Fa_need_b40 G l0 = some (r, G')) : gV E X 0 0 G 40 [some (.ref (E.2.1 + l0)), none, none, none, none] [] := by
  unfold f_Fa_need_b40 at hf
  refine g_aload_n C dX9_need_40 rfl ?_
  refine g_bipush (v := (-2 : Int32)) C dX9_need_41 (by decide) ?_
  obtain ⟨x1, G2, hg, h1, hf⟩ := vH_ok hf
  refine g_invV (As := [.int (-2 : Int32)]) (st := []) C (c_Fa_bad E h1) (rfl : vwCl[9]? = some (y_Fa_bad.cls, TX9, 13)) (by decide) hg ml_Fa_83 cm_Fa_bad.1 cm_Fa_bad.2.1 cm_Fa_bad.2.2.1 cm_Fa_bad.2.2.2.1 cm_Fa_bad.2.2.2.2 rfl ⟨by omega, by omega, by omega, by omega⟩ (by exact Nat.le_of_ble_eq_true rfl) rfl dX9_need_43 ?_
  obtain ⟨rfl, rfl⟩ := rH_ok hf
  exact g_iret HR dX9_need_46
set_option maxRecDepth 20000 in
theorem l_Fa_need {E : EE} {X : CT} {G : Hp} (C : gCx E X cX9_need "FavoursGoOff" (some .int) 3 72 0 0 false 5) {r : Int32} {G' : Hp} (HR : gRet E X cX9_need (some .int) 0 0 (some (.int r)) G') {l0 : Nat} {l1 : Int32} {l2 : Int32} {l3 : Int32} {l4 : Int32} (hf : f_Fa_need G l0 l1 l2 l3 l4 = some (r, G')) : gV E X 0 0 G 0 [some (.ref (E.2.1 + l0)), some (.int l1), some (.int l2), some (.int l3), some (.int l4)] [] := by
  unfold f_Fa_need at hf
  refine g_aload_n C dX9_need_0 rfl ?_
  obtain ⟨x1, hg, hf⟩ := gR_ok hf
  refine g_getR C fl_Fa_26 dX9_need_1 hg ?_
  obtain ⟨x2, hg, hf⟩ := gR_ok hf
  refine g_getR C fl_Fa_87 dX9_need_4 hg ?_
  refine g_iload_n C dX9_need_7 rfl ?_
  obtain ⟨x3, hg, h1, hf⟩ := vP_ok hf
  refine g_invV (As := [.int l1]) (st := []) C (c_Ta_has E h1) (rfl : vwCl[7]? = some (y_Ta_has.cls, TX7, 3)) (by decide) hg ml_Fa_104 cm_Ta_has.1 cm_Ta_has.2.1 cm_Ta_has.2.2.1 cm_Ta_has.2.2.2.1 cm_Ta_has.2.2.2.2 rfl ⟨by omega, by omega, by omega, by omega⟩ (by exact Nat.le_of_ble_eq_true rfl) rfl dX9_need_8 ?_
  refine g_if_eq (tgt := 40) C dX9_need_11 (by decide) (fun hc => ?_) (fun hc => ?_)
  · have hf := iteT hf hc
    refine g_sub (lv' := [some (.ref (E.2.1 + l0)), none, none, none, none]) ⟨rfl, trivial⟩ ?_
    exact l_Fa_need_b40 C HR  hf
  · have hf := iteF hf hc
    refine g_iload_n C dX9_need_14 rfl ?_
    obtain ⟨x4, h1, hf⟩ := cP_ok hf
    refine g_invS (As := [.int l2]) (st := []) C (c_Fa_isThing E h1) ml_Fa_116 cm_Fa_isThing.1 cm_Fa_isThing.2.1 cm_Fa_isThing.2.2.1 cm_Fa_isThing.2.2.2 rfl ⟨by omega, by omega, by omega, by omega⟩ (by exact Nat.le_of_ble_eq_true rfl) rfl dX9_need_15 ?_
    refine g_if_eq (tgt := 40) C dX9_need_18 (by decide) (fun hc => ?_) (fun hc => ?_)
    · have hf := iteT hf hc
      refine g_sub (lv' := [some (.ref (E.2.1 + l0)), none, none, none, none]) ⟨rfl, trivial⟩ ?_
      exact l_Fa_need_b40 C HR  hf
    · have hf := iteF hf hc
      refine g_iload_n C dX9_need_21 rfl ?_
      refine g_iconst (v := (1 : Int32)) C dX9_need_22 (by decide) ?_
      refine g_bipush (v := (40 : Int32)) C dX9_need_23 (by decide) ?_
      obtain ⟨x5, h1, hf⟩ := cP_ok hf
      refine g_invS (As := [.int l3, .int (1 : Int32), .int (40 : Int32)]) (st := []) C (c_Fa_isWithin E h1) ml_Fa_79 cm_Fa_isWithin.1 cm_Fa_isWithin.2.1 cm_Fa_isWithin.2.2.1 cm_Fa_isWithin.2.2.2 rfl ⟨by omega, by omega, by omega, by omega⟩ (by exact Nat.le_of_ble_eq_true rfl) rfl dX9_need_25 ?_
      refine g_if_eq (tgt := 40) C dX9_need_28 (by decide) (fun hc => ?_) (fun hc => ?_)
      · have hf := iteT hf hc
        refine g_sub (lv' := [some (.ref (E.2.1 + l0)), none, none, none, none]) ⟨rfl, trivial⟩ ?_
        exact l_Fa_need_b40 C HR  hf
      · have hf := iteF hf hc
        refine g_aload_n C dX9_need_31 rfl ?_
        refine g_iload C dX9_need_32 rfl ?_
        obtain ⟨x6, hg, h1, hf⟩ := vP_ok hf
        refine g_invV (As := [.int l4]) (st := []) C (c_Fa_isDayToCome E h1) (rfl : vwCl[9]? = some (y_Fa_isDayToCome.cls, TX9, 13)) (by decide) hg ml_Fa_137 cm_Fa_isDayToCome.1 cm_Fa_isDayToCome.2.1 cm_Fa_isDayToCome.2.2.1 cm_Fa_isDayToCome.2.2.2.1 cm_Fa_isDayToCome.2.2.2.2 rfl ⟨by omega, by omega, by omega, by omega⟩ (by exact Nat.le_of_ble_eq_true rfl) rfl dX9_need_34 ?_
        refine g_if_ne (tgt := 47) C dX9_need_37 (by decide) (fun hc => ?_) (fun hc => ?_)
        · have hf := iteF hf hc
          refine g_aload_n C dX9_need_47 rfl ?_
          obtain ⟨x7, hg, hf⟩ := gR_ok hf
          refine g_getR C fl_Fa_26 dX9_need_48 hg ?_
          obtain ⟨x8, hg, hf⟩ := gR_ok hf
          refine g_getR C fl_Fa_140 dX9_need_51 hg ?_
          obtain ⟨x9, hg, h1, hf⟩ := vP_ok hf
          refine g_invV (As := []) (st := []) C (c_Ta_isFull E h1) (rfl : vwCl[7]? = some (y_Ta_isFull.cls, TX7, 3)) (by decide) hg ml_Fa_125 cm_Ta_isFull.1 cm_Ta_isFull.2.1 cm_Ta_isFull.2.2.1 cm_Ta_isFull.2.2.2.1 cm_Ta_isFull.2.2.2.2 rfl ⟨by omega, by omega, by omega, by omega⟩ (by exact Nat.le_of_ble_eq_true rfl) rfl dX9_need_54 ?_
          refine g_if_eq (tgt := 65) C dX9_need_57 (by decide) (fun hc => ?_) (fun hc => ?_)
          · have hf := iteT hf hc
            refine g_aload_n C dX9_need_65 rfl ?_
            obtain ⟨x10, hg, hf⟩ := gR_ok hf
            refine g_getR C fl_Fa_58 dX9_need_66 hg ?_
            refine g_iconst (v := (1 : Int32)) C dX9_need_69 (by decide) ?_
            obtain ⟨G11, hG11, hg, hf⟩ := pI_ok hf
            refine e_putI C fl_Fa_100 dX9_need_70 hG11 hg (Or.inl rfl) (by decide) (by decide) ?_
            refine g_aload_n C dX9_need_73 rfl ?_
            obtain ⟨x12, hg, hf⟩ := gR_ok hf
            refine g_getR C fl_Fa_26 dX9_need_74 hg ?_
            refine g_iload_n C dX9_need_77 rfl ?_
            refine g_iload_n C dX9_need_78 rfl ?_
            refine g_iload_n C dX9_need_79 rfl ?_
            refine g_iload C dX9_need_80 rfl ?_
            obtain ⟨x13, G14, hg, h1, hf⟩ := vH_ok hf
            refine g_invV (As := [.int l1, .int l2, .int l3, .int l4]) (st := []) C (c_St_addNeed E h1) (rfl : vwCl[6]? = some (y_St_addNeed.cls, TX6, 6)) (by decide) hg ml_Fa_143 cm_St_addNeed.1 cm_St_addNeed.2.1 cm_St_addNeed.2.2.1 cm_St_addNeed.2.2.2.1 cm_St_addNeed.2.2.2.2 rfl ⟨by omega, by omega, by omega, by omega⟩ (by exact Nat.le_of_ble_eq_true rfl) rfl dX9_need_82 ?_
            obtain ⟨rfl, rfl⟩ := rH_ok hf
            exact g_iret HR dX9_need_85
          · have hf := iteF hf hc
            refine g_aload_n C dX9_need_60 rfl ?_
            obtain ⟨x15, G16, hg, h1, hf⟩ := vH_ok hf
            refine g_invV (As := []) (st := []) C (c_Fa_full E h1) (rfl : vwCl[9]? = some (y_Fa_full.cls, TX9, 13)) (by decide) hg ml_Fa_129 cm_Fa_full.1 cm_Fa_full.2.1 cm_Fa_full.2.2.1 cm_Fa_full.2.2.2.1 cm_Fa_full.2.2.2.2 rfl ⟨by omega, by omega, by omega, by omega⟩ (by exact Nat.le_of_ble_eq_true rfl) rfl dX9_need_61 ?_
            obtain ⟨rfl, rfl⟩ := rH_ok hf
            exact g_iret HR dX9_need_64
        · have hf := iteT hf hc
          refine g_sub (lv' := [some (.ref (E.2.1 + l0)), none, none, none, none]) ⟨rfl, trivial⟩ ?_
          exact l_Fa_need_b40 C HR  hf
theorem c_Fa_need (E : EE) {G : Hp} {l0 : Nat} {l1 : Int32} {l2 : Int32} {l3 : Int32} {l4 : Int32} {r : Int32} {G' : Hp} (h : f_Fa_need G l0 l1 l2 l3 l4 = some (r, G')) : gCt E y_Fa_need cX9_need 5 (some .int) 3 72 0 0 [.ref (E.2.1 + l0), .int l1, .int l2, .int l3, .int l4] G (some (.int r)) G' := gCt_of (own := "FavoursGoOff") (ini := false) [some (.ref (E.2.1 + l0)), some (.int l1), some (.int l2), some (.int l3), some (.int l4)] (by decide +kernel) rfl (fun h => by cases h) (Nat.le_of_ble_eq_true rfl) ⟨rfl, ⟨rfl, ⟨rfl, ⟨rfl, ⟨rfl, trivial⟩⟩⟩⟩⟩ (fun X C HR => l_Fa_need C HR h)
set_option maxRecDepth 20000 in
theorem l_Fa_contented {E : EE} {X : CT} {G : Hp} (C : gCx E X cX9_contented "FavoursGoOff" (some .int) 1 21 0 0 false 1) {r : Int32} {G' : Hp} (HR : gRet E X cX9_contented (some .int) 0 0 (some (.int r)) G') {l0 : Nat} (hf : f_Fa_contented G l0 = some (r, G')) : gV E X 0 0 G 0 [some (.ref (E.2.1 + l0))] [] := by
  unfold f_Fa_contented at hf
  refine g_aload_n C dX9_contented_0 rfl ?_
  obtain ⟨x1, hg, hf⟩ := gR_ok hf
  refine g_getR C fl_Fa_58 dX9_contented_1 hg ?_
  refine g_iconst (v := (1 : Int32)) C dX9_contented_4 (by decide) ?_
  obtain ⟨G2, hG2, hg, hf⟩ := pI_ok hf
  refine e_putI C fl_Fa_100 dX9_contented_5 hG2 hg (Or.inl rfl) (by decide) (by decide) ?_
  refine g_aload_n C dX9_contented_8 rfl ?_
  obtain ⟨x3, hg, hf⟩ := gR_ok hf
  refine g_getR C fl_Fa_26 dX9_contented_9 hg ?_
  obtain ⟨x4, hg, hf⟩ := gR_ok hf
  refine g_getR C fl_Fa_140 dX9_contented_12 hg ?_
  obtain ⟨x5, G6, hg, h1, hf⟩ := vH_ok hf
  refine g_invV (As := []) (st := []) C (c_Ta_empty E h1) (rfl : vwCl[7]? = some (y_Ta_empty.cls, TX7, 3)) (by decide) hg ml_Fa_147 cm_Ta_empty.1 cm_Ta_empty.2.1 cm_Ta_empty.2.2.1 cm_Ta_empty.2.2.2.1 cm_Ta_empty.2.2.2.2 rfl ⟨by omega, by omega, by omega, by omega⟩ (by exact Nat.le_of_ble_eq_true rfl) rfl dX9_contented_15 ?_
  obtain ⟨rfl, rfl⟩ := rH_ok hf
  exact g_iret HR dX9_contented_18
theorem c_Fa_contented (E : EE) {G : Hp} {l0 : Nat} {r : Int32} {G' : Hp} (h : f_Fa_contented G l0 = some (r, G')) : gCt E y_Fa_contented cX9_contented 1 (some .int) 1 21 0 0 [.ref (E.2.1 + l0)] G (some (.int r)) G' := gCt_of (own := "FavoursGoOff") (ini := false) [some (.ref (E.2.1 + l0))] (by decide +kernel) rfl (fun h => by cases h) (Nat.le_of_ble_eq_true rfl) ⟨rfl, trivial⟩ (fun X C HR => l_Fa_contented C HR h)
set_option maxRecDepth 20000 in
theorem l_Fa_type_b42k {E : EE} {X : CT} {G : Hp} (C : gCx E X cX9_type "FavoursGoOff" (some .int) 1 22 0 0 false 5) {r : Int32} {G' : Hp} (HR : gRet E X cX9_type (some .int) 0 0 (some (.int r)) G') {k42 : Hp → Nat → Int64 → Int32 → Option (Int32 × Hp)} (K42 : ∀ {G : Hp} {l0 : Nat} {l1 : Int64} {l4 : Int32}, k42 G l0 l1 l4 = some (r, G') → gV E X 0 0 G 42 [some (.ref (E.2.1 + l0)), some (.long l1), none, none, some (.int l4)] []) {l0 : Nat} {l1 : Int64} {l4 : Int32} (hf : f_Fa_type_b42_k k42 G l0 l1 l4 = some (r, G')) : gV E X 0 0 G 42 [some (.ref (E.2.1 + l0)), some (.long l1), none, none, some (.int l4)] [] := by
  unfold f_Fa_type_b42_k at hf
  refine g_iload C dX9_type_42 rfl ?_
  refine g_if_lt (tgt := 72) C dX9_type_44 (by decide) (fun hc => ?_) (fun hc => ?_)
  · have hf := iteT hf hc
    refine g_aload_n C dX9_type_72 rfl ?_
    obtain ⟨x1, hg, hf⟩ := gR_ok hf
    refine g_getR C fl_Fa_40 dX9_type_73 hg ?_
    obtain ⟨x2, hx2, hg, hf⟩ := gI_ok hf
    refine e_getI C fl_Fa_150 dX9_type_76 hx2 hg ?_
    obtain ⟨rfl, rfl⟩ := rH_ok hf
    exact g_iret HR dX9_type_79
  · have hf := iteF hf hc
    refine g_aload_n C dX9_type_47 rfl ?_
    obtain ⟨x3, hg, hf⟩ := gR_ok hf
    refine g_getR C fl_Fa_40 dX9_type_48 hg ?_
    refine g_lload_n C dX9_type_51 rfl ?_
    refine g_bipush (v := (8 : Int32)) C dX9_type_52 (by decide) ?_
    refine g_iload C dX9_type_54 rfl ?_
    refine g_imul C dX9_type_56 ?_
    refine g_lushr C dX9_type_57 ?_
    refine g_l2i C dX9_type_58 ?_
    refine g_sipush (v := (255 : Int32)) C dX9_type_59 (by decide) ?_
    refine g_iand C dX9_type_62 ?_
    obtain ⟨G4, hg, h1, hf⟩ := vP_ok hf
    refine g_invV (As := [.int (((ushrL l1 ((8 : Int32) * l4)).toInt32) &&& (255 : Int32))]) (st := []) C (c_Te_add E h1) (rfl : vwCl[8]? = some (y_Te_add.cls, TX8, 2)) (by decide) hg ml_Fa_155 cm_Te_add.1 cm_Te_add.2.1 cm_Te_add.2.2.1 cm_Te_add.2.2.2.1 cm_Te_add.2.2.2.2 rfl ⟨by omega, by omega, by omega, by omega⟩ (by exact Nat.le_of_ble_eq_true rfl) rfl dX9_type_63 ?_
    refine g_iinc (v := (l4 + (-1))) (lv' := [some (.ref (E.2.1 + l0)), some (.long l1), none, none, some (.int (l4 + (-1)))]) C dX9_type_66 (by decide) rfl rfl rfl ?_
    refine g_goto (tgt := 42) C dX9_type_69 (by decide) ?_
    refine g_sub (lv' := [some (.ref (E.2.1 + l0)), some (.long l1), none, none, some (.int (l4 + (-1)))]) ⟨rfl, ⟨rfl, ⟨rfl, trivial⟩⟩⟩ ?_
    exact K42 hf
theorem l_Fa_type_b42 {E : EE} {X : CT} (C : gCx E X cX9_type "FavoursGoOff" (some .int) 1 22 0 0 false 5) {r : Int32} {G' : Hp} (HR : gRet E X cX9_type (some .int) 0 0 (some (.int r)) G') : ∀ (nn : Nat) {G : Hp} {l0 : Nat} {l1 : Int64} {l4 : Int32}, f_Fa_type_b42 nn G l0 l1 l4 = some (r, G') → gV E X 0 0 G 42 [some (.ref (E.2.1 + l0)), some (.long l1), none, none, some (.int l4)] []
  | 0, _, _, _, _, hf => by have h0 : (none : Option (Int32 × Hp)) = some (r, G') := hf; cases h0
  | nn + 1, _, _, _, _, hf => l_Fa_type_b42k C HR (fun h => l_Fa_type_b42 C HR nn h) hf
set_option maxRecDepth 20000 in
theorem l_Fa_type {E : EE} {X : CT} {G : Hp} (C : gCx E X cX9_type "FavoursGoOff" (some .int) 1 22 0 0 false 5) {r : Int32} {G' : Hp} (HR : gRet E X cX9_type (some .int) 0 0 (some (.int r)) G') {l0 : Nat} {l1 : Int64} {l3 : Int32} (hf : f_Fa_type G l0 l1 l3 = some (r, G')) : gV E X 0 0 G 0 [some (.ref (E.2.1 + l0)), some (.long l1), none, some (.int l3), none] [] := by
  unfold f_Fa_type at hf
  refine g_iload_n C dX9_type_0 rfl ?_
  refine g_iconst (v := (1 : Int32)) C dX9_type_1 (by decide) ?_
  refine g_bipush (v := (8 : Int32)) C dX9_type_2 (by decide) ?_
  obtain ⟨x1, h1, hf⟩ := cP_ok hf
  refine g_invS (As := [.int l3, .int (1 : Int32), .int (8 : Int32)]) (st := []) C (c_Fa_isWithin E h1) ml_Fa_79 cm_Fa_isWithin.1 cm_Fa_isWithin.2.1 cm_Fa_isWithin.2.2.1 cm_Fa_isWithin.2.2.2 rfl ⟨by omega, by omega, by omega, by omega⟩ (by exact Nat.le_of_ble_eq_true rfl) rfl dX9_type_4 ?_
  refine g_if_ne (tgt := 17) C dX9_type_7 (by decide) (fun hc => ?_) (fun hc => ?_)
  · have hf := iteF hf hc
    refine g_aload_n C dX9_type_17 rfl ?_
    obtain ⟨x2, hg, hf⟩ := gR_ok hf
    refine g_getR C fl_Fa_40 dX9_type_18 hg ?_
    obtain ⟨x3, hx3, hg, hf⟩ := gI_ok hf
    refine e_getI C fl_Fa_150 dX9_type_21 hx3 hg ?_
    refine g_iload_n C dX9_type_24 rfl ?_
    refine g_iadd C dX9_type_25 ?_
    refine g_sipush (v := (250 : Int32)) C dX9_type_26 (by decide) ?_
    refine g_icmp_le (tgt := 37) C dX9_type_29 (by decide) (fun hc => ?_) (fun hc => ?_)
    · have hf := iteT hf hc
      refine g_iload_n C dX9_type_37 rfl ?_
      refine g_iconst (v := (1 : Int32)) C dX9_type_38 (by decide) ?_
      refine g_isub C dX9_type_39 ?_
      obtain ⟨x4, hx4, hf⟩ := lt_ok hf
      refine e_top hx4 ?_
      refine g_istore (lv' := [some (.ref (E.2.1 + l0)), some (.long l1), none, some (.int l3), some (.int x4)]) C dX9_type_40 (by decide) rfl ?_
      refine g_sub (lv' := [some (.ref (E.2.1 + l0)), some (.long l1), none, none, some (.int x4)]) ⟨rfl, ⟨rfl, ⟨rfl, trivial⟩⟩⟩ ?_
      exact l_Fa_type_b42 C HR  FU hf
    · have hf := iteF hf hc
      refine g_aload_n C dX9_type_32 rfl ?_
      obtain ⟨x5, G6, hg, h1, hf⟩ := vH_ok hf
      refine g_invV (As := []) (st := []) C (c_Fa_full E h1) (rfl : vwCl[9]? = some (y_Fa_full.cls, TX9, 13)) (by decide) hg ml_Fa_129 cm_Fa_full.1 cm_Fa_full.2.1 cm_Fa_full.2.2.1 cm_Fa_full.2.2.2.1 cm_Fa_full.2.2.2.2 rfl ⟨by omega, by omega, by omega, by omega⟩ (by exact Nat.le_of_ble_eq_true rfl) rfl dX9_type_33 ?_
      obtain ⟨rfl, rfl⟩ := rH_ok hf
      exact g_iret HR dX9_type_36
  · have hf := iteT hf hc
    refine g_aload_n C dX9_type_10 rfl ?_
    refine g_bipush (v := (-2 : Int32)) C dX9_type_11 (by decide) ?_
    obtain ⟨x7, G8, hg, h1, hf⟩ := vH_ok hf
    refine g_invV (As := [.int (-2 : Int32)]) (st := []) C (c_Fa_bad E h1) (rfl : vwCl[9]? = some (y_Fa_bad.cls, TX9, 13)) (by decide) hg ml_Fa_83 cm_Fa_bad.1 cm_Fa_bad.2.1 cm_Fa_bad.2.2.1 cm_Fa_bad.2.2.2.1 cm_Fa_bad.2.2.2.2 rfl ⟨by omega, by omega, by omega, by omega⟩ (by exact Nat.le_of_ble_eq_true rfl) rfl dX9_type_13 ?_
    obtain ⟨rfl, rfl⟩ := rH_ok hf
    exact g_iret HR dX9_type_16
theorem c_Fa_type (E : EE) {G : Hp} {l0 : Nat} {l1 : Int64} {l3 : Int32} {r : Int32} {G' : Hp} (h : f_Fa_type G l0 l1 l3 = some (r, G')) : gCt E y_Fa_type cX9_type 5 (some .int) 1 22 0 0 [.ref (E.2.1 + l0), .long l1, .int l3] G (some (.int r)) G' := gCt_of (own := "FavoursGoOff") (ini := false) [some (.ref (E.2.1 + l0)), some (.long l1), none, some (.int l3), none] (by decide +kernel) rfl (fun h => by cases h) (Nat.le_of_ble_eq_true rfl) ⟨rfl, ⟨rfl, ⟨rfl, trivial⟩⟩⟩ (fun X C HR => l_Fa_type C HR h)
set_option maxRecDepth 20000 in
theorem l_Fa_clear {E : EE} {X : CT} {G : Hp} (C : gCx E X cX9_clear "FavoursGoOff" (some .int) 0 0 0 0 false 2) {r : Int32} {G' : Hp} (HR : gRet E X cX9_clear (some .int) 0 0 (some (.int r)) G') {l0 : Nat} (hf : f_Fa_clear G l0 = some (r, G')) : gV E X 0 0 G 0 [some (.ref (E.2.1 + l0)), none] [] := by
  unfold f_Fa_clear at hf
  refine g_aload_n C dX9_clear_0 rfl ?_
  obtain ⟨x1, hg, hf⟩ := gR_ok hf
  refine g_getR C fl_Fa_40 dX9_clear_1 hg ?_
  obtain ⟨x2, hx2, hg, hf⟩ := gI_ok hf
  refine e_getI C fl_Fa_150 dX9_clear_4 hx2 hg ?_
  refine g_istore_n (lv' := [some (.ref (E.2.1 + l0)), some (.int x2)]) C dX9_clear_7 (by decide) rfl ?_
  refine g_aload_n C dX9_clear_8 rfl ?_
  obtain ⟨x3, hg, hf⟩ := gR_ok hf
  refine g_getR C fl_Fa_40 dX9_clear_9 hg ?_
  refine g_iconst (v := (0 : Int32)) C dX9_clear_12 (by decide) ?_
  obtain ⟨G4, hG4, hg, hf⟩ := pI_ok hf
  refine e_putI C fl_Fa_150 dX9_clear_13 hG4 hg (Or.inl rfl) rfl rfl ?_
  refine g_iload_n C dX9_clear_16 rfl ?_
  obtain ⟨rfl, rfl⟩ := rH_ok hf
  exact g_iret HR dX9_clear_17
theorem c_Fa_clear (E : EE) {G : Hp} {l0 : Nat} {r : Int32} {G' : Hp} (h : f_Fa_clear G l0 = some (r, G')) : gCt E y_Fa_clear cX9_clear 2 (some .int) 0 0 0 0 [.ref (E.2.1 + l0)] G (some (.int r)) G' := gCt_of (own := "FavoursGoOff") (ini := false) [some (.ref (E.2.1 + l0)), none] (by decide +kernel) rfl (fun h => by cases h) (Nat.le_of_ble_eq_true rfl) ⟨rfl, trivial⟩ (fun X C HR => l_Fa_clear C HR h)
set_option maxRecDepth 20000 in
theorem l_Fa_read {E : EE} {X : CT} {G : Hp} (C : gCx E X cX9_read "FavoursGoOff" (some .int) 7 264 0 0 false 2) {r : Int32} {G' : Hp} (HR : gRet E X cX9_read (some .int) 0 0 (some (.int r)) G') {l0 : Nat} (hf : f_Fa_read G l0 = some (r, G')) : gV E X 0 0 G 0 [some (.ref (E.2.1 + l0)), none] [] := by
  unfold f_Fa_read at hf
  refine g_aload_n C dX9_read_0 rfl ?_
  obtain ⟨x1, hg, hf⟩ := gR_ok hf
  refine g_getR C fl_Fa_32 dX9_read_1 hg ?_
  obtain ⟨x2, G3, hg, h1, hf⟩ := vH_ok hf
  refine g_invV (As := []) (st := []) C (c_Re_readStreet E h1) (rfl : vwCl[5]? = some (y_Re_readStreet.cls, TX5, 8)) (by decide) hg ml_Fa_158 cm_Re_readStreet.1 cm_Re_readStreet.2.1 cm_Re_readStreet.2.2.1 cm_Re_readStreet.2.2.2.1 cm_Re_readStreet.2.2.2.2 rfl ⟨by omega, by omega, by omega, by omega⟩ (by exact Nat.le_of_ble_eq_true rfl) rfl dX9_read_4 ?_
  refine g_istore_n (lv' := [some (.ref (E.2.1 + l0)), some (.int x2)]) C dX9_read_7 (by decide) rfl ?_
  refine g_aload_n C dX9_read_8 rfl ?_
  obtain ⟨x4, hg, hf⟩ := gR_ok hf
  refine g_getR C fl_Fa_32 dX9_read_9 hg ?_
  obtain ⟨x5, hx5, hg, hf⟩ := gI_ok hf
  refine e_getI C fl_Fa_161 dX9_read_12 hx5 hg ?_
  refine g_iconst (v := (-1 : Int32)) C dX9_read_15 (by decide) ?_
  refine g_icmp_eq (tgt := 30) C dX9_read_16 (by decide) (fun hc => ?_) (fun hc => ?_)
  · have hf := iteT hf hc
    refine g_aload_n C dX9_read_30 rfl ?_
    obtain ⟨x6, hg, hf⟩ := gR_ok hf
    refine g_getR C fl_Fa_26 dX9_read_31 hg ?_
    refine g_aload_n C dX9_read_34 rfl ?_
    obtain ⟨x7, hg, hf⟩ := gR_ok hf
    refine g_getR C fl_Fa_32 dX9_read_35 hg ?_
    obtain ⟨x8, hg, hf⟩ := gR_ok hf
    refine g_getR C fl_Fa_164 dX9_read_38 hg ?_
    obtain ⟨G9, hg, h1, hf⟩ := vP_ok hf
    refine g_invV (As := [.ref (E.2.1 + x8)]) (st := []) C (c_St_takeAllButRates E h1) (rfl : vwCl[6]? = some (y_St_takeAllButRates.cls, TX6, 6)) (by decide) hg ml_Fa_167 cm_St_takeAllButRates.1 cm_St_takeAllButRates.2.1 cm_St_takeAllButRates.2.2.1 cm_St_takeAllButRates.2.2.2.1 cm_St_takeAllButRates.2.2.2.2 rfl ⟨by omega, by omega, by omega, by omega⟩ (by exact Nat.le_of_ble_eq_true rfl) rfl dX9_read_41 ?_
    refine g_aload_n C dX9_read_44 rfl ?_
    obtain ⟨x10, hg, hf⟩ := gR_ok hf
    refine g_getR C fl_Fa_10 dX9_read_45 hg ?_
    refine g_iconst (v := (0 : Int32)) C dX9_read_48 (by decide) ?_
    obtain ⟨G11, hG11, hg, hf⟩ := pI_ok hf
    refine e_putI C fl_Fa_97 dX9_read_49 hG11 hg (Or.inl rfl) rfl rfl ?_
    refine g_aload_n C dX9_read_52 rfl ?_
    obtain ⟨x12, hg, hf⟩ := gR_ok hf
    refine g_getR C fl_Fa_58 dX9_read_53 hg ?_
    refine g_iconst (v := (1 : Int32)) C dX9_read_56 (by decide) ?_
    obtain ⟨G13, hG13, hg, hf⟩ := pI_ok hf
    refine e_putI C fl_Fa_100 dX9_read_57 hG13 hg (Or.inl rfl) (by decide) (by decide) ?_
    refine g_iload_n C dX9_read_60 rfl ?_
    obtain ⟨rfl, rfl⟩ := rH_ok hf
    exact g_iret HR dX9_read_61
  · have hf := iteF hf hc
    refine g_bipush (v := (-10 : Int32)) C dX9_read_19 (by decide) ?_
    refine g_aload_n C dX9_read_21 rfl ?_
    obtain ⟨x14, hg, hf⟩ := gR_ok hf
    refine g_getR C fl_Fa_32 dX9_read_22 hg ?_
    obtain ⟨x15, hx15, hg, hf⟩ := gI_ok hf
    refine e_getI C fl_Fa_161 dX9_read_25 hx15 hg ?_
    refine g_isub C dX9_read_28 ?_
    obtain ⟨rfl, rfl⟩ := rH_ok hf
    exact g_iret HR dX9_read_29
theorem c_Fa_read (E : EE) {G : Hp} {l0 : Nat} {r : Int32} {G' : Hp} (h : f_Fa_read G l0 = some (r, G')) : gCt E y_Fa_read cX9_read 2 (some .int) 7 264 0 0 [.ref (E.2.1 + l0)] G (some (.int r)) G' := gCt_of (own := "FavoursGoOff") (ini := false) [some (.ref (E.2.1 + l0)), none] (by decide +kernel) rfl (fun h => by cases h) (Nat.le_of_ble_eq_true rfl) ⟨rfl, trivial⟩ (fun X C HR => l_Fa_read C HR h)
set_option maxRecDepth 20000 in
theorem l_Fa_value_b21 {E : EE} {X : CT} {G : Hp} (C : gCx E X cX9_value "FavoursGoOff" (some .int) 3 72 0 0 false 3) {r : Int32} {G' : Hp} (HR : gRet E X cX9_value (some .int) 0 0 (some (.int r)) G') {l0 : Nat} (hf : f_Fa_value_b21 G l0 = some (r, G')) : gV E X 0 0 G 21 [some (.ref (E.2.1 + l0)), none, none] [] := by
  unfold f_Fa_value_b21 at hf
  refine g_aload_n C dX9_value_21 rfl ?_
  refine g_bipush (v := (-2 : Int32)) C dX9_value_22 (by decide) ?_
  obtain ⟨x1, G2, hg, h1, hf⟩ := vH_ok hf
  refine g_invV (As := [.int (-2 : Int32)]) (st := []) C (c_Fa_bad E h1) (rfl : vwCl[9]? = some (y_Fa_bad.cls, TX9, 13)) (by decide) hg ml_Fa_83 cm_Fa_bad.1 cm_Fa_bad.2.1 cm_Fa_bad.2.2.1 cm_Fa_bad.2.2.2.1 cm_Fa_bad.2.2.2.2 rfl ⟨by omega, by omega, by omega, by omega⟩ (by exact Nat.le_of_ble_eq_true rfl) rfl dX9_value_24 ?_
  obtain ⟨rfl, rfl⟩ := rH_ok hf
  exact g_iret HR dX9_value_27
set_option maxRecDepth 20000 in
theorem l_Fa_value {E : EE} {X : CT} {G : Hp} (C : gCx E X cX9_value "FavoursGoOff" (some .int) 3 72 0 0 false 3) {r : Int32} {G' : Hp} (HR : gRet E X cX9_value (some .int) 0 0 (some (.int r)) G') {l0 : Nat} {l1 : Int32} {l2 : Int32} (hf : f_Fa_value G l0 l1 l2 = some (r, G')) : gV E X 0 0 G 0 [some (.ref (E.2.1 + l0)), some (.int l1), some (.int l2)] [] := by
  unfold f_Fa_value at hf
  refine g_aload_n C dX9_value_0 rfl ?_
  obtain ⟨x1, hg, hf⟩ := gR_ok hf
  refine g_getR C fl_Fa_26 dX9_value_1 hg ?_
  obtain ⟨x2, hg, hf⟩ := gR_ok hf
  refine g_getR C fl_Fa_122 dX9_value_4 hg ?_
  refine g_iload_n C dX9_value_7 rfl ?_
  obtain ⟨x3, hg, h1, hf⟩ := vP_ok hf
  refine g_invV (As := [.int l1]) (st := []) C (c_Ta_has E h1) (rfl : vwCl[7]? = some (y_Ta_has.cls, TX7, 3)) (by decide) hg ml_Fa_104 cm_Ta_has.1 cm_Ta_has.2.1 cm_Ta_has.2.2.1 cm_Ta_has.2.2.2.1 cm_Ta_has.2.2.2.2 rfl ⟨by omega, by omega, by omega, by omega⟩ (by exact Nat.le_of_ble_eq_true rfl) rfl dX9_value_8 ?_
  refine g_if_eq (tgt := 21) C dX9_value_11 (by decide) (fun hc => ?_) (fun hc => ?_)
  · have hf := iteT hf hc
    refine g_sub (lv' := [some (.ref (E.2.1 + l0)), none, none]) ⟨rfl, trivial⟩ ?_
    exact l_Fa_value_b21 C HR  hf
  · have hf := iteF hf hc
    refine g_iload_n C dX9_value_14 rfl ?_
    obtain ⟨x4, h1, hf⟩ := cP_ok hf
    refine g_invS (As := [.int l2]) (st := []) C (c_Fa_isDay E h1) ml_Fa_119 cm_Fa_isDay.1 cm_Fa_isDay.2.1 cm_Fa_isDay.2.2.1 cm_Fa_isDay.2.2.2 rfl ⟨by omega, by omega, by omega, by omega⟩ (by exact Nat.le_of_ble_eq_true rfl) rfl dX9_value_15 ?_
    refine g_if_ne (tgt := 28) C dX9_value_18 (by decide) (fun hc => ?_) (fun hc => ?_)
    · have hf := iteF hf hc
      refine g_aload_n C dX9_value_28 rfl ?_
      obtain ⟨x5, hg, hf⟩ := gR_ok hf
      refine g_getR C fl_Fa_26 dX9_value_29 hg ?_
      refine g_iload_n C dX9_value_32 rfl ?_
      refine g_iload_n C dX9_value_33 rfl ?_
      obtain ⟨x6, hg, h1, hf⟩ := vP_ok hf
      refine g_invV (As := [.int l1, .int l2]) (st := []) C (c_St_valueOn E h1) (rfl : vwCl[6]? = some (y_St_valueOn.cls, TX6, 6)) (by decide) hg ml_Fa_171 cm_St_valueOn.1 cm_St_valueOn.2.1 cm_St_valueOn.2.2.1 cm_St_valueOn.2.2.2.1 cm_St_valueOn.2.2.2.2 rfl ⟨by omega, by omega, by omega, by omega⟩ (by exact Nat.le_of_ble_eq_true rfl) rfl dX9_value_34 ?_
      obtain ⟨rfl, rfl⟩ := rH_ok hf
      exact g_iret HR dX9_value_37
    · have hf := iteT hf hc
      refine g_sub (lv' := [some (.ref (E.2.1 + l0)), none, none]) ⟨rfl, trivial⟩ ?_
      exact l_Fa_value_b21 C HR  hf
theorem c_Fa_value (E : EE) {G : Hp} {l0 : Nat} {l1 : Int32} {l2 : Int32} {r : Int32} {G' : Hp} (h : f_Fa_value G l0 l1 l2 = some (r, G')) : gCt E y_Fa_value cX9_value 3 (some .int) 3 72 0 0 [.ref (E.2.1 + l0), .int l1, .int l2] G (some (.int r)) G' := gCt_of (own := "FavoursGoOff") (ini := false) [some (.ref (E.2.1 + l0)), some (.int l1), some (.int l2)] (by decide +kernel) rfl (fun h => by cases h) (Nat.le_of_ble_eq_true rfl) ⟨rfl, ⟨rfl, ⟨rfl, trivial⟩⟩⟩ (fun X C HR => l_Fa_value C HR h)
set_option maxRecDepth 20000 in
theorem l_Fa_of {E : EE} {X : CT} {G : Hp} (C : gCx E X cX9_of "FavoursGoOff" (some .int) 2 46 0 0 false 2) {r : Int32} {G' : Hp} (HR : gRet E X cX9_of (some .int) 0 0 (some (.int r)) G') {l0 : Nat} {l1 : Int32} (hf : f_Fa_of G l0 l1 = some (r, G')) : gV E X 0 0 G 0 [some (.ref (E.2.1 + l0)), some (.int l1)] [] := by
  unfold f_Fa_of at hf
  refine g_aload_n C dX9_of_0 rfl ?_
  obtain ⟨x1, hg, hf⟩ := gR_ok hf
  refine g_getR C fl_Fa_26 dX9_of_1 hg ?_
  obtain ⟨x2, hg, hf⟩ := gR_ok hf
  refine g_getR C fl_Fa_122 dX9_of_4 hg ?_
  refine g_iload_n C dX9_of_7 rfl ?_
  obtain ⟨x3, hg, h1, hf⟩ := vP_ok hf
  refine g_invV (As := [.int l1]) (st := []) C (c_Ta_has E h1) (rfl : vwCl[7]? = some (y_Ta_has.cls, TX7, 3)) (by decide) hg ml_Fa_104 cm_Ta_has.1 cm_Ta_has.2.1 cm_Ta_has.2.2.1 cm_Ta_has.2.2.2.1 cm_Ta_has.2.2.2.2 rfl ⟨by omega, by omega, by omega, by omega⟩ (by exact Nat.le_of_ble_eq_true rfl) rfl dX9_of_8 ?_
  refine g_if_ne (tgt := 21) C dX9_of_11 (by decide) (fun hc => ?_) (fun hc => ?_)
  · have hf := iteF hf hc
    refine g_aload_n C dX9_of_21 rfl ?_
    obtain ⟨x4, hg, hf⟩ := gR_ok hf
    refine g_getR C fl_Fa_26 dX9_of_22 hg ?_
    obtain ⟨x5, hg, hf⟩ := gR_ok hf
    refine g_getR C fl_Fa_122 dX9_of_25 hg ?_
    refine g_iload_n C dX9_of_28 rfl ?_
    refine g_iconst (v := (2 : Int32)) C dX9_of_29 (by decide) ?_
    obtain ⟨x6, hg, h1, hf⟩ := vP_ok hf
    refine g_invV (As := [.int l1, .int (2 : Int32)]) (st := []) C (c_Ta_at E h1) (rfl : vwCl[7]? = some (y_Ta_at.cls, TX7, 3)) (by decide) hg ml_Fa_108 cm_Ta_at.1 cm_Ta_at.2.1 cm_Ta_at.2.2.1 cm_Ta_at.2.2.2.1 cm_Ta_at.2.2.2.2 rfl ⟨by omega, by omega, by omega, by omega⟩ (by exact Nat.le_of_ble_eq_true rfl) rfl dX9_of_30 ?_
    obtain ⟨rfl, rfl⟩ := rH_ok hf
    exact g_iret HR dX9_of_33
  · have hf := iteT hf hc
    refine g_aload_n C dX9_of_14 rfl ?_
    refine g_bipush (v := (-2 : Int32)) C dX9_of_15 (by decide) ?_
    obtain ⟨x7, G8, hg, h1, hf⟩ := vH_ok hf
    refine g_invV (As := [.int (-2 : Int32)]) (st := []) C (c_Fa_bad E h1) (rfl : vwCl[9]? = some (y_Fa_bad.cls, TX9, 13)) (by decide) hg ml_Fa_83 cm_Fa_bad.1 cm_Fa_bad.2.1 cm_Fa_bad.2.2.1 cm_Fa_bad.2.2.2.1 cm_Fa_bad.2.2.2.2 rfl ⟨by omega, by omega, by omega, by omega⟩ (by exact Nat.le_of_ble_eq_true rfl) rfl dX9_of_17 ?_
    obtain ⟨rfl, rfl⟩ := rH_ok hf
    exact g_iret HR dX9_of_20
theorem c_Fa_of (E : EE) {G : Hp} {l0 : Nat} {l1 : Int32} {r : Int32} {G' : Hp} (h : f_Fa_of G l0 l1 = some (r, G')) : gCt E y_Fa_of cX9_of 2 (some .int) 2 46 0 0 [.ref (E.2.1 + l0), .int l1] G (some (.int r)) G' := gCt_of (own := "FavoursGoOff") (ini := false) [some (.ref (E.2.1 + l0)), some (.int l1)] (by decide +kernel) rfl (fun h => by cases h) (Nat.le_of_ble_eq_true rfl) ⟨rfl, ⟨rfl, trivial⟩⟩ (fun X C HR => l_Fa_of C HR h)
set_option maxRecDepth 20000 in
theorem l_Fa_no {E : EE} {X : CT} {G : Hp} (C : gCx E X cX9_no "FavoursGoOff" (some .int) 0 0 0 0 false 2) {r : Int32} {G' : Hp} (HR : gRet E X cX9_no (some .int) 0 0 (some (.int r)) G') {l0 : Nat} {l1 : Int32} (hf : f_Fa_no G l0 l1 = some (r, G')) : gV E X 0 0 G 0 [some (.ref (E.2.1 + l0)), some (.int l1)] [] := by
  unfold f_Fa_no at hf
  refine g_aload_n C dX9_no_0 rfl ?_
  refine g_dup C dX9_no_1 rfl ?_
  obtain ⟨x1, hx1, hg, hf⟩ := gI_ok hf
  refine e_getI C fl_Fa_303 dX9_no_2 hx1 hg ?_
  refine g_iconst (v := (1 : Int32)) C dX9_no_5 (by decide) ?_
  refine g_iadd C dX9_no_6 ?_
  obtain ⟨G2, hG2, hg, hf⟩ := pI_ok hf
  refine e_putI C fl_Fa_303 dX9_no_7 hG2 hg (Or.inl rfl) rfl rfl ?_
  refine g_iload_n C dX9_no_10 rfl ?_
  obtain ⟨rfl, rfl⟩ := rH_ok hf
  exact g_iret HR dX9_no_11
theorem c_Fa_no (E : EE) {G : Hp} {l0 : Nat} {l1 : Int32} {r : Int32} {G' : Hp} (h : f_Fa_no G l0 l1 = some (r, G')) : gCt E y_Fa_no cX9_no 2 (some .int) 0 0 0 0 [.ref (E.2.1 + l0), .int l1] G (some (.int r)) G' := gCt_of (own := "FavoursGoOff") (ini := false) [some (.ref (E.2.1 + l0)), some (.int l1)] (by decide +kernel) rfl (fun h => by cases h) (Nat.le_of_ble_eq_true rfl) ⟨rfl, ⟨rfl, trivial⟩⟩ (fun X C HR => l_Fa_no C HR h)
set_option maxRecDepth 20000 in
theorem l_Fa_pass_b44 {E : EE} {X : CT} {G : Hp} (C : gCx E X cX9_pass "FavoursGoOff" (some .int) 4 93 0 0 false 4) {r : Int32} {G' : Hp} (HR : gRet E X cX9_pass (some .int) 0 0 (some (.int r)) G') {l0 : Nat} (hf : f_Fa_pass_b44 G l0 = some (r, G')) : gV E X 0 0 G 44 [some (.ref (E.2.1 + l0)), none, none, none] [] := by
  unfold f_Fa_pass_b44 at hf
  refine g_aload_n C dX9_pass_44 rfl ?_
  refine g_bipush (v := (-10 : Int32)) C dX9_pass_45 (by decide) ?_
  obtain ⟨x1, G2, hg, h1, hf⟩ := vH_ok hf
  refine g_invV (As := [.int (-10 : Int32)]) (st := []) C (c_Fa_bad E h1) (rfl : vwCl[9]? = some (y_Fa_bad.cls, TX9, 13)) (by decide) hg ml_Fa_83 cm_Fa_bad.1 cm_Fa_bad.2.1 cm_Fa_bad.2.2.1 cm_Fa_bad.2.2.2.1 cm_Fa_bad.2.2.2.2 rfl ⟨by omega, by omega, by omega, by omega⟩ (by exact Nat.le_of_ble_eq_true rfl) rfl dX9_pass_47 ?_
  obtain ⟨rfl, rfl⟩ := rH_ok hf
  exact g_iret HR dX9_pass_50
set_option maxRecDepth 20000 in
theorem l_Fa_pass_b78 {E : EE} {X : CT} {G : Hp} (C : gCx E X cX9_pass "FavoursGoOff" (some .int) 4 93 0 0 false 4) {r : Int32} {G' : Hp} (HR : gRet E X cX9_pass (some .int) 0 0 (some (.int r)) G') {l0 : Nat} (hf : f_Fa_pass_b78 G l0 = some (r, G')) : gV E X 0 0 G 78 [some (.ref (E.2.1 + l0)), none, none, none] [] := by
  unfold f_Fa_pass_b78 at hf
  refine g_aload_n C dX9_pass_78 rfl ?_
  refine g_bipush (v := (-20 : Int32)) C dX9_pass_79 (by decide) ?_
  obtain ⟨x1, G2, hg, h1, hf⟩ := vH_ok hf
  refine g_invV (As := [.int (-20 : Int32)]) (st := []) C (c_Fa_no E h1) (rfl : vwCl[9]? = some (y_Fa_no.cls, TX9, 13)) (by decide) hg ml_Fa_177 cm_Fa_no.1 cm_Fa_no.2.1 cm_Fa_no.2.2.1 cm_Fa_no.2.2.2.1 cm_Fa_no.2.2.2.2 rfl ⟨by omega, by omega, by omega, by omega⟩ (by exact Nat.le_of_ble_eq_true rfl) rfl dX9_pass_81 ?_
  obtain ⟨rfl, rfl⟩ := rH_ok hf
  exact g_iret HR dX9_pass_84
set_option maxRecDepth 20000 in
theorem l_Fa_pass_b145 {E : EE} {X : CT} {G : Hp} (C : gCx E X cX9_pass "FavoursGoOff" (some .int) 4 93 0 0 false 4) {r : Int32} {G' : Hp} (HR : gRet E X cX9_pass (some .int) 0 0 (some (.int r)) G') {s0 : Int32} (hf : f_Fa_pass_b145 G s0 = some (r, G')) : gV E X 0 0 G 145 [none, none, none, none] [.int s0] := by
  unfold f_Fa_pass_b145 at hf
  obtain ⟨rfl, rfl⟩ := rH_ok hf
  exact g_iret HR dX9_pass_145
set_option maxRecDepth 20000 in
theorem l_Fa_pass_b125 {E : EE} {X : CT} {G : Hp} (C : gCx E X cX9_pass "FavoursGoOff" (some .int) 4 93 0 0 false 4) {r : Int32} {G' : Hp} (HR : gRet E X cX9_pass (some .int) 0 0 (some (.int r)) G') {l0 : Nat} {l3 : Int32} {s0 : Nat} {s1 : Int32} {s2 : Int32} {s3 : Int32} (hf : f_Fa_pass_b125 G l0 l3 s0 s1 s2 s3 = some (r, G')) : gV E X 0 0 G 125 [some (.ref (E.2.1 + l0)), none, none, some (.int l3)] [.int s3, .int s2, .int s1, .ref (E.2.1 + s0)] := by
  unfold f_Fa_pass_b125 at hf
  obtain ⟨G1, hg, h1, hf⟩ := vP_ok hf
  refine g_invV (As := [.int s1, .int s2, .int s3]) (st := []) C (c_Ta_put E h1) (rfl : vwCl[7]? = some (y_Ta_put.cls, TX7, 3)) (by decide) hg ml_Fa_112 cm_Ta_put.1 cm_Ta_put.2.1 cm_Ta_put.2.2.1 cm_Ta_put.2.2.2.1 cm_Ta_put.2.2.2.2 rfl ⟨by omega, by omega, by omega, by omega⟩ (by exact Nat.le_of_ble_eq_true rfl) rfl dX9_pass_125 ?_
  refine g_aload_n C dX9_pass_128 rfl ?_
  obtain ⟨x2, hg, hf⟩ := gR_ok hf
  refine g_getR C fl_Fa_58 dX9_pass_129 hg ?_
  refine g_iconst (v := (1 : Int32)) C dX9_pass_132 (by decide) ?_
  obtain ⟨G3, hG3, hg, hf⟩ := pI_ok hf
  refine e_putI C fl_Fa_100 dX9_pass_133 hG3 hg (Or.inl rfl) (by decide) (by decide) ?_
  refine g_iload_n C dX9_pass_136 rfl ?_
  refine g_if_eq (tgt := 144) C dX9_pass_137 (by decide) (fun hc => ?_) (fun hc => ?_)
  · have hf := iteT hf hc
    refine g_iconst (v := (1 : Int32)) C dX9_pass_144 (by decide) ?_
    refine g_sub (lv' := [none, none, none, none]) trivial ?_
    exact l_Fa_pass_b145 C HR  hf
  · have hf := iteF hf hc
    refine g_iconst (v := (0 : Int32)) C dX9_pass_140 (by decide) ?_
    refine g_goto (tgt := 145) C dX9_pass_141 (by decide) ?_
    refine g_sub (lv' := [none, none, none, none]) trivial ?_
    exact l_Fa_pass_b145 C HR  hf
set_option maxRecDepth 20000 in
theorem l_Fa_pass_b106 {E : EE} {X : CT} {G : Hp} (C : gCx E X cX9_pass "FavoursGoOff" (some .int) 4 93 0 0 false 4) {r : Int32} {G' : Hp} (HR : gRet E X cX9_pass (some .int) 0 0 (some (.int r)) G') {l0 : Nat} {l1 : Int32} {l2 : Int32} {s0 : Int32} (hf : f_Fa_pass_b106 G l0 l1 l2 s0 = some (r, G')) : gV E X 0 0 G 106 [some (.ref (E.2.1 + l0)), some (.int l1), some (.int l2), none] [.int s0] := by
  unfold f_Fa_pass_b106 at hf
  refine g_istore_n (lv' := [some (.ref (E.2.1 + l0)), some (.int l1), some (.int l2), some (.int s0)]) C dX9_pass_106 (by decide) rfl ?_
  refine g_aload_n C dX9_pass_107 rfl ?_
  obtain ⟨x1, hg, hf⟩ := gR_ok hf
  refine g_getR C fl_Fa_26 dX9_pass_108 hg ?_
  obtain ⟨x2, hg, hf⟩ := gR_ok hf
  refine g_getR C fl_Fa_122 dX9_pass_111 hg ?_
  refine g_iload_n C dX9_pass_114 rfl ?_
  refine g_iconst (v := (2 : Int32)) C dX9_pass_115 (by decide) ?_
  refine g_iload_n C dX9_pass_116 rfl ?_
  refine g_if_eq (tgt := 124) C dX9_pass_117 (by decide) (fun hc => ?_) (fun hc => ?_)
  · have hf := iteT hf hc
    refine g_iload_n C dX9_pass_124 rfl ?_
    refine g_sub (lv' := [some (.ref (E.2.1 + l0)), none, none, some (.int s0)]) ⟨rfl, ⟨rfl, trivial⟩⟩ ?_
    exact l_Fa_pass_b125 C HR  hf
  · have hf := iteF hf hc
    refine g_iconst (v := (-1 : Int32)) C dX9_pass_120 (by decide) ?_
    refine g_goto (tgt := 125) C dX9_pass_121 (by decide) ?_
    refine g_sub (lv' := [some (.ref (E.2.1 + l0)), none, none, some (.int s0)]) ⟨rfl, ⟨rfl, trivial⟩⟩ ?_
    exact l_Fa_pass_b125 C HR  hf
set_option maxRecDepth 20000 in
theorem l_Fa_pass {E : EE} {X : CT} {G : Hp} (C : gCx E X cX9_pass "FavoursGoOff" (some .int) 4 93 0 0 false 4) {r : Int32} {G' : Hp} (HR : gRet E X cX9_pass (some .int) 0 0 (some (.int r)) G') {l0 : Nat} {l1 : Int32} {l2 : Int32} (hf : f_Fa_pass G l0 l1 l2 = some (r, G')) : gV E X 0 0 G 0 [some (.ref (E.2.1 + l0)), some (.int l1), some (.int l2), none] [] := by
  unfold f_Fa_pass at hf
  refine g_aload_n C dX9_pass_0 rfl ?_
  obtain ⟨x1, hg, hf⟩ := gR_ok hf
  refine g_getR C fl_Fa_26 dX9_pass_1 hg ?_
  obtain ⟨x2, hg, hf⟩ := gR_ok hf
  refine g_getR C fl_Fa_122 dX9_pass_4 hg ?_
  refine g_iload_n C dX9_pass_7 rfl ?_
  obtain ⟨x3, hg, h1, hf⟩ := vP_ok hf
  refine g_invV (As := [.int l1]) (st := []) C (c_Ta_has E h1) (rfl : vwCl[7]? = some (y_Ta_has.cls, TX7, 3)) (by decide) hg ml_Fa_104 cm_Ta_has.1 cm_Ta_has.2.1 cm_Ta_has.2.2.1 cm_Ta_has.2.2.2.1 cm_Ta_has.2.2.2.2 rfl ⟨by omega, by omega, by omega, by omega⟩ (by exact Nat.le_of_ble_eq_true rfl) rfl dX9_pass_8 ?_
  refine g_if_eq (tgt := 44) C dX9_pass_11 (by decide) (fun hc => ?_) (fun hc => ?_)
  · have hf := iteT hf hc
    refine g_sub (lv' := [some (.ref (E.2.1 + l0)), none, none, none]) ⟨rfl, trivial⟩ ?_
    exact l_Fa_pass_b44 C HR  hf
  · have hf := iteF hf hc
    refine g_aload_n C dX9_pass_14 rfl ?_
    obtain ⟨x4, hg, hf⟩ := gR_ok hf
    refine g_getR C fl_Fa_26 dX9_pass_15 hg ?_
    obtain ⟨x5, hg, hf⟩ := gR_ok hf
    refine g_getR C fl_Fa_87 dX9_pass_18 hg ?_
    refine g_iload_n C dX9_pass_21 rfl ?_
    obtain ⟨x6, hg, h1, hf⟩ := vP_ok hf
    refine g_invV (As := [.int l2]) (st := []) C (c_Ta_has E h1) (rfl : vwCl[7]? = some (y_Ta_has.cls, TX7, 3)) (by decide) hg ml_Fa_104 cm_Ta_has.1 cm_Ta_has.2.1 cm_Ta_has.2.2.1 cm_Ta_has.2.2.2.1 cm_Ta_has.2.2.2.2 rfl ⟨by omega, by omega, by omega, by omega⟩ (by exact Nat.le_of_ble_eq_true rfl) rfl dX9_pass_22 ?_
    refine g_if_eq (tgt := 44) C dX9_pass_25 (by decide) (fun hc => ?_) (fun hc => ?_)
    · have hf := iteT hf hc
      refine g_sub (lv' := [some (.ref (E.2.1 + l0)), none, none, none]) ⟨rfl, trivial⟩ ?_
      exact l_Fa_pass_b44 C HR  hf
    · have hf := iteF hf hc
      refine g_aload_n C dX9_pass_28 rfl ?_
      obtain ⟨x7, hg, hf⟩ := gR_ok hf
      refine g_getR C fl_Fa_26 dX9_pass_29 hg ?_
      obtain ⟨x8, hg, hf⟩ := gR_ok hf
      refine g_getR C fl_Fa_122 dX9_pass_32 hg ?_
      refine g_iload_n C dX9_pass_35 rfl ?_
      refine g_iconst (v := (2 : Int32)) C dX9_pass_36 (by decide) ?_
      obtain ⟨x9, hg, h1, hf⟩ := vP_ok hf
      refine g_invV (As := [.int l1, .int (2 : Int32)]) (st := []) C (c_Ta_at E h1) (rfl : vwCl[7]? = some (y_Ta_at.cls, TX7, 3)) (by decide) hg ml_Fa_108 cm_Ta_at.1 cm_Ta_at.2.1 cm_Ta_at.2.2.1 cm_Ta_at.2.2.2.1 cm_Ta_at.2.2.2.2 rfl ⟨by omega, by omega, by omega, by omega⟩ (by exact Nat.le_of_ble_eq_true rfl) rfl dX9_pass_37 ?_
      refine g_iload_n C dX9_pass_40 rfl ?_
      refine g_icmp_ne (tgt := 51) C dX9_pass_41 (by decide) (fun hc => ?_) (fun hc => ?_)
      · have hf := iteF hf hc
        refine g_aload_n C dX9_pass_51 rfl ?_
        obtain ⟨x10, hg, hf⟩ := gR_ok hf
        refine g_getR C fl_Fa_26 dX9_pass_52 hg ?_
        refine g_iload_n C dX9_pass_55 rfl ?_
        obtain ⟨x11, hg, h1, hf⟩ := vP_ok hf
        refine g_invV (As := [.int l1]) (st := []) C (c_St_valueNow E h1) (rfl : vwCl[6]? = some (y_St_valueNow.cls, TX6, 6)) (by decide) hg ml_Fa_174 cm_St_valueNow.1 cm_St_valueNow.2.1 cm_St_valueNow.2.2.1 cm_St_valueNow.2.2.2.1 cm_St_valueNow.2.2.2.2 rfl ⟨by omega, by omega, by omega, by omega⟩ (by exact Nat.le_of_ble_eq_true rfl) rfl dX9_pass_56 ?_
        refine g_if_eq (tgt := 78) C dX9_pass_59 (by decide) (fun hc => ?_) (fun hc => ?_)
        · have hf := iteT hf hc
          refine g_sub (lv' := [some (.ref (E.2.1 + l0)), none, none, none]) ⟨rfl, trivial⟩ ?_
          exact l_Fa_pass_b78 C HR  hf
        · have hf := iteF hf hc
          refine g_aload_n C dX9_pass_62 rfl ?_
          obtain ⟨x12, hg, hf⟩ := gR_ok hf
          refine g_getR C fl_Fa_26 dX9_pass_63 hg ?_
          obtain ⟨x13, hg, hf⟩ := gR_ok hf
          refine g_getR C fl_Fa_122 dX9_pass_66 hg ?_
          refine g_iload_n C dX9_pass_69 rfl ?_
          refine g_iconst (v := (0 : Int32)) C dX9_pass_70 (by decide) ?_
          obtain ⟨x14, hg, h1, hf⟩ := vP_ok hf
          refine g_invV (As := [.int l1, .int (0 : Int32)]) (st := []) C (c_Ta_at E h1) (rfl : vwCl[7]? = some (y_Ta_at.cls, TX7, 3)) (by decide) hg ml_Fa_108 cm_Ta_at.1 cm_Ta_at.2.1 cm_Ta_at.2.2.1 cm_Ta_at.2.2.2.1 cm_Ta_at.2.2.2.2 rfl ⟨by omega, by omega, by omega, by omega⟩ (by exact Nat.le_of_ble_eq_true rfl) rfl dX9_pass_71 ?_
          refine g_iconst (v := (2 : Int32)) C dX9_pass_74 (by decide) ?_
          refine g_icmp_ne (tgt := 85) C dX9_pass_75 (by decide) (fun hc => ?_) (fun hc => ?_)
          · have hf := iteF hf hc
            refine g_aload_n C dX9_pass_85 rfl ?_
            obtain ⟨x15, hg, hf⟩ := gR_ok hf
            refine g_getR C fl_Fa_26 dX9_pass_86 hg ?_
            obtain ⟨x16, hg, hf⟩ := gR_ok hf
            refine g_getR C fl_Fa_122 dX9_pass_89 hg ?_
            refine g_iload_n C dX9_pass_92 rfl ?_
            refine g_iconst (v := (1 : Int32)) C dX9_pass_93 (by decide) ?_
            obtain ⟨x17, hg, h1, hf⟩ := vP_ok hf
            refine g_invV (As := [.int l1, .int (1 : Int32)]) (st := []) C (c_Ta_at E h1) (rfl : vwCl[7]? = some (y_Ta_at.cls, TX7, 3)) (by decide) hg ml_Fa_108 cm_Ta_at.1 cm_Ta_at.2.1 cm_Ta_at.2.2.1 cm_Ta_at.2.2.2.1 cm_Ta_at.2.2.2.2 rfl ⟨by omega, by omega, by omega, by omega⟩ (by exact Nat.le_of_ble_eq_true rfl) rfl dX9_pass_94 ?_
            refine g_iload_n C dX9_pass_97 rfl ?_
            refine g_icmp_ne (tgt := 105) C dX9_pass_98 (by decide) (fun hc => ?_) (fun hc => ?_)
            · have hf := iteF hf hc
              refine g_iconst (v := (0 : Int32)) C dX9_pass_105 (by decide) ?_
              refine g_sub (lv' := [some (.ref (E.2.1 + l0)), some (.int l1), some (.int l2), none]) ⟨rfl, ⟨rfl, ⟨rfl, trivial⟩⟩⟩ ?_
              exact l_Fa_pass_b106 C HR  hf
            · have hf := iteT hf hc
              refine g_iconst (v := (1 : Int32)) C dX9_pass_101 (by decide) ?_
              refine g_goto (tgt := 106) C dX9_pass_102 (by decide) ?_
              refine g_sub (lv' := [some (.ref (E.2.1 + l0)), some (.int l1), some (.int l2), none]) ⟨rfl, ⟨rfl, ⟨rfl, trivial⟩⟩⟩ ?_
              exact l_Fa_pass_b106 C HR  hf
          · have hf := iteT hf hc
            refine g_sub (lv' := [some (.ref (E.2.1 + l0)), none, none, none]) ⟨rfl, trivial⟩ ?_
            exact l_Fa_pass_b78 C HR  hf
      · have hf := iteT hf hc
        refine g_sub (lv' := [some (.ref (E.2.1 + l0)), none, none, none]) ⟨rfl, trivial⟩ ?_
        exact l_Fa_pass_b44 C HR  hf
theorem c_Fa_pass (E : EE) {G : Hp} {l0 : Nat} {l1 : Int32} {l2 : Int32} {r : Int32} {G' : Hp} (h : f_Fa_pass G l0 l1 l2 = some (r, G')) : gCt E y_Fa_pass cX9_pass 4 (some .int) 4 93 0 0 [.ref (E.2.1 + l0), .int l1, .int l2] G (some (.int r)) G' := gCt_of (own := "FavoursGoOff") (ini := false) [some (.ref (E.2.1 + l0)), some (.int l1), some (.int l2), none] (by decide +kernel) rfl (fun h => by cases h) (Nat.le_of_ble_eq_true rfl) ⟨rfl, ⟨rfl, ⟨rfl, trivial⟩⟩⟩ (fun X C HR => l_Fa_pass C HR h)
set_option maxRecDepth 20000 in
theorem l_Fa_join_b33 {E : EE} {X : CT} {G : Hp} (C : gCx E X cX9_join "FavoursGoOff" (some .int) 4 93 0 0 false 3) {r : Int32} {G' : Hp} (HR : gRet E X cX9_join (some .int) 0 0 (some (.int r)) G') {l0 : Nat} (hf : f_Fa_join_b33 G l0 = some (r, G')) : gV E X 0 0 G 33 [some (.ref (E.2.1 + l0)), none, none] [] := by
  unfold f_Fa_join_b33 at hf
  refine g_aload_n C dX9_join_33 rfl ?_
  refine g_bipush (v := (-2 : Int32)) C dX9_join_34 (by decide) ?_
  obtain ⟨x1, G2, hg, h1, hf⟩ := vH_ok hf
  refine g_invV (As := [.int (-2 : Int32)]) (st := []) C (c_Fa_bad E h1) (rfl : vwCl[9]? = some (y_Fa_bad.cls, TX9, 13)) (by decide) hg ml_Fa_83 cm_Fa_bad.1 cm_Fa_bad.2.1 cm_Fa_bad.2.2.1 cm_Fa_bad.2.2.2.1 cm_Fa_bad.2.2.2.2 rfl ⟨by omega, by omega, by omega, by omega⟩ (by exact Nat.le_of_ble_eq_true rfl) rfl dX9_join_36 ?_
  obtain ⟨rfl, rfl⟩ := rH_ok hf
  exact g_iret HR dX9_join_39
set_option maxRecDepth 20000 in
theorem l_Fa_join_b74 {E : EE} {X : CT} {G : Hp} (C : gCx E X cX9_join "FavoursGoOff" (some .int) 4 93 0 0 false 3) {r : Int32} {G' : Hp} (HR : gRet E X cX9_join (some .int) 0 0 (some (.int r)) G') {l0 : Nat} (hf : f_Fa_join_b74 G l0 = some (r, G')) : gV E X 0 0 G 74 [some (.ref (E.2.1 + l0)), none, none] [] := by
  unfold f_Fa_join_b74 at hf
  refine g_aload_n C dX9_join_74 rfl ?_
  refine g_bipush (v := (-3 : Int32)) C dX9_join_75 (by decide) ?_
  obtain ⟨x1, G2, hg, h1, hf⟩ := vH_ok hf
  refine g_invV (As := [.int (-3 : Int32)]) (st := []) C (c_Fa_no E h1) (rfl : vwCl[9]? = some (y_Fa_no.cls, TX9, 13)) (by decide) hg ml_Fa_177 cm_Fa_no.1 cm_Fa_no.2.1 cm_Fa_no.2.2.1 cm_Fa_no.2.2.2.1 cm_Fa_no.2.2.2.2 rfl ⟨by omega, by omega, by omega, by omega⟩ (by exact Nat.le_of_ble_eq_true rfl) rfl dX9_join_77 ?_
  obtain ⟨rfl, rfl⟩ := rH_ok hf
  exact g_iret HR dX9_join_80
set_option maxRecDepth 20000 in
theorem l_Fa_join {E : EE} {X : CT} {G : Hp} (C : gCx E X cX9_join "FavoursGoOff" (some .int) 4 93 0 0 false 3) {r : Int32} {G' : Hp} (HR : gRet E X cX9_join (some .int) 0 0 (some (.int r)) G') {l0 : Nat} {l1 : Int32} {l2 : Int32} (hf : f_Fa_join G l0 l1 l2 = some (r, G')) : gV E X 0 0 G 0 [some (.ref (E.2.1 + l0)), some (.int l1), some (.int l2)] [] := by
  unfold f_Fa_join at hf
  refine g_aload_n C dX9_join_0 rfl ?_
  obtain ⟨x1, hg, hf⟩ := gR_ok hf
  refine g_getR C fl_Fa_26 dX9_join_1 hg ?_
  obtain ⟨x2, hg, hf⟩ := gR_ok hf
  refine g_getR C fl_Fa_122 dX9_join_4 hg ?_
  refine g_iload_n C dX9_join_7 rfl ?_
  obtain ⟨x3, hg, h1, hf⟩ := vP_ok hf
  refine g_invV (As := [.int l1]) (st := []) C (c_Ta_has E h1) (rfl : vwCl[7]? = some (y_Ta_has.cls, TX7, 3)) (by decide) hg ml_Fa_104 cm_Ta_has.1 cm_Ta_has.2.1 cm_Ta_has.2.2.1 cm_Ta_has.2.2.2.1 cm_Ta_has.2.2.2.2 rfl ⟨by omega, by omega, by omega, by omega⟩ (by exact Nat.le_of_ble_eq_true rfl) rfl dX9_join_8 ?_
  refine g_if_eq (tgt := 33) C dX9_join_11 (by decide) (fun hc => ?_) (fun hc => ?_)
  · have hf := iteT hf hc
    refine g_sub (lv' := [some (.ref (E.2.1 + l0)), none, none]) ⟨rfl, trivial⟩ ?_
    exact l_Fa_join_b33 C HR  hf
  · have hf := iteF hf hc
    refine g_aload_n C dX9_join_14 rfl ?_
    obtain ⟨x4, hg, hf⟩ := gR_ok hf
    refine g_getR C fl_Fa_26 dX9_join_15 hg ?_
    obtain ⟨x5, hg, hf⟩ := gR_ok hf
    refine g_getR C fl_Fa_122 dX9_join_18 hg ?_
    refine g_iload_n C dX9_join_21 rfl ?_
    obtain ⟨x6, hg, h1, hf⟩ := vP_ok hf
    refine g_invV (As := [.int l2]) (st := []) C (c_Ta_has E h1) (rfl : vwCl[7]? = some (y_Ta_has.cls, TX7, 3)) (by decide) hg ml_Fa_104 cm_Ta_has.1 cm_Ta_has.2.1 cm_Ta_has.2.2.1 cm_Ta_has.2.2.2.1 cm_Ta_has.2.2.2.2 rfl ⟨by omega, by omega, by omega, by omega⟩ (by exact Nat.le_of_ble_eq_true rfl) rfl dX9_join_22 ?_
    refine g_if_eq (tgt := 33) C dX9_join_25 (by decide) (fun hc => ?_) (fun hc => ?_)
    · have hf := iteT hf hc
      refine g_sub (lv' := [some (.ref (E.2.1 + l0)), none, none]) ⟨rfl, trivial⟩ ?_
      exact l_Fa_join_b33 C HR  hf
    · have hf := iteF hf hc
      refine g_iload_n C dX9_join_28 rfl ?_
      refine g_iload_n C dX9_join_29 rfl ?_
      refine g_icmp_ne (tgt := 40) C dX9_join_30 (by decide) (fun hc => ?_) (fun hc => ?_)
      · have hf := iteF hf hc
        refine g_aload_n C dX9_join_40 rfl ?_
        obtain ⟨x7, hg, hf⟩ := gR_ok hf
        refine g_getR C fl_Fa_26 dX9_join_41 hg ?_
        refine g_iload_n C dX9_join_44 rfl ?_
        refine g_iload_n C dX9_join_45 rfl ?_
        obtain ⟨x8, hg, h1, hf⟩ := vP_ok hf
        refine g_invV (As := [.int l1, .int l2]) (st := []) C (c_St_areAlike E h1) (rfl : vwCl[6]? = some (y_St_areAlike.cls, TX6, 6)) (by decide) hg ml_Fa_180 cm_St_areAlike.1 cm_St_areAlike.2.1 cm_St_areAlike.2.2.1 cm_St_areAlike.2.2.2.1 cm_St_areAlike.2.2.2.2 rfl ⟨by omega, by omega, by omega, by omega⟩ (by exact Nat.le_of_ble_eq_true rfl) rfl dX9_join_46 ?_
        refine g_if_eq (tgt := 74) C dX9_join_49 (by decide) (fun hc => ?_) (fun hc => ?_)
        · have hf := iteT hf hc
          refine g_sub (lv' := [some (.ref (E.2.1 + l0)), none, none]) ⟨rfl, trivial⟩ ?_
          exact l_Fa_join_b74 C HR  hf
        · have hf := iteF hf hc
          refine g_aload_n C dX9_join_52 rfl ?_
          obtain ⟨x9, hg, hf⟩ := gR_ok hf
          refine g_getR C fl_Fa_26 dX9_join_53 hg ?_
          refine g_iload_n C dX9_join_56 rfl ?_
          obtain ⟨x10, hg, h1, hf⟩ := vP_ok hf
          refine g_invV (As := [.int l1]) (st := []) C (c_St_valueNow E h1) (rfl : vwCl[6]? = some (y_St_valueNow.cls, TX6, 6)) (by decide) hg ml_Fa_174 cm_St_valueNow.1 cm_St_valueNow.2.1 cm_St_valueNow.2.2.1 cm_St_valueNow.2.2.2.1 cm_St_valueNow.2.2.2.2 rfl ⟨by omega, by omega, by omega, by omega⟩ (by exact Nat.le_of_ble_eq_true rfl) rfl dX9_join_57 ?_
          refine g_if_eq (tgt := 74) C dX9_join_60 (by decide) (fun hc => ?_) (fun hc => ?_)
          · have hf := iteT hf hc
            refine g_sub (lv' := [some (.ref (E.2.1 + l0)), none, none]) ⟨rfl, trivial⟩ ?_
            exact l_Fa_join_b74 C HR  hf
          · have hf := iteF hf hc
            refine g_aload_n C dX9_join_63 rfl ?_
            obtain ⟨x11, hg, hf⟩ := gR_ok hf
            refine g_getR C fl_Fa_26 dX9_join_64 hg ?_
            refine g_iload_n C dX9_join_67 rfl ?_
            obtain ⟨x12, hg, h1, hf⟩ := vP_ok hf
            refine g_invV (As := [.int l2]) (st := []) C (c_St_valueNow E h1) (rfl : vwCl[6]? = some (y_St_valueNow.cls, TX6, 6)) (by decide) hg ml_Fa_174 cm_St_valueNow.1 cm_St_valueNow.2.1 cm_St_valueNow.2.2.1 cm_St_valueNow.2.2.2.1 cm_St_valueNow.2.2.2.2 rfl ⟨by omega, by omega, by omega, by omega⟩ (by exact Nat.le_of_ble_eq_true rfl) rfl dX9_join_68 ?_
            refine g_if_ne (tgt := 81) C dX9_join_71 (by decide) (fun hc => ?_) (fun hc => ?_)
            · have hf := iteF hf hc
              refine g_aload_n C dX9_join_81 rfl ?_
              obtain ⟨x13, hg, hf⟩ := gR_ok hf
              refine g_getR C fl_Fa_58 dX9_join_82 hg ?_
              refine g_iconst (v := (1 : Int32)) C dX9_join_85 (by decide) ?_
              obtain ⟨G14, hG14, hg, hf⟩ := pI_ok hf
              refine e_putI C fl_Fa_100 dX9_join_86 hG14 hg (Or.inl rfl) (by decide) (by decide) ?_
              refine g_aload_n C dX9_join_89 rfl ?_
              obtain ⟨x15, hg, hf⟩ := gR_ok hf
              refine g_getR C fl_Fa_26 dX9_join_90 hg ?_
              refine g_iload_n C dX9_join_93 rfl ?_
              refine g_iload_n C dX9_join_94 rfl ?_
              obtain ⟨x16, G17, hg, h1, hf⟩ := vH_ok hf
              refine g_invV (As := [.int l1, .int l2]) (st := []) C (c_St_merge E h1) (rfl : vwCl[6]? = some (y_St_merge.cls, TX6, 6)) (by decide) hg ml_Fa_184 cm_St_merge.1 cm_St_merge.2.1 cm_St_merge.2.2.1 cm_St_merge.2.2.2.1 cm_St_merge.2.2.2.2 rfl ⟨by omega, by omega, by omega, by omega⟩ (by exact Nat.le_of_ble_eq_true rfl) rfl dX9_join_95 ?_
              obtain ⟨rfl, rfl⟩ := rH_ok hf
              exact g_iret HR dX9_join_98
            · have hf := iteT hf hc
              refine g_sub (lv' := [some (.ref (E.2.1 + l0)), none, none]) ⟨rfl, trivial⟩ ?_
              exact l_Fa_join_b74 C HR  hf
      · have hf := iteT hf hc
        refine g_sub (lv' := [some (.ref (E.2.1 + l0)), none, none]) ⟨rfl, trivial⟩ ?_
        exact l_Fa_join_b33 C HR  hf
theorem c_Fa_join (E : EE) {G : Hp} {l0 : Nat} {l1 : Int32} {l2 : Int32} {r : Int32} {G' : Hp} (h : f_Fa_join G l0 l1 l2 = some (r, G')) : gCt E y_Fa_join cX9_join 3 (some .int) 4 93 0 0 [.ref (E.2.1 + l0), .int l1, .int l2] G (some (.int r)) G' := gCt_of (own := "FavoursGoOff") (ini := false) [some (.ref (E.2.1 + l0)), some (.int l1), some (.int l2)] (by decide +kernel) rfl (fun h => by cases h) (Nat.le_of_ble_eq_true rfl) ⟨rfl, ⟨rfl, ⟨rfl, trivial⟩⟩⟩ (fun X C HR => l_Fa_join C HR h)
set_option maxRecDepth 20000 in
theorem l_Fa_ask_b80 {E : EE} {X : CT} {G : Hp} (C : gCx E X cX9_ask "FavoursGoOff" (some .int) 4 93 0 0 false 5) {r : Int32} {G' : Hp} (HR : gRet E X cX9_ask (some .int) 0 0 (some (.int r)) G') {l0 : Nat} (hf : f_Fa_ask_b80 G l0 = some (r, G')) : gV E X 0 0 G 80 [some (.ref (E.2.1 + l0)), none, none, none, none] [] := by
  unfold f_Fa_ask_b80 at hf
  refine g_aload_n C dX9_ask_80 rfl ?_
  refine g_bipush (v := (-3 : Int32)) C dX9_ask_81 (by decide) ?_
  obtain ⟨x1, G2, hg, h1, hf⟩ := vH_ok hf
  refine g_invV (As := [.int (-3 : Int32)]) (st := []) C (c_Fa_no E h1) (rfl : vwCl[9]? = some (y_Fa_no.cls, TX9, 13)) (by decide) hg ml_Fa_177 cm_Fa_no.1 cm_Fa_no.2.1 cm_Fa_no.2.2.1 cm_Fa_no.2.2.2.1 cm_Fa_no.2.2.2.2 rfl ⟨by omega, by omega, by omega, by omega⟩ (by exact Nat.le_of_ble_eq_true rfl) rfl dX9_ask_83 ?_
  obtain ⟨rfl, rfl⟩ := rH_ok hf
  exact g_iret HR dX9_ask_86
set_option maxRecDepth 20000 in
theorem l_Fa_ask {E : EE} {X : CT} {G : Hp} (C : gCx E X cX9_ask "FavoursGoOff" (some .int) 4 93 0 0 false 5) {r : Int32} {G' : Hp} (HR : gRet E X cX9_ask (some .int) 0 0 (some (.int r)) G') {l0 : Nat} {l1 : Int32} (hf : f_Fa_ask G l0 l1 = some (r, G')) : gV E X 0 0 G 0 [some (.ref (E.2.1 + l0)), some (.int l1), none, none, none] [] := by
  unfold f_Fa_ask at hf
  refine g_aload_n C dX9_ask_0 rfl ?_
  obtain ⟨x1, hg, hf⟩ := gR_ok hf
  refine g_getR C fl_Fa_26 dX9_ask_1 hg ?_
  obtain ⟨x2, hg, hf⟩ := gR_ok hf
  refine g_getR C fl_Fa_122 dX9_ask_4 hg ?_
  refine g_iload_n C dX9_ask_7 rfl ?_
  obtain ⟨x3, hg, h1, hf⟩ := vP_ok hf
  refine g_invV (As := [.int l1]) (st := []) C (c_Ta_has E h1) (rfl : vwCl[7]? = some (y_Ta_has.cls, TX7, 3)) (by decide) hg ml_Fa_104 cm_Ta_has.1 cm_Ta_has.2.1 cm_Ta_has.2.2.1 cm_Ta_has.2.2.2.1 cm_Ta_has.2.2.2.2 rfl ⟨by omega, by omega, by omega, by omega⟩ (by exact Nat.le_of_ble_eq_true rfl) rfl dX9_ask_8 ?_
  refine g_if_ne (tgt := 21) C dX9_ask_11 (by decide) (fun hc => ?_) (fun hc => ?_)
  · have hf := iteF hf hc
    refine g_aload_n C dX9_ask_21 rfl ?_
    obtain ⟨x4, hg, hf⟩ := gR_ok hf
    refine g_getR C fl_Fa_26 dX9_ask_22 hg ?_
    refine g_iload_n C dX9_ask_25 rfl ?_
    obtain ⟨x5, hg, h1, hf⟩ := vP_ok hf
    refine g_invV (As := [.int l1]) (st := []) C (c_St_valueNow E h1) (rfl : vwCl[6]? = some (y_St_valueNow.cls, TX6, 6)) (by decide) hg ml_Fa_174 cm_St_valueNow.1 cm_St_valueNow.2.1 cm_St_valueNow.2.2.1 cm_St_valueNow.2.2.2.1 cm_St_valueNow.2.2.2.2 rfl ⟨by omega, by omega, by omega, by omega⟩ (by exact Nat.le_of_ble_eq_true rfl) rfl dX9_ask_26 ?_
    refine g_istore_n (lv' := [some (.ref (E.2.1 + l0)), some (.int l1), some (.int x5), none, none]) C dX9_ask_29 (by decide) rfl ?_
    refine g_aload_n C dX9_ask_30 rfl ?_
    obtain ⟨x6, hg, hf⟩ := gR_ok hf
    refine g_getR C fl_Fa_26 dX9_ask_31 hg ?_
    obtain ⟨x7, hg, hf⟩ := gR_ok hf
    refine g_getR C fl_Fa_122 dX9_ask_34 hg ?_
    refine g_iload_n C dX9_ask_37 rfl ?_
    refine g_iconst (v := (1 : Int32)) C dX9_ask_38 (by decide) ?_
    obtain ⟨x8, hg, h1, hf⟩ := vP_ok hf
    refine g_invV (As := [.int l1, .int (1 : Int32)]) (st := []) C (c_Ta_at E h1) (rfl : vwCl[7]? = some (y_Ta_at.cls, TX7, 3)) (by decide) hg ml_Fa_108 cm_Ta_at.1 cm_Ta_at.2.1 cm_Ta_at.2.2.1 cm_Ta_at.2.2.2.1 cm_Ta_at.2.2.2.2 rfl ⟨by omega, by omega, by omega, by omega⟩ (by exact Nat.le_of_ble_eq_true rfl) rfl dX9_ask_39 ?_
    refine g_istore_n (lv' := [some (.ref (E.2.1 + l0)), some (.int l1), some (.int x5), some (.int x8), none]) C dX9_ask_42 (by decide) rfl ?_
    refine g_aload_n C dX9_ask_43 rfl ?_
    obtain ⟨x9, hg, hf⟩ := gR_ok hf
    refine g_getR C fl_Fa_26 dX9_ask_44 hg ?_
    obtain ⟨x10, hg, hf⟩ := gR_ok hf
    refine g_getR C fl_Fa_87 dX9_ask_47 hg ?_
    refine g_iload_n C dX9_ask_50 rfl ?_
    refine g_iconst (v := (1 : Int32)) C dX9_ask_51 (by decide) ?_
    obtain ⟨x11, hg, h1, hf⟩ := vP_ok hf
    refine g_invV (As := [.int x8, .int (1 : Int32)]) (st := []) C (c_Ta_at E h1) (rfl : vwCl[7]? = some (y_Ta_at.cls, TX7, 3)) (by decide) hg ml_Fa_108 cm_Ta_at.1 cm_Ta_at.2.1 cm_Ta_at.2.2.1 cm_Ta_at.2.2.2.1 cm_Ta_at.2.2.2.2 rfl ⟨by omega, by omega, by omega, by omega⟩ (by exact Nat.le_of_ble_eq_true rfl) rfl dX9_ask_52 ?_
    refine g_iload_n C dX9_ask_55 rfl ?_
    refine g_iadd C dX9_ask_56 ?_
    obtain ⟨x12, hx12, hf⟩ := lt_ok hf
    refine e_top hx12 ?_
    refine g_istore (lv' := [some (.ref (E.2.1 + l0)), some (.int l1), some (.int x5), some (.int x8), some (.int x12)]) C dX9_ask_57 (by decide) rfl ?_
    refine g_iload_n C dX9_ask_59 rfl ?_
    refine g_if_eq (tgt := 80) C dX9_ask_60 (by decide) (fun hc => ?_) (fun hc => ?_)
    · have hf := iteT hf hc
      refine g_sub (lv' := [some (.ref (E.2.1 + l0)), none, none, none, none]) ⟨rfl, trivial⟩ ?_
      exact l_Fa_ask_b80 C HR  hf
    · have hf := iteF hf hc
      refine g_iload C dX9_ask_63 rfl ?_
      refine g_aload_n C dX9_ask_65 rfl ?_
      obtain ⟨x13, hg, hf⟩ := gR_ok hf
      refine g_getR C fl_Fa_26 dX9_ask_66 hg ?_
      obtain ⟨x14, hg, hf⟩ := gR_ok hf
      refine g_getR C fl_Fa_87 dX9_ask_69 hg ?_
      refine g_iload_n C dX9_ask_72 rfl ?_
      refine g_iconst (v := (0 : Int32)) C dX9_ask_73 (by decide) ?_
      obtain ⟨x15, hg, h1, hf⟩ := vP_ok hf
      refine g_invV (As := [.int x8, .int (0 : Int32)]) (st := [.int x12]) C (c_Ta_at E h1) (rfl : vwCl[7]? = some (y_Ta_at.cls, TX7, 3)) (by decide) hg ml_Fa_108 cm_Ta_at.1 cm_Ta_at.2.1 cm_Ta_at.2.2.1 cm_Ta_at.2.2.2.1 cm_Ta_at.2.2.2.2 rfl ⟨by omega, by omega, by omega, by omega⟩ (by exact Nat.le_of_ble_eq_true rfl) rfl dX9_ask_74 ?_
      refine g_icmp_le (tgt := 87) C dX9_ask_77 (by decide) (fun hc => ?_) (fun hc => ?_)
      · have hf := iteT hf hc
        refine g_aload_n C dX9_ask_87 rfl ?_
        obtain ⟨x16, hg, hf⟩ := gR_ok hf
        refine g_getR C fl_Fa_26 dX9_ask_88 hg ?_
        obtain ⟨x17, hg, hf⟩ := gR_ok hf
        refine g_getR C fl_Fa_87 dX9_ask_91 hg ?_
        refine g_iload_n C dX9_ask_94 rfl ?_
        refine g_iconst (v := (1 : Int32)) C dX9_ask_95 (by decide) ?_
        refine g_iload C dX9_ask_96 rfl ?_
        obtain ⟨G18, hg, h1, hf⟩ := vP_ok hf
        refine g_invV (As := [.int x8, .int (1 : Int32), .int x12]) (st := []) C (c_Ta_put E h1) (rfl : vwCl[7]? = some (y_Ta_put.cls, TX7, 3)) (by decide) hg ml_Fa_112 cm_Ta_put.1 cm_Ta_put.2.1 cm_Ta_put.2.2.1 cm_Ta_put.2.2.2.1 cm_Ta_put.2.2.2.2 rfl ⟨by omega, by omega, by omega, by omega⟩ (by exact Nat.le_of_ble_eq_true rfl) rfl dX9_ask_98 ?_
        refine g_aload_n C dX9_ask_101 rfl ?_
        obtain ⟨x19, hg, hf⟩ := gR_ok hf
        refine g_getR C fl_Fa_26 dX9_ask_102 hg ?_
        obtain ⟨x20, hg, hf⟩ := gR_ok hf
        refine g_getR C fl_Fa_122 dX9_ask_105 hg ?_
        refine g_iload_n C dX9_ask_108 rfl ?_
        refine g_iconst (v := (2 : Int32)) C dX9_ask_109 (by decide) ?_
        refine g_iconst (v := (-1 : Int32)) C dX9_ask_110 (by decide) ?_
        obtain ⟨G21, hg, h1, hf⟩ := vP_ok hf
        refine g_invV (As := [.int l1, .int (2 : Int32), .int (-1 : Int32)]) (st := []) C (c_Ta_put E h1) (rfl : vwCl[7]? = some (y_Ta_put.cls, TX7, 3)) (by decide) hg ml_Fa_112 cm_Ta_put.1 cm_Ta_put.2.1 cm_Ta_put.2.2.1 cm_Ta_put.2.2.2.1 cm_Ta_put.2.2.2.2 rfl ⟨by omega, by omega, by omega, by omega⟩ (by exact Nat.le_of_ble_eq_true rfl) rfl dX9_ask_111 ?_
        refine g_aload_n C dX9_ask_114 rfl ?_
        obtain ⟨x22, hg, hf⟩ := gR_ok hf
        refine g_getR C fl_Fa_58 dX9_ask_115 hg ?_
        refine g_iconst (v := (1 : Int32)) C dX9_ask_118 (by decide) ?_
        obtain ⟨G23, hG23, hg, hf⟩ := pI_ok hf
        refine e_putI C fl_Fa_100 dX9_ask_119 hG23 hg (Or.inl rfl) (by decide) (by decide) ?_
        refine g_iload_n C dX9_ask_122 rfl ?_
        obtain ⟨rfl, rfl⟩ := rH_ok hf
        exact g_iret HR dX9_ask_123
      · have hf := iteF hf hc
        refine g_sub (lv' := [some (.ref (E.2.1 + l0)), none, none, none, none]) ⟨rfl, trivial⟩ ?_
        exact l_Fa_ask_b80 C HR  hf
  · have hf := iteT hf hc
    refine g_aload_n C dX9_ask_14 rfl ?_
    refine g_bipush (v := (-2 : Int32)) C dX9_ask_15 (by decide) ?_
    obtain ⟨x24, G25, hg, h1, hf⟩ := vH_ok hf
    refine g_invV (As := [.int (-2 : Int32)]) (st := []) C (c_Fa_bad E h1) (rfl : vwCl[9]? = some (y_Fa_bad.cls, TX9, 13)) (by decide) hg ml_Fa_83 cm_Fa_bad.1 cm_Fa_bad.2.1 cm_Fa_bad.2.2.1 cm_Fa_bad.2.2.2.1 cm_Fa_bad.2.2.2.2 rfl ⟨by omega, by omega, by omega, by omega⟩ (by exact Nat.le_of_ble_eq_true rfl) rfl dX9_ask_17 ?_
    obtain ⟨rfl, rfl⟩ := rH_ok hf
    exact g_iret HR dX9_ask_20
theorem c_Fa_ask (E : EE) {G : Hp} {l0 : Nat} {l1 : Int32} {r : Int32} {G' : Hp} (h : f_Fa_ask G l0 l1 = some (r, G')) : gCt E y_Fa_ask cX9_ask 5 (some .int) 4 93 0 0 [.ref (E.2.1 + l0), .int l1] G (some (.int r)) G' := gCt_of (own := "FavoursGoOff") (ini := false) [some (.ref (E.2.1 + l0)), some (.int l1), none, none, none] (by decide +kernel) rfl (fun h => by cases h) (Nat.le_of_ble_eq_true rfl) ⟨rfl, ⟨rfl, trivial⟩⟩ (fun X C HR => l_Fa_ask C HR h)
set_option maxRecDepth 20000 in
theorem l_Fa_night {E : EE} {X : CT} {G : Hp} (C : gCx E X cX9_night "FavoursGoOff" (some .int) 5 113 0 0 false 1) {r : Int32} {G' : Hp} (HR : gRet E X cX9_night (some .int) 0 0 (some (.int r)) G') {l0 : Nat} (hf : f_Fa_night G l0 = some (r, G')) : gV E X 0 0 G 0 [some (.ref (E.2.1 + l0))] [] := by
  unfold f_Fa_night at hf
  refine g_aload_n C dX9_night_0 rfl ?_
  obtain ⟨x1, hg, hf⟩ := gR_ok hf
  refine g_getR C fl_Fa_26 dX9_night_1 hg ?_
  obtain ⟨x2, hx2, hg, hf⟩ := gI_ok hf
  refine e_getI C fl_Fa_187 dX9_night_4 hx2 hg ?_
  refine g_bipush (v := (99 : Int32)) C dX9_night_7 (by decide) ?_
  refine g_icmp_lt (tgt := 19) C dX9_night_9 (by decide) (fun hc => ?_) (fun hc => ?_)
  · have hf := iteT hf hc
    refine g_aload_n C dX9_night_19 rfl ?_
    obtain ⟨x3, hg, hf⟩ := gR_ok hf
    refine g_getR C fl_Fa_10 dX9_night_20 hg ?_
    obtain ⟨G4, hg, h1, hf⟩ := vP_ok hf
    refine g_invV (As := []) (st := []) C (c_Hi_keepNight E h1) (rfl : vwCl[3]? = some (y_Hi_keepNight.cls, TX3, 5)) (by decide) hg ml_Fa_190 cm_Hi_keepNight.1 cm_Hi_keepNight.2.1 cm_Hi_keepNight.2.2.1 cm_Hi_keepNight.2.2.2.1 cm_Hi_keepNight.2.2.2.2 rfl ⟨by omega, by omega, by omega, by omega⟩ (by exact Nat.le_of_ble_eq_true rfl) rfl dX9_night_23 ?_
    refine g_aload_n C dX9_night_26 rfl ?_
    obtain ⟨x5, hg, hf⟩ := gR_ok hf
    refine g_getR C fl_Fa_26 dX9_night_27 hg ?_
    obtain ⟨G6, hg, h1, hf⟩ := vP_ok hf
    refine g_invV (As := []) (st := []) C (c_St_wake E h1) (rfl : vwCl[6]? = some (y_St_wake.cls, TX6, 6)) (by decide) hg ml_Fa_193 cm_St_wake.1 cm_St_wake.2.1 cm_St_wake.2.2.1 cm_St_wake.2.2.2.1 cm_St_wake.2.2.2.2 rfl ⟨by omega, by omega, by omega, by omega⟩ (by exact Nat.le_of_ble_eq_true rfl) rfl dX9_night_30 ?_
    refine g_aload_n C dX9_night_33 rfl ?_
    obtain ⟨x7, hg, hf⟩ := gR_ok hf
    refine g_getR C fl_Fa_26 dX9_night_34 hg ?_
    obtain ⟨x8, hx8, hg, hf⟩ := gI_ok hf
    refine e_getI C fl_Fa_187 dX9_night_37 hx8 hg ?_
    obtain ⟨rfl, rfl⟩ := rH_ok hf
    exact g_iret HR dX9_night_40
  · have hf := iteF hf hc
    refine g_aload_n C dX9_night_12 rfl ?_
    refine g_bipush (v := (-3 : Int32)) C dX9_night_13 (by decide) ?_
    obtain ⟨x9, G10, hg, h1, hf⟩ := vH_ok hf
    refine g_invV (As := [.int (-3 : Int32)]) (st := []) C (c_Fa_no E h1) (rfl : vwCl[9]? = some (y_Fa_no.cls, TX9, 13)) (by decide) hg ml_Fa_177 cm_Fa_no.1 cm_Fa_no.2.1 cm_Fa_no.2.2.1 cm_Fa_no.2.2.2.1 cm_Fa_no.2.2.2.2 rfl ⟨by omega, by omega, by omega, by omega⟩ (by exact Nat.le_of_ble_eq_true rfl) rfl dX9_night_15 ?_
    obtain ⟨rfl, rfl⟩ := rH_ok hf
    exact g_iret HR dX9_night_18
theorem c_Fa_night (E : EE) {G : Hp} {l0 : Nat} {r : Int32} {G' : Hp} (h : f_Fa_night G l0 = some (r, G')) : gCt E y_Fa_night cX9_night 1 (some .int) 5 113 0 0 [.ref (E.2.1 + l0)] G (some (.int r)) G' := gCt_of (own := "FavoursGoOff") (ini := false) [some (.ref (E.2.1 + l0))] (by decide +kernel) rfl (fun h => by cases h) (Nat.le_of_ble_eq_true rfl) ⟨rfl, trivial⟩ (fun X C HR => l_Fa_night C HR h)
set_option maxRecDepth 20000 in
theorem l_Fa_undo {E : EE} {X : CT} {G : Hp} (C : gCx E X cX9_undo "FavoursGoOff" (some .int) 5 113 0 0 false 1) {r : Int32} {G' : Hp} (HR : gRet E X cX9_undo (some .int) 0 0 (some (.int r)) G') {l0 : Nat} (hf : f_Fa_undo G l0 = some (r, G')) : gV E X 0 0 G 0 [some (.ref (E.2.1 + l0))] [] := by
  unfold f_Fa_undo at hf
  refine g_aload_n C dX9_undo_0 rfl ?_
  obtain ⟨x1, hg, hf⟩ := gR_ok hf
  refine g_getR C fl_Fa_10 dX9_undo_1 hg ?_
  obtain ⟨x2, hx2, hg, hf⟩ := gI_ok hf
  refine e_getI C fl_Fa_97 dX9_undo_4 hx2 hg ?_
  refine g_if_ne (tgt := 17) C dX9_undo_7 (by decide) (fun hc => ?_) (fun hc => ?_)
  · have hf := iteF hf hc
    refine g_aload_n C dX9_undo_17 rfl ?_
    obtain ⟨x3, hg, hf⟩ := gR_ok hf
    refine g_getR C fl_Fa_10 dX9_undo_18 hg ?_
    obtain ⟨G4, hg, h1, hf⟩ := vP_ok hf
    refine g_invV (As := []) (st := []) C (c_Hi_goBack E h1) (rfl : vwCl[3]? = some (y_Hi_goBack.cls, TX3, 5)) (by decide) hg ml_Fa_196 cm_Hi_goBack.1 cm_Hi_goBack.2.1 cm_Hi_goBack.2.2.1 cm_Hi_goBack.2.2.2.1 cm_Hi_goBack.2.2.2.2 rfl ⟨by omega, by omega, by omega, by omega⟩ (by exact Nat.le_of_ble_eq_true rfl) rfl dX9_undo_21 ?_
    refine g_aload_n C dX9_undo_24 rfl ?_
    obtain ⟨x5, hg, hf⟩ := gR_ok hf
    refine g_getR C fl_Fa_58 dX9_undo_25 hg ?_
    refine g_iconst (v := (1 : Int32)) C dX9_undo_28 (by decide) ?_
    obtain ⟨G6, hG6, hg, hf⟩ := pI_ok hf
    refine e_putI C fl_Fa_100 dX9_undo_29 hG6 hg (Or.inl rfl) (by decide) (by decide) ?_
    refine g_iconst (v := (1 : Int32)) C dX9_undo_32 (by decide) ?_
    obtain ⟨rfl, rfl⟩ := rH_ok hf
    exact g_iret HR dX9_undo_33
  · have hf := iteT hf hc
    refine g_aload_n C dX9_undo_10 rfl ?_
    refine g_bipush (v := (-3 : Int32)) C dX9_undo_11 (by decide) ?_
    obtain ⟨x7, G8, hg, h1, hf⟩ := vH_ok hf
    refine g_invV (As := [.int (-3 : Int32)]) (st := []) C (c_Fa_no E h1) (rfl : vwCl[9]? = some (y_Fa_no.cls, TX9, 13)) (by decide) hg ml_Fa_177 cm_Fa_no.1 cm_Fa_no.2.1 cm_Fa_no.2.2.1 cm_Fa_no.2.2.2.1 cm_Fa_no.2.2.2.2 rfl ⟨by omega, by omega, by omega, by omega⟩ (by exact Nat.le_of_ble_eq_true rfl) rfl dX9_undo_13 ?_
    obtain ⟨rfl, rfl⟩ := rH_ok hf
    exact g_iret HR dX9_undo_16
theorem c_Fa_undo (E : EE) {G : Hp} {l0 : Nat} {r : Int32} {G' : Hp} (h : f_Fa_undo G l0 = some (r, G')) : gCt E y_Fa_undo cX9_undo 1 (some .int) 5 113 0 0 [.ref (E.2.1 + l0)] G (some (.int r)) G' := gCt_of (own := "FavoursGoOff") (ini := false) [some (.ref (E.2.1 + l0))] (by decide +kernel) rfl (fun h => by cases h) (Nat.le_of_ble_eq_true rfl) ⟨rfl, trivial⟩ (fun X C HR => l_Fa_undo C HR h)
set_option maxRecDepth 20000 in
theorem l_Fa_owes_b33 {E : EE} {X : CT} {G : Hp} (C : gCx E X cX9_owes "FavoursGoOff" (some .int) 4 95 0 0 false 3) {r : Int32} {G' : Hp} (HR : gRet E X cX9_owes (some .int) 0 0 (some (.int r)) G') {l0 : Nat} (hf : f_Fa_owes_b33 G l0 = some (r, G')) : gV E X 0 0 G 33 [some (.ref (E.2.1 + l0)), none, none] [] := by
  unfold f_Fa_owes_b33 at hf
  refine g_aload_n C dX9_owes_33 rfl ?_
  refine g_sipush (v := (-1000 : Int32)) C dX9_owes_34 (by decide) ?_
  obtain ⟨x1, G2, hg, h1, hf⟩ := vH_ok hf
  refine g_invV (As := [.int (-1000 : Int32)]) (st := []) C (c_Fa_bad E h1) (rfl : vwCl[9]? = some (y_Fa_bad.cls, TX9, 13)) (by decide) hg ml_Fa_83 cm_Fa_bad.1 cm_Fa_bad.2.1 cm_Fa_bad.2.2.1 cm_Fa_bad.2.2.2.1 cm_Fa_bad.2.2.2.2 rfl ⟨by omega, by omega, by omega, by omega⟩ (by exact Nat.le_of_ble_eq_true rfl) rfl dX9_owes_37 ?_
  obtain ⟨rfl, rfl⟩ := rH_ok hf
  exact g_iret HR dX9_owes_40
set_option maxRecDepth 20000 in
theorem l_Fa_owes {E : EE} {X : CT} {G : Hp} (C : gCx E X cX9_owes "FavoursGoOff" (some .int) 4 95 0 0 false 3) {r : Int32} {G' : Hp} (HR : gRet E X cX9_owes (some .int) 0 0 (some (.int r)) G') {l0 : Nat} {l1 : Int32} {l2 : Int32} (hf : f_Fa_owes G l0 l1 l2 = some (r, G')) : gV E X 0 0 G 0 [some (.ref (E.2.1 + l0)), some (.int l1), some (.int l2)] [] := by
  unfold f_Fa_owes at hf
  refine g_aload_n C dX9_owes_0 rfl ?_
  obtain ⟨x1, hg, hf⟩ := gR_ok hf
  refine g_getR C fl_Fa_26 dX9_owes_1 hg ?_
  obtain ⟨x2, hg, hf⟩ := gR_ok hf
  refine g_getR C fl_Fa_87 dX9_owes_4 hg ?_
  refine g_iload_n C dX9_owes_7 rfl ?_
  obtain ⟨x3, hg, h1, hf⟩ := vP_ok hf
  refine g_invV (As := [.int l1]) (st := []) C (c_Ta_has E h1) (rfl : vwCl[7]? = some (y_Ta_has.cls, TX7, 3)) (by decide) hg ml_Fa_104 cm_Ta_has.1 cm_Ta_has.2.1 cm_Ta_has.2.2.1 cm_Ta_has.2.2.2.1 cm_Ta_has.2.2.2.2 rfl ⟨by omega, by omega, by omega, by omega⟩ (by exact Nat.le_of_ble_eq_true rfl) rfl dX9_owes_8 ?_
  refine g_if_eq (tgt := 33) C dX9_owes_11 (by decide) (fun hc => ?_) (fun hc => ?_)
  · have hf := iteT hf hc
    refine g_sub (lv' := [some (.ref (E.2.1 + l0)), none, none]) ⟨rfl, trivial⟩ ?_
    exact l_Fa_owes_b33 C HR  hf
  · have hf := iteF hf hc
    refine g_aload_n C dX9_owes_14 rfl ?_
    obtain ⟨x4, hg, hf⟩ := gR_ok hf
    refine g_getR C fl_Fa_26 dX9_owes_15 hg ?_
    obtain ⟨x5, hg, hf⟩ := gR_ok hf
    refine g_getR C fl_Fa_87 dX9_owes_18 hg ?_
    refine g_iload_n C dX9_owes_21 rfl ?_
    obtain ⟨x6, hg, h1, hf⟩ := vP_ok hf
    refine g_invV (As := [.int l2]) (st := []) C (c_Ta_has E h1) (rfl : vwCl[7]? = some (y_Ta_has.cls, TX7, 3)) (by decide) hg ml_Fa_104 cm_Ta_has.1 cm_Ta_has.2.1 cm_Ta_has.2.2.1 cm_Ta_has.2.2.2.1 cm_Ta_has.2.2.2.2 rfl ⟨by omega, by omega, by omega, by omega⟩ (by exact Nat.le_of_ble_eq_true rfl) rfl dX9_owes_22 ?_
    refine g_if_eq (tgt := 33) C dX9_owes_25 (by decide) (fun hc => ?_) (fun hc => ?_)
    · have hf := iteT hf hc
      refine g_sub (lv' := [some (.ref (E.2.1 + l0)), none, none]) ⟨rfl, trivial⟩ ?_
      exact l_Fa_owes_b33 C HR  hf
    · have hf := iteF hf hc
      refine g_iload_n C dX9_owes_28 rfl ?_
      refine g_iload_n C dX9_owes_29 rfl ?_
      refine g_icmp_ne (tgt := 41) C dX9_owes_30 (by decide) (fun hc => ?_) (fun hc => ?_)
      · have hf := iteF hf hc
        refine g_aload_n C dX9_owes_41 rfl ?_
        obtain ⟨x7, hg, hf⟩ := gR_ok hf
        refine g_getR C fl_Fa_44 dX9_owes_42 hg ?_
        refine g_aload_n C dX9_owes_45 rfl ?_
        obtain ⟨x8, hg, hf⟩ := gR_ok hf
        refine g_getR C fl_Fa_26 dX9_owes_46 hg ?_
        refine g_aload_n C dX9_owes_49 rfl ?_
        obtain ⟨x9, hg, hf⟩ := gR_ok hf
        refine g_getR C fl_Fa_26 dX9_owes_50 hg ?_
        obtain ⟨x10, hx10, hg, hf⟩ := gI_ok hf
        refine e_getI C fl_Fa_187 dX9_owes_53 hx10 hg ?_
        obtain ⟨G11, hg, h1, hf⟩ := vP_ok hf
        refine g_invV (As := [.ref (E.2.1 + x8), .int x10]) (st := []) C (c_De_addUp E h1) (rfl : vwCl[1]? = some (y_De_addUp.cls, TX1, 6)) (by decide) hg ml_Fa_199 cm_De_addUp.1 cm_De_addUp.2.1 cm_De_addUp.2.2.1 cm_De_addUp.2.2.2.1 cm_De_addUp.2.2.2.2 rfl ⟨by omega, by omega, by omega, by omega⟩ (by exact Nat.le_of_ble_eq_true rfl) rfl dX9_owes_56 ?_
        refine g_aload_n C dX9_owes_59 rfl ?_
        obtain ⟨x12, hg, hf⟩ := gR_ok hf
        refine g_getR C fl_Fa_44 dX9_owes_60 hg ?_
        refine g_iload_n C dX9_owes_63 rfl ?_
        refine g_iload_n C dX9_owes_64 rfl ?_
        obtain ⟨x13, hg, h1, hf⟩ := vP_ok hf
        refine g_invV (As := [.int l1, .int l2]) (st := []) C (c_De_between E h1) (rfl : vwCl[1]? = some (y_De_between.cls, TX1, 6)) (by decide) hg ml_Fa_203 cm_De_between.1 cm_De_between.2.1 cm_De_between.2.2.1 cm_De_between.2.2.2.1 cm_De_between.2.2.2.2 rfl ⟨by omega, by omega, by omega, by omega⟩ (by exact Nat.le_of_ble_eq_true rfl) rfl dX9_owes_65 ?_
        obtain ⟨rfl, rfl⟩ := rH_ok hf
        exact g_iret HR dX9_owes_68
      · have hf := iteT hf hc
        refine g_sub (lv' := [some (.ref (E.2.1 + l0)), none, none]) ⟨rfl, trivial⟩ ?_
        exact l_Fa_owes_b33 C HR  hf
theorem c_Fa_owes (E : EE) {G : Hp} {l0 : Nat} {l1 : Int32} {l2 : Int32} {r : Int32} {G' : Hp} (h : f_Fa_owes G l0 l1 l2 = some (r, G')) : gCt E y_Fa_owes cX9_owes 3 (some .int) 4 95 0 0 [.ref (E.2.1 + l0), .int l1, .int l2] G (some (.int r)) G' := gCt_of (own := "FavoursGoOff") (ini := false) [some (.ref (E.2.1 + l0)), some (.int l1), some (.int l2)] (by decide +kernel) rfl (fun h => by cases h) (Nat.le_of_ble_eq_true rfl) ⟨rfl, ⟨rfl, ⟨rfl, trivial⟩⟩⟩ (fun X C HR => l_Fa_owes C HR h)
set_option maxRecDepth 20000 in
theorem l_Fa_findRing {E : EE} {X : CT} {G : Hp} (C : gCx E X cX9_findRing "FavoursGoOff" none 13 597 0 0 false 1) {G' : Hp} (HR : gRet E X cX9_findRing none 0 0 none G') {l0 : Nat} (hf : f_Fa_findRing G l0 = some G') : gV E X 0 0 G 0 [some (.ref (E.2.1 + l0))] [] := by
  unfold f_Fa_findRing at hf
  refine g_aload_n C dX9_findRing_0 rfl ?_
  obtain ⟨x1, hg, hf⟩ := gR_ok hf
  refine g_getR C fl_Fa_44 dX9_findRing_1 hg ?_
  refine g_aload_n C dX9_findRing_4 rfl ?_
  obtain ⟨x2, hg, hf⟩ := gR_ok hf
  refine g_getR C fl_Fa_26 dX9_findRing_5 hg ?_
  refine g_aload_n C dX9_findRing_8 rfl ?_
  obtain ⟨x3, hg, hf⟩ := gR_ok hf
  refine g_getR C fl_Fa_26 dX9_findRing_9 hg ?_
  obtain ⟨x4, hx4, hg, hf⟩ := gI_ok hf
  refine e_getI C fl_Fa_187 dX9_findRing_12 hx4 hg ?_
  obtain ⟨G5, hg, h1, hf⟩ := vP_ok hf
  refine g_invV (As := [.ref (E.2.1 + x2), .int x4]) (st := []) C (c_De_addUp E h1) (rfl : vwCl[1]? = some (y_De_addUp.cls, TX1, 6)) (by decide) hg ml_Fa_199 cm_De_addUp.1 cm_De_addUp.2.1 cm_De_addUp.2.2.1 cm_De_addUp.2.2.2.1 cm_De_addUp.2.2.2.2 rfl ⟨by omega, by omega, by omega, by omega⟩ (by exact Nat.le_of_ble_eq_true rfl) rfl dX9_findRing_15 ?_
  refine g_aload_n C dX9_findRing_18 rfl ?_
  obtain ⟨x6, hg, hf⟩ := gR_ok hf
  refine g_getR C fl_Fa_51 dX9_findRing_19 hg ?_
  refine g_aload_n C dX9_findRing_22 rfl ?_
  obtain ⟨x7, hg, hf⟩ := gR_ok hf
  refine g_getR C fl_Fa_44 dX9_findRing_23 hg ?_
  obtain ⟨G8, hg, h1, hf⟩ := vP_ok hf
  refine g_invV (As := [.ref (E.2.1 + x7)]) (st := []) C (c_Ci_find E h1) (rfl : vwCl[0]? = some (y_Ci_find.cls, TX0, 2)) (by decide) hg ml_Fa_320 cm_Ci_find.1 cm_Ci_find.2.1 cm_Ci_find.2.2.1 cm_Ci_find.2.2.2.1 cm_Ci_find.2.2.2.2 rfl ⟨by omega, by omega, by omega, by omega⟩ (by exact Nat.le_of_ble_eq_true rfl) rfl dX9_findRing_26 ?_
  obtain rfl := rP_ok hf
  exact g_vret HR dX9_findRing_29
theorem c_Fa_findRing (E : EE) {G : Hp} {l0 : Nat} {G' : Hp} (h : f_Fa_findRing G l0 = some G') : gCt E y_Fa_findRing cX9_findRing 1 none 13 597 0 0 [.ref (E.2.1 + l0)] G none G' := gCt_of (own := "FavoursGoOff") (ini := false) [some (.ref (E.2.1 + l0))] (by decide +kernel) rfl (fun h => by cases h) (Nat.le_of_ble_eq_true rfl) ⟨rfl, trivial⟩ (fun X C HR => l_Fa_findRing C HR h)
set_option maxRecDepth 20000 in
theorem l_Fa_ring_b53 {E : EE} {X : CT} {G : Hp} (C : gCx E X cX9_ring "FavoursGoOff" (some .int) 14 617 0 0 false 2) {r : Int32} {G' : Hp} (HR : gRet E X cX9_ring (some .int) 0 0 (some (.int r)) G') {s0 : Int32} (hf : f_Fa_ring_b53 G s0 = some (r, G')) : gV E X 0 0 G 53 [none, none] [.int s0] := by
  unfold f_Fa_ring_b53 at hf
  obtain ⟨rfl, rfl⟩ := rH_ok hf
  exact g_iret HR dX9_ring_53
set_option maxRecDepth 20000 in
theorem l_Fa_ring {E : EE} {X : CT} {G : Hp} (C : gCx E X cX9_ring "FavoursGoOff" (some .int) 14 617 0 0 false 2) {r : Int32} {G' : Hp} (HR : gRet E X cX9_ring (some .int) 0 0 (some (.int r)) G') {l0 : Nat} {l1 : Int32} (hf : f_Fa_ring G l0 l1 = some (r, G')) : gV E X 0 0 G 0 [some (.ref (E.2.1 + l0)), some (.int l1)] [] := by
  unfold f_Fa_ring at hf
  refine g_iload_n C dX9_ring_0 rfl ?_
  refine g_iconst (v := (-1 : Int32)) C dX9_ring_1 (by decide) ?_
  refine g_icmp_ge (tgt := 12) C dX9_ring_2 (by decide) (fun hc => ?_) (fun hc => ?_)
  · have hf := iteT hf hc
    refine g_aload_n C dX9_ring_12 rfl ?_
    obtain ⟨G1, hg, h1, hf⟩ := vP_ok hf
    refine g_invV (As := []) (st := []) C (c_Fa_findRing E h1) (rfl : vwCl[9]? = some (y_Fa_findRing.cls, TX9, 13)) (by decide) hg ml_Fa_206 cm_Fa_findRing.1 cm_Fa_findRing.2.1 cm_Fa_findRing.2.2.1 cm_Fa_findRing.2.2.2.1 cm_Fa_findRing.2.2.2.2 rfl ⟨by omega, by omega, by omega, by omega⟩ (by exact Nat.le_of_ble_eq_true rfl) rfl dX9_ring_13 ?_
    refine g_iload_n C dX9_ring_16 rfl ?_
    refine g_iconst (v := (-1 : Int32)) C dX9_ring_17 (by decide) ?_
    refine g_icmp_ne (tgt := 29) C dX9_ring_18 (by decide) (fun hc => ?_) (fun hc => ?_)
    · have hf := iteF hf hc
      refine g_iload_n C dX9_ring_29 rfl ?_
      refine g_aload_n C dX9_ring_30 rfl ?_
      obtain ⟨x2, hg, hf⟩ := gR_ok hf
      refine g_getR C fl_Fa_51 dX9_ring_31 hg ?_
      obtain ⟨x3, hx3, hg, hf⟩ := gI_ok hf
      refine e_getI C fl_Fa_209 dX9_ring_34 hx3 hg ?_
      refine g_icmp_ge (tgt := 51) C dX9_ring_37 (by decide) (fun hc => ?_) (fun hc => ?_)
      · have hf := iteT hf hc
        refine g_bipush (v := (-5 : Int32)) C dX9_ring_51 (by decide) ?_
        refine g_sub (lv' := [none, none]) trivial ?_
        exact l_Fa_ring_b53 C HR  hf
      · have hf := iteF hf hc
        refine g_aload_n C dX9_ring_40 rfl ?_
        obtain ⟨x4, hg, hf⟩ := gR_ok hf
        refine g_getR C fl_Fa_51 dX9_ring_41 hg ?_
        refine g_iload_n C dX9_ring_44 rfl ?_
        obtain ⟨x5, hg, h1, hf⟩ := vP_ok hf
        refine g_invV (As := [.int l1]) (st := []) C (c_Ci_member E h1) (rfl : vwCl[0]? = some (y_Ci_member.cls, TX0, 2)) (by decide) hg ml_Fa_210 cm_Ci_member.1 cm_Ci_member.2.1 cm_Ci_member.2.2.1 cm_Ci_member.2.2.2.1 cm_Ci_member.2.2.2.2 rfl ⟨by omega, by omega, by omega, by omega⟩ (by exact Nat.le_of_ble_eq_true rfl) rfl dX9_ring_45 ?_
        refine g_goto (tgt := 53) C dX9_ring_48 (by decide) ?_
        refine g_sub (lv' := [none, none]) trivial ?_
        exact l_Fa_ring_b53 C HR  hf
    · have hf := iteT hf hc
      refine g_aload_n C dX9_ring_21 rfl ?_
      obtain ⟨x6, hg, hf⟩ := gR_ok hf
      refine g_getR C fl_Fa_51 dX9_ring_22 hg ?_
      obtain ⟨x7, hx7, hg, hf⟩ := gI_ok hf
      refine e_getI C fl_Fa_209 dX9_ring_25 hx7 hg ?_
      obtain ⟨rfl, rfl⟩ := rH_ok hf
      exact g_iret HR dX9_ring_28
  · have hf := iteF hf hc
    refine g_aload_n C dX9_ring_5 rfl ?_
    refine g_bipush (v := (-10 : Int32)) C dX9_ring_6 (by decide) ?_
    obtain ⟨x8, G9, hg, h1, hf⟩ := vH_ok hf
    refine g_invV (As := [.int (-10 : Int32)]) (st := []) C (c_Fa_bad E h1) (rfl : vwCl[9]? = some (y_Fa_bad.cls, TX9, 13)) (by decide) hg ml_Fa_83 cm_Fa_bad.1 cm_Fa_bad.2.1 cm_Fa_bad.2.2.1 cm_Fa_bad.2.2.2.1 cm_Fa_bad.2.2.2.2 rfl ⟨by omega, by omega, by omega, by omega⟩ (by exact Nat.le_of_ble_eq_true rfl) rfl dX9_ring_8 ?_
    obtain ⟨rfl, rfl⟩ := rH_ok hf
    exact g_iret HR dX9_ring_11
theorem c_Fa_ring (E : EE) {G : Hp} {l0 : Nat} {l1 : Int32} {r : Int32} {G' : Hp} (h : f_Fa_ring G l0 l1 = some (r, G')) : gCt E y_Fa_ring cX9_ring 2 (some .int) 14 617 0 0 [.ref (E.2.1 + l0), .int l1] G (some (.int r)) G' := gCt_of (own := "FavoursGoOff") (ini := false) [some (.ref (E.2.1 + l0)), some (.int l1)] (by decide +kernel) rfl (fun h => by cases h) (Nat.le_of_ble_eq_true rfl) ⟨rfl, ⟨rfl, trivial⟩⟩ (fun X C HR => l_Fa_ring C HR h)
set_option maxRecDepth 20000 in
theorem l_Fa_cancel_b105 {E : EE} {X : CT} {G : Hp} (C : gCx E X cX9_cancel "FavoursGoOff" (some .int) 14 617 0 0 false 5) {r : Int32} {G' : Hp} (HR : gRet E X cX9_cancel (some .int) 0 0 (some (.int r)) G') {k25 : Hp → Nat → Int32 → Int32 → Option (Int32 × Hp)} (K25 : ∀ {G : Hp} {l0 : Nat} {l1 : Int32} {l2 : Int32}, k25 G l0 l1 l2 = some (r, G') → gV E X 0 0 G 25 [some (.ref (E.2.1 + l0)), some (.int l1), some (.int l2), none, none] []) {l0 : Nat} {l1 : Int32} {l2 : Int32} (hf : f_Fa_cancel_b105 k25 G l0 l1 l2 = some (r, G')) : gV E X 0 0 G 105 [some (.ref (E.2.1 + l0)), some (.int l1), some (.int l2), none, none] [] := by
  unfold f_Fa_cancel_b105 at hf
  refine g_iinc (v := (l2 + 1)) (lv' := [some (.ref (E.2.1 + l0)), some (.int l1), some (.int (l2 + 1)), none, none]) C dX9_cancel_105 (by decide) rfl rfl rfl ?_
  refine g_goto (tgt := 25) C dX9_cancel_108 (by decide) ?_
  refine g_sub (lv' := [some (.ref (E.2.1 + l0)), some (.int l1), some (.int (l2 + 1)), none, none]) ⟨rfl, ⟨rfl, ⟨rfl, trivial⟩⟩⟩ ?_
  exact K25 hf
set_option maxRecDepth 20000 in
theorem l_Fa_cancel_b56 {E : EE} {X : CT} {G : Hp} (C : gCx E X cX9_cancel "FavoursGoOff" (some .int) 14 617 0 0 false 5) {r : Int32} {G' : Hp} (HR : gRet E X cX9_cancel (some .int) 0 0 (some (.int r)) G') {k25 : Hp → Nat → Int32 → Int32 → Option (Int32 × Hp)} (K25 : ∀ {G : Hp} {l0 : Nat} {l1 : Int32} {l2 : Int32}, k25 G l0 l1 l2 = some (r, G') → gV E X 0 0 G 25 [some (.ref (E.2.1 + l0)), some (.int l1), some (.int l2), none, none] []) {l0 : Nat} {l1 : Int32} {l2 : Int32} {s0 : Int32} (hf : f_Fa_cancel_b56 k25 G l0 l1 l2 s0 = some (r, G')) : gV E X 0 0 G 56 [some (.ref (E.2.1 + l0)), some (.int l1), some (.int l2), none, none] [.int s0] := by
  unfold f_Fa_cancel_b56 at hf
  refine g_istore_n (lv' := [some (.ref (E.2.1 + l0)), some (.int l1), some (.int l2), some (.int s0), none]) C dX9_cancel_56 (by decide) rfl ?_
  refine g_aload_n C dX9_cancel_57 rfl ?_
  obtain ⟨x1, hg, hf⟩ := gR_ok hf
  refine g_getR C fl_Fa_26 dX9_cancel_58 hg ?_
  refine g_aload_n C dX9_cancel_61 rfl ?_
  obtain ⟨x2, hg, hf⟩ := gR_ok hf
  refine g_getR C fl_Fa_51 dX9_cancel_62 hg ?_
  refine g_iload_n C dX9_cancel_65 rfl ?_
  obtain ⟨x3, hg, h1, hf⟩ := vP_ok hf
  refine g_invV (As := [.int l2]) (st := [.ref (E.2.1 + x1)]) C (c_Ci_member E h1) (rfl : vwCl[0]? = some (y_Ci_member.cls, TX0, 2)) (by decide) hg ml_Fa_210 cm_Ci_member.1 cm_Ci_member.2.1 cm_Ci_member.2.2.1 cm_Ci_member.2.2.2.1 cm_Ci_member.2.2.2.2 rfl ⟨by omega, by omega, by omega, by omega⟩ (by exact Nat.le_of_ble_eq_true rfl) rfl dX9_cancel_66 ?_
  refine g_aload_n C dX9_cancel_69 rfl ?_
  obtain ⟨x4, hg, hf⟩ := gR_ok hf
  refine g_getR C fl_Fa_51 dX9_cancel_70 hg ?_
  refine g_iload_n C dX9_cancel_73 rfl ?_
  obtain ⟨x5, hg, h1, hf⟩ := vP_ok hf
  refine g_invV (As := [.int s0]) (st := [.int x3, .ref (E.2.1 + x1)]) C (c_Ci_member E h1) (rfl : vwCl[0]? = some (y_Ci_member.cls, TX0, 2)) (by decide) hg ml_Fa_210 cm_Ci_member.1 cm_Ci_member.2.1 cm_Ci_member.2.2.1 cm_Ci_member.2.2.2.1 cm_Ci_member.2.2.2.2 rfl ⟨by omega, by omega, by omega, by omega⟩ (by exact Nat.le_of_ble_eq_true rfl) rfl dX9_cancel_74 ?_
  obtain ⟨x6, hg, h1, hf⟩ := vP_ok hf
  refine g_invV (As := [.int x3, .int x5]) (st := []) C (c_St_cheapest E h1) (rfl : vwCl[6]? = some (y_St_cheapest.cls, TX6, 6)) (by decide) hg ml_Fa_213 cm_St_cheapest.1 cm_St_cheapest.2.1 cm_St_cheapest.2.2.1 cm_St_cheapest.2.2.2.1 cm_St_cheapest.2.2.2.2 rfl ⟨by omega, by omega, by omega, by omega⟩ (by exact Nat.le_of_ble_eq_true rfl) rfl dX9_cancel_77 ?_
  refine g_istore (lv' := [some (.ref (E.2.1 + l0)), some (.int l1), some (.int l2), some (.int s0), some (.int x6)]) C dX9_cancel_80 (by decide) rfl ?_
  refine g_iload C dX9_cancel_82 rfl ?_
  refine g_iconst (v := (-1 : Int32)) C dX9_cancel_84 (by decide) ?_
  refine g_icmp_eq (tgt := 105) C dX9_cancel_85 (by decide) (fun hc => ?_) (fun hc => ?_)
  · have hf := iteT hf hc
    refine g_sub (lv' := [some (.ref (E.2.1 + l0)), some (.int l1), some (.int l2), none, none]) ⟨rfl, ⟨rfl, ⟨rfl, trivial⟩⟩⟩ ?_
    exact l_Fa_cancel_b105 C HR K25 hf
  · have hf := iteF hf hc
    refine g_aload_n C dX9_cancel_88 rfl ?_
    obtain ⟨x7, hg, hf⟩ := gR_ok hf
    refine g_getR C fl_Fa_26 dX9_cancel_89 hg ?_
    obtain ⟨x8, hg, hf⟩ := gR_ok hf
    refine g_getR C fl_Fa_122 dX9_cancel_92 hg ?_
    refine g_iload C dX9_cancel_95 rfl ?_
    refine g_iconst (v := (2 : Int32)) C dX9_cancel_97 (by decide) ?_
    refine g_iconst (v := (-1 : Int32)) C dX9_cancel_98 (by decide) ?_
    obtain ⟨G9, hg, h1, hf⟩ := vP_ok hf
    refine g_invV (As := [.int x6, .int (2 : Int32), .int (-1 : Int32)]) (st := []) C (c_Ta_put E h1) (rfl : vwCl[7]? = some (y_Ta_put.cls, TX7, 3)) (by decide) hg ml_Fa_112 cm_Ta_put.1 cm_Ta_put.2.1 cm_Ta_put.2.2.1 cm_Ta_put.2.2.2.1 cm_Ta_put.2.2.2.2 rfl ⟨by omega, by omega, by omega, by omega⟩ (by exact Nat.le_of_ble_eq_true rfl) rfl dX9_cancel_99 ?_
    refine g_iinc (v := (l1 + 1)) (lv' := [some (.ref (E.2.1 + l0)), some (.int (l1 + 1)), some (.int l2), some (.int s0), some (.int x6)]) C dX9_cancel_102 (by decide) rfl rfl rfl ?_
    refine g_sub (lv' := [some (.ref (E.2.1 + l0)), some (.int (l1 + 1)), some (.int l2), none, none]) ⟨rfl, ⟨rfl, ⟨rfl, trivial⟩⟩⟩ ?_
    exact l_Fa_cancel_b105 C HR K25 hf
set_option maxRecDepth 20000 in
theorem l_Fa_cancel_b25k {E : EE} {X : CT} {G : Hp} (C : gCx E X cX9_cancel "FavoursGoOff" (some .int) 14 617 0 0 false 5) {r : Int32} {G' : Hp} (HR : gRet E X cX9_cancel (some .int) 0 0 (some (.int r)) G') {k25 : Hp → Nat → Int32 → Int32 → Option (Int32 × Hp)} (K25 : ∀ {G : Hp} {l0 : Nat} {l1 : Int32} {l2 : Int32}, k25 G l0 l1 l2 = some (r, G') → gV E X 0 0 G 25 [some (.ref (E.2.1 + l0)), some (.int l1), some (.int l2), none, none] []) {l0 : Nat} {l1 : Int32} {l2 : Int32} (hf : f_Fa_cancel_b25_k k25 G l0 l1 l2 = some (r, G')) : gV E X 0 0 G 25 [some (.ref (E.2.1 + l0)), some (.int l1), some (.int l2), none, none] [] := by
  unfold f_Fa_cancel_b25_k at hf
  refine g_iload_n C dX9_cancel_25 rfl ?_
  refine g_aload_n C dX9_cancel_26 rfl ?_
  obtain ⟨x1, hg, hf⟩ := gR_ok hf
  refine g_getR C fl_Fa_51 dX9_cancel_27 hg ?_
  obtain ⟨x2, hx2, hg, hf⟩ := gI_ok hf
  refine e_getI C fl_Fa_209 dX9_cancel_30 hx2 hg ?_
  refine g_icmp_ge (tgt := 111) C dX9_cancel_33 (by decide) (fun hc => ?_) (fun hc => ?_)
  · have hf := iteT hf hc
    refine g_aload_n C dX9_cancel_111 rfl ?_
    obtain ⟨x3, hg, hf⟩ := gR_ok hf
    refine g_getR C fl_Fa_58 dX9_cancel_112 hg ?_
    refine g_iconst (v := (1 : Int32)) C dX9_cancel_115 (by decide) ?_
    obtain ⟨G4, hG4, hg, hf⟩ := pI_ok hf
    refine e_putI C fl_Fa_100 dX9_cancel_116 hG4 hg (Or.inl rfl) (by decide) (by decide) ?_
    refine g_iload_n C dX9_cancel_119 rfl ?_
    obtain ⟨rfl, rfl⟩ := rH_ok hf
    exact g_iret HR dX9_cancel_120
  · have hf := iteF hf hc
    refine g_iload_n C dX9_cancel_36 rfl ?_
    refine g_iconst (v := (1 : Int32)) C dX9_cancel_37 (by decide) ?_
    refine g_iadd C dX9_cancel_38 ?_
    refine g_aload_n C dX9_cancel_39 rfl ?_
    obtain ⟨x5, hg, hf⟩ := gR_ok hf
    refine g_getR C fl_Fa_51 dX9_cancel_40 hg ?_
    obtain ⟨x6, hx6, hg, hf⟩ := gI_ok hf
    refine e_getI C fl_Fa_209 dX9_cancel_43 hx6 hg ?_
    refine g_icmp_ge (tgt := 55) C dX9_cancel_46 (by decide) (fun hc => ?_) (fun hc => ?_)
    · have hf := iteT hf hc
      refine g_iconst (v := (0 : Int32)) C dX9_cancel_55 (by decide) ?_
      refine g_sub (lv' := [some (.ref (E.2.1 + l0)), some (.int l1), some (.int l2), none, none]) ⟨rfl, ⟨rfl, ⟨rfl, trivial⟩⟩⟩ ?_
      exact l_Fa_cancel_b56 C HR K25 hf
    · have hf := iteF hf hc
      refine g_iload_n C dX9_cancel_49 rfl ?_
      refine g_iconst (v := (1 : Int32)) C dX9_cancel_50 (by decide) ?_
      refine g_iadd C dX9_cancel_51 ?_
      refine g_goto (tgt := 56) C dX9_cancel_52 (by decide) ?_
      refine g_sub (lv' := [some (.ref (E.2.1 + l0)), some (.int l1), some (.int l2), none, none]) ⟨rfl, ⟨rfl, ⟨rfl, trivial⟩⟩⟩ ?_
      exact l_Fa_cancel_b56 C HR K25 hf
theorem l_Fa_cancel_b25 {E : EE} {X : CT} (C : gCx E X cX9_cancel "FavoursGoOff" (some .int) 14 617 0 0 false 5) {r : Int32} {G' : Hp} (HR : gRet E X cX9_cancel (some .int) 0 0 (some (.int r)) G') : ∀ (nn : Nat) {G : Hp} {l0 : Nat} {l1 : Int32} {l2 : Int32}, f_Fa_cancel_b25 nn G l0 l1 l2 = some (r, G') → gV E X 0 0 G 25 [some (.ref (E.2.1 + l0)), some (.int l1), some (.int l2), none, none] []
  | 0, _, _, _, _, hf => by have h0 : (none : Option (Int32 × Hp)) = some (r, G') := hf; cases h0
  | nn + 1, _, _, _, _, hf => l_Fa_cancel_b25k C HR (fun h => l_Fa_cancel_b25 C HR nn h) hf
set_option maxRecDepth 20000 in
theorem l_Fa_cancel {E : EE} {X : CT} {G : Hp} (C : gCx E X cX9_cancel "FavoursGoOff" (some .int) 14 617 0 0 false 5) {r : Int32} {G' : Hp} (HR : gRet E X cX9_cancel (some .int) 0 0 (some (.int r)) G') {l0 : Nat} (hf : f_Fa_cancel G l0 = some (r, G')) : gV E X 0 0 G 0 [some (.ref (E.2.1 + l0)), none, none, none, none] [] := by
  unfold f_Fa_cancel at hf
  refine g_aload_n C dX9_cancel_0 rfl ?_
  obtain ⟨G1, hg, h1, hf⟩ := vP_ok hf
  refine g_invV (As := []) (st := []) C (c_Fa_findRing E h1) (rfl : vwCl[9]? = some (y_Fa_findRing.cls, TX9, 13)) (by decide) hg ml_Fa_206 cm_Fa_findRing.1 cm_Fa_findRing.2.1 cm_Fa_findRing.2.2.1 cm_Fa_findRing.2.2.2.1 cm_Fa_findRing.2.2.2.2 rfl ⟨by omega, by omega, by omega, by omega⟩ (by exact Nat.le_of_ble_eq_true rfl) rfl dX9_cancel_1 ?_
  refine g_aload_n C dX9_cancel_4 rfl ?_
  obtain ⟨x2, hg, hf⟩ := gR_ok hf
  refine g_getR C fl_Fa_51 dX9_cancel_5 hg ?_
  obtain ⟨x3, hx3, hg, hf⟩ := gI_ok hf
  refine e_getI C fl_Fa_209 dX9_cancel_8 hx3 hg ?_
  refine g_if_ne (tgt := 21) C dX9_cancel_11 (by decide) (fun hc => ?_) (fun hc => ?_)
  · have hf := iteF hf hc
    refine g_iconst (v := (0 : Int32)) C dX9_cancel_21 (by decide) ?_
    refine g_istore_n (lv' := [some (.ref (E.2.1 + l0)), some (.int (0 : Int32)), none, none, none]) C dX9_cancel_22 (by decide) rfl ?_
    refine g_iconst (v := (0 : Int32)) C dX9_cancel_23 (by decide) ?_
    refine g_istore_n (lv' := [some (.ref (E.2.1 + l0)), some (.int (0 : Int32)), some (.int (0 : Int32)), none, none]) C dX9_cancel_24 (by decide) rfl ?_
    refine g_sub (lv' := [some (.ref (E.2.1 + l0)), some (.int (0 : Int32)), some (.int (0 : Int32)), none, none]) ⟨rfl, ⟨rfl, ⟨rfl, trivial⟩⟩⟩ ?_
    exact l_Fa_cancel_b25 C HR  FU hf
  · have hf := iteT hf hc
    refine g_aload_n C dX9_cancel_14 rfl ?_
    refine g_bipush (v := (-3 : Int32)) C dX9_cancel_15 (by decide) ?_
    obtain ⟨x4, G5, hg, h1, hf⟩ := vH_ok hf
    refine g_invV (As := [.int (-3 : Int32)]) (st := []) C (c_Fa_no E h1) (rfl : vwCl[9]? = some (y_Fa_no.cls, TX9, 13)) (by decide) hg ml_Fa_177 cm_Fa_no.1 cm_Fa_no.2.1 cm_Fa_no.2.2.1 cm_Fa_no.2.2.2.1 cm_Fa_no.2.2.2.2 rfl ⟨by omega, by omega, by omega, by omega⟩ (by exact Nat.le_of_ble_eq_true rfl) rfl dX9_cancel_17 ?_
    obtain ⟨rfl, rfl⟩ := rH_ok hf
    exact g_iret HR dX9_cancel_20
theorem c_Fa_cancel (E : EE) {G : Hp} {l0 : Nat} {r : Int32} {G' : Hp} (h : f_Fa_cancel G l0 = some (r, G')) : gCt E y_Fa_cancel cX9_cancel 5 (some .int) 14 617 0 0 [.ref (E.2.1 + l0)] G (some (.int r)) G' := gCt_of (own := "FavoursGoOff") (ini := false) [some (.ref (E.2.1 + l0)), none, none, none, none] (by decide +kernel) rfl (fun h => by cases h) (Nat.le_of_ble_eq_true rfl) ⟨rfl, trivial⟩ (fun X C HR => l_Fa_cancel C HR h)
set_option maxRecDepth 20000 in
theorem l_Fa_net {E : EE} {X : CT} {G : Hp} (C : gCx E X cX9_net "FavoursGoOff" (some .int) 5 113 0 0 false 2) {r : Int32} {G' : Hp} (HR : gRet E X cX9_net (some .int) 0 0 (some (.int r)) G') {l0 : Nat} {l1 : Int32} (hf : f_Fa_net G l0 l1 = some (r, G')) : gV E X 0 0 G 0 [some (.ref (E.2.1 + l0)), some (.int l1)] [] := by
  unfold f_Fa_net at hf
  refine g_aload_n C dX9_net_0 rfl ?_
  obtain ⟨x1, hg, hf⟩ := gR_ok hf
  refine g_getR C fl_Fa_26 dX9_net_1 hg ?_
  obtain ⟨x2, hg, hf⟩ := gR_ok hf
  refine g_getR C fl_Fa_87 dX9_net_4 hg ?_
  refine g_iload_n C dX9_net_7 rfl ?_
  obtain ⟨x3, hg, h1, hf⟩ := vP_ok hf
  refine g_invV (As := [.int l1]) (st := []) C (c_Ta_has E h1) (rfl : vwCl[7]? = some (y_Ta_has.cls, TX7, 3)) (by decide) hg ml_Fa_104 cm_Ta_has.1 cm_Ta_has.2.1 cm_Ta_has.2.2.1 cm_Ta_has.2.2.2.1 cm_Ta_has.2.2.2.2 rfl ⟨by omega, by omega, by omega, by omega⟩ (by exact Nat.le_of_ble_eq_true rfl) rfl dX9_net_8 ?_
  refine g_if_ne (tgt := 22) C dX9_net_11 (by decide) (fun hc => ?_) (fun hc => ?_)
  · have hf := iteF hf hc
    refine g_aload_n C dX9_net_22 rfl ?_
    obtain ⟨x4, hg, hf⟩ := gR_ok hf
    refine g_getR C fl_Fa_44 dX9_net_23 hg ?_
    refine g_aload_n C dX9_net_26 rfl ?_
    obtain ⟨x5, hg, hf⟩ := gR_ok hf
    refine g_getR C fl_Fa_26 dX9_net_27 hg ?_
    refine g_aload_n C dX9_net_30 rfl ?_
    obtain ⟨x6, hg, hf⟩ := gR_ok hf
    refine g_getR C fl_Fa_26 dX9_net_31 hg ?_
    obtain ⟨x7, hx7, hg, hf⟩ := gI_ok hf
    refine e_getI C fl_Fa_187 dX9_net_34 hx7 hg ?_
    obtain ⟨G8, hg, h1, hf⟩ := vP_ok hf
    refine g_invV (As := [.ref (E.2.1 + x5), .int x7]) (st := []) C (c_De_addUp E h1) (rfl : vwCl[1]? = some (y_De_addUp.cls, TX1, 6)) (by decide) hg ml_Fa_199 cm_De_addUp.1 cm_De_addUp.2.1 cm_De_addUp.2.2.1 cm_De_addUp.2.2.2.1 cm_De_addUp.2.2.2.2 rfl ⟨by omega, by omega, by omega, by omega⟩ (by exact Nat.le_of_ble_eq_true rfl) rfl dX9_net_37 ?_
    refine g_aload_n C dX9_net_40 rfl ?_
    obtain ⟨x9, hg, hf⟩ := gR_ok hf
    refine g_getR C fl_Fa_44 dX9_net_41 hg ?_
    refine g_iload_n C dX9_net_44 rfl ?_
    obtain ⟨x10, hg, h1, hf⟩ := vP_ok hf
    refine g_invV (As := [.int l1]) (st := []) C (c_De_balance E h1) (rfl : vwCl[1]? = some (y_De_balance.cls, TX1, 6)) (by decide) hg ml_Fa_216 cm_De_balance.1 cm_De_balance.2.1 cm_De_balance.2.2.1 cm_De_balance.2.2.2.1 cm_De_balance.2.2.2.2 rfl ⟨by omega, by omega, by omega, by omega⟩ (by exact Nat.le_of_ble_eq_true rfl) rfl dX9_net_45 ?_
    obtain ⟨rfl, rfl⟩ := rH_ok hf
    exact g_iret HR dX9_net_48
  · have hf := iteT hf hc
    refine g_aload_n C dX9_net_14 rfl ?_
    refine g_sipush (v := (-10000 : Int32)) C dX9_net_15 (by decide) ?_
    obtain ⟨x11, G12, hg, h1, hf⟩ := vH_ok hf
    refine g_invV (As := [.int (-10000 : Int32)]) (st := []) C (c_Fa_bad E h1) (rfl : vwCl[9]? = some (y_Fa_bad.cls, TX9, 13)) (by decide) hg ml_Fa_83 cm_Fa_bad.1 cm_Fa_bad.2.1 cm_Fa_bad.2.2.1 cm_Fa_bad.2.2.2.1 cm_Fa_bad.2.2.2.2 rfl ⟨by omega, by omega, by omega, by omega⟩ (by exact Nat.le_of_ble_eq_true rfl) rfl dX9_net_18 ?_
    obtain ⟨rfl, rfl⟩ := rH_ok hf
    exact g_iret HR dX9_net_21
theorem c_Fa_net (E : EE) {G : Hp} {l0 : Nat} {l1 : Int32} {r : Int32} {G' : Hp} (h : f_Fa_net G l0 l1 = some (r, G')) : gCt E y_Fa_net cX9_net 2 (some .int) 5 113 0 0 [.ref (E.2.1 + l0), .int l1] G (some (.int r)) G' := gCt_of (own := "FavoursGoOff") (ini := false) [some (.ref (E.2.1 + l0)), some (.int l1)] (by decide +kernel) rfl (fun h => by cases h) (Nat.le_of_ble_eq_true rfl) ⟨rfl, ⟨rfl, trivial⟩⟩ (fun X C HR => l_Fa_net C HR h)
set_option maxRecDepth 20000 in
theorem l_Fa_fewest {E : EE} {X : CT} {G : Hp} (C : gCx E X cX9_fewest "FavoursGoOff" (some .int) 6 135 0 0 false 1) {r : Int32} {G' : Hp} (HR : gRet E X cX9_fewest (some .int) 0 0 (some (.int r)) G') {l0 : Nat} (hf : f_Fa_fewest G l0 = some (r, G')) : gV E X 0 0 G 0 [some (.ref (E.2.1 + l0))] [] := by
  unfold f_Fa_fewest at hf
  refine g_aload_n C dX9_fewest_0 rfl ?_
  obtain ⟨x1, hg, hf⟩ := gR_ok hf
  refine g_getR C fl_Fa_44 dX9_fewest_1 hg ?_
  refine g_aload_n C dX9_fewest_4 rfl ?_
  obtain ⟨x2, hg, hf⟩ := gR_ok hf
  refine g_getR C fl_Fa_26 dX9_fewest_5 hg ?_
  refine g_aload_n C dX9_fewest_8 rfl ?_
  obtain ⟨x3, hg, hf⟩ := gR_ok hf
  refine g_getR C fl_Fa_26 dX9_fewest_9 hg ?_
  obtain ⟨x4, hx4, hg, hf⟩ := gI_ok hf
  refine e_getI C fl_Fa_187 dX9_fewest_12 hx4 hg ?_
  obtain ⟨G5, hg, h1, hf⟩ := vP_ok hf
  refine g_invV (As := [.ref (E.2.1 + x2), .int x4]) (st := []) C (c_De_addUp E h1) (rfl : vwCl[1]? = some (y_De_addUp.cls, TX1, 6)) (by decide) hg ml_Fa_199 cm_De_addUp.1 cm_De_addUp.2.1 cm_De_addUp.2.2.1 cm_De_addUp.2.2.2.1 cm_De_addUp.2.2.2.2 rfl ⟨by omega, by omega, by omega, by omega⟩ (by exact Nat.le_of_ble_eq_true rfl) rfl dX9_fewest_15 ?_
  refine g_aload_n C dX9_fewest_18 rfl ?_
  obtain ⟨x6, hg, hf⟩ := gR_ok hf
  refine g_getR C fl_Fa_44 dX9_fewest_19 hg ?_
  obtain ⟨x7, G8, hg, h1, hf⟩ := vH_ok hf
  refine g_invV (As := []) (st := []) C (c_De_fewestPayments E h1) (rfl : vwCl[1]? = some (y_De_fewestPayments.cls, TX1, 6)) (by decide) hg ml_Fa_219 cm_De_fewestPayments.1 cm_De_fewestPayments.2.1 cm_De_fewestPayments.2.2.1 cm_De_fewestPayments.2.2.2.1 cm_De_fewestPayments.2.2.2.2 rfl ⟨by omega, by omega, by omega, by omega⟩ (by exact Nat.le_of_ble_eq_true rfl) rfl dX9_fewest_22 ?_
  obtain ⟨rfl, rfl⟩ := rH_ok hf
  exact g_iret HR dX9_fewest_25
theorem c_Fa_fewest (E : EE) {G : Hp} {l0 : Nat} {r : Int32} {G' : Hp} (h : f_Fa_fewest G l0 = some (r, G')) : gCt E y_Fa_fewest cX9_fewest 1 (some .int) 6 135 0 0 [.ref (E.2.1 + l0)] G (some (.int r)) G' := gCt_of (own := "FavoursGoOff") (ini := false) [some (.ref (E.2.1 + l0))] (by decide +kernel) rfl (fun h => by cases h) (Nat.le_of_ble_eq_true rfl) ⟨rfl, trivial⟩ (fun X C HR => l_Fa_fewest C HR h)
set_option maxRecDepth 20000 in
theorem l_Fa_met_b48 {E : EE} {X : CT} {G : Hp} (C : gCx E X cX9_met "FavoursGoOff" (some .int) 13 600 0 0 false 2) {r : Int32} {G' : Hp} (HR : gRet E X cX9_met (some .int) 0 0 (some (.int r)) G') {s0 : Int32} (hf : f_Fa_met_b48 G s0 = some (r, G')) : gV E X 0 0 G 48 [none, none] [.int s0] := by
  unfold f_Fa_met_b48 at hf
  obtain ⟨rfl, rfl⟩ := rH_ok hf
  exact g_iret HR dX9_met_48
set_option maxRecDepth 20000 in
theorem l_Fa_met {E : EE} {X : CT} {G : Hp} (C : gCx E X cX9_met "FavoursGoOff" (some .int) 13 600 0 0 false 2) {r : Int32} {G' : Hp} (HR : gRet E X cX9_met (some .int) 0 0 (some (.int r)) G') {l0 : Nat} {l1 : Int32} (hf : f_Fa_met G l0 l1 = some (r, G')) : gV E X 0 0 G 0 [some (.ref (E.2.1 + l0)), some (.int l1)] [] := by
  unfold f_Fa_met at hf
  refine g_iload_n C dX9_met_0 rfl ?_
  refine g_iconst (v := (0 : Int32)) C dX9_met_1 (by decide) ?_
  refine g_iconst (v := (1 : Int32)) C dX9_met_2 (by decide) ?_
  obtain ⟨x1, h1, hf⟩ := cP_ok hf
  refine g_invS (As := [.int l1, .int (0 : Int32), .int (1 : Int32)]) (st := []) C (c_Fa_isWithin E h1) ml_Fa_79 cm_Fa_isWithin.1 cm_Fa_isWithin.2.1 cm_Fa_isWithin.2.2.1 cm_Fa_isWithin.2.2.2 rfl ⟨by omega, by omega, by omega, by omega⟩ (by exact Nat.le_of_ble_eq_true rfl) rfl dX9_met_3 ?_
  refine g_if_ne (tgt := 16) C dX9_met_6 (by decide) (fun hc => ?_) (fun hc => ?_)
  · have hf := iteF hf hc
    refine g_aload_n C dX9_met_16 rfl ?_
    obtain ⟨x2, hg, hf⟩ := gR_ok hf
    refine g_getR C fl_Fa_58 dX9_met_17 hg ?_
    refine g_aload_n C dX9_met_20 rfl ?_
    obtain ⟨x3, hg, hf⟩ := gR_ok hf
    refine g_getR C fl_Fa_26 dX9_met_21 hg ?_
    obtain ⟨G4, hg, h1, hf⟩ := vP_ok hf
    refine g_invV (As := [.ref (E.2.1 + x3)]) (st := []) C (c_Pl_make E h1) (rfl : vwCl[4]? = some (y_Pl_make.cls, TX4, 13)) (by decide) hg ml_Fa_222 cm_Pl_make.1 cm_Pl_make.2.1 cm_Pl_make.2.2.1 cm_Pl_make.2.2.2.1 cm_Pl_make.2.2.2.2 rfl ⟨by omega, by omega, by omega, by omega⟩ (by exact Nat.le_of_ble_eq_true rfl) rfl dX9_met_24 ?_
    refine g_iload_n C dX9_met_27 rfl ?_
    refine g_if_ne (tgt := 41) C dX9_met_28 (by decide) (fun hc => ?_) (fun hc => ?_)
    · have hf := iteF hf hc
      refine g_aload_n C dX9_met_41 rfl ?_
      obtain ⟨x5, hg, hf⟩ := gR_ok hf
      refine g_getR C fl_Fa_58 dX9_met_42 hg ?_
      obtain ⟨x6, hx6, hg, hf⟩ := gI_ok hf
      refine e_getI C fl_Fa_228 dX9_met_45 hx6 hg ?_
      refine g_sub (lv' := [none, none]) trivial ?_
      exact l_Fa_met_b48 C HR  hf
    · have hf := iteT hf hc
      refine g_aload_n C dX9_met_31 rfl ?_
      obtain ⟨x7, hg, hf⟩ := gR_ok hf
      refine g_getR C fl_Fa_58 dX9_met_32 hg ?_
      obtain ⟨x8, hx8, hg, hf⟩ := gI_ok hf
      refine e_getI C fl_Fa_225 dX9_met_35 hx8 hg ?_
      refine g_goto (tgt := 48) C dX9_met_38 (by decide) ?_
      refine g_sub (lv' := [none, none]) trivial ?_
      exact l_Fa_met_b48 C HR  hf
  · have hf := iteT hf hc
    refine g_aload_n C dX9_met_9 rfl ?_
    refine g_bipush (v := (-2 : Int32)) C dX9_met_10 (by decide) ?_
    obtain ⟨x9, G10, hg, h1, hf⟩ := vH_ok hf
    refine g_invV (As := [.int (-2 : Int32)]) (st := []) C (c_Fa_bad E h1) (rfl : vwCl[9]? = some (y_Fa_bad.cls, TX9, 13)) (by decide) hg ml_Fa_83 cm_Fa_bad.1 cm_Fa_bad.2.1 cm_Fa_bad.2.2.1 cm_Fa_bad.2.2.2.1 cm_Fa_bad.2.2.2.2 rfl ⟨by omega, by omega, by omega, by omega⟩ (by exact Nat.le_of_ble_eq_true rfl) rfl dX9_met_12 ?_
    obtain ⟨rfl, rfl⟩ := rH_ok hf
    exact g_iret HR dX9_met_15
theorem c_Fa_met (E : EE) {G : Hp} {l0 : Nat} {l1 : Int32} {r : Int32} {G' : Hp} (h : f_Fa_met G l0 l1 = some (r, G')) : gCt E y_Fa_met cX9_met 2 (some .int) 13 600 0 0 [.ref (E.2.1 + l0), .int l1] G (some (.int r)) G' := gCt_of (own := "FavoursGoOff") (ini := false) [some (.ref (E.2.1 + l0)), some (.int l1)] (by decide +kernel) rfl (fun h => by cases h) (Nat.le_of_ble_eq_true rfl) ⟨rfl, ⟨rfl, trivial⟩⟩ (fun X C HR => l_Fa_met C HR h)
set_option maxRecDepth 20000 in
theorem l_Fa_plan {E : EE} {X : CT} {G : Hp} (C : gCx E X cX9_plan "FavoursGoOff" (some .int) 13 600 0 0 false 2) {r : Int32} {G' : Hp} (HR : gRet E X cX9_plan (some .int) 0 0 (some (.int r)) G') {l0 : Nat} {l1 : Int32} (hf : f_Fa_plan G l0 l1 = some (r, G')) : gV E X 0 0 G 0 [some (.ref (E.2.1 + l0)), some (.int l1)] [] := by
  unfold f_Fa_plan at hf
  refine g_aload_n C dX9_plan_0 rfl ?_
  obtain ⟨x1, hg, hf⟩ := gR_ok hf
  refine g_getR C fl_Fa_26 dX9_plan_1 hg ?_
  obtain ⟨x2, hg, hf⟩ := gR_ok hf
  refine g_getR C fl_Fa_140 dX9_plan_4 hg ?_
  refine g_iload_n C dX9_plan_7 rfl ?_
  obtain ⟨x3, hg, h1, hf⟩ := vP_ok hf
  refine g_invV (As := [.int l1]) (st := []) C (c_Ta_has E h1) (rfl : vwCl[7]? = some (y_Ta_has.cls, TX7, 3)) (by decide) hg ml_Fa_104 cm_Ta_has.1 cm_Ta_has.2.1 cm_Ta_has.2.2.1 cm_Ta_has.2.2.2.1 cm_Ta_has.2.2.2.2 rfl ⟨by omega, by omega, by omega, by omega⟩ (by exact Nat.le_of_ble_eq_true rfl) rfl dX9_plan_8 ?_
  refine g_if_ne (tgt := 21) C dX9_plan_11 (by decide) (fun hc => ?_) (fun hc => ?_)
  · have hf := iteF hf hc
    refine g_aload_n C dX9_plan_21 rfl ?_
    obtain ⟨x4, hg, hf⟩ := gR_ok hf
    refine g_getR C fl_Fa_58 dX9_plan_22 hg ?_
    refine g_aload_n C dX9_plan_25 rfl ?_
    obtain ⟨x5, hg, hf⟩ := gR_ok hf
    refine g_getR C fl_Fa_26 dX9_plan_26 hg ?_
    obtain ⟨G6, hg, h1, hf⟩ := vP_ok hf
    refine g_invV (As := [.ref (E.2.1 + x5)]) (st := []) C (c_Pl_make E h1) (rfl : vwCl[4]? = some (y_Pl_make.cls, TX4, 13)) (by decide) hg ml_Fa_222 cm_Pl_make.1 cm_Pl_make.2.1 cm_Pl_make.2.2.1 cm_Pl_make.2.2.2.1 cm_Pl_make.2.2.2.2 rfl ⟨by omega, by omega, by omega, by omega⟩ (by exact Nat.le_of_ble_eq_true rfl) rfl dX9_plan_29 ?_
    refine g_aload_n C dX9_plan_32 rfl ?_
    obtain ⟨x7, hg, hf⟩ := gR_ok hf
    refine g_getR C fl_Fa_58 dX9_plan_33 hg ?_
    refine g_iload_n C dX9_plan_36 rfl ?_
    obtain ⟨x8, hg, h1, hf⟩ := vP_ok hf
    refine g_invV (As := [.int l1]) (st := []) C (c_Pl_favourOf E h1) (rfl : vwCl[4]? = some (y_Pl_favourOf.cls, TX4, 13)) (by decide) hg ml_Fa_231 cm_Pl_favourOf.1 cm_Pl_favourOf.2.1 cm_Pl_favourOf.2.2.1 cm_Pl_favourOf.2.2.2.1 cm_Pl_favourOf.2.2.2.2 rfl ⟨by omega, by omega, by omega, by omega⟩ (by exact Nat.le_of_ble_eq_true rfl) rfl dX9_plan_37 ?_
    obtain ⟨rfl, rfl⟩ := rH_ok hf
    exact g_iret HR dX9_plan_40
  · have hf := iteT hf hc
    refine g_aload_n C dX9_plan_14 rfl ?_
    refine g_bipush (v := (-2 : Int32)) C dX9_plan_15 (by decide) ?_
    obtain ⟨x9, G10, hg, h1, hf⟩ := vH_ok hf
    refine g_invV (As := [.int (-2 : Int32)]) (st := []) C (c_Fa_bad E h1) (rfl : vwCl[9]? = some (y_Fa_bad.cls, TX9, 13)) (by decide) hg ml_Fa_83 cm_Fa_bad.1 cm_Fa_bad.2.1 cm_Fa_bad.2.2.1 cm_Fa_bad.2.2.2.1 cm_Fa_bad.2.2.2.2 rfl ⟨by omega, by omega, by omega, by omega⟩ (by exact Nat.le_of_ble_eq_true rfl) rfl dX9_plan_17 ?_
    obtain ⟨rfl, rfl⟩ := rH_ok hf
    exact g_iret HR dX9_plan_20
theorem c_Fa_plan (E : EE) {G : Hp} {l0 : Nat} {l1 : Int32} {r : Int32} {G' : Hp} (h : f_Fa_plan G l0 l1 = some (r, G')) : gCt E y_Fa_plan cX9_plan 2 (some .int) 13 600 0 0 [.ref (E.2.1 + l0), .int l1] G (some (.int r)) G' := gCt_of (own := "FavoursGoOff") (ini := false) [some (.ref (E.2.1 + l0)), some (.int l1)] (by decide +kernel) rfl (fun h => by cases h) (Nat.le_of_ble_eq_true rfl) ⟨rfl, ⟨rfl, trivial⟩⟩ (fun X C HR => l_Fa_plan C HR h)
