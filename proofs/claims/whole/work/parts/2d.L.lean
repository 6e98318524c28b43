/-! ===== each method does as its function says ===== -/
set_option maxRecDepth 20000 in
theorem l_Re_readItem_b78 {E : EE} {X : CT} {G : Hp} (C : gCx E X cX5_readItem "FavoursGoOff$Reader" none 5 222 0 0 false 1) {G' : Hp} (HR : gRet E X cX5_readItem none 0 0 none G') (hf : f_Re_readItem_b78 G = some G') : gV E X 0 0 G 78 [none] [] := by
  unfold f_Re_readItem_b78 at hf
  obtain rfl := rP_ok hf
  exact g_vret HR dX5_readItem_78
set_option maxRecDepth 20000 in
theorem l_Re_readItem_b74 {E : EE} {X : CT} {G : Hp} (C : gCx E X cX5_readItem "FavoursGoOff$Reader" none 5 222 0 0 false 1) {G' : Hp} (HR : gRet E X cX5_readItem none 0 0 none G') {l0 : Nat} (hf : f_Re_readItem_b74 G l0 = some G') : gV E X 0 0 G 74 [some (.ref (E.2.1 + l0))] [] := by
  unfold f_Re_readItem_b74 at hf
  refine g_aload_n C dX5_readItem_74 rfl ?_
  obtain ⟨G1, hg, h1, hf⟩ := vP_ok hf
  refine g_invV (As := []) (st := []) C (c_Re_fail E h1) (rfl : vwCl[5]? = some (y_Re_fail.cls, TX5, 8)) (by decide) hg ml_Re_50 cm_Re_fail.1 cm_Re_fail.2.1 cm_Re_fail.2.2.1 cm_Re_fail.2.2.2.1 cm_Re_fail.2.2.2.2 rfl ⟨by omega, by omega, by omega, by omega⟩ (by exact Nat.le_of_ble_eq_true rfl) rfl dX5_readItem_75 ?_
  refine g_sub (lv' := [none]) trivial ?_
  exact l_Re_readItem_b78 C HR  hf
set_option maxRecDepth 20000 in
theorem l_Re_readItem_b45 {E : EE} {X : CT} {G : Hp} (C : gCx E X cX5_readItem "FavoursGoOff$Reader" none 5 222 0 0 false 1) {G' : Hp} (HR : gRet E X cX5_readItem none 0 0 none G') {l0 : Nat} (hf : f_Re_readItem_b45 G l0 = some G') : gV E X 0 0 G 45 [some (.ref (E.2.1 + l0))] [] := by
  unfold f_Re_readItem_b45 at hf
  refine g_aload_n C dX5_readItem_45 rfl ?_
  refine g_ldcS (i := 3) C rfl dX5_readItem_46 ?_
  obtain ⟨x1, hg, h1, hf⟩ := vP_ok hf
  refine g_invV (As := [.ref (E.2.2.2.2.1 3)]) (st := []) C (c_Re_isWord E h1) (rfl : vwCl[5]? = some (y_Re_isWord.cls, TX5, 8)) (by decide) hg ml_Re_46 cm_Re_isWord.1 cm_Re_isWord.2.1 cm_Re_isWord.2.2.1 cm_Re_isWord.2.2.2.1 cm_Re_isWord.2.2.2.2 rfl ⟨by omega, by omega, by omega, by omega⟩ (by exact Nat.le_of_ble_eq_true rfl) rfl dX5_readItem_48 ?_
  refine g_if_eq (tgt := 74) C dX5_readItem_51 (by decide) (fun hc => ?_) (fun hc => ?_)
  · have hf := iteT hf hc
    refine g_sub (lv' := [some (.ref (E.2.1 + l0))]) ⟨rfl, trivial⟩ ?_
    exact l_Re_readItem_b74 C HR  hf
  · have hf := iteF hf hc
    refine g_aload_n C dX5_readItem_54 rfl ?_
    obtain ⟨x2, hg, hf⟩ := gR_ok hf
    refine g_getR C fl_Re_21 dX5_readItem_55 hg ?_
    obtain ⟨x3, hg, hf⟩ := gR_ok hf
    refine g_getR C fl_Re_89 dX5_readItem_58 hg ?_
    obtain ⟨x4, hg, h1, hf⟩ := vP_ok hf
    refine g_invV (As := []) (st := []) C (c_Ta_isFull E h1) (rfl : vwCl[7]? = some (y_Ta_isFull.cls, TX7, 3)) (by decide) hg ml_Re_78 cm_Ta_isFull.1 cm_Ta_isFull.2.1 cm_Ta_isFull.2.2.1 cm_Ta_isFull.2.2.2.1 cm_Ta_isFull.2.2.2.2 rfl ⟨by omega, by omega, by omega, by omega⟩ (by exact Nat.le_of_ble_eq_true rfl) rfl dX5_readItem_61 ?_
    refine g_if_ne (tgt := 74) C dX5_readItem_64 (by decide) (fun hc => ?_) (fun hc => ?_)
    · have hf := iteF hf hc
      refine g_sub (lv' := [some (.ref (E.2.1 + l0))]) ⟨rfl, trivial⟩ ?_
      exact l_Re_readItem_b74 C HR  hf
    · have hf := iteT hf hc
      refine g_aload_n C dX5_readItem_67 rfl ?_
      obtain ⟨G5, hg, h1, hf⟩ := vP_ok hf
      refine g_invV (As := []) (st := []) C (c_Re_readNeed E h1) (rfl : vwCl[5]? = some (y_Re_readNeed.cls, TX5, 8)) (by decide) hg ml_Re_92 cm_Re_readNeed.1 cm_Re_readNeed.2.1 cm_Re_readNeed.2.2.1 cm_Re_readNeed.2.2.2.1 cm_Re_readNeed.2.2.2.2 rfl ⟨by omega, by omega, by omega, by omega⟩ (by exact Nat.le_of_ble_eq_true rfl) rfl dX5_readItem_68 ?_
      refine g_goto (tgt := 78) C dX5_readItem_71 (by decide) ?_
      refine g_sub (lv' := [none]) trivial ?_
      exact l_Re_readItem_b78 C HR  hf
set_option maxRecDepth 20000 in
theorem l_Re_readItem {E : EE} {X : CT} {G : Hp} (C : gCx E X cX5_readItem "FavoursGoOff$Reader" none 5 222 0 0 false 1) {G' : Hp} (HR : gRet E X cX5_readItem none 0 0 none G') {l0 : Nat} (hf : f_Re_readItem G l0 = some G') : gV E X 0 0 G 0 [some (.ref (E.2.1 + l0))] [] := by
  unfold f_Re_readItem at hf
  refine g_aload_n C dX5_readItem_0 rfl ?_
  refine g_ldcS (i := 1) C rfl dX5_readItem_1 ?_
  obtain ⟨x1, hg, h1, hf⟩ := vP_ok hf
  refine g_invV (As := [.ref (E.2.2.2.2.1 1)]) (st := []) C (c_Re_isWord E h1) (rfl : vwCl[5]? = some (y_Re_isWord.cls, TX5, 8)) (by decide) hg ml_Re_46 cm_Re_isWord.1 cm_Re_isWord.2.1 cm_Re_isWord.2.2.1 cm_Re_isWord.2.2.2.1 cm_Re_isWord.2.2.2.2 rfl ⟨by omega, by omega, by omega, by omega⟩ (by exact Nat.le_of_ble_eq_true rfl) rfl dX5_readItem_3 ?_
  refine g_if_eq (tgt := 16) C dX5_readItem_6 (by decide) (fun hc => ?_) (fun hc => ?_)
  · have hf := iteT hf hc
    refine g_aload_n C dX5_readItem_16 rfl ?_
    refine g_ldcS (i := 2) C rfl dX5_readItem_17 ?_
    obtain ⟨x2, hg, h1, hf⟩ := vP_ok hf
    refine g_invV (As := [.ref (E.2.2.2.2.1 2)]) (st := []) C (c_Re_isWord E h1) (rfl : vwCl[5]? = some (y_Re_isWord.cls, TX5, 8)) (by decide) hg ml_Re_46 cm_Re_isWord.1 cm_Re_isWord.2.1 cm_Re_isWord.2.2.1 cm_Re_isWord.2.2.2.1 cm_Re_isWord.2.2.2.2 rfl ⟨by omega, by omega, by omega, by omega⟩ (by exact Nat.le_of_ble_eq_true rfl) rfl dX5_readItem_19 ?_
    refine g_if_eq (tgt := 45) C dX5_readItem_22 (by decide) (fun hc => ?_) (fun hc => ?_)
    · have hf := iteT hf hc
      refine g_sub (lv' := [some (.ref (E.2.1 + l0))]) ⟨rfl, trivial⟩ ?_
      exact l_Re_readItem_b45 C HR  hf
    · have hf := iteF hf hc
      refine g_aload_n C dX5_readItem_25 rfl ?_
      obtain ⟨x3, hg, hf⟩ := gR_ok hf
      refine g_getR C fl_Re_21 dX5_readItem_26 hg ?_
      obtain ⟨x4, hg, hf⟩ := gR_ok hf
      refine g_getR C fl_Re_74 dX5_readItem_29 hg ?_
      obtain ⟨x5, hg, h1, hf⟩ := vP_ok hf
      refine g_invV (As := []) (st := []) C (c_Ta_isFull E h1) (rfl : vwCl[7]? = some (y_Ta_isFull.cls, TX7, 3)) (by decide) hg ml_Re_78 cm_Ta_isFull.1 cm_Ta_isFull.2.1 cm_Ta_isFull.2.2.1 cm_Ta_isFull.2.2.2.1 cm_Ta_isFull.2.2.2.2 rfl ⟨by omega, by omega, by omega, by omega⟩ (by exact Nat.le_of_ble_eq_true rfl) rfl dX5_readItem_32 ?_
      refine g_if_ne (tgt := 45) C dX5_readItem_35 (by decide) (fun hc => ?_) (fun hc => ?_)
      · have hf := iteF hf hc
        refine g_sub (lv' := [some (.ref (E.2.1 + l0))]) ⟨rfl, trivial⟩ ?_
        exact l_Re_readItem_b45 C HR  hf
      · have hf := iteT hf hc
        refine g_aload_n C dX5_readItem_38 rfl ?_
        obtain ⟨G6, hg, h1, hf⟩ := vP_ok hf
        refine g_invV (As := []) (st := []) C (c_Re_readFavour E h1) (rfl : vwCl[5]? = some (y_Re_readFavour.cls, TX5, 8)) (by decide) hg ml_Re_84 cm_Re_readFavour.1 cm_Re_readFavour.2.1 cm_Re_readFavour.2.2.1 cm_Re_readFavour.2.2.2.1 cm_Re_readFavour.2.2.2.2 rfl ⟨by omega, by omega, by omega, by omega⟩ (by exact Nat.le_of_ble_eq_true rfl) rfl dX5_readItem_39 ?_
        refine g_goto (tgt := 78) C dX5_readItem_42 (by decide) ?_
        refine g_sub (lv' := [none]) trivial ?_
        exact l_Re_readItem_b78 C HR  hf
  · have hf := iteF hf hc
    refine g_aload_n C dX5_readItem_9 rfl ?_
    obtain ⟨G7, hg, h1, hf⟩ := vP_ok hf
    refine g_invV (As := []) (st := []) C (c_Re_readStrong E h1) (rfl : vwCl[5]? = some (y_Re_readStrong.cls, TX5, 8)) (by decide) hg ml_Re_69 cm_Re_readStrong.1 cm_Re_readStrong.2.1 cm_Re_readStrong.2.2.1 cm_Re_readStrong.2.2.2.1 cm_Re_readStrong.2.2.2.2 rfl ⟨by omega, by omega, by omega, by omega⟩ (by exact Nat.le_of_ble_eq_true rfl) rfl dX5_readItem_10 ?_
    refine g_goto (tgt := 78) C dX5_readItem_13 (by decide) ?_
    refine g_sub (lv' := [none]) trivial ?_
    exact l_Re_readItem_b78 C HR  hf
theorem c_Re_readItem (E : EE) {G : Hp} {l0 : Nat} {G' : Hp} (h : f_Re_readItem G l0 = some G') : gCt E y_Re_readItem cX5_readItem 1 none 5 222 0 0 [.ref (E.2.1 + l0)] G none G' := gCt_of (own := "FavoursGoOff$Reader") (ini := false) [some (.ref (E.2.1 + l0))] (by decide +kernel) rfl (fun h => by cases h) (Nat.le_of_ble_eq_true rfl) ⟨rfl, trivial⟩ (fun X C HR => l_Re_readItem C HR h)
set_option maxRecDepth 20000 in
theorem l_Re_readStreet_b52 {E : EE} {X : CT} {G : Hp} (C : gCx E X cX5_readStreet "FavoursGoOff$Reader" (some .int) 6 243 0 0 false 2) {r : Int32} {G' : Hp} (HR : gRet E X cX5_readStreet (some .int) 0 0 (some (.int r)) G') {l1 : Int32} (hf : f_Re_readStreet_b52 G l1 = some (r, G')) : gV E X 0 0 G 52 [none, some (.int l1)] [] := by
  unfold f_Re_readStreet_b52 at hf
  refine g_iload_n C dX5_readStreet_52 rfl ?_
  obtain ⟨rfl, rfl⟩ := rH_ok hf
  exact g_iret HR dX5_readStreet_53
set_option maxRecDepth 20000 in
theorem l_Re_readStreet_b20k {E : EE} {X : CT} {G : Hp} (C : gCx E X cX5_readStreet "FavoursGoOff$Reader" (some .int) 6 243 0 0 false 2) {r : Int32} {G' : Hp} (HR : gRet E X cX5_readStreet (some .int) 0 0 (some (.int r)) G') {k20 : Hp → Nat → Int32 → Option (Int32 × Hp)} (K20 : ∀ {G : Hp} {l0 : Nat} {l1 : Int32}, k20 G l0 l1 = some (r, G') → gV E X 0 0 G 20 [some (.ref (E.2.1 + l0)), some (.int l1)] []) {l0 : Nat} {l1 : Int32} (hf : f_Re_readStreet_b20_k k20 G l0 l1 = some (r, G')) : gV E X 0 0 G 20 [some (.ref (E.2.1 + l0)), some (.int l1)] [] := by
  unfold f_Re_readStreet_b20_k at hf
  refine g_iload_n C dX5_readStreet_20 rfl ?_
  refine g_sipush (v := (250 : Int32)) C dX5_readStreet_21 (by decide) ?_
  refine g_icmp_gt (tgt := 52) C dX5_readStreet_24 (by decide) (fun hc => ?_) (fun hc => ?_)
  · have hf := iteT hf hc
    refine g_sub (lv' := [none, some (.int l1)]) ⟨rfl, trivial⟩ ?_
    exact l_Re_readStreet_b52 C HR  hf
  · have hf := iteF hf hc
    refine g_aload_n C dX5_readStreet_27 rfl ?_
    obtain ⟨x1, hx1, hg, hf⟩ := gI_ok hf
    refine e_getI C fl_Re_25 dX5_readStreet_28 hx1 hg ?_
    refine g_iconst (v := (-1 : Int32)) C dX5_readStreet_31 (by decide) ?_
    refine g_icmp_ne (tgt := 52) C dX5_readStreet_32 (by decide) (fun hc => ?_) (fun hc => ?_)
    · have hf := iteF hf hc
      refine g_sub (lv' := [none, some (.int l1)]) ⟨rfl, trivial⟩ ?_
      exact l_Re_readStreet_b52 C HR  hf
    · have hf := iteT hf hc
      refine g_aload_n C dX5_readStreet_35 rfl ?_
      obtain ⟨x2, hx2, hg, hf⟩ := gI_ok hf
      refine e_getI C fl_Re_38 dX5_readStreet_36 hx2 hg ?_
      refine g_if_eq (tgt := 52) C dX5_readStreet_39 (by decide) (fun hc => ?_) (fun hc => ?_)
      · have hf := iteT hf hc
        refine g_sub (lv' := [none, some (.int l1)]) ⟨rfl, trivial⟩ ?_
        exact l_Re_readStreet_b52 C HR  hf
      · have hf := iteF hf hc
        refine g_aload_n C dX5_readStreet_42 rfl ?_
        obtain ⟨G3, hg, h1, hf⟩ := vP_ok hf
        refine g_invV (As := []) (st := []) C (c_Re_readItem E h1) (rfl : vwCl[5]? = some (y_Re_readItem.cls, TX5, 8)) (by decide) hg ml_Re_41 cm_Re_readItem.1 cm_Re_readItem.2.1 cm_Re_readItem.2.2.1 cm_Re_readItem.2.2.2.1 cm_Re_readItem.2.2.2.2 rfl ⟨by omega, by omega, by omega, by omega⟩ (by exact Nat.le_of_ble_eq_true rfl) rfl dX5_readStreet_43 ?_
        refine g_iinc (v := (l1 + 1)) (lv' := [some (.ref (E.2.1 + l0)), some (.int (l1 + 1))]) C dX5_readStreet_46 (by decide) rfl rfl rfl ?_
        refine g_goto (tgt := 20) C dX5_readStreet_49 (by decide) ?_
        refine g_sub (lv' := [some (.ref (E.2.1 + l0)), some (.int (l1 + 1))]) ⟨rfl, ⟨rfl, trivial⟩⟩ ?_
        exact K20 hf
theorem l_Re_readStreet_b20 {E : EE} {X : CT} (C : gCx E X cX5_readStreet "FavoursGoOff$Reader" (some .int) 6 243 0 0 false 2) {r : Int32} {G' : Hp} (HR : gRet E X cX5_readStreet (some .int) 0 0 (some (.int r)) G') : ∀ (nn : Nat) {G : Hp} {l0 : Nat} {l1 : Int32}, f_Re_readStreet_b20 nn G l0 l1 = some (r, G') → gV E X 0 0 G 20 [some (.ref (E.2.1 + l0)), some (.int l1)] []
  | 0, _, _, _, hf => by have h0 : (none : Option (Int32 × Hp)) = some (r, G') := hf; cases h0
  | nn + 1, _, _, _, hf => l_Re_readStreet_b20k C HR (fun h => l_Re_readStreet_b20 C HR nn h) hf
set_option maxRecDepth 20000 in
theorem l_Re_readStreet {E : EE} {X : CT} {G : Hp} (C : gCx E X cX5_readStreet "FavoursGoOff$Reader" (some .int) 6 243 0 0 false 2) {r : Int32} {G' : Hp} (HR : gRet E X cX5_readStreet (some .int) 0 0 (some (.int r)) G') {l0 : Nat} (hf : f_Re_readStreet G l0 = some (r, G')) : gV E X 0 0 G 0 [some (.ref (E.2.1 + l0)), none] [] := by
  unfold f_Re_readStreet at hf
  refine g_aload_n C dX5_readStreet_0 rfl ?_
  refine g_iconst (v := (-1 : Int32)) C dX5_readStreet_1 (by decide) ?_
  obtain ⟨G1, hG1, hg, hf⟩ := pI_ok hf
  refine e_putI C fl_Re_25 dX5_readStreet_2 hG1 hg (Or.inl rfl) rfl rfl ?_
  refine g_aload_n C dX5_readStreet_5 rfl ?_
  refine g_iconst (v := (0 : Int32)) C dX5_readStreet_6 (by decide) ?_
  obtain ⟨G2, hG2, hg, hf⟩ := pI_ok hf
  refine e_putI C fl_Re_29 dX5_readStreet_7 hG2 hg (Or.inl rfl) rfl rfl ?_
  refine g_aload_n C dX5_readStreet_10 rfl ?_
  obtain ⟨G3, hg, h1, hf⟩ := vP_ok hf
  refine g_invV (As := []) (st := []) C (c_Re_step E h1) (rfl : vwCl[5]? = some (y_Re_step.cls, TX5, 8)) (by decide) hg ml_Re_32 cm_Re_step.1 cm_Re_step.2.1 cm_Re_step.2.2.1 cm_Re_step.2.2.2.1 cm_Re_step.2.2.2.2 rfl ⟨by omega, by omega, by omega, by omega⟩ (by exact Nat.le_of_ble_eq_true rfl) rfl dX5_readStreet_11 ?_
  refine g_aload_n C dX5_readStreet_14 rfl ?_
  obtain ⟨G4, hg, h1, hf⟩ := vP_ok hf
  refine g_invV (As := []) (st := []) C (c_Re_readPeople E h1) (rfl : vwCl[5]? = some (y_Re_readPeople.cls, TX5, 8)) (by decide) hg ml_Re_35 cm_Re_readPeople.1 cm_Re_readPeople.2.1 cm_Re_readPeople.2.2.1 cm_Re_readPeople.2.2.2.1 cm_Re_readPeople.2.2.2.2 rfl ⟨by omega, by omega, by omega, by omega⟩ (by exact Nat.le_of_ble_eq_true rfl) rfl dX5_readStreet_15 ?_
  refine g_iconst (v := (1 : Int32)) C dX5_readStreet_18 (by decide) ?_
  refine g_istore_n (lv' := [some (.ref (E.2.1 + l0)), some (.int (1 : Int32))]) C dX5_readStreet_19 (by decide) rfl ?_
  refine g_sub (lv' := [some (.ref (E.2.1 + l0)), some (.int (1 : Int32))]) ⟨rfl, ⟨rfl, trivial⟩⟩ ?_
  exact l_Re_readStreet_b20 C HR  FU hf
theorem c_Re_readStreet (E : EE) {G : Hp} {l0 : Nat} {r : Int32} {G' : Hp} (h : f_Re_readStreet G l0 = some (r, G')) : gCt E y_Re_readStreet cX5_readStreet 2 (some .int) 6 243 0 0 [.ref (E.2.1 + l0)] G (some (.int r)) G' := gCt_of (own := "FavoursGoOff$Reader") (ini := false) [some (.ref (E.2.1 + l0)), none] (by decide +kernel) rfl (fun h => by cases h) (Nat.le_of_ble_eq_true rfl) ⟨rfl, trivial⟩ (fun X C HR => l_Re_readStreet C HR h)
set_option maxRecDepth 20000 in
theorem l_St_addPass {E : EE} {X : CT} {G : Hp} (C : gCx E X cX6_addPass "FavoursGoOff$Street" (some .int) 2 47 0 0 false 5) {r : Int32} {G' : Hp} (HR : gRet E X cX6_addPass (some .int) 0 0 (some (.int r)) G') {l0 : Nat} {l1 : Int32} {l2 : Int32} {l3 : Int32} (hf : f_St_addPass G l0 l1 l2 l3 = some (r, G')) : gV E X 0 0 G 0 [some (.ref (E.2.1 + l0)), some (.int l1), some (.int l2), some (.int l3), none] [] := by
  unfold f_St_addPass at hf
  refine g_aload_n C dX6_addPass_0 rfl ?_
  obtain ⟨x1, hg, hf⟩ := gR_ok hf
  refine g_getR C fl_St_26 dX6_addPass_1 hg ?_
  obtain ⟨x2, G3, hg, h1, hf⟩ := vH_ok hf
  refine g_invV (As := []) (st := []) C (c_Ta_add E h1) (rfl : vwCl[7]? = some (y_Ta_add.cls, TX7, 3)) (by decide) hg ml_St_40 cm_Ta_add.1 cm_Ta_add.2.1 cm_Ta_add.2.2.1 cm_Ta_add.2.2.2.1 cm_Ta_add.2.2.2.2 rfl ⟨by omega, by omega, by omega, by omega⟩ (by exact Nat.le_of_ble_eq_true rfl) rfl dX6_addPass_4 ?_
  refine g_istore (lv' := [some (.ref (E.2.1 + l0)), some (.int l1), some (.int l2), some (.int l3), some (.int x2)]) C dX6_addPass_7 (by decide) rfl ?_
  refine g_aload_n C dX6_addPass_9 rfl ?_
  obtain ⟨x4, hg, hf⟩ := gR_ok hf
  refine g_getR C fl_St_26 dX6_addPass_10 hg ?_
  refine g_iload C dX6_addPass_13 rfl ?_
  refine g_iconst (v := (0 : Int32)) C dX6_addPass_15 (by decide) ?_
  refine g_iload_n C dX6_addPass_16 rfl ?_
  obtain ⟨G5, hg, h1, hf⟩ := vP_ok hf
  refine g_invV (As := [.int x2, .int (0 : Int32), .int l1]) (st := []) C (c_Ta_put E h1) (rfl : vwCl[7]? = some (y_Ta_put.cls, TX7, 3)) (by decide) hg ml_St_43 cm_Ta_put.1 cm_Ta_put.2.1 cm_Ta_put.2.2.1 cm_Ta_put.2.2.2.1 cm_Ta_put.2.2.2.2 rfl ⟨by omega, by omega, by omega, by omega⟩ (by exact Nat.le_of_ble_eq_true rfl) rfl dX6_addPass_17 ?_
  refine g_aload_n C dX6_addPass_20 rfl ?_
  obtain ⟨x6, hg, hf⟩ := gR_ok hf
  refine g_getR C fl_St_26 dX6_addPass_21 hg ?_
  refine g_iload C dX6_addPass_24 rfl ?_
  refine g_iconst (v := (1 : Int32)) C dX6_addPass_26 (by decide) ?_
  refine g_iload_n C dX6_addPass_27 rfl ?_
  obtain ⟨G7, hg, h1, hf⟩ := vP_ok hf
  refine g_invV (As := [.int x2, .int (1 : Int32), .int l2]) (st := []) C (c_Ta_put E h1) (rfl : vwCl[7]? = some (y_Ta_put.cls, TX7, 3)) (by decide) hg ml_St_43 cm_Ta_put.1 cm_Ta_put.2.1 cm_Ta_put.2.2.1 cm_Ta_put.2.2.2.1 cm_Ta_put.2.2.2.2 rfl ⟨by omega, by omega, by omega, by omega⟩ (by exact Nat.le_of_ble_eq_true rfl) rfl dX6_addPass_28 ?_
  refine g_aload_n C dX6_addPass_31 rfl ?_
  obtain ⟨x8, hg, hf⟩ := gR_ok hf
  refine g_getR C fl_St_26 dX6_addPass_32 hg ?_
  refine g_iload C dX6_addPass_35 rfl ?_
  refine g_iconst (v := (2 : Int32)) C dX6_addPass_37 (by decide) ?_
  refine g_iload_n C dX6_addPass_38 rfl ?_
  obtain ⟨G9, hg, h1, hf⟩ := vP_ok hf
  refine g_invV (As := [.int x2, .int (2 : Int32), .int l3]) (st := []) C (c_Ta_put E h1) (rfl : vwCl[7]? = some (y_Ta_put.cls, TX7, 3)) (by decide) hg ml_St_43 cm_Ta_put.1 cm_Ta_put.2.1 cm_Ta_put.2.2.1 cm_Ta_put.2.2.2.1 cm_Ta_put.2.2.2.2 rfl ⟨by omega, by omega, by omega, by omega⟩ (by exact Nat.le_of_ble_eq_true rfl) rfl dX6_addPass_39 ?_
  refine g_iload C dX6_addPass_42 rfl ?_
  obtain ⟨rfl, rfl⟩ := rH_ok hf
  exact g_iret HR dX6_addPass_44
theorem c_St_addPass (E : EE) {G : Hp} {l0 : Nat} {l1 : Int32} {l2 : Int32} {l3 : Int32} {r : Int32} {G' : Hp} (h : f_St_addPass G l0 l1 l2 l3 = some (r, G')) : gCt E y_St_addPass cX6_addPass 5 (some .int) 2 47 0 0 [.ref (E.2.1 + l0), .int l1, .int l2, .int l3] G (some (.int r)) G' := gCt_of (own := "FavoursGoOff$Street") (ini := false) [some (.ref (E.2.1 + l0)), some (.int l1), some (.int l2), some (.int l3), none] (by decide +kernel) rfl (fun h => by cases h) (Nat.le_of_ble_eq_true rfl) ⟨rfl, ⟨rfl, ⟨rfl, ⟨rfl, trivial⟩⟩⟩⟩ (fun X C HR => l_St_addPass C HR h)
set_option maxRecDepth 20000 in
theorem l_St_wake_b12k {E : EE} {X : CT} {G : Hp} (C : gCx E X cX6_wake "FavoursGoOff$Street" none 2 47 0 0 false 2) {G' : Hp} (HR : gRet E X cX6_wake none 0 0 none G') {k12 : Hp → Nat → Int32 → Option Hp} (K12 : ∀ {G : Hp} {l0 : Nat} {l1 : Int32}, k12 G l0 l1 = some G' → gV E X 0 0 G 12 [some (.ref (E.2.1 + l0)), some (.int l1)] []) {l0 : Nat} {l1 : Int32} (hf : f_St_wake_b12_k k12 G l0 l1 = some G') : gV E X 0 0 G 12 [some (.ref (E.2.1 + l0)), some (.int l1)] [] := by
  unfold f_St_wake_b12_k at hf
  refine g_iload_n C dX6_wake_12 rfl ?_
  refine g_aload_n C dX6_wake_13 rfl ?_
  obtain ⟨x1, hg, hf⟩ := gR_ok hf
  refine g_getR C fl_St_14 dX6_wake_14 hg ?_
  obtain ⟨x2, hx2, hg, hf⟩ := gI_ok hf
  refine e_getI C fl_St_32 dX6_wake_17 hx2 hg ?_
  refine g_icmp_ge (tgt := 39) C dX6_wake_20 (by decide) (fun hc => ?_) (fun hc => ?_)
  · have hf := iteT hf hc
    obtain rfl := rP_ok hf
    exact g_vret HR dX6_wake_39
  · have hf := iteF hf hc
    refine g_aload_n C dX6_wake_23 rfl ?_
    obtain ⟨x3, hg, hf⟩ := gR_ok hf
    refine g_getR C fl_St_14 dX6_wake_24 hg ?_
    refine g_iload_n C dX6_wake_27 rfl ?_
    refine g_iconst (v := (1 : Int32)) C dX6_wake_28 (by decide) ?_
    refine g_iconst (v := (0 : Int32)) C dX6_wake_29 (by decide) ?_
    obtain ⟨G4, hg, h1, hf⟩ := vP_ok hf
    refine g_invV (As := [.int l1, .int (1 : Int32), .int (0 : Int32)]) (st := []) C (c_Ta_put E h1) (rfl : vwCl[7]? = some (y_Ta_put.cls, TX7, 3)) (by decide) hg ml_St_43 cm_Ta_put.1 cm_Ta_put.2.1 cm_Ta_put.2.2.1 cm_Ta_put.2.2.2.1 cm_Ta_put.2.2.2.2 rfl ⟨by omega, by omega, by omega, by omega⟩ (by exact Nat.le_of_ble_eq_true rfl) rfl dX6_wake_30 ?_
    refine g_iinc (v := (l1 + 1)) (lv' := [some (.ref (E.2.1 + l0)), some (.int (l1 + 1))]) C dX6_wake_33 (by decide) rfl rfl rfl ?_
    refine g_goto (tgt := 12) C dX6_wake_36 (by decide) ?_
    refine g_sub (lv' := [some (.ref (E.2.1 + l0)), some (.int (l1 + 1))]) ⟨rfl, ⟨rfl, trivial⟩⟩ ?_
    exact K12 hf
theorem l_St_wake_b12 {E : EE} {X : CT} (C : gCx E X cX6_wake "FavoursGoOff$Street" none 2 47 0 0 false 2) {G' : Hp} (HR : gRet E X cX6_wake none 0 0 none G') : ∀ (nn : Nat) {G : Hp} {l0 : Nat} {l1 : Int32}, f_St_wake_b12 nn G l0 l1 = some G' → gV E X 0 0 G 12 [some (.ref (E.2.1 + l0)), some (.int l1)] []
  | 0, _, _, _, hf => by have h0 : (none : Option Hp) = some G' := hf; cases h0
  | nn + 1, _, _, _, hf => l_St_wake_b12k C HR (fun h => l_St_wake_b12 C HR nn h) hf
set_option maxRecDepth 20000 in
theorem l_St_wake {E : EE} {X : CT} {G : Hp} (C : gCx E X cX6_wake "FavoursGoOff$Street" none 2 47 0 0 false 2) {G' : Hp} (HR : gRet E X cX6_wake none 0 0 none G') {l0 : Nat} (hf : f_St_wake G l0 = some G') : gV E X 0 0 G 0 [some (.ref (E.2.1 + l0)), none] [] := by
  unfold f_St_wake at hf
  refine g_aload_n C dX6_wake_0 rfl ?_
  refine g_dup C dX6_wake_1 rfl ?_
  obtain ⟨x1, hx1, hg, hf⟩ := gI_ok hf
  refine e_getI C fl_St_47 dX6_wake_2 hx1 hg ?_
  refine g_iconst (v := (1 : Int32)) C dX6_wake_5 (by decide) ?_
  refine g_iadd C dX6_wake_6 ?_
  obtain ⟨G2, hG2, hg, hf⟩ := pI_ok hf
  refine e_putI C fl_St_47 dX6_wake_7 hG2 hg (Or.inl rfl) rfl rfl ?_
  refine g_iconst (v := (0 : Int32)) C dX6_wake_10 (by decide) ?_
  refine g_istore_n (lv' := [some (.ref (E.2.1 + l0)), some (.int (0 : Int32))]) C dX6_wake_11 (by decide) rfl ?_
  refine g_sub (lv' := [some (.ref (E.2.1 + l0)), some (.int (0 : Int32))]) ⟨rfl, ⟨rfl, trivial⟩⟩ ?_
  exact l_St_wake_b12 C HR  FU hf
theorem c_St_wake (E : EE) {G : Hp} {l0 : Nat} {G' : Hp} (h : f_St_wake G l0 = some G') : gCt E y_St_wake cX6_wake 2 none 2 47 0 0 [.ref (E.2.1 + l0)] G none G' := gCt_of (own := "FavoursGoOff$Street") (ini := false) [some (.ref (E.2.1 + l0)), none] (by decide +kernel) rfl (fun h => by cases h) (Nat.le_of_ble_eq_true rfl) ⟨rfl, trivial⟩ (fun X C HR => l_St_wake C HR h)
set_option maxRecDepth 20000 in
theorem l_St_valueNow {E : EE} {X : CT} {G : Hp} (C : gCx E X cX6_valueNow "FavoursGoOff$Street" (some .int) 3 72 0 0 false 2) {r : Int32} (HR : gRet E X cX6_valueNow (some .int) 0 0 (some (.int r)) G) {l0 : Nat} {l1 : Int32} (hf : f_St_valueNow G l0 l1 = some r) : gV E X 0 0 G 0 [some (.ref (E.2.1 + l0)), some (.int l1)] [] := by
  unfold f_St_valueNow at hf
  refine g_aload_n C dX6_valueNow_0 rfl ?_
  refine g_iload_n C dX6_valueNow_1 rfl ?_
  refine g_aload_n C dX6_valueNow_2 rfl ?_
  obtain ⟨x1, hx1, hg, hf⟩ := gI_ok hf
  refine e_getI C fl_St_47 dX6_valueNow_3 hx1 hg ?_
  obtain ⟨x2, hg, h1, hf⟩ := vP_ok hf
  refine g_invV (As := [.int l1, .int x1]) (st := []) C (c_St_valueOn E h1) (rfl : vwCl[6]? = some (y_St_valueOn.cls, TX6, 6)) (by decide) hg ml_St_58 cm_St_valueOn.1 cm_St_valueOn.2.1 cm_St_valueOn.2.2.1 cm_St_valueOn.2.2.2.1 cm_St_valueOn.2.2.2.2 rfl ⟨by omega, by omega, by omega, by omega⟩ (by exact Nat.le_of_ble_eq_true rfl) rfl dX6_valueNow_6 ?_
  obtain rfl := rP_ok hf
  exact g_iret HR dX6_valueNow_9
theorem c_St_valueNow (E : EE) {G : Hp} {l0 : Nat} {l1 : Int32} {r : Int32} (h : f_St_valueNow G l0 l1 = some r) : gCt E y_St_valueNow cX6_valueNow 2 (some .int) 3 72 0 0 [.ref (E.2.1 + l0), .int l1] G (some (.int r)) G := gCt_of (own := "FavoursGoOff$Street") (ini := false) [some (.ref (E.2.1 + l0)), some (.int l1)] (by decide +kernel) rfl (fun h => by cases h) (Nat.le_of_ble_eq_true rfl) ⟨rfl, ⟨rfl, trivial⟩⟩ (fun X C HR => l_St_valueNow C HR h)
set_option maxRecDepth 20000 in
theorem l_St_areAlike_b68 {E : EE} {X : CT} {G : Hp} (C : gCx E X cX6_areAlike "FavoursGoOff$Street" (some .boolean) 2 46 0 0 false 3) {r : Int32} (HR : gRet E X cX6_areAlike (some .boolean) 0 0 (some (.int r)) G) {s0 : Int32} (hf : f_St_areAlike_b68 G s0 = some r) : gV E X 0 0 G 68 [none, none, none] [.int s0] := by
  unfold f_St_areAlike_b68 at hf
  obtain ⟨hv, hf⟩ := zR_ok hf
  obtain rfl := rP_ok hf
  exact g_zret HR hv dX6_areAlike_68
set_option maxRecDepth 20000 in
theorem l_St_areAlike_b67 {E : EE} {X : CT} {G : Hp} (C : gCx E X cX6_areAlike "FavoursGoOff$Street" (some .boolean) 2 46 0 0 false 3) {r : Int32} (HR : gRet E X cX6_areAlike (some .boolean) 0 0 (some (.int r)) G) (hf : f_St_areAlike_b67 G = some r) : gV E X 0 0 G 67 [none, none, none] [] := by
  unfold f_St_areAlike_b67 at hf
  refine g_iconst (v := (0 : Int32)) C dX6_areAlike_67 (by decide) ?_
  refine g_sub (lv' := [none, none, none]) trivial ?_
  exact l_St_areAlike_b68 C HR  hf
set_option maxRecDepth 20000 in
theorem l_St_areAlike {E : EE} {X : CT} {G : Hp} (C : gCx E X cX6_areAlike "FavoursGoOff$Street" (some .boolean) 2 46 0 0 false 3) {r : Int32} (HR : gRet E X cX6_areAlike (some .boolean) 0 0 (some (.int r)) G) {l0 : Nat} {l1 : Int32} {l2 : Int32} (hf : f_St_areAlike G l0 l1 l2 = some r) : gV E X 0 0 G 0 [some (.ref (E.2.1 + l0)), some (.int l1), some (.int l2)] [] := by
  unfold f_St_areAlike at hf
  refine g_aload_n C dX6_areAlike_0 rfl ?_
  obtain ⟨x1, hg, hf⟩ := gR_ok hf
  refine g_getR C fl_St_20 dX6_areAlike_1 hg ?_
  refine g_iload_n C dX6_areAlike_4 rfl ?_
  refine g_iconst (v := (1 : Int32)) C dX6_areAlike_5 (by decide) ?_
  obtain ⟨x2, hg, h1, hf⟩ := vP_ok hf
  refine g_invV (As := [.int l1, .int (1 : Int32)]) (st := []) C (c_Ta_at E h1) (rfl : vwCl[7]? = some (y_Ta_at.cls, TX7, 3)) (by decide) hg ml_St_62 cm_Ta_at.1 cm_Ta_at.2.1 cm_Ta_at.2.2.1 cm_Ta_at.2.2.2.1 cm_Ta_at.2.2.2.2 rfl ⟨by omega, by omega, by omega, by omega⟩ (by exact Nat.le_of_ble_eq_true rfl) rfl dX6_areAlike_6 ?_
  refine g_aload_n C dX6_areAlike_9 rfl ?_
  obtain ⟨x3, hg, hf⟩ := gR_ok hf
  refine g_getR C fl_St_20 dX6_areAlike_10 hg ?_
  refine g_iload_n C dX6_areAlike_13 rfl ?_
  refine g_iconst (v := (1 : Int32)) C dX6_areAlike_14 (by decide) ?_
  obtain ⟨x4, hg, h1, hf⟩ := vP_ok hf
  refine g_invV (As := [.int l2, .int (1 : Int32)]) (st := [.int x2]) C (c_Ta_at E h1) (rfl : vwCl[7]? = some (y_Ta_at.cls, TX7, 3)) (by decide) hg ml_St_62 cm_Ta_at.1 cm_Ta_at.2.1 cm_Ta_at.2.2.1 cm_Ta_at.2.2.2.1 cm_Ta_at.2.2.2.2 rfl ⟨by omega, by omega, by omega, by omega⟩ (by exact Nat.le_of_ble_eq_true rfl) rfl dX6_areAlike_15 ?_
  refine g_icmp_ne (tgt := 67) C dX6_areAlike_18 (by decide) (fun hc => ?_) (fun hc => ?_)
  · have hf := iteF hf hc
    refine g_sub (lv' := [none, none, none]) trivial ?_
    exact l_St_areAlike_b67 C HR  hf
  · have hf := iteT hf hc
    refine g_aload_n C dX6_areAlike_21 rfl ?_
    obtain ⟨x5, hg, hf⟩ := gR_ok hf
    refine g_getR C fl_St_20 dX6_areAlike_22 hg ?_
    refine g_iload_n C dX6_areAlike_25 rfl ?_
    refine g_iconst (v := (2 : Int32)) C dX6_areAlike_26 (by decide) ?_
    obtain ⟨x6, hg, h1, hf⟩ := vP_ok hf
    refine g_invV (As := [.int l1, .int (2 : Int32)]) (st := []) C (c_Ta_at E h1) (rfl : vwCl[7]? = some (y_Ta_at.cls, TX7, 3)) (by decide) hg ml_St_62 cm_Ta_at.1 cm_Ta_at.2.1 cm_Ta_at.2.2.1 cm_Ta_at.2.2.2.1 cm_Ta_at.2.2.2.2 rfl ⟨by omega, by omega, by omega, by omega⟩ (by exact Nat.le_of_ble_eq_true rfl) rfl dX6_areAlike_27 ?_
    refine g_aload_n C dX6_areAlike_30 rfl ?_
    obtain ⟨x7, hg, hf⟩ := gR_ok hf
    refine g_getR C fl_St_20 dX6_areAlike_31 hg ?_
    refine g_iload_n C dX6_areAlike_34 rfl ?_
    refine g_iconst (v := (2 : Int32)) C dX6_areAlike_35 (by decide) ?_
    obtain ⟨x8, hg, h1, hf⟩ := vP_ok hf
    refine g_invV (As := [.int l2, .int (2 : Int32)]) (st := [.int x6]) C (c_Ta_at E h1) (rfl : vwCl[7]? = some (y_Ta_at.cls, TX7, 3)) (by decide) hg ml_St_62 cm_Ta_at.1 cm_Ta_at.2.1 cm_Ta_at.2.2.1 cm_Ta_at.2.2.2.1 cm_Ta_at.2.2.2.2 rfl ⟨by omega, by omega, by omega, by omega⟩ (by exact Nat.le_of_ble_eq_true rfl) rfl dX6_areAlike_36 ?_
    refine g_icmp_ne (tgt := 67) C dX6_areAlike_39 (by decide) (fun hc => ?_) (fun hc => ?_)
    · have hf := iteF hf hc
      refine g_sub (lv' := [none, none, none]) trivial ?_
      exact l_St_areAlike_b67 C HR  hf
    · have hf := iteT hf hc
      refine g_aload_n C dX6_areAlike_42 rfl ?_
      obtain ⟨x9, hg, hf⟩ := gR_ok hf
      refine g_getR C fl_St_20 dX6_areAlike_43 hg ?_
      refine g_iload_n C dX6_areAlike_46 rfl ?_
      refine g_iconst (v := (3 : Int32)) C dX6_areAlike_47 (by decide) ?_
      obtain ⟨x10, hg, h1, hf⟩ := vP_ok hf
      refine g_invV (As := [.int l1, .int (3 : Int32)]) (st := []) C (c_Ta_at E h1) (rfl : vwCl[7]? = some (y_Ta_at.cls, TX7, 3)) (by decide) hg ml_St_62 cm_Ta_at.1 cm_Ta_at.2.1 cm_Ta_at.2.2.1 cm_Ta_at.2.2.2.1 cm_Ta_at.2.2.2.2 rfl ⟨by omega, by omega, by omega, by omega⟩ (by exact Nat.le_of_ble_eq_true rfl) rfl dX6_areAlike_48 ?_
      refine g_aload_n C dX6_areAlike_51 rfl ?_
      obtain ⟨x11, hg, hf⟩ := gR_ok hf
      refine g_getR C fl_St_20 dX6_areAlike_52 hg ?_
      refine g_iload_n C dX6_areAlike_55 rfl ?_
      refine g_iconst (v := (3 : Int32)) C dX6_areAlike_56 (by decide) ?_
      obtain ⟨x12, hg, h1, hf⟩ := vP_ok hf
      refine g_invV (As := [.int l2, .int (3 : Int32)]) (st := [.int x10]) C (c_Ta_at E h1) (rfl : vwCl[7]? = some (y_Ta_at.cls, TX7, 3)) (by decide) hg ml_St_62 cm_Ta_at.1 cm_Ta_at.2.1 cm_Ta_at.2.2.1 cm_Ta_at.2.2.2.1 cm_Ta_at.2.2.2.2 rfl ⟨by omega, by omega, by omega, by omega⟩ (by exact Nat.le_of_ble_eq_true rfl) rfl dX6_areAlike_57 ?_
      refine g_icmp_ne (tgt := 67) C dX6_areAlike_60 (by decide) (fun hc => ?_) (fun hc => ?_)
      · have hf := iteF hf hc
        refine g_sub (lv' := [none, none, none]) trivial ?_
        exact l_St_areAlike_b67 C HR  hf
      · have hf := iteT hf hc
        refine g_iconst (v := (1 : Int32)) C dX6_areAlike_63 (by decide) ?_
        refine g_goto (tgt := 68) C dX6_areAlike_64 (by decide) ?_
        refine g_sub (lv' := [none, none, none]) trivial ?_
        exact l_St_areAlike_b68 C HR  hf
theorem c_St_areAlike (E : EE) {G : Hp} {l0 : Nat} {l1 : Int32} {l2 : Int32} {r : Int32} (h : f_St_areAlike G l0 l1 l2 = some r) : gCt E y_St_areAlike cX6_areAlike 3 (some .boolean) 2 46 0 0 [.ref (E.2.1 + l0), .int l1, .int l2] G (some (.int r)) G := gCt_of (own := "FavoursGoOff$Street") (ini := false) [some (.ref (E.2.1 + l0)), some (.int l1), some (.int l2)] (by decide +kernel) rfl (fun h => by cases h) (Nat.le_of_ble_eq_true rfl) ⟨rfl, ⟨rfl, ⟨rfl, trivial⟩⟩⟩ (fun X C HR => l_St_areAlike C HR h)
set_option maxRecDepth 20000 in
theorem l_St_merge {E : EE} {X : CT} {G : Hp} (C : gCx E X cX6_merge "FavoursGoOff$Street" (some .int) 2 47 0 0 false 4) {r : Int32} {G' : Hp} (HR : gRet E X cX6_merge (some .int) 0 0 (some (.int r)) G') {l0 : Nat} {l1 : Int32} {l2 : Int32} (hf : f_St_merge G l0 l1 l2 = some (r, G')) : gV E X 0 0 G 0 [some (.ref (E.2.1 + l0)), some (.int l1), some (.int l2), none] [] := by
  unfold f_St_merge at hf
  refine g_bipush (v := (40 : Int32)) C dX6_merge_0 (by decide) ?_
  refine g_aload_n C dX6_merge_2 rfl ?_
  obtain ⟨x1, hg, hf⟩ := gR_ok hf
  refine g_getR C fl_St_20 dX6_merge_3 hg ?_
  refine g_iload_n C dX6_merge_6 rfl ?_
  refine g_iconst (v := (4 : Int32)) C dX6_merge_7 (by decide) ?_
  obtain ⟨x2, hg, h1, hf⟩ := vP_ok hf
  refine g_invV (As := [.int l1, .int (4 : Int32)]) (st := [.int (40 : Int32)]) C (c_Ta_at E h1) (rfl : vwCl[7]? = some (y_Ta_at.cls, TX7, 3)) (by decide) hg ml_St_62 cm_Ta_at.1 cm_Ta_at.2.1 cm_Ta_at.2.2.1 cm_Ta_at.2.2.2.1 cm_Ta_at.2.2.2.2 rfl ⟨by omega, by omega, by omega, by omega⟩ (by exact Nat.le_of_ble_eq_true rfl) rfl dX6_merge_8 ?_
  refine g_aload_n C dX6_merge_11 rfl ?_
  obtain ⟨x3, hg, hf⟩ := gR_ok hf
  refine g_getR C fl_St_20 dX6_merge_12 hg ?_
  refine g_iload_n C dX6_merge_15 rfl ?_
  refine g_iconst (v := (4 : Int32)) C dX6_merge_16 (by decide) ?_
  obtain ⟨x4, hg, h1, hf⟩ := vP_ok hf
  refine g_invV (As := [.int l2, .int (4 : Int32)]) (st := [.int x2, .int (40 : Int32)]) C (c_Ta_at E h1) (rfl : vwCl[7]? = some (y_Ta_at.cls, TX7, 3)) (by decide) hg ml_St_62 cm_Ta_at.1 cm_Ta_at.2.1 cm_Ta_at.2.2.1 cm_Ta_at.2.2.2.1 cm_Ta_at.2.2.2.2 rfl ⟨by omega, by omega, by omega, by omega⟩ (by exact Nat.le_of_ble_eq_true rfl) rfl dX6_merge_17 ?_
  refine g_iadd C dX6_merge_20 ?_
  refine e_min C ml_St_70 cm_min (by omega) (Nat.le_trans (m := 30) (by exact Nat.le_of_ble_eq_true rfl) (by omega)) ⟨by omega, by omega⟩ dX6_merge_21 ?_
  obtain ⟨x5, hx5, hf⟩ := lt_ok hf
  refine e_top hx5 ?_
  refine g_istore_n (lv' := [some (.ref (E.2.1 + l0)), some (.int l1), some (.int l2), some (.int x5)]) C dX6_merge_24 (by decide) rfl ?_
  refine g_aload_n C dX6_merge_25 rfl ?_
  obtain ⟨x6, hg, hf⟩ := gR_ok hf
  refine g_getR C fl_St_20 dX6_merge_26 hg ?_
  refine g_iload_n C dX6_merge_29 rfl ?_
  refine g_iconst (v := (4 : Int32)) C dX6_merge_30 (by decide) ?_
  refine g_iload_n C dX6_merge_31 rfl ?_
  obtain ⟨G7, hg, h1, hf⟩ := vP_ok hf
  refine g_invV (As := [.int l1, .int (4 : Int32), .int x5]) (st := []) C (c_Ta_put E h1) (rfl : vwCl[7]? = some (y_Ta_put.cls, TX7, 3)) (by decide) hg ml_St_43 cm_Ta_put.1 cm_Ta_put.2.1 cm_Ta_put.2.2.1 cm_Ta_put.2.2.2.1 cm_Ta_put.2.2.2.2 rfl ⟨by omega, by omega, by omega, by omega⟩ (by exact Nat.le_of_ble_eq_true rfl) rfl dX6_merge_32 ?_
  refine g_aload_n C dX6_merge_35 rfl ?_
  obtain ⟨x8, hg, hf⟩ := gR_ok hf
  refine g_getR C fl_St_20 dX6_merge_36 hg ?_
  refine g_iload_n C dX6_merge_39 rfl ?_
  refine g_iconst (v := (5 : Int32)) C dX6_merge_40 (by decide) ?_
  refine g_aload_n C dX6_merge_41 rfl ?_
  obtain ⟨x9, hg, hf⟩ := gR_ok hf
  refine g_getR C fl_St_20 dX6_merge_42 hg ?_
  refine g_iload_n C dX6_merge_45 rfl ?_
  refine g_iconst (v := (5 : Int32)) C dX6_merge_46 (by decide) ?_
  obtain ⟨x10, hg, h1, hf⟩ := vP_ok hf
  refine g_invV (As := [.int l1, .int (5 : Int32)]) (st := [.int (5 : Int32), .int l1, .ref (E.2.1 + x8)]) C (c_Ta_at E h1) (rfl : vwCl[7]? = some (y_Ta_at.cls, TX7, 3)) (by decide) hg ml_St_62 cm_Ta_at.1 cm_Ta_at.2.1 cm_Ta_at.2.2.1 cm_Ta_at.2.2.2.1 cm_Ta_at.2.2.2.2 rfl ⟨by omega, by omega, by omega, by omega⟩ (by exact Nat.le_of_ble_eq_true rfl) rfl dX6_merge_47 ?_
  refine g_aload_n C dX6_merge_50 rfl ?_
  obtain ⟨x11, hg, hf⟩ := gR_ok hf
  refine g_getR C fl_St_20 dX6_merge_51 hg ?_
  refine g_iload_n C dX6_merge_54 rfl ?_
  refine g_iconst (v := (5 : Int32)) C dX6_merge_55 (by decide) ?_
  obtain ⟨x12, hg, h1, hf⟩ := vP_ok hf
  refine g_invV (As := [.int l2, .int (5 : Int32)]) (st := [.int x10, .int (5 : Int32), .int l1, .ref (E.2.1 + x8)]) C (c_Ta_at E h1) (rfl : vwCl[7]? = some (y_Ta_at.cls, TX7, 3)) (by decide) hg ml_St_62 cm_Ta_at.1 cm_Ta_at.2.1 cm_Ta_at.2.2.1 cm_Ta_at.2.2.2.1 cm_Ta_at.2.2.2.2 rfl ⟨by omega, by omega, by omega, by omega⟩ (by exact Nat.le_of_ble_eq_true rfl) rfl dX6_merge_56 ?_
  refine e_min C ml_St_70 cm_min (by omega) (Nat.le_trans (m := 30) (by exact Nat.le_of_ble_eq_true rfl) (by omega)) ⟨by omega, by omega⟩ dX6_merge_59 ?_
  obtain ⟨G13, hg, h1, hf⟩ := vP_ok hf
  refine g_invV (As := [.int l1, .int (5 : Int32), .int (mn x10 x12)]) (st := []) C (c_Ta_put E h1) (rfl : vwCl[7]? = some (y_Ta_put.cls, TX7, 3)) (by decide) hg ml_St_43 cm_Ta_put.1 cm_Ta_put.2.1 cm_Ta_put.2.2.1 cm_Ta_put.2.2.2.1 cm_Ta_put.2.2.2.2 rfl ⟨by omega, by omega, by omega, by omega⟩ (by exact Nat.le_of_ble_eq_true rfl) rfl dX6_merge_62 ?_
  refine g_aload_n C dX6_merge_65 rfl ?_
  obtain ⟨x14, hg, hf⟩ := gR_ok hf
  refine g_getR C fl_St_20 dX6_merge_66 hg ?_
  refine g_iload_n C dX6_merge_69 rfl ?_
  refine g_iconst (v := (2 : Int32)) C dX6_merge_70 (by decide) ?_
  refine g_iconst (v := (-1 : Int32)) C dX6_merge_71 (by decide) ?_
  obtain ⟨G15, hg, h1, hf⟩ := vP_ok hf
  refine g_invV (As := [.int l2, .int (2 : Int32), .int (-1 : Int32)]) (st := []) C (c_Ta_put E h1) (rfl : vwCl[7]? = some (y_Ta_put.cls, TX7, 3)) (by decide) hg ml_St_43 cm_Ta_put.1 cm_Ta_put.2.1 cm_Ta_put.2.2.1 cm_Ta_put.2.2.2.1 cm_Ta_put.2.2.2.2 rfl ⟨by omega, by omega, by omega, by omega⟩ (by exact Nat.le_of_ble_eq_true rfl) rfl dX6_merge_72 ?_
  refine g_iload_n C dX6_merge_75 rfl ?_
  obtain ⟨rfl, rfl⟩ := rH_ok hf
  exact g_iret HR dX6_merge_76
theorem c_St_merge (E : EE) {G : Hp} {l0 : Nat} {l1 : Int32} {l2 : Int32} {r : Int32} {G' : Hp} (h : f_St_merge G l0 l1 l2 = some (r, G')) : gCt E y_St_merge cX6_merge 4 (some .int) 2 47 0 0 [.ref (E.2.1 + l0), .int l1, .int l2] G (some (.int r)) G' := gCt_of (own := "FavoursGoOff$Street") (ini := false) [some (.ref (E.2.1 + l0)), some (.int l1), some (.int l2), none] (by decide +kernel) rfl (fun h => by cases h) (Nat.le_of_ble_eq_true rfl) ⟨rfl, ⟨rfl, ⟨rfl, trivial⟩⟩⟩ (fun X C HR => l_St_merge C HR h)
set_option maxRecDepth 20000 in
theorem l_St_cheapest_b88 {E : EE} {X : CT} {G : Hp} (C : gCx E X cX6_cheapest "FavoursGoOff$Street" (some .int) 4 93 0 0 false 6) {r : Int32} (HR : gRet E X cX6_cheapest (some .int) 0 0 (some (.int r)) G) {k5 : Nat → Int32 → Int32 → Int32 → Int32 → Option Int32} (K5 : ∀ {l0 : Nat} {l1 : Int32} {l2 : Int32} {l3 : Int32} {l4 : Int32}, k5 l0 l1 l2 l3 l4 = some r → gV E X 0 0 G 5 [some (.ref (E.2.1 + l0)), some (.int l1), some (.int l2), some (.int l3), some (.int l4), none] []) {l0 : Nat} {l1 : Int32} {l2 : Int32} {l3 : Int32} {l4 : Int32} (hf : f_St_cheapest_b88 G k5 l0 l1 l2 l3 l4 = some r) : gV E X 0 0 G 88 [some (.ref (E.2.1 + l0)), some (.int l1), some (.int l2), some (.int l3), some (.int l4), none] [] := by
  unfold f_St_cheapest_b88 at hf
  refine g_iinc (v := (l4 + 1)) (lv' := [some (.ref (E.2.1 + l0)), some (.int l1), some (.int l2), some (.int l3), some (.int (l4 + 1)), none]) C dX6_cheapest_88 (by decide) rfl rfl rfl ?_
  refine g_goto (tgt := 5) C dX6_cheapest_91 (by decide) ?_
  refine g_sub (lv' := [some (.ref (E.2.1 + l0)), some (.int l1), some (.int l2), some (.int l3), some (.int (l4 + 1)), none]) ⟨rfl, ⟨rfl, ⟨rfl, ⟨rfl, ⟨rfl, trivial⟩⟩⟩⟩⟩ ?_
  exact K5 hf
set_option maxRecDepth 20000 in
theorem l_St_cheapest_b85 {E : EE} {X : CT} {G : Hp} (C : gCx E X cX6_cheapest "FavoursGoOff$Street" (some .int) 4 93 0 0 false 6) {r : Int32} (HR : gRet E X cX6_cheapest (some .int) 0 0 (some (.int r)) G) {k5 : Nat → Int32 → Int32 → Int32 → Int32 → Option Int32} (K5 : ∀ {l0 : Nat} {l1 : Int32} {l2 : Int32} {l3 : Int32} {l4 : Int32}, k5 l0 l1 l2 l3 l4 = some r → gV E X 0 0 G 5 [some (.ref (E.2.1 + l0)), some (.int l1), some (.int l2), some (.int l3), some (.int l4), none] []) {l0 : Nat} {l1 : Int32} {l2 : Int32} {l4 : Int32} (hf : f_St_cheapest_b85 G k5 l0 l1 l2 l4 = some r) : gV E X 0 0 G 85 [some (.ref (E.2.1 + l0)), some (.int l1), some (.int l2), none, some (.int l4), none] [] := by
  unfold f_St_cheapest_b85 at hf
  refine g_iload C dX6_cheapest_85 rfl ?_
  refine g_istore_n (lv' := [some (.ref (E.2.1 + l0)), some (.int l1), some (.int l2), some (.int l4), some (.int l4), none]) C dX6_cheapest_87 (by decide) rfl ?_
  refine g_sub (lv' := [some (.ref (E.2.1 + l0)), some (.int l1), some (.int l2), some (.int l4), some (.int l4), none]) ⟨rfl, ⟨rfl, ⟨rfl, ⟨rfl, ⟨rfl, trivial⟩⟩⟩⟩⟩ ?_
  exact l_St_cheapest_b88 C HR K5 hf
set_option maxRecDepth 20000 in
theorem l_St_cheapest_b59 {E : EE} {X : CT} {G : Hp} (C : gCx E X cX6_cheapest "FavoursGoOff$Street" (some .int) 4 93 0 0 false 6) {r : Int32} (HR : gRet E X cX6_cheapest (some .int) 0 0 (some (.int r)) G) {k5 : Nat → Int32 → Int32 → Int32 → Int32 → Option Int32} (K5 : ∀ {l0 : Nat} {l1 : Int32} {l2 : Int32} {l3 : Int32} {l4 : Int32}, k5 l0 l1 l2 l3 l4 = some r → gV E X 0 0 G 5 [some (.ref (E.2.1 + l0)), some (.int l1), some (.int l2), some (.int l3), some (.int l4), none] []) {l0 : Nat} {l1 : Int32} {l2 : Int32} {l3 : Int32} {l4 : Int32} {s0 : Int32} (hf : f_St_cheapest_b59 G k5 l0 l1 l2 l3 l4 s0 = some r) : gV E X 0 0 G 59 [some (.ref (E.2.1 + l0)), some (.int l1), some (.int l2), some (.int l3), some (.int l4), none] [.int s0] := by
  unfold f_St_cheapest_b59 at hf
  refine g_istore (lv' := [some (.ref (E.2.1 + l0)), some (.int l1), some (.int l2), some (.int l3), some (.int l4), some (.int s0)]) C dX6_cheapest_59 (by decide) rfl ?_
  refine g_iload C dX6_cheapest_61 rfl ?_
  refine g_if_eq (tgt := 88) C dX6_cheapest_63 (by decide) (fun hc => ?_) (fun hc => ?_)
  · have hf := iteT hf hc
    refine g_sub (lv' := [some (.ref (E.2.1 + l0)), some (.int l1), some (.int l2), some (.int l3), some (.int l4), none]) ⟨rfl, ⟨rfl, ⟨rfl, ⟨rfl, ⟨rfl, trivial⟩⟩⟩⟩⟩ ?_
    exact l_St_cheapest_b88 C HR K5 hf
  · have hf := iteF hf hc
    refine g_iload_n C dX6_cheapest_66 rfl ?_
    refine g_iconst (v := (-1 : Int32)) C dX6_cheapest_67 (by decide) ?_
    refine g_icmp_eq (tgt := 85) C dX6_cheapest_68 (by decide) (fun hc => ?_) (fun hc => ?_)
    · have hf := iteT hf hc
      refine g_sub (lv' := [some (.ref (E.2.1 + l0)), some (.int l1), some (.int l2), none, some (.int l4), none]) ⟨rfl, ⟨rfl, ⟨rfl, ⟨rfl, trivial⟩⟩⟩⟩ ?_
      exact l_St_cheapest_b85 C HR K5 hf
    · have hf := iteF hf hc
      refine g_aload_n C dX6_cheapest_71 rfl ?_
      refine g_iload C dX6_cheapest_72 rfl ?_
      obtain ⟨x1, hg, h1, hf⟩ := vP_ok hf
      refine g_invV (As := [.int l4]) (st := []) C (c_St_valueNow E h1) (rfl : vwCl[6]? = some (y_St_valueNow.cls, TX6, 6)) (by decide) hg ml_St_73 cm_St_valueNow.1 cm_St_valueNow.2.1 cm_St_valueNow.2.2.1 cm_St_valueNow.2.2.2.1 cm_St_valueNow.2.2.2.2 rfl ⟨by omega, by omega, by omega, by omega⟩ (by exact Nat.le_of_ble_eq_true rfl) rfl dX6_cheapest_74 ?_
      refine g_aload_n C dX6_cheapest_77 rfl ?_
      refine g_iload_n C dX6_cheapest_78 rfl ?_
      obtain ⟨x2, hg, h1, hf⟩ := vP_ok hf
      refine g_invV (As := [.int l3]) (st := [.int x1]) C (c_St_valueNow E h1) (rfl : vwCl[6]? = some (y_St_valueNow.cls, TX6, 6)) (by decide) hg ml_St_73 cm_St_valueNow.1 cm_St_valueNow.2.1 cm_St_valueNow.2.2.1 cm_St_valueNow.2.2.2.1 cm_St_valueNow.2.2.2.2 rfl ⟨by omega, by omega, by omega, by omega⟩ (by exact Nat.le_of_ble_eq_true rfl) rfl dX6_cheapest_79 ?_
      refine g_icmp_ge (tgt := 88) C dX6_cheapest_82 (by decide) (fun hc => ?_) (fun hc => ?_)
      · have hf := iteT hf hc
        refine g_sub (lv' := [some (.ref (E.2.1 + l0)), some (.int l1), some (.int l2), some (.int l3), some (.int l4), none]) ⟨rfl, ⟨rfl, ⟨rfl, ⟨rfl, ⟨rfl, trivial⟩⟩⟩⟩⟩ ?_
        exact l_St_cheapest_b88 C HR K5 hf
      · have hf := iteF hf hc
        refine g_sub (lv' := [some (.ref (E.2.1 + l0)), some (.int l1), some (.int l2), none, some (.int l4), none]) ⟨rfl, ⟨rfl, ⟨rfl, ⟨rfl, trivial⟩⟩⟩⟩ ?_
        exact l_St_cheapest_b85 C HR K5 hf
set_option maxRecDepth 20000 in
theorem l_St_cheapest_b58 {E : EE} {X : CT} {G : Hp} (C : gCx E X cX6_cheapest "FavoursGoOff$Street" (some .int) 4 93 0 0 false 6) {r : Int32} (HR : gRet E X cX6_cheapest (some .int) 0 0 (some (.int r)) G) {k5 : Nat → Int32 → Int32 → Int32 → Int32 → Option Int32} (K5 : ∀ {l0 : Nat} {l1 : Int32} {l2 : Int32} {l3 : Int32} {l4 : Int32}, k5 l0 l1 l2 l3 l4 = some r → gV E X 0 0 G 5 [some (.ref (E.2.1 + l0)), some (.int l1), some (.int l2), some (.int l3), some (.int l4), none] []) {l0 : Nat} {l1 : Int32} {l2 : Int32} {l3 : Int32} {l4 : Int32} (hf : f_St_cheapest_b58 G k5 l0 l1 l2 l3 l4 = some r) : gV E X 0 0 G 58 [some (.ref (E.2.1 + l0)), some (.int l1), some (.int l2), some (.int l3), some (.int l4), none] [] := by
  unfold f_St_cheapest_b58 at hf
  refine g_iconst (v := (0 : Int32)) C dX6_cheapest_58 (by decide) ?_
  refine g_sub (lv' := [some (.ref (E.2.1 + l0)), some (.int l1), some (.int l2), some (.int l3), some (.int l4), none]) ⟨rfl, ⟨rfl, ⟨rfl, ⟨rfl, ⟨rfl, trivial⟩⟩⟩⟩⟩ ?_
  exact l_St_cheapest_b59 C HR K5 hf
set_option maxRecDepth 20000 in
theorem l_St_cheapest_b5k {E : EE} {X : CT} {G : Hp} (C : gCx E X cX6_cheapest "FavoursGoOff$Street" (some .int) 4 93 0 0 false 6) {r : Int32} (HR : gRet E X cX6_cheapest (some .int) 0 0 (some (.int r)) G) {k5 : Nat → Int32 → Int32 → Int32 → Int32 → Option Int32} (K5 : ∀ {l0 : Nat} {l1 : Int32} {l2 : Int32} {l3 : Int32} {l4 : Int32}, k5 l0 l1 l2 l3 l4 = some r → gV E X 0 0 G 5 [some (.ref (E.2.1 + l0)), some (.int l1), some (.int l2), some (.int l3), some (.int l4), none] []) {l0 : Nat} {l1 : Int32} {l2 : Int32} {l3 : Int32} {l4 : Int32} (hf : f_St_cheapest_b5_k G k5 l0 l1 l2 l3 l4 = some r) : gV E X 0 0 G 5 [some (.ref (E.2.1 + l0)), some (.int l1), some (.int l2), some (.int l3), some (.int l4), none] [] := by
  unfold f_St_cheapest_b5_k at hf
  refine g_iload C dX6_cheapest_5 rfl ?_
  refine g_aload_n C dX6_cheapest_7 rfl ?_
  obtain ⟨x1, hg, hf⟩ := gR_ok hf
  refine g_getR C fl_St_20 dX6_cheapest_8 hg ?_
  obtain ⟨x2, hx2, hg, hf⟩ := gI_ok hf
  refine e_getI C fl_St_32 dX6_cheapest_11 hx2 hg ?_
  refine g_icmp_ge (tgt := 94) C dX6_cheapest_14 (by decide) (fun hc => ?_) (fun hc => ?_)
  · have hf := iteT hf hc
    refine g_iload_n C dX6_cheapest_94 rfl ?_
    obtain rfl := rP_ok hf
    exact g_iret HR dX6_cheapest_95
  · have hf := iteF hf hc
    refine g_aload_n C dX6_cheapest_17 rfl ?_
    obtain ⟨x3, hg, hf⟩ := gR_ok hf
    refine g_getR C fl_St_20 dX6_cheapest_18 hg ?_
    refine g_iload C dX6_cheapest_21 rfl ?_
    refine g_iconst (v := (1 : Int32)) C dX6_cheapest_23 (by decide) ?_
    obtain ⟨x4, hg, h1, hf⟩ := vP_ok hf
    refine g_invV (As := [.int l4, .int (1 : Int32)]) (st := []) C (c_Ta_at E h1) (rfl : vwCl[7]? = some (y_Ta_at.cls, TX7, 3)) (by decide) hg ml_St_62 cm_Ta_at.1 cm_Ta_at.2.1 cm_Ta_at.2.2.1 cm_Ta_at.2.2.2.1 cm_Ta_at.2.2.2.2 rfl ⟨by omega, by omega, by omega, by omega⟩ (by exact Nat.le_of_ble_eq_true rfl) rfl dX6_cheapest_24 ?_
    refine g_iload_n C dX6_cheapest_27 rfl ?_
    refine g_icmp_ne (tgt := 58) C dX6_cheapest_28 (by decide) (fun hc => ?_) (fun hc => ?_)
    · have hf := iteF hf hc
      refine g_sub (lv' := [some (.ref (E.2.1 + l0)), some (.int l1), some (.int l2), some (.int l3), some (.int l4), none]) ⟨rfl, ⟨rfl, ⟨rfl, ⟨rfl, ⟨rfl, trivial⟩⟩⟩⟩⟩ ?_
      exact l_St_cheapest_b58 C HR K5 hf
    · have hf := iteT hf hc
      refine g_aload_n C dX6_cheapest_31 rfl ?_
      obtain ⟨x5, hg, hf⟩ := gR_ok hf
      refine g_getR C fl_St_20 dX6_cheapest_32 hg ?_
      refine g_iload C dX6_cheapest_35 rfl ?_
      refine g_iconst (v := (2 : Int32)) C dX6_cheapest_37 (by decide) ?_
      obtain ⟨x6, hg, h1, hf⟩ := vP_ok hf
      refine g_invV (As := [.int l4, .int (2 : Int32)]) (st := []) C (c_Ta_at E h1) (rfl : vwCl[7]? = some (y_Ta_at.cls, TX7, 3)) (by decide) hg ml_St_62 cm_Ta_at.1 cm_Ta_at.2.1 cm_Ta_at.2.2.1 cm_Ta_at.2.2.2.1 cm_Ta_at.2.2.2.2 rfl ⟨by omega, by omega, by omega, by omega⟩ (by exact Nat.le_of_ble_eq_true rfl) rfl dX6_cheapest_38 ?_
      refine g_iload_n C dX6_cheapest_41 rfl ?_
      refine g_icmp_ne (tgt := 58) C dX6_cheapest_42 (by decide) (fun hc => ?_) (fun hc => ?_)
      · have hf := iteF hf hc
        refine g_sub (lv' := [some (.ref (E.2.1 + l0)), some (.int l1), some (.int l2), some (.int l3), some (.int l4), none]) ⟨rfl, ⟨rfl, ⟨rfl, ⟨rfl, ⟨rfl, trivial⟩⟩⟩⟩⟩ ?_
        exact l_St_cheapest_b58 C HR K5 hf
      · have hf := iteT hf hc
        refine g_aload_n C dX6_cheapest_45 rfl ?_
        refine g_iload C dX6_cheapest_46 rfl ?_
        obtain ⟨x7, hg, h1, hf⟩ := vP_ok hf
        refine g_invV (As := [.int l4]) (st := []) C (c_St_valueNow E h1) (rfl : vwCl[6]? = some (y_St_valueNow.cls, TX6, 6)) (by decide) hg ml_St_73 cm_St_valueNow.1 cm_St_valueNow.2.1 cm_St_valueNow.2.2.1 cm_St_valueNow.2.2.2.1 cm_St_valueNow.2.2.2.2 rfl ⟨by omega, by omega, by omega, by omega⟩ (by exact Nat.le_of_ble_eq_true rfl) rfl dX6_cheapest_48 ?_
        refine g_if_le (tgt := 58) C dX6_cheapest_51 (by decide) (fun hc => ?_) (fun hc => ?_)
        · have hf := iteT hf hc
          refine g_sub (lv' := [some (.ref (E.2.1 + l0)), some (.int l1), some (.int l2), some (.int l3), some (.int l4), none]) ⟨rfl, ⟨rfl, ⟨rfl, ⟨rfl, ⟨rfl, trivial⟩⟩⟩⟩⟩ ?_
          exact l_St_cheapest_b58 C HR K5 hf
        · have hf := iteF hf hc
          refine g_iconst (v := (1 : Int32)) C dX6_cheapest_54 (by decide) ?_
          refine g_goto (tgt := 59) C dX6_cheapest_55 (by decide) ?_
          refine g_sub (lv' := [some (.ref (E.2.1 + l0)), some (.int l1), some (.int l2), some (.int l3), some (.int l4), none]) ⟨rfl, ⟨rfl, ⟨rfl, ⟨rfl, ⟨rfl, trivial⟩⟩⟩⟩⟩ ?_
          exact l_St_cheapest_b59 C HR K5 hf
theorem l_St_cheapest_b5 {E : EE} {X : CT} {G : Hp} (C : gCx E X cX6_cheapest "FavoursGoOff$Street" (some .int) 4 93 0 0 false 6) {r : Int32} (HR : gRet E X cX6_cheapest (some .int) 0 0 (some (.int r)) G) : ∀ (nn : Nat) {l0 : Nat} {l1 : Int32} {l2 : Int32} {l3 : Int32} {l4 : Int32}, f_St_cheapest_b5 G nn l0 l1 l2 l3 l4 = some r → gV E X 0 0 G 5 [some (.ref (E.2.1 + l0)), some (.int l1), some (.int l2), some (.int l3), some (.int l4), none] []
  | 0, _, _, _, _, _, hf => by have h0 : (none : Option Int32) = some r := hf; cases h0
  | nn + 1, _, _, _, _, _, hf => l_St_cheapest_b5k C HR (fun h => l_St_cheapest_b5 C HR nn h) hf
set_option maxRecDepth 20000 in
theorem l_St_cheapest {E : EE} {X : CT} {G : Hp} (C : gCx E X cX6_cheapest "FavoursGoOff$Street" (some .int) 4 93 0 0 false 6) {r : Int32} (HR : gRet E X cX6_cheapest (some .int) 0 0 (some (.int r)) G) {l0 : Nat} {l1 : Int32} {l2 : Int32} (hf : f_St_cheapest G l0 l1 l2 = some r) : gV E X 0 0 G 0 [some (.ref (E.2.1 + l0)), some (.int l1), some (.int l2), none, none, none] [] := by
  unfold f_St_cheapest at hf
  refine g_iconst (v := (-1 : Int32)) C dX6_cheapest_0 (by decide) ?_
  refine g_istore_n (lv' := [some (.ref (E.2.1 + l0)), some (.int l1), some (.int l2), some (.int (-1 : Int32)), none, none]) C dX6_cheapest_1 (by decide) rfl ?_
  refine g_iconst (v := (0 : Int32)) C dX6_cheapest_2 (by decide) ?_
  refine g_istore (lv' := [some (.ref (E.2.1 + l0)), some (.int l1), some (.int l2), some (.int (-1 : Int32)), some (.int (0 : Int32)), none]) C dX6_cheapest_3 (by decide) rfl ?_
  refine g_sub (lv' := [some (.ref (E.2.1 + l0)), some (.int l1), some (.int l2), some (.int (-1 : Int32)), some (.int (0 : Int32)), none]) ⟨rfl, ⟨rfl, ⟨rfl, ⟨rfl, ⟨rfl, trivial⟩⟩⟩⟩⟩ ?_
  exact l_St_cheapest_b5 C HR  FU hf
theorem c_St_cheapest (E : EE) {G : Hp} {l0 : Nat} {l1 : Int32} {l2 : Int32} {r : Int32} (h : f_St_cheapest G l0 l1 l2 = some r) : gCt E y_St_cheapest cX6_cheapest 6 (some .int) 4 93 0 0 [.ref (E.2.1 + l0), .int l1, .int l2] G (some (.int r)) G := gCt_of (own := "FavoursGoOff$Street") (ini := false) [some (.ref (E.2.1 + l0)), some (.int l1), some (.int l2), none, none, none] (by decide +kernel) rfl (fun h => by cases h) (Nat.le_of_ble_eq_true rfl) ⟨rfl, ⟨rfl, ⟨rfl, trivial⟩⟩⟩ (fun X C HR => l_St_cheapest C HR h)
set_option maxRecDepth 20000 in
theorem l_St_holderAhead_b81 {E : EE} {X : CT} {G : Hp} (C : gCx E X cX6_holderAhead "FavoursGoOff$Street" (some .int) 2 46 0 0 false 6) {r : Int32} (HR : gRet E X cX6_holderAhead (some .int) 0 0 (some (.int r)) G) {k23 : Nat → Int32 → Int32 → Int32 → Int32 → Option Int32} (K23 : ∀ {l0 : Nat} {l1 : Int32} {l2 : Int32} {l3 : Int32} {l4 : Int32}, k23 l0 l1 l2 l3 l4 = some r → gV E X 0 0 G 23 [some (.ref (E.2.1 + l0)), some (.int l1), some (.int l2), some (.int l3), some (.int l4), none] []) {l0 : Nat} {l1 : Int32} {l2 : Int32} {l3 : Int32} {l4 : Int32} (hf : f_St_holderAhead_b81 G k23 l0 l1 l2 l3 l4 = some r) : gV E X 0 0 G 81 [some (.ref (E.2.1 + l0)), some (.int l1), some (.int l2), some (.int l3), some (.int l4), none] [] := by
  unfold f_St_holderAhead_b81 at hf
  refine g_iinc (v := (l4 + 1)) (lv' := [some (.ref (E.2.1 + l0)), some (.int l1), some (.int l2), some (.int l3), some (.int (l4 + 1)), none]) C dX6_holderAhead_81 (by decide) rfl rfl rfl ?_
  refine g_goto (tgt := 23) C dX6_holderAhead_84 (by decide) ?_
  refine g_sub (lv' := [some (.ref (E.2.1 + l0)), some (.int l1), some (.int l2), some (.int l3), some (.int (l4 + 1)), none]) ⟨rfl, ⟨rfl, ⟨rfl, ⟨rfl, ⟨rfl, trivial⟩⟩⟩⟩⟩ ?_
  exact K23 hf
set_option maxRecDepth 20000 in
theorem l_St_holderAhead_b80 {E : EE} {X : CT} {G : Hp} (C : gCx E X cX6_holderAhead "FavoursGoOff$Street" (some .int) 2 46 0 0 false 6) {r : Int32} (HR : gRet E X cX6_holderAhead (some .int) 0 0 (some (.int r)) G) {k23 : Nat → Int32 → Int32 → Int32 → Int32 → Option Int32} (K23 : ∀ {l0 : Nat} {l1 : Int32} {l2 : Int32} {l3 : Int32} {l4 : Int32}, k23 l0 l1 l2 l3 l4 = some r → gV E X 0 0 G 23 [some (.ref (E.2.1 + l0)), some (.int l1), some (.int l2), some (.int l3), some (.int l4), none] []) {l0 : Nat} {l1 : Int32} {l2 : Int32} {l4 : Int32} {s0 : Int32} (hf : f_St_holderAhead_b80 G k23 l0 l1 l2 l4 s0 = some r) : gV E X 0 0 G 80 [some (.ref (E.2.1 + l0)), some (.int l1), some (.int l2), none, some (.int l4), none] [.int s0] := by
  unfold f_St_holderAhead_b80 at hf
  refine g_istore_n (lv' := [some (.ref (E.2.1 + l0)), some (.int l1), some (.int l2), some (.int s0), some (.int l4), none]) C dX6_holderAhead_80 (by decide) rfl ?_
  refine g_sub (lv' := [some (.ref (E.2.1 + l0)), some (.int l1), some (.int l2), some (.int s0), some (.int l4), none]) ⟨rfl, ⟨rfl, ⟨rfl, ⟨rfl, ⟨rfl, trivial⟩⟩⟩⟩⟩ ?_
  exact l_St_holderAhead_b81 C HR K23 hf
set_option maxRecDepth 20000 in
theorem l_St_holderAhead_b23k {E : EE} {X : CT} {G : Hp} (C : gCx E X cX6_holderAhead "FavoursGoOff$Street" (some .int) 2 46 0 0 false 6) {r : Int32} (HR : gRet E X cX6_holderAhead (some .int) 0 0 (some (.int r)) G) {k23 : Nat → Int32 → Int32 → Int32 → Int32 → Option Int32} (K23 : ∀ {l0 : Nat} {l1 : Int32} {l2 : Int32} {l3 : Int32} {l4 : Int32}, k23 l0 l1 l2 l3 l4 = some r → gV E X 0 0 G 23 [some (.ref (E.2.1 + l0)), some (.int l1), some (.int l2), some (.int l3), some (.int l4), none] []) {l0 : Nat} {l1 : Int32} {l2 : Int32} {l3 : Int32} {l4 : Int32} (hf : f_St_holderAhead_b23_k G k23 l0 l1 l2 l3 l4 = some r) : gV E X 0 0 G 23 [some (.ref (E.2.1 + l0)), some (.int l1), some (.int l2), some (.int l3), some (.int l4), none] [] := by
  unfold f_St_holderAhead_b23_k at hf
  refine g_iload C dX6_holderAhead_23 rfl ?_
  refine g_iload_n C dX6_holderAhead_25 rfl ?_
  refine g_icmp_ge (tgt := 87) C dX6_holderAhead_26 (by decide) (fun hc => ?_) (fun hc => ?_)
  · have hf := iteT hf hc
    refine g_iload_n C dX6_holderAhead_87 rfl ?_
    obtain rfl := rP_ok hf
    exact g_iret HR dX6_holderAhead_88
  · have hf := iteF hf hc
    refine g_aload_n C dX6_holderAhead_29 rfl ?_
    obtain ⟨x1, hg, hf⟩ := gR_ok hf
    refine g_getR C fl_St_26 dX6_holderAhead_30 hg ?_
    refine g_iload C dX6_holderAhead_33 rfl ?_
    refine g_iconst (v := (0 : Int32)) C dX6_holderAhead_35 (by decide) ?_
    obtain ⟨x2, hg, h1, hf⟩ := vP_ok hf
    refine g_invV (As := [.int l4, .int (0 : Int32)]) (st := []) C (c_Ta_at E h1) (rfl : vwCl[7]? = some (y_Ta_at.cls, TX7, 3)) (by decide) hg ml_St_62 cm_Ta_at.1 cm_Ta_at.2.1 cm_Ta_at.2.2.1 cm_Ta_at.2.2.2.1 cm_Ta_at.2.2.2.2 rfl ⟨by omega, by omega, by omega, by omega⟩ (by exact Nat.le_of_ble_eq_true rfl) rfl dX6_holderAhead_36 ?_
    refine g_iload_n C dX6_holderAhead_39 rfl ?_
    refine g_icmp_ne (tgt := 81) C dX6_holderAhead_40 (by decide) (fun hc => ?_) (fun hc => ?_)
    · have hf := iteF hf hc
      refine g_sub (lv' := [some (.ref (E.2.1 + l0)), some (.int l1), some (.int l2), some (.int l3), some (.int l4), none]) ⟨rfl, ⟨rfl, ⟨rfl, ⟨rfl, ⟨rfl, trivial⟩⟩⟩⟩⟩ ?_
      exact l_St_holderAhead_b81 C HR K23 hf
    · have hf := iteT hf hc
      refine g_iload_n C dX6_holderAhead_43 rfl ?_
      refine g_iconst (v := (-1 : Int32)) C dX6_holderAhead_44 (by decide) ?_
      refine g_icmp_eq (tgt := 81) C dX6_holderAhead_45 (by decide) (fun hc => ?_) (fun hc => ?_)
      · have hf := iteT hf hc
        refine g_sub (lv' := [some (.ref (E.2.1 + l0)), some (.int l1), some (.int l2), some (.int l3), some (.int l4), none]) ⟨rfl, ⟨rfl, ⟨rfl, ⟨rfl, ⟨rfl, trivial⟩⟩⟩⟩⟩ ?_
        exact l_St_holderAhead_b81 C HR K23 hf
      · have hf := iteF hf hc
        refine g_aload_n C dX6_holderAhead_48 rfl ?_
        obtain ⟨x3, hg, hf⟩ := gR_ok hf
        refine g_getR C fl_St_26 dX6_holderAhead_49 hg ?_
        refine g_iload C dX6_holderAhead_52 rfl ?_
        refine g_iconst (v := (2 : Int32)) C dX6_holderAhead_54 (by decide) ?_
        obtain ⟨x4, hg, h1, hf⟩ := vP_ok hf
        refine g_invV (As := [.int l4, .int (2 : Int32)]) (st := []) C (c_Ta_at E h1) (rfl : vwCl[7]? = some (y_Ta_at.cls, TX7, 3)) (by decide) hg ml_St_62 cm_Ta_at.1 cm_Ta_at.2.1 cm_Ta_at.2.2.1 cm_Ta_at.2.2.2.1 cm_Ta_at.2.2.2.2 rfl ⟨by omega, by omega, by omega, by omega⟩ (by exact Nat.le_of_ble_eq_true rfl) rfl dX6_holderAhead_55 ?_
        refine g_istore (lv' := [some (.ref (E.2.1 + l0)), some (.int l1), some (.int l2), some (.int l3), some (.int l4), some (.int x4)]) C dX6_holderAhead_58 (by decide) rfl ?_
        refine g_iload C dX6_holderAhead_60 rfl ?_
        refine g_aload_n C dX6_holderAhead_62 rfl ?_
        obtain ⟨x5, hg, hf⟩ := gR_ok hf
        refine g_getR C fl_St_20 dX6_holderAhead_63 hg ?_
        refine g_iload_n C dX6_holderAhead_66 rfl ?_
        refine g_iconst (v := (1 : Int32)) C dX6_holderAhead_67 (by decide) ?_
        obtain ⟨x6, hg, h1, hf⟩ := vP_ok hf
        refine g_invV (As := [.int l2, .int (1 : Int32)]) (st := [.int x4]) C (c_Ta_at E h1) (rfl : vwCl[7]? = some (y_Ta_at.cls, TX7, 3)) (by decide) hg ml_St_62 cm_Ta_at.1 cm_Ta_at.2.1 cm_Ta_at.2.2.1 cm_Ta_at.2.2.2.1 cm_Ta_at.2.2.2.2 rfl ⟨by omega, by omega, by omega, by omega⟩ (by exact Nat.le_of_ble_eq_true rfl) rfl dX6_holderAhead_68 ?_
        refine g_icmp_ne (tgt := 78) C dX6_holderAhead_71 (by decide) (fun hc => ?_) (fun hc => ?_)
        · have hf := iteF hf hc
          refine g_iload C dX6_holderAhead_78 rfl ?_
          refine g_sub (lv' := [some (.ref (E.2.1 + l0)), some (.int l1), some (.int l2), none, some (.int l4), none]) ⟨rfl, ⟨rfl, ⟨rfl, ⟨rfl, trivial⟩⟩⟩⟩ ?_
          exact l_St_holderAhead_b80 C HR K23 hf
        · have hf := iteT hf hc
          refine g_iconst (v := (-1 : Int32)) C dX6_holderAhead_74 (by decide) ?_
          refine g_goto (tgt := 80) C dX6_holderAhead_75 (by decide) ?_
          refine g_sub (lv' := [some (.ref (E.2.1 + l0)), some (.int l1), some (.int l2), none, some (.int l4), none]) ⟨rfl, ⟨rfl, ⟨rfl, ⟨rfl, trivial⟩⟩⟩⟩ ?_
          exact l_St_holderAhead_b80 C HR K23 hf
theorem l_St_holderAhead_b23 {E : EE} {X : CT} {G : Hp} (C : gCx E X cX6_holderAhead "FavoursGoOff$Street" (some .int) 2 46 0 0 false 6) {r : Int32} (HR : gRet E X cX6_holderAhead (some .int) 0 0 (some (.int r)) G) : ∀ (nn : Nat) {l0 : Nat} {l1 : Int32} {l2 : Int32} {l3 : Int32} {l4 : Int32}, f_St_holderAhead_b23 G nn l0 l1 l2 l3 l4 = some r → gV E X 0 0 G 23 [some (.ref (E.2.1 + l0)), some (.int l1), some (.int l2), some (.int l3), some (.int l4), none] []
  | 0, _, _, _, _, _, hf => by have h0 : (none : Option Int32) = some r := hf; cases h0
  | nn + 1, _, _, _, _, _, hf => l_St_holderAhead_b23k C HR (fun h => l_St_holderAhead_b23 C HR nn h) hf
set_option maxRecDepth 20000 in
theorem l_St_holderAhead {E : EE} {X : CT} {G : Hp} (C : gCx E X cX6_holderAhead "FavoursGoOff$Street" (some .int) 2 46 0 0 false 6) {r : Int32} (HR : gRet E X cX6_holderAhead (some .int) 0 0 (some (.int r)) G) {l0 : Nat} {l1 : Int32} (hf : f_St_holderAhead G l0 l1 = some r) : gV E X 0 0 G 0 [some (.ref (E.2.1 + l0)), some (.int l1), none, none, none, none] [] := by
  unfold f_St_holderAhead at hf
  refine g_aload_n C dX6_holderAhead_0 rfl ?_
  obtain ⟨x1, hg, hf⟩ := gR_ok hf
  refine g_getR C fl_St_26 dX6_holderAhead_1 hg ?_
  refine g_iload_n C dX6_holderAhead_4 rfl ?_
  refine g_iconst (v := (0 : Int32)) C dX6_holderAhead_5 (by decide) ?_
  obtain ⟨x2, hg, h1, hf⟩ := vP_ok hf
  refine g_invV (As := [.int l1, .int (0 : Int32)]) (st := []) C (c_Ta_at E h1) (rfl : vwCl[7]? = some (y_Ta_at.cls, TX7, 3)) (by decide) hg ml_St_62 cm_Ta_at.1 cm_Ta_at.2.1 cm_Ta_at.2.2.1 cm_Ta_at.2.2.2.1 cm_Ta_at.2.2.2.2 rfl ⟨by omega, by omega, by omega, by omega⟩ (by exact Nat.le_of_ble_eq_true rfl) rfl dX6_holderAhead_6 ?_
  refine g_istore_n (lv' := [some (.ref (E.2.1 + l0)), some (.int l1), some (.int x2), none, none, none]) C dX6_holderAhead_9 (by decide) rfl ?_
  refine g_aload_n C dX6_holderAhead_10 rfl ?_
  obtain ⟨x3, hg, hf⟩ := gR_ok hf
  refine g_getR C fl_St_20 dX6_holderAhead_11 hg ?_
  refine g_iload_n C dX6_holderAhead_14 rfl ?_
  refine g_iconst (v := (2 : Int32)) C dX6_holderAhead_15 (by decide) ?_
  obtain ⟨x4, hg, h1, hf⟩ := vP_ok hf
  refine g_invV (As := [.int x2, .int (2 : Int32)]) (st := []) C (c_Ta_at E h1) (rfl : vwCl[7]? = some (y_Ta_at.cls, TX7, 3)) (by decide) hg ml_St_62 cm_Ta_at.1 cm_Ta_at.2.1 cm_Ta_at.2.2.1 cm_Ta_at.2.2.2.1 cm_Ta_at.2.2.2.2 rfl ⟨by omega, by omega, by omega, by omega⟩ (by exact Nat.le_of_ble_eq_true rfl) rfl dX6_holderAhead_16 ?_
  refine g_istore_n (lv' := [some (.ref (E.2.1 + l0)), some (.int l1), some (.int x2), some (.int x4), none, none]) C dX6_holderAhead_19 (by decide) rfl ?_
  refine g_iconst (v := (0 : Int32)) C dX6_holderAhead_20 (by decide) ?_
  refine g_istore (lv' := [some (.ref (E.2.1 + l0)), some (.int l1), some (.int x2), some (.int x4), some (.int (0 : Int32)), none]) C dX6_holderAhead_21 (by decide) rfl ?_
  refine g_sub (lv' := [some (.ref (E.2.1 + l0)), some (.int l1), some (.int x2), some (.int x4), some (.int (0 : Int32)), none]) ⟨rfl, ⟨rfl, ⟨rfl, ⟨rfl, ⟨rfl, trivial⟩⟩⟩⟩⟩ ?_
  exact l_St_holderAhead_b23 C HR  FU hf
theorem c_St_holderAhead (E : EE) {G : Hp} {l0 : Nat} {l1 : Int32} {r : Int32} (h : f_St_holderAhead G l0 l1 = some r) : gCt E y_St_holderAhead cX6_holderAhead 6 (some .int) 2 46 0 0 [.ref (E.2.1 + l0), .int l1] G (some (.int r)) G := gCt_of (own := "FavoursGoOff$Street") (ini := false) [some (.ref (E.2.1 + l0)), some (.int l1), none, none, none, none] (by decide +kernel) rfl (fun h => by cases h) (Nat.le_of_ble_eq_true rfl) ⟨rfl, ⟨rfl, trivial⟩⟩ (fun X C HR => l_St_holderAhead C HR h)
set_option maxRecDepth 20000 in
theorem l_St_rateNow {E : EE} {X : CT} {G : Hp} (C : gCx E X cX6_rateNow "FavoursGoOff$Street" (some .int) 2 46 0 0 false 2) {r : Int32} (HR : gRet E X cX6_rateNow (some .int) 0 0 (some (.int r)) G) {l0 : Nat} {l1 : Int32} (hf : f_St_rateNow G l0 l1 = some r) : gV E X 0 0 G 0 [some (.ref (E.2.1 + l0)), some (.int l1)] [] := by
  unfold f_St_rateNow at hf
  refine g_aload_n C dX6_rateNow_0 rfl ?_
  obtain ⟨x1, hg, hf⟩ := gR_ok hf
  refine g_getR C fl_St_29 dX6_rateNow_1 hg ?_
  refine g_iload_n C dX6_rateNow_4 rfl ?_
  refine g_iconst (v := (0 : Int32)) C dX6_rateNow_5 (by decide) ?_
  obtain ⟨x2, hg, h1, hf⟩ := vP_ok hf
  refine g_invV (As := [.int l1, .int (0 : Int32)]) (st := []) C (c_Ta_at E h1) (rfl : vwCl[7]? = some (y_Ta_at.cls, TX7, 3)) (by decide) hg ml_St_62 cm_Ta_at.1 cm_Ta_at.2.1 cm_Ta_at.2.2.1 cm_Ta_at.2.2.2.1 cm_Ta_at.2.2.2.2 rfl ⟨by omega, by omega, by omega, by omega⟩ (by exact Nat.le_of_ble_eq_true rfl) rfl dX6_rateNow_6 ?_
  obtain rfl := rP_ok hf
  exact g_iret HR dX6_rateNow_9
theorem c_St_rateNow (E : EE) {G : Hp} {l0 : Nat} {l1 : Int32} {r : Int32} (h : f_St_rateNow G l0 l1 = some r) : gCt E y_St_rateNow cX6_rateNow 2 (some .int) 2 46 0 0 [.ref (E.2.1 + l0), .int l1] G (some (.int r)) G := gCt_of (own := "FavoursGoOff$Street") (ini := false) [some (.ref (E.2.1 + l0)), some (.int l1)] (by decide +kernel) rfl (fun h => by cases h) (Nat.le_of_ble_eq_true rfl) ⟨rfl, ⟨rfl, trivial⟩⟩ (fun X C HR => l_St_rateNow C HR h)
set_option maxRecDepth 20000 in
theorem l_St_setRate {E : EE} {X : CT} {G : Hp} (C : gCx E X cX6_setRate "FavoursGoOff$Street" none 2 47 0 0 false 3) {G' : Hp} (HR : gRet E X cX6_setRate none 0 0 none G') {l0 : Nat} {l1 : Int32} {l2 : Int32} (hf : f_St_setRate G l0 l1 l2 = some G') : gV E X 0 0 G 0 [some (.ref (E.2.1 + l0)), some (.int l1), some (.int l2)] [] := by
  unfold f_St_setRate at hf
  refine g_aload_n C dX6_setRate_0 rfl ?_
  obtain ⟨x1, hg, hf⟩ := gR_ok hf
  refine g_getR C fl_St_29 dX6_setRate_1 hg ?_
  refine g_iload_n C dX6_setRate_4 rfl ?_
  refine g_iconst (v := (0 : Int32)) C dX6_setRate_5 (by decide) ?_
  refine g_iload_n C dX6_setRate_6 rfl ?_
  obtain ⟨G2, hg, h1, hf⟩ := vP_ok hf
  refine g_invV (As := [.int l1, .int (0 : Int32), .int l2]) (st := []) C (c_Ta_put E h1) (rfl : vwCl[7]? = some (y_Ta_put.cls, TX7, 3)) (by decide) hg ml_St_43 cm_Ta_put.1 cm_Ta_put.2.1 cm_Ta_put.2.2.1 cm_Ta_put.2.2.2.1 cm_Ta_put.2.2.2.2 rfl ⟨by omega, by omega, by omega, by omega⟩ (by exact Nat.le_of_ble_eq_true rfl) rfl dX6_setRate_7 ?_
  obtain rfl := rP_ok hf
  exact g_vret HR dX6_setRate_10
theorem c_St_setRate (E : EE) {G : Hp} {l0 : Nat} {l1 : Int32} {l2 : Int32} {G' : Hp} (h : f_St_setRate G l0 l1 l2 = some G') : gCt E y_St_setRate cX6_setRate 3 none 2 47 0 0 [.ref (E.2.1 + l0), .int l1, .int l2] G none G' := gCt_of (own := "FavoursGoOff$Street") (ini := false) [some (.ref (E.2.1 + l0)), some (.int l1), some (.int l2)] (by decide +kernel) rfl (fun h => by cases h) (Nat.le_of_ble_eq_true rfl) ⟨rfl, ⟨rfl, ⟨rfl, trivial⟩⟩⟩ (fun X C HR => l_St_setRate C HR h)
set_option maxRecDepth 20000 in
theorem l_St_drift_b31 {E : EE} {X : CT} {G : Hp} (C : gCx E X cX6_drift "FavoursGoOff$Street" (some .int) 4 93 0 0 false 4) {r : Int32} (HR : gRet E X cX6_drift (some .int) 0 0 (some (.int r)) G) {k4 : Nat → Int32 → Int32 → Int32 → Option Int32} (K4 : ∀ {l0 : Nat} {l1 : Int32} {l2 : Int32} {l3 : Int32}, k4 l0 l1 l2 l3 = some r → gV E X 0 0 G 4 [some (.ref (E.2.1 + l0)), some (.int l1), some (.int l2), some (.int l3)] []) {l0 : Nat} {l1 : Int32} {l2 : Int32} {l3 : Int32} (hf : f_St_drift_b31 G k4 l0 l1 l2 l3 = some r) : gV E X 0 0 G 31 [some (.ref (E.2.1 + l0)), some (.int l1), some (.int l2), some (.int l3)] [] := by
  unfold f_St_drift_b31 at hf
  refine g_iinc (v := (l3 + 1)) (lv' := [some (.ref (E.2.1 + l0)), some (.int l1), some (.int l2), some (.int (l3 + 1))]) C dX6_drift_31 (by decide) rfl rfl rfl ?_
  refine g_goto (tgt := 4) C dX6_drift_34 (by decide) ?_
  refine g_sub (lv' := [some (.ref (E.2.1 + l0)), some (.int l1), some (.int l2), some (.int (l3 + 1))]) ⟨rfl, ⟨rfl, ⟨rfl, ⟨rfl, trivial⟩⟩⟩⟩ ?_
  exact K4 hf
set_option maxRecDepth 20000 in
theorem l_St_drift_b74 {E : EE} {X : CT} {G : Hp} (C : gCx E X cX6_drift "FavoursGoOff$Street" (some .int) 4 93 0 0 false 4) {r : Int32} (HR : gRet E X cX6_drift (some .int) 0 0 (some (.int r)) G) {k39 : Nat → Int32 → Int32 → Int32 → Option Int32} (K39 : ∀ {l0 : Nat} {l1 : Int32} {l2 : Int32} {l3 : Int32}, k39 l0 l1 l2 l3 = some r → gV E X 0 0 G 39 [some (.ref (E.2.1 + l0)), some (.int l1), some (.int l2), some (.int l3)] []) {l0 : Nat} {l1 : Int32} {l2 : Int32} {l3 : Int32} (hf : f_St_drift_b74 G k39 l0 l1 l2 l3 = some r) : gV E X 0 0 G 74 [some (.ref (E.2.1 + l0)), some (.int l1), some (.int l2), some (.int l3)] [] := by
  unfold f_St_drift_b74 at hf
  refine g_iinc (v := (l3 + 1)) (lv' := [some (.ref (E.2.1 + l0)), some (.int l1), some (.int l2), some (.int (l3 + 1))]) C dX6_drift_74 (by decide) rfl rfl rfl ?_
  refine g_goto (tgt := 39) C dX6_drift_77 (by decide) ?_
  refine g_sub (lv' := [some (.ref (E.2.1 + l0)), some (.int l1), some (.int l2), some (.int (l3 + 1))]) ⟨rfl, ⟨rfl, ⟨rfl, ⟨rfl, trivial⟩⟩⟩⟩ ?_
  exact K39 hf
set_option maxRecDepth 20000 in
theorem l_St_drift_b39k {E : EE} {X : CT} {G : Hp} (C : gCx E X cX6_drift "FavoursGoOff$Street" (some .int) 4 93 0 0 false 4) {r : Int32} (HR : gRet E X cX6_drift (some .int) 0 0 (some (.int r)) G) {k39 : Nat → Int32 → Int32 → Int32 → Option Int32} (K39 : ∀ {l0 : Nat} {l1 : Int32} {l2 : Int32} {l3 : Int32}, k39 l0 l1 l2 l3 = some r → gV E X 0 0 G 39 [some (.ref (E.2.1 + l0)), some (.int l1), some (.int l2), some (.int l3)] []) {l0 : Nat} {l1 : Int32} {l2 : Int32} {l3 : Int32} (hf : f_St_drift_b39_k G k39 l0 l1 l2 l3 = some r) : gV E X 0 0 G 39 [some (.ref (E.2.1 + l0)), some (.int l1), some (.int l2), some (.int l3)] [] := by
  unfold f_St_drift_b39_k at hf
  refine g_iload_n C dX6_drift_39 rfl ?_
  refine g_aload_n C dX6_drift_40 rfl ?_
  obtain ⟨x1, hg, hf⟩ := gR_ok hf
  refine g_getR C fl_St_20 dX6_drift_41 hg ?_
  obtain ⟨x2, hx2, hg, hf⟩ := gI_ok hf
  refine e_getI C fl_St_32 dX6_drift_44 hx2 hg ?_
  refine g_icmp_ge (tgt := 80) C dX6_drift_47 (by decide) (fun hc => ?_) (fun hc => ?_)
  · have hf := iteT hf hc
    refine g_iload_n C dX6_drift_80 rfl ?_
    obtain rfl := rP_ok hf
    exact g_iret HR dX6_drift_81
  · have hf := iteF hf hc
    refine g_aload_n C dX6_drift_50 rfl ?_
    obtain ⟨x3, hg, hf⟩ := gR_ok hf
    refine g_getR C fl_St_20 dX6_drift_51 hg ?_
    refine g_iload_n C dX6_drift_54 rfl ?_
    refine g_iconst (v := (3 : Int32)) C dX6_drift_55 (by decide) ?_
    obtain ⟨x4, hg, h1, hf⟩ := vP_ok hf
    refine g_invV (As := [.int l3, .int (3 : Int32)]) (st := []) C (c_Ta_at E h1) (rfl : vwCl[7]? = some (y_Ta_at.cls, TX7, 3)) (by decide) hg ml_St_62 cm_Ta_at.1 cm_Ta_at.2.1 cm_Ta_at.2.2.1 cm_Ta_at.2.2.2.1 cm_Ta_at.2.2.2.2 rfl ⟨by omega, by omega, by omega, by omega⟩ (by exact Nat.le_of_ble_eq_true rfl) rfl dX6_drift_56 ?_
    refine g_iload_n C dX6_drift_59 rfl ?_
    refine g_icmp_ne (tgt := 74) C dX6_drift_60 (by decide) (fun hc => ?_) (fun hc => ?_)
    · have hf := iteF hf hc
      refine g_sub (lv' := [some (.ref (E.2.1 + l0)), some (.int l1), some (.int l2), some (.int l3)]) ⟨rfl, ⟨rfl, ⟨rfl, ⟨rfl, trivial⟩⟩⟩⟩ ?_
      exact l_St_drift_b74 C HR K39 hf
    · have hf := iteT hf hc
      refine g_aload_n C dX6_drift_63 rfl ?_
      refine g_iload_n C dX6_drift_64 rfl ?_
      obtain ⟨x5, hg, h1, hf⟩ := vP_ok hf
      refine g_invV (As := [.int l3]) (st := []) C (c_St_valueNow E h1) (rfl : vwCl[6]? = some (y_St_valueNow.cls, TX6, 6)) (by decide) hg ml_St_73 cm_St_valueNow.1 cm_St_valueNow.2.1 cm_St_valueNow.2.2.1 cm_St_valueNow.2.2.2.1 cm_St_valueNow.2.2.2.2 rfl ⟨by omega, by omega, by omega, by omega⟩ (by exact Nat.le_of_ble_eq_true rfl) rfl dX6_drift_65 ?_
      refine g_if_le (tgt := 74) C dX6_drift_68 (by decide) (fun hc => ?_) (fun hc => ?_)
      · have hf := iteT hf hc
        refine g_sub (lv' := [some (.ref (E.2.1 + l0)), some (.int l1), some (.int l2), some (.int l3)]) ⟨rfl, ⟨rfl, ⟨rfl, ⟨rfl, trivial⟩⟩⟩⟩ ?_
        exact l_St_drift_b74 C HR K39 hf
      · have hf := iteF hf hc
        refine g_iinc (v := (l2 + (-1))) (lv' := [some (.ref (E.2.1 + l0)), some (.int l1), some (.int (l2 + (-1))), some (.int l3)]) C dX6_drift_71 (by decide) rfl rfl rfl ?_
        refine g_sub (lv' := [some (.ref (E.2.1 + l0)), some (.int l1), some (.int (l2 + (-1))), some (.int l3)]) ⟨rfl, ⟨rfl, ⟨rfl, ⟨rfl, trivial⟩⟩⟩⟩ ?_
        exact l_St_drift_b74 C HR K39 hf
theorem l_St_drift_b39 {E : EE} {X : CT} {G : Hp} (C : gCx E X cX6_drift "FavoursGoOff$Street" (some .int) 4 93 0 0 false 4) {r : Int32} (HR : gRet E X cX6_drift (some .int) 0 0 (some (.int r)) G) : ∀ (nn : Nat) {l0 : Nat} {l1 : Int32} {l2 : Int32} {l3 : Int32}, f_St_drift_b39 G nn l0 l1 l2 l3 = some r → gV E X 0 0 G 39 [some (.ref (E.2.1 + l0)), some (.int l1), some (.int l2), some (.int l3)] []
  | 0, _, _, _, _, hf => by have h0 : (none : Option Int32) = some r := hf; cases h0
  | nn + 1, _, _, _, _, hf => l_St_drift_b39k C HR (fun h => l_St_drift_b39 C HR nn h) hf
set_option maxRecDepth 20000 in
theorem l_St_drift_b4k {E : EE} {X : CT} {G : Hp} (C : gCx E X cX6_drift "FavoursGoOff$Street" (some .int) 4 93 0 0 false 4) {r : Int32} (HR : gRet E X cX6_drift (some .int) 0 0 (some (.int r)) G) {k4 : Nat → Int32 → Int32 → Int32 → Option Int32} (K4 : ∀ {l0 : Nat} {l1 : Int32} {l2 : Int32} {l3 : Int32}, k4 l0 l1 l2 l3 = some r → gV E X 0 0 G 4 [some (.ref (E.2.1 + l0)), some (.int l1), some (.int l2), some (.int l3)] []) {l0 : Nat} {l1 : Int32} {l2 : Int32} {l3 : Int32} (hf : f_St_drift_b4_k G k4 l0 l1 l2 l3 = some r) : gV E X 0 0 G 4 [some (.ref (E.2.1 + l0)), some (.int l1), some (.int l2), some (.int l3)] [] := by
  unfold f_St_drift_b4_k at hf
  refine g_iload_n C dX6_drift_4 rfl ?_
  refine g_aload_n C dX6_drift_5 rfl ?_
  obtain ⟨x1, hg, hf⟩ := gR_ok hf
  refine g_getR C fl_St_23 dX6_drift_6 hg ?_
  obtain ⟨x2, hx2, hg, hf⟩ := gI_ok hf
  refine e_getI C fl_St_32 dX6_drift_9 hx2 hg ?_
  refine g_icmp_ge (tgt := 37) C dX6_drift_12 (by decide) (fun hc => ?_) (fun hc => ?_)
  · have hf := iteT hf hc
    refine g_iconst (v := (0 : Int32)) C dX6_drift_37 (by decide) ?_
    refine g_istore_n (lv' := [some (.ref (E.2.1 + l0)), some (.int l1), some (.int l2), some (.int (0 : Int32))]) C dX6_drift_38 (by decide) rfl ?_
    refine g_sub (lv' := [some (.ref (E.2.1 + l0)), some (.int l1), some (.int l2), some (.int (0 : Int32))]) ⟨rfl, ⟨rfl, ⟨rfl, ⟨rfl, trivial⟩⟩⟩⟩ ?_
    exact l_St_drift_b39 C HR  FU hf
  · have hf := iteF hf hc
    refine g_aload_n C dX6_drift_15 rfl ?_
    obtain ⟨x3, hg, hf⟩ := gR_ok hf
    refine g_getR C fl_St_23 dX6_drift_16 hg ?_
    refine g_iload_n C dX6_drift_19 rfl ?_
    refine g_iconst (v := (1 : Int32)) C dX6_drift_20 (by decide) ?_
    obtain ⟨x4, hg, h1, hf⟩ := vP_ok hf
    refine g_invV (As := [.int l3, .int (1 : Int32)]) (st := []) C (c_Ta_at E h1) (rfl : vwCl[7]? = some (y_Ta_at.cls, TX7, 3)) (by decide) hg ml_St_62 cm_Ta_at.1 cm_Ta_at.2.1 cm_Ta_at.2.2.1 cm_Ta_at.2.2.2.1 cm_Ta_at.2.2.2.2 rfl ⟨by omega, by omega, by omega, by omega⟩ (by exact Nat.le_of_ble_eq_true rfl) rfl dX6_drift_21 ?_
    refine g_iload_n C dX6_drift_24 rfl ?_
    refine g_icmp_ne (tgt := 31) C dX6_drift_25 (by decide) (fun hc => ?_) (fun hc => ?_)
    · have hf := iteF hf hc
      refine g_sub (lv' := [some (.ref (E.2.1 + l0)), some (.int l1), some (.int l2), some (.int l3)]) ⟨rfl, ⟨rfl, ⟨rfl, ⟨rfl, trivial⟩⟩⟩⟩ ?_
      exact l_St_drift_b31 C HR K4 hf
    · have hf := iteT hf hc
      refine g_iinc (v := (l2 + 1)) (lv' := [some (.ref (E.2.1 + l0)), some (.int l1), some (.int (l2 + 1)), some (.int l3)]) C dX6_drift_28 (by decide) rfl rfl rfl ?_
      refine g_sub (lv' := [some (.ref (E.2.1 + l0)), some (.int l1), some (.int (l2 + 1)), some (.int l3)]) ⟨rfl, ⟨rfl, ⟨rfl, ⟨rfl, trivial⟩⟩⟩⟩ ?_
      exact l_St_drift_b31 C HR K4 hf
theorem l_St_drift_b4 {E : EE} {X : CT} {G : Hp} (C : gCx E X cX6_drift "FavoursGoOff$Street" (some .int) 4 93 0 0 false 4) {r : Int32} (HR : gRet E X cX6_drift (some .int) 0 0 (some (.int r)) G) : ∀ (nn : Nat) {l0 : Nat} {l1 : Int32} {l2 : Int32} {l3 : Int32}, f_St_drift_b4 G nn l0 l1 l2 l3 = some r → gV E X 0 0 G 4 [some (.ref (E.2.1 + l0)), some (.int l1), some (.int l2), some (.int l3)] []
  | 0, _, _, _, _, hf => by have h0 : (none : Option Int32) = some r := hf; cases h0
  | nn + 1, _, _, _, _, hf => l_St_drift_b4k C HR (fun h => l_St_drift_b4 C HR nn h) hf
set_option maxRecDepth 20000 in
theorem l_St_drift {E : EE} {X : CT} {G : Hp} (C : gCx E X cX6_drift "FavoursGoOff$Street" (some .int) 4 93 0 0 false 4) {r : Int32} (HR : gRet E X cX6_drift (some .int) 0 0 (some (.int r)) G) {l0 : Nat} {l1 : Int32} (hf : f_St_drift G l0 l1 = some r) : gV E X 0 0 G 0 [some (.ref (E.2.1 + l0)), some (.int l1), none, none] [] := by
  unfold f_St_drift at hf
  refine g_iconst (v := (0 : Int32)) C dX6_drift_0 (by decide) ?_
  refine g_istore_n (lv' := [some (.ref (E.2.1 + l0)), some (.int l1), some (.int (0 : Int32)), none]) C dX6_drift_1 (by decide) rfl ?_
  refine g_iconst (v := (0 : Int32)) C dX6_drift_2 (by decide) ?_
  refine g_istore_n (lv' := [some (.ref (E.2.1 + l0)), some (.int l1), some (.int (0 : Int32)), some (.int (0 : Int32))]) C dX6_drift_3 (by decide) rfl ?_
  refine g_sub (lv' := [some (.ref (E.2.1 + l0)), some (.int l1), some (.int (0 : Int32)), some (.int (0 : Int32))]) ⟨rfl, ⟨rfl, ⟨rfl, ⟨rfl, trivial⟩⟩⟩⟩ ?_
  exact l_St_drift_b4 C HR  FU hf
theorem c_St_drift (E : EE) {G : Hp} {l0 : Nat} {l1 : Int32} {r : Int32} (h : f_St_drift G l0 l1 = some r) : gCt E y_St_drift cX6_drift 4 (some .int) 4 93 0 0 [.ref (E.2.1 + l0), .int l1] G (some (.int r)) G := gCt_of (own := "FavoursGoOff$Street") (ini := false) [some (.ref (E.2.1 + l0)), some (.int l1), none, none] (by decide +kernel) rfl (fun h => by cases h) (Nat.le_of_ble_eq_true rfl) ⟨rfl, ⟨rfl, trivial⟩⟩ (fun X C HR => l_St_drift C HR h)
set_option maxRecDepth 20000 in
theorem l_Ta_has_b17 {E : EE} {X : CT} {G : Hp} (C : gCx E X cX7_has "FavoursGoOff$Table" (some .boolean) 0 0 0 0 false 2) {r : Int32} (HR : gRet E X cX7_has (some .boolean) 0 0 (some (.int r)) G) {s0 : Int32} (hf : f_Ta_has_b17 G s0 = some r) : gV E X 0 0 G 17 [none, none] [.int s0] := by
  unfold f_Ta_has_b17 at hf
  obtain ⟨hv, hf⟩ := zR_ok hf
  obtain rfl := rP_ok hf
  exact g_zret HR hv dX7_has_17
set_option maxRecDepth 20000 in
theorem l_Ta_has_b16 {E : EE} {X : CT} {G : Hp} (C : gCx E X cX7_has "FavoursGoOff$Table" (some .boolean) 0 0 0 0 false 2) {r : Int32} (HR : gRet E X cX7_has (some .boolean) 0 0 (some (.int r)) G) (hf : f_Ta_has_b16 G = some r) : gV E X 0 0 G 16 [none, none] [] := by
  unfold f_Ta_has_b16 at hf
  refine g_iconst (v := (0 : Int32)) C dX7_has_16 (by decide) ?_
  refine g_sub (lv' := [none, none]) trivial ?_
  exact l_Ta_has_b17 C HR  hf
set_option maxRecDepth 20000 in
theorem l_Ta_has {E : EE} {X : CT} {G : Hp} (C : gCx E X cX7_has "FavoursGoOff$Table" (some .boolean) 0 0 0 0 false 2) {r : Int32} (HR : gRet E X cX7_has (some .boolean) 0 0 (some (.int r)) G) {l0 : Nat} {l1 : Int32} (hf : f_Ta_has G l0 l1 = some r) : gV E X 0 0 G 0 [some (.ref (E.2.1 + l0)), some (.int l1)] [] := by
  unfold f_Ta_has at hf
  refine g_iload_n C dX7_has_0 rfl ?_
  refine g_if_lt (tgt := 16) C dX7_has_1 (by decide) (fun hc => ?_) (fun hc => ?_)
  · have hf := iteT hf hc
    refine g_sub (lv' := [none, none]) trivial ?_
    exact l_Ta_has_b16 C HR  hf
  · have hf := iteF hf hc
    refine g_iload_n C dX7_has_4 rfl ?_
    refine g_aload_n C dX7_has_5 rfl ?_
    obtain ⟨x1, hx1, hg, hf⟩ := gI_ok hf
    refine e_getI C fl_Ta_25 dX7_has_6 hx1 hg ?_
    refine g_icmp_ge (tgt := 16) C dX7_has_9 (by decide) (fun hc => ?_) (fun hc => ?_)
    · have hf := iteT hf hc
      refine g_sub (lv' := [none, none]) trivial ?_
      exact l_Ta_has_b16 C HR  hf
    · have hf := iteF hf hc
      refine g_iconst (v := (1 : Int32)) C dX7_has_12 (by decide) ?_
      refine g_goto (tgt := 17) C dX7_has_13 (by decide) ?_
      refine g_sub (lv' := [none, none]) trivial ?_
      exact l_Ta_has_b17 C HR  hf
theorem c_Ta_has (E : EE) {G : Hp} {l0 : Nat} {l1 : Int32} {r : Int32} (h : f_Ta_has G l0 l1 = some r) : gCt E y_Ta_has cX7_has 2 (some .boolean) 0 0 0 0 [.ref (E.2.1 + l0), .int l1] G (some (.int r)) G := gCt_of (own := "FavoursGoOff$Table") (ini := false) [some (.ref (E.2.1 + l0)), some (.int l1)] (by decide +kernel) rfl (fun h => by cases h) (Nat.le_of_ble_eq_true rfl) ⟨rfl, ⟨rfl, trivial⟩⟩ (fun X C HR => l_Ta_has C HR h)
set_option maxRecDepth 20000 in
theorem l_Ta_mixedInto_b21k {E : EE} {X : CT} {G : Hp} (C : gCx E X cX7_mixedInto "FavoursGoOff$Table" (some .long) 1 30 0 0 false 5) {r : Int64} (HR : gRet E X cX7_mixedInto (some .long) 0 0 (some (.long r)) G) {k21 : Nat → Int64 → Int32 → Int32 → Option Int64} (K21 : ∀ {l0 : Nat} {l1 : Int64} {l3 : Int32} {l4 : Int32}, k21 l0 l1 l3 l4 = some r → gV E X 0 0 G 21 [some (.ref (E.2.1 + l0)), some (.long l1), none, some (.int l3), some (.int l4)] []) {l0 : Nat} {l1 : Int64} {l3 : Int32} {l4 : Int32} (hf : f_Ta_mixedInto_b21_k G k21 l0 l1 l3 l4 = some r) : gV E X 0 0 G 21 [some (.ref (E.2.1 + l0)), some (.long l1), none, some (.int l3), some (.int l4)] [] := by
  unfold f_Ta_mixedInto_b21_k at hf
  refine g_iload C dX7_mixedInto_21 rfl ?_
  refine g_iload_n C dX7_mixedInto_23 rfl ?_
  refine g_icmp_ge (tgt := 48) C dX7_mixedInto_24 (by decide) (fun hc => ?_) (fun hc => ?_)
  · have hf := iteT hf hc
    refine g_lload_n C dX7_mixedInto_48 rfl ?_
    obtain rfl := rP_ok hf
    exact g_lret HR dX7_mixedInto_49
  · have hf := iteF hf hc
    refine g_ldc2 (v := (31 : Int64)) C dX7_mixedInto_27 kl_Ta_51 ?_
    refine g_lload_n C dX7_mixedInto_30 rfl ?_
    refine g_lmul C dX7_mixedInto_31 ?_
    refine g_aload_n C dX7_mixedInto_32 rfl ?_
    obtain ⟨x1, hg, hf⟩ := gR_ok hf
    refine g_getR C fl_Ta_21 dX7_mixedInto_33 hg ?_
    refine g_iload C dX7_mixedInto_36 rfl ?_
    obtain ⟨x2, hx2, hg, hf⟩ := aI_ok hf
    refine e_iald C dX7_mixedInto_38 hx2 hg ?_
    refine g_i2l C dX7_mixedInto_39 ?_
    refine g_ladd C dX7_mixedInto_40 ?_
    obtain ⟨x3, hx3, hf⟩ := lt_ok hf
    refine e_topl hx3 ?_
    refine g_lstore_n (lv' := [some (.ref (E.2.1 + l0)), some (.long x3), none, some (.int l3), some (.int l4)]) C dX7_mixedInto_41 (by decide) rfl ?_
    refine g_iinc (v := (l4 + 1)) (lv' := [some (.ref (E.2.1 + l0)), some (.long x3), none, some (.int l3), some (.int (l4 + 1))]) C dX7_mixedInto_42 (by decide) rfl rfl rfl ?_
    refine g_goto (tgt := 21) C dX7_mixedInto_45 (by decide) ?_
    refine g_sub (lv' := [some (.ref (E.2.1 + l0)), some (.long x3), none, some (.int l3), some (.int (l4 + 1))]) ⟨rfl, ⟨rfl, ⟨rfl, ⟨rfl, trivial⟩⟩⟩⟩ ?_
    exact K21 hf
theorem l_Ta_mixedInto_b21 {E : EE} {X : CT} {G : Hp} (C : gCx E X cX7_mixedInto "FavoursGoOff$Table" (some .long) 1 30 0 0 false 5) {r : Int64} (HR : gRet E X cX7_mixedInto (some .long) 0 0 (some (.long r)) G) : ∀ (nn : Nat) {l0 : Nat} {l1 : Int64} {l3 : Int32} {l4 : Int32}, f_Ta_mixedInto_b21 G nn l0 l1 l3 l4 = some r → gV E X 0 0 G 21 [some (.ref (E.2.1 + l0)), some (.long l1), none, some (.int l3), some (.int l4)] []
  | 0, _, _, _, _, hf => by have h0 : (none : Option Int64) = some r := hf; cases h0
  | nn + 1, _, _, _, _, hf => l_Ta_mixedInto_b21k C HR (fun h => l_Ta_mixedInto_b21 C HR nn h) hf
set_option maxRecDepth 20000 in
theorem l_Ta_mixedInto {E : EE} {X : CT} {G : Hp} (C : gCx E X cX7_mixedInto "FavoursGoOff$Table" (some .long) 1 30 0 0 false 5) {r : Int64} (HR : gRet E X cX7_mixedInto (some .long) 0 0 (some (.long r)) G) {l0 : Nat} {l1 : Int64} (hf : f_Ta_mixedInto G l0 l1 = some r) : gV E X 0 0 G 0 [some (.ref (E.2.1 + l0)), some (.long l1), none, none, none] [] := by
  unfold f_Ta_mixedInto at hf
  refine g_aload_n C dX7_mixedInto_0 rfl ?_
  obtain ⟨x1, hx1, hg, hf⟩ := gI_ok hf
  refine e_getI C fl_Ta_25 dX7_mixedInto_1 hx1 hg ?_
  refine g_aload_n C dX7_mixedInto_4 rfl ?_
  obtain ⟨x2, hx2, hg, hf⟩ := gI_ok hf
  refine e_getI C fl_Ta_9 dX7_mixedInto_5 hx2 hg ?_
  refine g_imul C dX7_mixedInto_8 ?_
  refine g_aload_n C dX7_mixedInto_9 rfl ?_
  obtain ⟨x3, hg, hf⟩ := gR_ok hf
  refine g_getR C fl_Ta_21 dX7_mixedInto_10 hg ?_
  obtain ⟨x4, hx4, hg, hf⟩ := aL_ok hf
  refine e_alen C dX7_mixedInto_13 hx4 hg ?_
  refine e_min C ml_Ta_42 cm_min (by omega) (Nat.le_trans (m := 30) (by exact Nat.le_of_ble_eq_true rfl) (by omega)) ⟨by omega, by omega⟩ dX7_mixedInto_14 ?_
  obtain ⟨x5, hx5, hf⟩ := lt_ok hf
  refine e_top hx5 ?_
  refine g_istore_n (lv' := [some (.ref (E.2.1 + l0)), some (.long l1), none, some (.int x5), none]) C dX7_mixedInto_17 (by decide) rfl ?_
  refine g_iconst (v := (0 : Int32)) C dX7_mixedInto_18 (by decide) ?_
  refine g_istore (lv' := [some (.ref (E.2.1 + l0)), some (.long l1), none, some (.int x5), some (.int (0 : Int32))]) C dX7_mixedInto_19 (by decide) rfl ?_
  refine g_sub (lv' := [some (.ref (E.2.1 + l0)), some (.long l1), none, some (.int x5), some (.int (0 : Int32))]) ⟨rfl, ⟨rfl, ⟨rfl, ⟨rfl, trivial⟩⟩⟩⟩ ?_
  exact l_Ta_mixedInto_b21 C HR  FU hf
theorem c_Ta_mixedInto (E : EE) {G : Hp} {l0 : Nat} {l1 : Int64} {r : Int64} (h : f_Ta_mixedInto G l0 l1 = some r) : gCt E y_Ta_mixedInto cX7_mixedInto 5 (some .long) 1 30 0 0 [.ref (E.2.1 + l0), .long l1] G (some (.long r)) G := gCt_of (own := "FavoursGoOff$Table") (ini := false) [some (.ref (E.2.1 + l0)), some (.long l1), none, none, none] (by decide +kernel) rfl (fun h => by cases h) (Nat.le_of_ble_eq_true rfl) ⟨rfl, ⟨rfl, trivial⟩⟩ (fun X C HR => l_Ta_mixedInto C HR h)
set_option maxRecDepth 20000 in
theorem l_Te_add_b39 {E : EE} {X : CT} {G : Hp} (C : gCx E X cX8_add "FavoursGoOff$Text" none 0 0 0 0 false 2) {G' : Hp} (HR : gRet E X cX8_add none 0 0 none G') (hf : f_Te_add_b39 G = some G') : gV E X 0 0 G 39 [none, none] [] := by
  unfold f_Te_add_b39 at hf
  obtain rfl := rP_ok hf
  exact g_vret HR dX8_add_39
set_option maxRecDepth 20000 in
theorem l_Te_add {E : EE} {X : CT} {G : Hp} (C : gCx E X cX8_add "FavoursGoOff$Text" none 0 0 0 0 false 2) {G' : Hp} (HR : gRet E X cX8_add none 0 0 none G') {l0 : Nat} {l1 : Int32} (hf : f_Te_add G l0 l1 = some G') : gV E X 0 0 G 0 [some (.ref (E.2.1 + l0)), some (.int l1)] [] := by
  unfold f_Te_add at hf
  refine g_aload_n C dX8_add_0 rfl ?_
  obtain ⟨x1, hx1, hg, hf⟩ := gI_ok hf
  refine e_getI C fl_Te_15 dX8_add_1 hx1 hg ?_
  refine g_if_lt (tgt := 39) C dX8_add_4 (by decide) (fun hc => ?_) (fun hc => ?_)
  · have hf := iteT hf hc
    refine g_sub (lv' := [none, none]) trivial ?_
    exact l_Te_add_b39 C HR  hf
  · have hf := iteF hf hc
    refine g_aload_n C dX8_add_7 rfl ?_
    obtain ⟨x2, hx2, hg, hf⟩ := gI_ok hf
    refine e_getI C fl_Te_15 dX8_add_8 hx2 hg ?_
    refine g_aload_n C dX8_add_11 rfl ?_
    obtain ⟨x3, hg, hf⟩ := gR_ok hf
    refine g_getR C fl_Te_9 dX8_add_12 hg ?_
    obtain ⟨x4, hx4, hg, hf⟩ := aL_ok hf
    refine e_alen C dX8_add_15 hx4 hg ?_
    refine g_icmp_ge (tgt := 39) C dX8_add_16 (by decide) (fun hc => ?_) (fun hc => ?_)
    · have hf := iteT hf hc
      refine g_sub (lv' := [none, none]) trivial ?_
      exact l_Te_add_b39 C HR  hf
    · have hf := iteF hf hc
      refine g_aload_n C dX8_add_19 rfl ?_
      obtain ⟨x5, hg, hf⟩ := gR_ok hf
      refine g_getR C fl_Te_9 dX8_add_20 hg ?_
      refine g_aload_n C dX8_add_23 rfl ?_
      obtain ⟨x6, hx6, hg, hf⟩ := gI_ok hf
      refine e_getI C fl_Te_15 dX8_add_24 hx6 hg ?_
      refine g_iload_n C dX8_add_27 rfl ?_
      obtain ⟨G7, hG7, hg, hf⟩ := sI_ok hf
      refine e_iast C dX8_add_28 hG7 hg ?_
      refine g_aload_n C dX8_add_29 rfl ?_
      refine g_dup C dX8_add_30 rfl ?_
      obtain ⟨x8, hx8, hg, hf⟩ := gI_ok hf
      refine e_getI C fl_Te_15 dX8_add_31 hx8 hg ?_
      refine g_iconst (v := (1 : Int32)) C dX8_add_34 (by decide) ?_
      refine g_iadd C dX8_add_35 ?_
      obtain ⟨G9, hG9, hg, hf⟩ := pI_ok hf
      refine e_putI C fl_Te_15 dX8_add_36 hG9 hg (Or.inl rfl) rfl rfl ?_
      refine g_sub (lv' := [none, none]) trivial ?_
      exact l_Te_add_b39 C HR  hf
theorem c_Te_add (E : EE) {G : Hp} {l0 : Nat} {l1 : Int32} {G' : Hp} (h : f_Te_add G l0 l1 = some G') : gCt E y_Te_add cX8_add 2 none 0 0 0 0 [.ref (E.2.1 + l0), .int l1] G none G' := gCt_of (own := "FavoursGoOff$Text") (ini := false) [some (.ref (E.2.1 + l0)), some (.int l1)] (by decide +kernel) rfl (fun h => by cases h) (Nat.le_of_ble_eq_true rfl) ⟨rfl, ⟨rfl, trivial⟩⟩ (fun X C HR => l_Te_add C HR h)
set_option maxRecDepth 20000 in
theorem l_Fa_init_b124k {E : EE} {X : CT} {G : Hp} (C : gCx E X cX9_init "FavoursGoOff" none 4 92 135 53632 true 2) {G' : Hp} (HR : gRet E X cX9_init none 135 53632 none G') {k124 : Hp → Nat → Int32 → Option Hp} (K124 : ∀ {G : Hp} {l0 : Nat} {l1 : Int32}, k124 G l0 l1 = some G' → gV E X 135 53632 G 124 [some (.ref (E.2.1 + l0)), some (.int l1)] []) {l0 : Nat} {l1 : Int32} (hf : f_Fa_init_b124_k k124 G l0 l1 = some G') : gV E X 135 53632 G 124 [some (.ref (E.2.1 + l0)), some (.int l1)] [] := by
  unfold f_Fa_init_b124_k at hf
  refine g_iload_n C dX9_init_124 rfl ?_
  refine g_iconst (v := (4 : Int32)) C dX9_init_125 (by decide) ?_
  refine g_icmp_ge (tgt := 145) C dX9_init_126 (by decide) (fun hc => ?_) (fun hc => ?_)
  · have hf := iteT hf hc
    obtain rfl := rP_ok hf
    exact g_vret HR dX9_init_145
  · have hf := iteF hf hc
    refine g_aload_n C dX9_init_129 rfl ?_
    obtain ⟨x1, hg, hf⟩ := gR_ok hf
    refine g_getR C fl_Fa_26 dX9_init_130 hg ?_
    refine g_iload_n C dX9_init_133 rfl ?_
    refine g_bipush (v := (10 : Int32)) C dX9_init_134 (by decide) ?_
    obtain ⟨G2, hg, h1, hf⟩ := vP_ok hf
    refine g_invV (As := [.int l1, .int (10 : Int32)]) (st := []) C (c_St_setRate E h1) (rfl : vwCl[6]? = some (y_St_setRate.cls, TX6, 6)) (by decide) hg ml_Fa_75 cm_St_setRate.1 cm_St_setRate.2.1 cm_St_setRate.2.2.1 cm_St_setRate.2.2.2.1 cm_St_setRate.2.2.2.2 rfl ⟨by omega, by omega, by omega, by omega⟩ (by exact Nat.le_of_ble_eq_true rfl) rfl dX9_init_136 ?_
    refine g_iinc (v := (l1 + 1)) (lv' := [some (.ref (E.2.1 + l0)), some (.int (l1 + 1))]) C dX9_init_139 (by decide) rfl rfl rfl ?_
    refine g_goto (tgt := 124) C dX9_init_142 (by decide) ?_
    refine g_sub (lv' := [some (.ref (E.2.1 + l0)), some (.int (l1 + 1))]) ⟨rfl, ⟨rfl, trivial⟩⟩ ?_
    exact K124 hf
theorem l_Fa_init_b124 {E : EE} {X : CT} (C : gCx E X cX9_init "FavoursGoOff" none 4 92 135 53632 true 2) {G' : Hp} (HR : gRet E X cX9_init none 135 53632 none G') : ∀ (nn : Nat) {G : Hp} {l0 : Nat} {l1 : Int32}, f_Fa_init_b124 nn G l0 l1 = some G' → gV E X 135 53632 G 124 [some (.ref (E.2.1 + l0)), some (.int l1)] []
  | 0, _, _, _, hf => by have h0 : (none : Option Hp) = some G' := hf; cases h0
  | nn + 1, _, _, _, hf => l_Fa_init_b124k C HR (fun h => l_Fa_init_b124 C HR nn h) hf
set_option maxRecDepth 20000 in
theorem l_Fa_init {E : EE} {X : CT} {G : Hp} (C : gCx E X cX9_init "FavoursGoOff" none 4 92 135 53632 true 2) {G' : Hp} (HR : gRet E X cX9_init none 135 53632 none G') {l0 : Nat} (hf : f_Fa_init G l0 = some G') : gV E X 0 0 G 0 [some (.ref (E.2.1 + l0)), none] [] := by
  unfold f_Fa_init at hf
  refine g_aload_n C dX9_init_0 rfl ?_
  refine g_objInit C ml_Fa_1 cm_obj.1 cm_obj.2 (by omega) (Nat.le_trans (m := 30) (by exact Nat.le_of_ble_eq_true rfl) (by omega)) dX9_init_1 ?_
  refine g_aload_n C dX9_init_4 rfl ?_
  obtain ⟨a2, G1, ha2, hG1, hf⟩ := nO_ok hf
  refine e_new C tyX3 (rfl : vwCl[3]? = some ("FavoursGoOff$History", TX3, 5)) (by decide) ul_3 tyX3_ok rfl ft_3 cl_Fa_7 in_Hi it_Hi (by omega) dX9_init_5 ha2 hG1 ?_
  refine g_dup C dX9_init_8 rfl ?_
  obtain ⟨G3, h1, hf⟩ := cP_ok hf
  refine g_invIN (As := []) (st := [.ref (E.2.1 + a2), .ref (E.2.1 + l0)]) (host := "FavoursGoOff") C (c_Hi_init E h1) (List.mem_of_getElem? (i := 0) rfl) cm_Hi_init.1 cm_Hi_init.2.1 cm_Hi_init.2.2.1 cm_Hi_init.2.2.2.1 cm_Hi_init.2.2.2.2 rfl ⟨by omega, by omega, by omega, by omega⟩ (by exact Nat.le_of_ble_eq_true rfl) rfl dX9_init_9 ?_
  obtain ⟨G4, hG4, hg, hf⟩ := pR_ok hf
  refine e_putR C fl_Fa_10 dX9_init_12 hG4 hg (Or.inr ⟨rfl, rfl⟩) rfl rfl ?_
  refine g_aload_n C dX9_init_15 rfl ?_
  obtain ⟨a6, G5, ha6, hG5, hf⟩ := nO_ok hf
  refine e_new C tyX3 (rfl : vwCl[3]? = some ("FavoursGoOff$History", TX3, 5)) (by decide) ul_3 tyX3_ok rfl ft_3 cl_Fa_7 in_Hi it_Hi (by omega) dX9_init_16 ha6 hG5 ?_
  refine g_dup C dX9_init_19 rfl ?_
  obtain ⟨G7, h1, hf⟩ := cP_ok hf
  refine g_invIN (As := []) (st := [.ref (E.2.1 + a6), .ref (E.2.1 + l0)]) (host := "FavoursGoOff") C (c_Hi_init E h1) (List.mem_of_getElem? (i := 0) rfl) cm_Hi_init.1 cm_Hi_init.2.1 cm_Hi_init.2.2.1 cm_Hi_init.2.2.2.1 cm_Hi_init.2.2.2.2 rfl ⟨by omega, by omega, by omega, by omega⟩ (by exact Nat.le_of_ble_eq_true rfl) rfl dX9_init_20 ?_
  obtain ⟨G8, hG8, hg, hf⟩ := pR_ok hf
  refine e_putR C fl_Fa_16 dX9_init_23 hG8 hg (Or.inr ⟨rfl, rfl⟩) rfl rfl ?_
  refine g_aload_n C dX9_init_26 rfl ?_
  obtain ⟨a10, G9, ha10, hG9, hf⟩ := nO_ok hf
  refine e_new C tyX3 (rfl : vwCl[3]? = some ("FavoursGoOff$History", TX3, 5)) (by decide) ul_3 tyX3_ok rfl ft_3 cl_Fa_7 in_Hi it_Hi (by omega) dX9_init_27 ha10 hG9 ?_
  refine g_dup C dX9_init_30 rfl ?_
  obtain ⟨G11, h1, hf⟩ := cP_ok hf
  refine g_invIN (As := []) (st := [.ref (E.2.1 + a10), .ref (E.2.1 + l0)]) (host := "FavoursGoOff") C (c_Hi_init E h1) (List.mem_of_getElem? (i := 0) rfl) cm_Hi_init.1 cm_Hi_init.2.1 cm_Hi_init.2.2.1 cm_Hi_init.2.2.2.1 cm_Hi_init.2.2.2.2 rfl ⟨by omega, by omega, by omega, by omega⟩ (by exact Nat.le_of_ble_eq_true rfl) rfl dX9_init_31 ?_
  obtain ⟨G12, hG12, hg, hf⟩ := pR_ok hf
  refine e_putR C fl_Fa_19 dX9_init_34 hG12 hg (Or.inr ⟨rfl, rfl⟩) rfl rfl ?_
  refine g_aload_n C dX9_init_37 rfl ?_
  refine g_aload_n C dX9_init_38 rfl ?_
  obtain ⟨x13, hg, hf⟩ := gR_ok hf
  refine g_getR C fl_Fa_10 dX9_init_39 hg ?_
  obtain ⟨x14, hg, hf⟩ := gR_ok hf
  refine g_getR C fl_Fa_22 dX9_init_42 hg ?_
  obtain ⟨G15, hG15, hg, hf⟩ := pR_ok hf
  refine e_putR C fl_Fa_26 dX9_init_45 hG15 hg (Or.inr ⟨rfl, rfl⟩) rfl rfl ?_
  refine g_aload_n C dX9_init_48 rfl ?_
  obtain ⟨a17, G16, ha17, hG16, hf⟩ := nO_ok hf
  refine e_new C tyX5 (rfl : vwCl[5]? = some ("FavoursGoOff$Reader", TX5, 8)) (by decide) ul_5 tyX5_ok rfl ft_5 cl_Fa_29 in_Re it_Re (by omega) dX9_init_49 ha17 hG16 ?_
  refine g_dup C dX9_init_52 rfl ?_
  obtain ⟨G18, h1, hf⟩ := cP_ok hf
  refine g_invIN (As := []) (st := [.ref (E.2.1 + a17), .ref (E.2.1 + l0)]) (host := "FavoursGoOff") C (c_Re_init E h1) (List.mem_of_getElem? (i := 1) rfl) cm_Re_init.1 cm_Re_init.2.1 cm_Re_init.2.2.1 cm_Re_init.2.2.2.1 cm_Re_init.2.2.2.2 rfl ⟨by omega, by omega, by omega, by omega⟩ (by exact Nat.le_of_ble_eq_true rfl) rfl dX9_init_53 ?_
  obtain ⟨G19, hG19, hg, hf⟩ := pR_ok hf
  refine e_putR C fl_Fa_32 dX9_init_56 hG19 hg (Or.inr ⟨rfl, rfl⟩) rfl rfl ?_
  refine g_aload_n C dX9_init_59 rfl ?_
  refine g_aload_n C dX9_init_60 rfl ?_
  obtain ⟨x20, hg, hf⟩ := gR_ok hf
  refine g_getR C fl_Fa_32 dX9_init_61 hg ?_
  obtain ⟨x21, hg, hf⟩ := gR_ok hf
  refine g_getR C fl_Fa_36 dX9_init_64 hg ?_
  obtain ⟨G22, hG22, hg, hf⟩ := pR_ok hf
  refine e_putR C fl_Fa_40 dX9_init_67 hG22 hg (Or.inr ⟨rfl, rfl⟩) rfl rfl ?_
  refine g_aload_n C dX9_init_70 rfl ?_
  obtain ⟨a24, G23, ha24, hG23, hf⟩ := nO_ok hf
  refine e_new C tyX1 (rfl : vwCl[1]? = some ("FavoursGoOff$Debts", TX1, 6)) (by decide) ul_1 tyX1_ok rfl ft_1 cl_Fa_41 in_De it_De (by omega) dX9_init_71 ha24 hG23 ?_
  refine g_dup C dX9_init_74 rfl ?_
  obtain ⟨G25, h1, hf⟩ := cP_ok hf
  refine g_invIN (As := []) (st := [.ref (E.2.1 + a24), .ref (E.2.1 + l0)]) (host := "FavoursGoOff") C (c_De_init E h1) (List.mem_of_getElem? (i := 3) rfl) cm_De_init.1 cm_De_init.2.1 cm_De_init.2.2.1 cm_De_init.2.2.2.1 cm_De_init.2.2.2.2 rfl ⟨by omega, by omega, by omega, by omega⟩ (by exact Nat.le_of_ble_eq_true rfl) rfl dX9_init_75 ?_
  obtain ⟨G26, hG26, hg, hf⟩ := pR_ok hf
  refine e_putR C fl_Fa_44 dX9_init_78 hG26 hg (Or.inr ⟨rfl, rfl⟩) rfl rfl ?_
  refine g_aload_n C dX9_init_81 rfl ?_
  obtain ⟨a28, G27, ha28, hG27, hf⟩ := nO_ok hf
  refine e_new C tyX0 (rfl : vwCl[0]? = some ("FavoursGoOff$Circle", TX0, 2)) (by decide) ul_0 tyX0_ok rfl ft_0 cl_Fa_48 in_Ci it_Ci (by omega) dX9_init_82 ha28 hG27 ?_
  refine g_dup C dX9_init_85 rfl ?_
  obtain ⟨G29, h1, hf⟩ := cP_ok hf
  refine g_invIN (As := []) (st := [.ref (E.2.1 + a28), .ref (E.2.1 + l0)]) (host := "FavoursGoOff") C (c_Ci_init E h1) (List.mem_of_getElem? (i := 4) rfl) cm_Ci_init.1 cm_Ci_init.2.1 cm_Ci_init.2.2.1 cm_Ci_init.2.2.2.1 cm_Ci_init.2.2.2.2 rfl ⟨by omega, by omega, by omega, by omega⟩ (by exact Nat.le_of_ble_eq_true rfl) rfl dX9_init_86 ?_
  obtain ⟨G30, hG30, hg, hf⟩ := pR_ok hf
  refine e_putR C fl_Fa_51 dX9_init_89 hG30 hg (Or.inr ⟨rfl, rfl⟩) rfl rfl ?_
  refine g_aload_n C dX9_init_92 rfl ?_
  obtain ⟨a32, G31, ha32, hG31, hf⟩ := nO_ok hf
  refine e_new C tyX4 (rfl : vwCl[4]? = some ("FavoursGoOff$Plan", TX4, 13)) (by decide) ul_4 tyX4_ok rfl ft_4 cl_Fa_55 in_Pl it_Pl (by omega) dX9_init_93 ha32 hG31 ?_
  refine g_dup C dX9_init_96 rfl ?_
  obtain ⟨G33, h1, hf⟩ := cP_ok hf
  refine g_invIN (As := []) (st := [.ref (E.2.1 + a32), .ref (E.2.1 + l0)]) (host := "FavoursGoOff") C (c_Pl_init E h1) (List.mem_of_getElem? (i := 5) rfl) cm_Pl_init.1 cm_Pl_init.2.1 cm_Pl_init.2.2.1 cm_Pl_init.2.2.2.1 cm_Pl_init.2.2.2.2 rfl ⟨by omega, by omega, by omega, by omega⟩ (by exact Nat.le_of_ble_eq_true rfl) rfl dX9_init_97 ?_
  obtain ⟨G34, hG34, hg, hf⟩ := pR_ok hf
  refine e_putR C fl_Fa_58 dX9_init_100 hG34 hg (Or.inr ⟨rfl, rfl⟩) rfl rfl ?_
  refine g_aload_n C dX9_init_103 rfl ?_
  obtain ⟨a36, G35, ha36, hG35, hf⟩ := nO_ok hf
  refine e_new C tyX2 (rfl : vwCl[2]? = some ("FavoursGoOff$Fraction", TX2, 2)) (by decide) ul_2 tyX2_ok rfl ft_2 cl_Fa_62 in_Fr it_Fr (by omega) dX9_init_104 ha36 hG35 ?_
  refine g_dup C dX9_init_107 rfl ?_
  obtain ⟨G37, h1, hf⟩ := cP_ok hf
  refine g_invIN (As := []) (st := [.ref (E.2.1 + a36), .ref (E.2.1 + l0)]) (host := "FavoursGoOff") C (c_Fr_init E h1) (List.mem_of_getElem? (i := 6) rfl) cm_Fr_init.1 cm_Fr_init.2.1 cm_Fr_init.2.2.1 cm_Fr_init.2.2.2.1 cm_Fr_init.2.2.2.2 rfl ⟨by omega, by omega, by omega, by omega⟩ (by exact Nat.le_of_ble_eq_true rfl) rfl dX9_init_108 ?_
  obtain ⟨G38, hG38, hg, hf⟩ := pR_ok hf
  refine e_putR C fl_Fa_65 dX9_init_111 hG38 hg (Or.inr ⟨rfl, rfl⟩) rfl rfl ?_
  refine g_aload_n C dX9_init_114 rfl ?_
  obtain ⟨x39, hg, hf⟩ := gR_ok hf
  refine g_getR C fl_Fa_26 dX9_init_115 hg ?_
  refine g_iconst (v := (4 : Int32)) C dX9_init_118 (by decide) ?_
  obtain ⟨G40, hg, h1, hf⟩ := vP_ok hf
  refine g_invV (As := [.int (4 : Int32)]) (st := []) C (c_St_open E h1) (rfl : vwCl[6]? = some (y_St_open.cls, TX6, 6)) (by decide) hg ml_Fa_69 cm_St_open.1 cm_St_open.2.1 cm_St_open.2.2.1 cm_St_open.2.2.2.1 cm_St_open.2.2.2.2 rfl ⟨by omega, by omega, by omega, by omega⟩ (by exact Nat.le_of_ble_eq_true rfl) rfl dX9_init_119 ?_
  refine g_iconst (v := (0 : Int32)) C dX9_init_122 (by decide) ?_
  refine g_istore_n (lv' := [some (.ref (E.2.1 + l0)), some (.int (0 : Int32))]) C dX9_init_123 (by decide) rfl ?_
  refine g_sub (lv' := [some (.ref (E.2.1 + l0)), some (.int (0 : Int32))]) ⟨rfl, ⟨rfl, trivial⟩⟩ ?_
  exact l_Fa_init_b124 C HR  FU hf
theorem c_Fa_init (E : EE) {G : Hp} {l0 : Nat} {G' : Hp} (h : f_Fa_init G l0 = some G') : gCt E y_Fa_init cX9_init 2 none 4 92 135 53632 [.ref (E.2.1 + l0)] G none G' := gCt_of (own := "FavoursGoOff") (ini := true) [some (.ref (E.2.1 + l0)), none] (by decide +kernel) rfl (fun _ => rfl) (Nat.le_of_ble_eq_true rfl) ⟨rfl, trivial⟩ (fun X C HR => l_Fa_init C HR h)
set_option maxRecDepth 20000 in
theorem l_Fa_bad {E : EE} {X : CT} {G : Hp} (C : gCx E X cX9_bad "FavoursGoOff" (some .int) 0 0 0 0 false 2) {r : Int32} {G' : Hp} (HR : gRet E X cX9_bad (some .int) 0 0 (some (.int r)) G') {l0 : Nat} {l1 : Int32} (hf : f_Fa_bad G l0 l1 = some (r, G')) : gV E X 0 0 G 0 [some (.ref (E.2.1 + l0)), some (.int l1)] [] := by
  unfold f_Fa_bad at hf
  refine g_aload_n C dX9_bad_0 rfl ?_
  refine g_dup C dX9_bad_1 rfl ?_
  obtain ⟨x1, hx1, hg, hf⟩ := gI_ok hf
  refine e_getI C fl_Fa_300 dX9_bad_2 hx1 hg ?_
  refine g_iconst (v := (1 : Int32)) C dX9_bad_5 (by decide) ?_
  refine g_iadd C dX9_bad_6 ?_
  obtain ⟨G2, hG2, hg, hf⟩ := pI_ok hf
  refine e_putI C fl_Fa_300 dX9_bad_7 hG2 hg (Or.inl rfl) rfl rfl ?_
  refine g_iload_n C dX9_bad_10 rfl ?_
  obtain ⟨rfl, rfl⟩ := rH_ok hf
  exact g_iret HR dX9_bad_11
theorem c_Fa_bad (E : EE) {G : Hp} {l0 : Nat} {l1 : Int32} {r : Int32} {G' : Hp} (h : f_Fa_bad G l0 l1 = some (r, G')) : gCt E y_Fa_bad cX9_bad 2 (some .int) 0 0 0 0 [.ref (E.2.1 + l0), .int l1] G (some (.int r)) G' := gCt_of (own := "FavoursGoOff") (ini := false) [some (.ref (E.2.1 + l0)), some (.int l1)] (by decide +kernel) rfl (fun h => by cases h) (Nat.le_of_ble_eq_true rfl) ⟨rfl, ⟨rfl, trivial⟩⟩ (fun X C HR => l_Fa_bad C HR h)
set_option maxRecDepth 20000 in
theorem l_Fa_people {E : EE} {X : CT} {G : Hp} (C : gCx E X cX9_people "FavoursGoOff" (some .int) 3 70 0 0 false 3) {r : Int32} {G' : Hp} (HR : gRet E X cX9_people (some .int) 0 0 (some (.int r)) G') {l0 : Nat} {l1 : Int32} (hf : f_Fa_people G l0 l1 = some (r, G')) : gV E X 0 0 G 0 [some (.ref (E.2.1 + l0)), some (.int l1), none] [] := by
  unfold f_Fa_people at hf
  refine g_iload_n C dX9_people_0 rfl ?_
  refine g_iconst (v := (2 : Int32)) C dX9_people_1 (by decide) ?_
  refine g_bipush (v := (6 : Int32)) C dX9_people_2 (by decide) ?_
  obtain ⟨x1, h1, hf⟩ := cP_ok hf
  refine g_invS (As := [.int l1, .int (2 : Int32), .int (6 : Int32)]) (st := []) C (c_Fa_isWithin E h1) ml_Fa_79 cm_Fa_isWithin.1 cm_Fa_isWithin.2.1 cm_Fa_isWithin.2.2.1 cm_Fa_isWithin.2.2.2 rfl ⟨by omega, by omega, by omega, by omega⟩ (by exact Nat.le_of_ble_eq_true rfl) rfl dX9_people_4 ?_
  refine g_if_ne (tgt := 17) C dX9_people_7 (by decide) (fun hc => ?_) (fun hc => ?_)
  · have hf := iteF hf hc
    refine g_aload_n C dX9_people_17 rfl ?_
    obtain ⟨x2, hg, hf⟩ := gR_ok hf
    refine g_getR C fl_Fa_26 dX9_people_18 hg ?_
    obtain ⟨x3, hg, hf⟩ := gR_ok hf
    refine g_getR C fl_Fa_87 dX9_people_21 hg ?_
    obtain ⟨x4, hx4, hg, hf⟩ := gI_ok hf
    refine e_getI C fl_Fa_91 dX9_people_24 hx4 hg ?_
    refine g_istore_n (lv' := [some (.ref (E.2.1 + l0)), some (.int l1), some (.int x4)]) C dX9_people_27 (by decide) rfl ?_
    refine g_aload_n C dX9_people_28 rfl ?_
    obtain ⟨x5, hg, hf⟩ := gR_ok hf
    refine g_getR C fl_Fa_26 dX9_people_29 hg ?_
    refine g_iload_n C dX9_people_32 rfl ?_
    obtain ⟨G6, hg, h1, hf⟩ := vP_ok hf
    refine g_invV (As := [.int l1]) (st := []) C (c_St_open E h1) (rfl : vwCl[6]? = some (y_St_open.cls, TX6, 6)) (by decide) hg ml_Fa_69 cm_St_open.1 cm_St_open.2.1 cm_St_open.2.2.1 cm_St_open.2.2.2.1 cm_St_open.2.2.2.2 rfl ⟨by omega, by omega, by omega, by omega⟩ (by exact Nat.le_of_ble_eq_true rfl) rfl dX9_people_33 ?_
    refine g_aload_n C dX9_people_36 rfl ?_
    obtain ⟨x7, hg, hf⟩ := gR_ok hf
    refine g_getR C fl_Fa_10 dX9_people_37 hg ?_
    refine g_iconst (v := (0 : Int32)) C dX9_people_40 (by decide) ?_
    obtain ⟨G8, hG8, hg, hf⟩ := pI_ok hf
    refine e_putI C fl_Fa_97 dX9_people_41 hG8 hg (Or.inl rfl) rfl rfl ?_
    refine g_aload_n C dX9_people_44 rfl ?_
    obtain ⟨x9, hg, hf⟩ := gR_ok hf
    refine g_getR C fl_Fa_58 dX9_people_45 hg ?_
    refine g_iconst (v := (1 : Int32)) C dX9_people_48 (by decide) ?_
    obtain ⟨G10, hG10, hg, hf⟩ := pI_ok hf
    refine e_putI C fl_Fa_100 dX9_people_49 hG10 hg (Or.inl rfl) (by decide) (by decide) ?_
    refine g_iload_n C dX9_people_52 rfl ?_
    obtain ⟨rfl, rfl⟩ := rH_ok hf
    exact g_iret HR dX9_people_53
  · have hf := iteT hf hc
    refine g_aload_n C dX9_people_10 rfl ?_
    refine g_bipush (v := (-2 : Int32)) C dX9_people_11 (by decide) ?_
    obtain ⟨x11, G12, hg, h1, hf⟩ := vH_ok hf
    refine g_invV (As := [.int (-2 : Int32)]) (st := []) C (c_Fa_bad E h1) (rfl : vwCl[9]? = some (y_Fa_bad.cls, TX9, 13)) (by decide) hg ml_Fa_83 cm_Fa_bad.1 cm_Fa_bad.2.1 cm_Fa_bad.2.2.1 cm_Fa_bad.2.2.2.1 cm_Fa_bad.2.2.2.2 rfl ⟨by omega, by omega, by omega, by omega⟩ (by exact Nat.le_of_ble_eq_true rfl) rfl dX9_people_13 ?_
    obtain ⟨rfl, rfl⟩ := rH_ok hf
    exact g_iret HR dX9_people_16
theorem c_Fa_people (E : EE) {G : Hp} {l0 : Nat} {l1 : Int32} {r : Int32} {G' : Hp} (h : f_Fa_people G l0 l1 = some (r, G')) : gCt E y_Fa_people cX9_people 3 (some .int) 3 70 0 0 [.ref (E.2.1 + l0), .int l1] G (some (.int r)) G' := gCt_of (own := "FavoursGoOff") (ini := false) [some (.ref (E.2.1 + l0)), some (.int l1), none] (by decide +kernel) rfl (fun h => by cases h) (Nat.le_of_ble_eq_true rfl) ⟨rfl, ⟨rfl, trivial⟩⟩ (fun X C HR => l_Fa_people C HR h)
set_option maxRecDepth 20000 in
theorem l_Fa_strong_b24 {E : EE} {X : CT} {G : Hp} (C : gCx E X cX9_strong "FavoursGoOff" (some .int) 2 47 0 0 false 4) {r : Int32} {G' : Hp} (HR : gRet E X cX9_strong (some .int) 0 0 (some (.int r)) G') {l0 : Nat} (hf : f_Fa_strong_b24 G l0 = some (r, G')) : gV E X 0 0 G 24 [some (.ref (E.2.1 + l0)), none, none, none] [] := by
  unfold f_Fa_strong_b24 at hf
  refine g_aload_n C dX9_strong_24 rfl ?_
  refine g_bipush (v := (-2 : Int32)) C dX9_strong_25 (by decide) ?_
  obtain ⟨x1, G2, hg, h1, hf⟩ := vH_ok hf
  refine g_invV (As := [.int (-2 : Int32)]) (st := []) C (c_Fa_bad E h1) (rfl : vwCl[9]? = some (y_Fa_bad.cls, TX9, 13)) (by decide) hg ml_Fa_83 cm_Fa_bad.1 cm_Fa_bad.2.1 cm_Fa_bad.2.2.1 cm_Fa_bad.2.2.2.1 cm_Fa_bad.2.2.2.2 rfl ⟨by omega, by omega, by omega, by omega⟩ (by exact Nat.le_of_ble_eq_true rfl) rfl dX9_strong_27 ?_
  obtain ⟨rfl, rfl⟩ := rH_ok hf
  exact g_iret HR dX9_strong_30
set_option maxRecDepth 20000 in
theorem l_Fa_strong {E : EE} {X : CT} {G : Hp} (C : gCx E X cX9_strong "FavoursGoOff" (some .int) 2 47 0 0 false 4) {r : Int32} {G' : Hp} (HR : gRet E X cX9_strong (some .int) 0 0 (some (.int r)) G') {l0 : Nat} {l1 : Int32} {l2 : Int32} (hf : f_Fa_strong G l0 l1 l2 = some (r, G')) : gV E X 0 0 G 0 [some (.ref (E.2.1 + l0)), some (.int l1), some (.int l2), none] [] := by
  unfold f_Fa_strong at hf
  refine g_aload_n C dX9_strong_0 rfl ?_
  obtain ⟨x1, hg, hf⟩ := gR_ok hf
  refine g_getR C fl_Fa_26 dX9_strong_1 hg ?_
  obtain ⟨x2, hg, hf⟩ := gR_ok hf
  refine g_getR C fl_Fa_87 dX9_strong_4 hg ?_
  refine g_iload_n C dX9_strong_7 rfl ?_
  obtain ⟨x3, hg, h1, hf⟩ := vP_ok hf
  refine g_invV (As := [.int l1]) (st := []) C (c_Ta_has E h1) (rfl : vwCl[7]? = some (y_Ta_has.cls, TX7, 3)) (by decide) hg ml_Fa_104 cm_Ta_has.1 cm_Ta_has.2.1 cm_Ta_has.2.2.1 cm_Ta_has.2.2.2.1 cm_Ta_has.2.2.2.2 rfl ⟨by omega, by omega, by omega, by omega⟩ (by exact Nat.le_of_ble_eq_true rfl) rfl dX9_strong_8 ?_
  refine g_if_eq (tgt := 24) C dX9_strong_11 (by decide) (fun hc => ?_) (fun hc => ?_)
  · have hf := iteT hf hc
    refine g_sub (lv' := [some (.ref (E.2.1 + l0)), none, none, none]) ⟨rfl, trivial⟩ ?_
    exact l_Fa_strong_b24 C HR  hf
  · have hf := iteF hf hc
    refine g_iload_n C dX9_strong_14 rfl ?_
    refine g_iconst (v := (0 : Int32)) C dX9_strong_15 (by decide) ?_
    refine g_bipush (v := (99 : Int32)) C dX9_strong_16 (by decide) ?_
    obtain ⟨x4, h1, hf⟩ := cP_ok hf
    refine g_invS (As := [.int l2, .int (0 : Int32), .int (99 : Int32)]) (st := []) C (c_Fa_isWithin E h1) ml_Fa_79 cm_Fa_isWithin.1 cm_Fa_isWithin.2.1 cm_Fa_isWithin.2.2.1 cm_Fa_isWithin.2.2.2 rfl ⟨by omega, by omega, by omega, by omega⟩ (by exact Nat.le_of_ble_eq_true rfl) rfl dX9_strong_18 ?_
    refine g_if_ne (tgt := 31) C dX9_strong_21 (by decide) (fun hc => ?_) (fun hc => ?_)
    · have hf := iteF hf hc
      refine g_aload_n C dX9_strong_31 rfl ?_
      obtain ⟨x5, hg, hf⟩ := gR_ok hf
      refine g_getR C fl_Fa_26 dX9_strong_32 hg ?_
      obtain ⟨x6, hg, hf⟩ := gR_ok hf
      refine g_getR C fl_Fa_87 dX9_strong_35 hg ?_
      refine g_iload_n C dX9_strong_38 rfl ?_
      refine g_iconst (v := (0 : Int32)) C dX9_strong_39 (by decide) ?_
      obtain ⟨x7, hg, h1, hf⟩ := vP_ok hf
      refine g_invV (As := [.int l1, .int (0 : Int32)]) (st := []) C (c_Ta_at E h1) (rfl : vwCl[7]? = some (y_Ta_at.cls, TX7, 3)) (by decide) hg ml_Fa_108 cm_Ta_at.1 cm_Ta_at.2.1 cm_Ta_at.2.2.1 cm_Ta_at.2.2.2.1 cm_Ta_at.2.2.2.2 rfl ⟨by omega, by omega, by omega, by omega⟩ (by exact Nat.le_of_ble_eq_true rfl) rfl dX9_strong_40 ?_
      refine g_istore_n (lv' := [some (.ref (E.2.1 + l0)), some (.int l1), some (.int l2), some (.int x7)]) C dX9_strong_43 (by decide) rfl ?_
      refine g_aload_n C dX9_strong_44 rfl ?_
      obtain ⟨x8, hg, hf⟩ := gR_ok hf
      refine g_getR C fl_Fa_26 dX9_strong_45 hg ?_
      obtain ⟨x9, hg, hf⟩ := gR_ok hf
      refine g_getR C fl_Fa_87 dX9_strong_48 hg ?_
      refine g_iload_n C dX9_strong_51 rfl ?_
      refine g_iconst (v := (0 : Int32)) C dX9_strong_52 (by decide) ?_
      refine g_iload_n C dX9_strong_53 rfl ?_
      obtain ⟨G10, hg, h1, hf⟩ := vP_ok hf
      refine g_invV (As := [.int l1, .int (0 : Int32), .int l2]) (st := []) C (c_Ta_put E h1) (rfl : vwCl[7]? = some (y_Ta_put.cls, TX7, 3)) (by decide) hg ml_Fa_112 cm_Ta_put.1 cm_Ta_put.2.1 cm_Ta_put.2.2.1 cm_Ta_put.2.2.2.1 cm_Ta_put.2.2.2.2 rfl ⟨by omega, by omega, by omega, by omega⟩ (by exact Nat.le_of_ble_eq_true rfl) rfl dX9_strong_54 ?_
      refine g_aload_n C dX9_strong_57 rfl ?_
      obtain ⟨x11, hg, hf⟩ := gR_ok hf
      refine g_getR C fl_Fa_58 dX9_strong_58 hg ?_
      refine g_iconst (v := (1 : Int32)) C dX9_strong_61 (by decide) ?_
      obtain ⟨G12, hG12, hg, hf⟩ := pI_ok hf
      refine e_putI C fl_Fa_100 dX9_strong_62 hG12 hg (Or.inl rfl) (by decide) (by decide) ?_
      refine g_iload_n C dX9_strong_65 rfl ?_
      obtain ⟨rfl, rfl⟩ := rH_ok hf
      exact g_iret HR dX9_strong_66
    · have hf := iteT hf hc
      refine g_sub (lv' := [some (.ref (E.2.1 + l0)), none, none, none]) ⟨rfl, trivial⟩ ?_
      exact l_Fa_strong_b24 C HR  hf
theorem c_Fa_strong (E : EE) {G : Hp} {l0 : Nat} {l1 : Int32} {l2 : Int32} {r : Int32} {G' : Hp} (h : f_Fa_strong G l0 l1 l2 = some (r, G')) : gCt E y_Fa_strong cX9_strong 4 (some .int) 2 47 0 0 [.ref (E.2.1 + l0), .int l1, .int l2] G (some (.int r)) G' := gCt_of (own := "FavoursGoOff") (ini := false) [some (.ref (E.2.1 + l0)), some (.int l1), some (.int l2), none] (by decide +kernel) rfl (fun h => by cases h) (Nat.le_of_ble_eq_true rfl) ⟨rfl, ⟨rfl, ⟨rfl, trivial⟩⟩⟩ (fun X C HR => l_Fa_strong C HR h)
set_option maxRecDepth 20000 in
theorem l_Fa_isThing {E : EE} {X : CT} {G : Hp} (C : gCx E X cX9_isThing "FavoursGoOff" (some .boolean) 1 22 0 0 false 1) {r : Int32} (HR : gRet E X cX9_isThing (some .boolean) 0 0 (some (.int r)) G) {l0 : Int32} (hf : f_Fa_isThing G l0 = some r) : gV E X 0 0 G 0 [some (.int l0)] [] := by
  unfold f_Fa_isThing at hf
  refine g_iload_n C dX9_isThing_0 rfl ?_
  refine g_iconst (v := (0 : Int32)) C dX9_isThing_1 (by decide) ?_
  refine g_iconst (v := (3 : Int32)) C dX9_isThing_2 (by decide) ?_
  obtain ⟨x1, h1, hf⟩ := cP_ok hf
  refine g_invS (As := [.int l0, .int (0 : Int32), .int (3 : Int32)]) (st := []) C (c_Fa_isWithin E h1) ml_Fa_79 cm_Fa_isWithin.1 cm_Fa_isWithin.2.1 cm_Fa_isWithin.2.2.1 cm_Fa_isWithin.2.2.2 rfl ⟨by omega, by omega, by omega, by omega⟩ (by exact Nat.le_of_ble_eq_true rfl) rfl dX9_isThing_3 ?_
  obtain ⟨hv, hf⟩ := zR_ok hf
  obtain rfl := rP_ok hf
  exact g_zret HR hv dX9_isThing_6
theorem c_Fa_isThing (E : EE) {G : Hp} {l0 : Int32} {r : Int32} (h : f_Fa_isThing G l0 = some r) : gCt E y_Fa_isThing cX9_isThing 1 (some .boolean) 1 22 0 0 [.int l0] G (some (.int r)) G := gCt_of (own := "FavoursGoOff") (ini := false) [some (.int l0)] (by decide +kernel) rfl (fun h => by cases h) (Nat.le_of_ble_eq_true rfl) ⟨rfl, trivial⟩ (fun X C HR => l_Fa_isThing C HR h)
set_option maxRecDepth 20000 in
theorem l_Fa_isDay {E : EE} {X : CT} {G : Hp} (C : gCx E X cX9_isDay "FavoursGoOff" (some .boolean) 1 22 0 0 false 1) {r : Int32} (HR : gRet E X cX9_isDay (some .boolean) 0 0 (some (.int r)) G) {l0 : Int32} (hf : f_Fa_isDay G l0 = some r) : gV E X 0 0 G 0 [some (.int l0)] [] := by
  unfold f_Fa_isDay at hf
  refine g_iload_n C dX9_isDay_0 rfl ?_
  refine g_iconst (v := (0 : Int32)) C dX9_isDay_1 (by decide) ?_
  refine g_bipush (v := (99 : Int32)) C dX9_isDay_2 (by decide) ?_
  obtain ⟨x1, h1, hf⟩ := cP_ok hf
  refine g_invS (As := [.int l0, .int (0 : Int32), .int (99 : Int32)]) (st := []) C (c_Fa_isWithin E h1) ml_Fa_79 cm_Fa_isWithin.1 cm_Fa_isWithin.2.1 cm_Fa_isWithin.2.2.1 cm_Fa_isWithin.2.2.2 rfl ⟨by omega, by omega, by omega, by omega⟩ (by exact Nat.le_of_ble_eq_true rfl) rfl dX9_isDay_4 ?_
  obtain ⟨hv, hf⟩ := zR_ok hf
  obtain rfl := rP_ok hf
  exact g_zret HR hv dX9_isDay_7
theorem c_Fa_isDay (E : EE) {G : Hp} {l0 : Int32} {r : Int32} (h : f_Fa_isDay G l0 = some r) : gCt E y_Fa_isDay cX9_isDay 1 (some .boolean) 1 22 0 0 [.int l0] G (some (.int r)) G := gCt_of (own := "FavoursGoOff") (ini := false) [some (.int l0)] (by decide +kernel) rfl (fun h => by cases h) (Nat.le_of_ble_eq_true rfl) ⟨rfl, trivial⟩ (fun X C HR => l_Fa_isDay C HR h)
set_option maxRecDepth 20000 in
theorem l_Fa_full {E : EE} {X : CT} {G : Hp} (C : gCx E X cX9_full "FavoursGoOff" (some .int) 0 0 0 0 false 1) {r : Int32} {G' : Hp} (HR : gRet E X cX9_full (some .int) 0 0 (some (.int r)) G') {l0 : Nat} (hf : f_Fa_full G l0 = some (r, G')) : gV E X 0 0 G 0 [some (.ref (E.2.1 + l0))] [] := by
  unfold f_Fa_full at hf
  refine g_aload_n C dX9_full_0 rfl ?_
  refine g_dup C dX9_full_1 rfl ?_
  obtain ⟨x1, hx1, hg, hf⟩ := gI_ok hf
  refine e_getI C fl_Fa_306 dX9_full_2 hx1 hg ?_
  refine g_iconst (v := (1 : Int32)) C dX9_full_5 (by decide) ?_
  refine g_iadd C dX9_full_6 ?_
  obtain ⟨G2, hG2, hg, hf⟩ := pI_ok hf
  refine e_putI C fl_Fa_306 dX9_full_7 hG2 hg (Or.inl rfl) rfl rfl ?_
  refine g_bipush (v := (-4 : Int32)) C dX9_full_10 (by decide) ?_
  obtain ⟨rfl, rfl⟩ := rH_ok hf
  exact g_iret HR dX9_full_12
theorem c_Fa_full (E : EE) {G : Hp} {l0 : Nat} {r : Int32} {G' : Hp} (h : f_Fa_full G l0 = some (r, G')) : gCt E y_Fa_full cX9_full 1 (some .int) 0 0 0 0 [.ref (E.2.1 + l0)] G (some (.int r)) G' := gCt_of (own := "FavoursGoOff") (ini := false) [some (.ref (E.2.1 + l0))] (by decide +kernel) rfl (fun h => by cases h) (Nat.le_of_ble_eq_true rfl) ⟨rfl, trivial⟩ (fun X C HR => l_Fa_full C HR h)
set_option maxRecDepth 20000 in
theorem l_Fa_favour_b81 {E : EE} {X : CT} {G : Hp} (C : gCx E X cX9_favour "FavoursGoOff" (some .int) 3 74 0 0 false 8) {r : Int32} {G' : Hp} (HR : gRet E X cX9_favour (some .int) 0 0 (some (.int r)) G') {l0 : Nat} (hf : f_Fa_favour_b81 G l0 = some (r, G')) : gV E X 0 0 G 81 [some (.ref (E.2.1 + l0)), none, none, none, none, none, none, none] [] := by
  unfold f_Fa_favour_b81 at hf
  refine g_aload_n C dX9_favour_81 rfl ?_
  refine g_bipush (v := (-2 : Int32)) C dX9_favour_82 (by decide) ?_
  obtain ⟨x1, G2, hg, h1, hf⟩ := vH_ok hf
  refine g_invV (As := [.int (-2 : Int32)]) (st := []) C (c_Fa_bad E h1) (rfl : vwCl[9]? = some (y_Fa_bad.cls, TX9, 13)) (by decide) hg ml_Fa_83 cm_Fa_bad.1 cm_Fa_bad.2.1 cm_Fa_bad.2.2.1 cm_Fa_bad.2.2.2.1 cm_Fa_bad.2.2.2.2 rfl ⟨by omega, by omega, by omega, by omega⟩ (by exact Nat.le_of_ble_eq_true rfl) rfl dX9_favour_84 ?_
  obtain ⟨rfl, rfl⟩ := rH_ok hf
  exact g_iret HR dX9_favour_87
set_option maxRecDepth 20000 in
theorem l_Fa_favour_b38 {E : EE} {X : CT} {G : Hp} (C : gCx E X cX9_favour "FavoursGoOff" (some .int) 3 74 0 0 false 8) {r : Int32} {G' : Hp} (HR : gRet E X cX9_favour (some .int) 0 0 (some (.int r)) G') {l0 : Nat} {l1 : Int32} {l2 : Int32} {l3 : Int32} {l4 : Int32} {l5 : Int32} {l6 : Int32} {s0 : Int32} (hf : f_Fa_favour_b38 G l0 l1 l2 l3 l4 l5 l6 s0 = some (r, G')) : gV E X 0 0 G 38 [some (.ref (E.2.1 + l0)), some (.int l1), some (.int l2), some (.int l3), some (.int l4), some (.int l5), some (.int l6), none] [.int s0] := by
  unfold f_Fa_favour_b38 at hf
  refine g_istore (lv' := [some (.ref (E.2.1 + l0)), some (.int l1), some (.int l2), some (.int l3), some (.int l4), some (.int l5), some (.int l6), some (.int s0)]) C dX9_favour_38 (by decide) rfl ?_
  refine g_iload C dX9_favour_40 rfl ?_
  refine g_if_eq (tgt := 81) C dX9_favour_42 (by decide) (fun hc => ?_) (fun hc => ?_)
  · have hf := iteT hf hc
    refine g_sub (lv' := [some (.ref (E.2.1 + l0)), none, none, none, none, none, none, none]) ⟨rfl, trivial⟩ ?_
    exact l_Fa_favour_b81 C HR  hf
  · have hf := iteF hf hc
    refine g_iload_n C dX9_favour_45 rfl ?_
    refine g_iconst (v := (0 : Int32)) C dX9_favour_46 (by decide) ?_
    refine g_iconst (v := (4 : Int32)) C dX9_favour_47 (by decide) ?_
    obtain ⟨x1, h1, hf⟩ := cP_ok hf
    refine g_invS (As := [.int l1, .int (0 : Int32), .int (4 : Int32)]) (st := []) C (c_Fa_isWithin E h1) ml_Fa_79 cm_Fa_isWithin.1 cm_Fa_isWithin.2.1 cm_Fa_isWithin.2.2.1 cm_Fa_isWithin.2.2.2 rfl ⟨by omega, by omega, by omega, by omega⟩ (by exact Nat.le_of_ble_eq_true rfl) rfl dX9_favour_48 ?_
    refine g_if_eq (tgt := 81) C dX9_favour_51 (by decide) (fun hc => ?_) (fun hc => ?_)
    · have hf := iteT hf hc
      refine g_sub (lv' := [some (.ref (E.2.1 + l0)), none, none, none, none, none, none, none]) ⟨rfl, trivial⟩ ?_
      exact l_Fa_favour_b81 C HR  hf
    · have hf := iteF hf hc
      refine g_iload C dX9_favour_54 rfl ?_
      obtain ⟨x2, h1, hf⟩ := cP_ok hf
      refine g_invS (As := [.int l4]) (st := []) C (c_Fa_isThing E h1) ml_Fa_116 cm_Fa_isThing.1 cm_Fa_isThing.2.1 cm_Fa_isThing.2.2.1 cm_Fa_isThing.2.2.2 rfl ⟨by omega, by omega, by omega, by omega⟩ (by exact Nat.le_of_ble_eq_true rfl) rfl dX9_favour_56 ?_
      refine g_if_eq (tgt := 81) C dX9_favour_59 (by decide) (fun hc => ?_) (fun hc => ?_)
      · have hf := iteT hf hc
        refine g_sub (lv' := [some (.ref (E.2.1 + l0)), none, none, none, none, none, none, none]) ⟨rfl, trivial⟩ ?_
        exact l_Fa_favour_b81 C HR  hf
      · have hf := iteF hf hc
        refine g_iload C dX9_favour_62 rfl ?_
        refine g_iconst (v := (1 : Int32)) C dX9_favour_64 (by decide) ?_
        refine g_bipush (v := (40 : Int32)) C dX9_favour_65 (by decide) ?_
        obtain ⟨x3, h1, hf⟩ := cP_ok hf
        refine g_invS (As := [.int l5, .int (1 : Int32), .int (40 : Int32)]) (st := []) C (c_Fa_isWithin E h1) ml_Fa_79 cm_Fa_isWithin.1 cm_Fa_isWithin.2.1 cm_Fa_isWithin.2.2.1 cm_Fa_isWithin.2.2.2 rfl ⟨by omega, by omega, by omega, by omega⟩ (by exact Nat.le_of_ble_eq_true rfl) rfl dX9_favour_67 ?_
        refine g_if_eq (tgt := 81) C dX9_favour_70 (by decide) (fun hc => ?_) (fun hc => ?_)
        · have hf := iteT hf hc
          refine g_sub (lv' := [some (.ref (E.2.1 + l0)), none, none, none, none, none, none, none]) ⟨rfl, trivial⟩ ?_
          exact l_Fa_favour_b81 C HR  hf
        · have hf := iteF hf hc
          refine g_iload C dX9_favour_73 rfl ?_
          obtain ⟨x4, h1, hf⟩ := cP_ok hf
          refine g_invS (As := [.int l6]) (st := []) C (c_Fa_isDay E h1) ml_Fa_119 cm_Fa_isDay.1 cm_Fa_isDay.2.1 cm_Fa_isDay.2.2.1 cm_Fa_isDay.2.2.2 rfl ⟨by omega, by omega, by omega, by omega⟩ (by exact Nat.le_of_ble_eq_true rfl) rfl dX9_favour_75 ?_
          refine g_if_ne (tgt := 88) C dX9_favour_78 (by decide) (fun hc => ?_) (fun hc => ?_)
          · have hf := iteF hf hc
            refine g_aload_n C dX9_favour_88 rfl ?_
            obtain ⟨x5, hg, hf⟩ := gR_ok hf
            refine g_getR C fl_Fa_26 dX9_favour_89 hg ?_
            obtain ⟨x6, hg, hf⟩ := gR_ok hf
            refine g_getR C fl_Fa_122 dX9_favour_92 hg ?_
            obtain ⟨x7, hg, h1, hf⟩ := vP_ok hf
            refine g_invV (As := []) (st := []) C (c_Ta_isFull E h1) (rfl : vwCl[7]? = some (y_Ta_isFull.cls, TX7, 3)) (by decide) hg ml_Fa_125 cm_Ta_isFull.1 cm_Ta_isFull.2.1 cm_Ta_isFull.2.2.1 cm_Ta_isFull.2.2.2.1 cm_Ta_isFull.2.2.2.2 rfl ⟨by omega, by omega, by omega, by omega⟩ (by exact Nat.le_of_ble_eq_true rfl) rfl dX9_favour_95 ?_
            refine g_if_eq (tgt := 106) C dX9_favour_98 (by decide) (fun hc => ?_) (fun hc => ?_)
            · have hf := iteT hf hc
              refine g_aload_n C dX9_favour_106 rfl ?_
              obtain ⟨x8, hg, hf⟩ := gR_ok hf
              refine g_getR C fl_Fa_58 dX9_favour_107 hg ?_
              refine g_iconst (v := (1 : Int32)) C dX9_favour_110 (by decide) ?_
              obtain ⟨G9, hG9, hg, hf⟩ := pI_ok hf
              refine e_putI C fl_Fa_100 dX9_favour_111 hG9 hg (Or.inl rfl) (by decide) (by decide) ?_
              refine g_aload_n C dX9_favour_114 rfl ?_
              obtain ⟨x10, hg, hf⟩ := gR_ok hf
              refine g_getR C fl_Fa_26 dX9_favour_115 hg ?_
              refine g_iload_n C dX9_favour_118 rfl ?_
              refine g_iload_n C dX9_favour_119 rfl ?_
              refine g_iload_n C dX9_favour_120 rfl ?_
              refine g_iload C dX9_favour_121 rfl ?_
              refine g_iload C dX9_favour_123 rfl ?_
              refine g_iload C dX9_favour_125 rfl ?_
              obtain ⟨x11, G12, hg, h1, hf⟩ := vH_ok hf
              refine g_invV (As := [.int l1, .int l2, .int l3, .int l4, .int l5, .int l6]) (st := []) C (c_St_addFavour E h1) (rfl : vwCl[6]? = some (y_St_addFavour.cls, TX6, 6)) (by decide) hg ml_Fa_133 cm_St_addFavour.1 cm_St_addFavour.2.1 cm_St_addFavour.2.2.1 cm_St_addFavour.2.2.2.1 cm_St_addFavour.2.2.2.2 rfl ⟨by omega, by omega, by omega, by omega⟩ (by exact Nat.le_of_ble_eq_true rfl) rfl dX9_favour_127 ?_
              obtain ⟨rfl, rfl⟩ := rH_ok hf
              exact g_iret HR dX9_favour_130
            · have hf := iteF hf hc
              refine g_aload_n C dX9_favour_101 rfl ?_
              obtain ⟨x13, G14, hg, h1, hf⟩ := vH_ok hf
              refine g_invV (As := []) (st := []) C (c_Fa_full E h1) (rfl : vwCl[9]? = some (y_Fa_full.cls, TX9, 13)) (by decide) hg ml_Fa_129 cm_Fa_full.1 cm_Fa_full.2.1 cm_Fa_full.2.2.1 cm_Fa_full.2.2.2.1 cm_Fa_full.2.2.2.2 rfl ⟨by omega, by omega, by omega, by omega⟩ (by exact Nat.le_of_ble_eq_true rfl) rfl dX9_favour_102 ?_
              obtain ⟨rfl, rfl⟩ := rH_ok hf
              exact g_iret HR dX9_favour_105
          · have hf := iteT hf hc
            refine g_sub (lv' := [some (.ref (E.2.1 + l0)), none, none, none, none, none, none, none]) ⟨rfl, trivial⟩ ?_
            exact l_Fa_favour_b81 C HR  hf
set_option maxRecDepth 20000 in
theorem l_Fa_favour_b37 {E : EE} {X : CT} {G : Hp} (C : gCx E X cX9_favour "FavoursGoOff" (some .int) 3 74 0 0 false 8) {r : Int32} {G' : Hp} (HR : gRet E X cX9_favour (some .int) 0 0 (some (.int r)) G') {l0 : Nat} {l1 : Int32} {l2 : Int32} {l3 : Int32} {l4 : Int32} {l5 : Int32} {l6 : Int32} (hf : f_Fa_favour_b37 G l0 l1 l2 l3 l4 l5 l6 = some (r, G')) : gV E X 0 0 G 37 [some (.ref (E.2.1 + l0)), some (.int l1), some (.int l2), some (.int l3), some (.int l4), some (.int l5), some (.int l6), none] [] := by
  unfold f_Fa_favour_b37 at hf
  refine g_iconst (v := (0 : Int32)) C dX9_favour_37 (by decide) ?_
  refine g_sub (lv' := [some (.ref (E.2.1 + l0)), some (.int l1), some (.int l2), some (.int l3), some (.int l4), some (.int l5), some (.int l6), none]) ⟨rfl, ⟨rfl, ⟨rfl, ⟨rfl, ⟨rfl, ⟨rfl, ⟨rfl, trivial⟩⟩⟩⟩⟩⟩⟩ ?_
  exact l_Fa_favour_b38 C HR  hf
set_option maxRecDepth 20000 in
theorem l_Fa_favour {E : EE} {X : CT} {G : Hp} (C : gCx E X cX9_favour "FavoursGoOff" (some .int) 3 74 0 0 false 8) {r : Int32} {G' : Hp} (HR : gRet E X cX9_favour (some .int) 0 0 (some (.int r)) G') {l0 : Nat} {l1 : Int32} {l2 : Int32} {l3 : Int32} {l4 : Int32} {l5 : Int32} {l6 : Int32} (hf : f_Fa_favour G l0 l1 l2 l3 l4 l5 l6 = some (r, G')) : gV E X 0 0 G 0 [some (.ref (E.2.1 + l0)), some (.int l1), some (.int l2), some (.int l3), some (.int l4), some (.int l5), some (.int l6), none] [] := by
  unfold f_Fa_favour at hf
  refine g_aload_n C dX9_favour_0 rfl ?_
  obtain ⟨x1, hg, hf⟩ := gR_ok hf
  refine g_getR C fl_Fa_26 dX9_favour_1 hg ?_
  obtain ⟨x2, hg, hf⟩ := gR_ok hf
  refine g_getR C fl_Fa_87 dX9_favour_4 hg ?_
  refine g_iload_n C dX9_favour_7 rfl ?_
  obtain ⟨x3, hg, h1, hf⟩ := vP_ok hf
  refine g_invV (As := [.int l2]) (st := []) C (c_Ta_has E h1) (rfl : vwCl[7]? = some (y_Ta_has.cls, TX7, 3)) (by decide) hg ml_Fa_104 cm_Ta_has.1 cm_Ta_has.2.1 cm_Ta_has.2.2.1 cm_Ta_has.2.2.2.1 cm_Ta_has.2.2.2.2 rfl ⟨by omega, by omega, by omega, by omega⟩ (by exact Nat.le_of_ble_eq_true rfl) rfl dX9_favour_8 ?_
  refine g_if_eq (tgt := 37) C dX9_favour_11 (by decide) (fun hc => ?_) (fun hc => ?_)
  · have hf := iteT hf hc
    refine g_sub (lv' := [some (.ref (E.2.1 + l0)), some (.int l1), some (.int l2), some (.int l3), some (.int l4), some (.int l5), some (.int l6), none]) ⟨rfl, ⟨rfl, ⟨rfl, ⟨rfl, ⟨rfl, ⟨rfl, ⟨rfl, trivial⟩⟩⟩⟩⟩⟩⟩ ?_
    exact l_Fa_favour_b37 C HR  hf
  · have hf := iteF hf hc
    refine g_aload_n C dX9_favour_14 rfl ?_
    obtain ⟨x4, hg, hf⟩ := gR_ok hf
    refine g_getR C fl_Fa_26 dX9_favour_15 hg ?_
    obtain ⟨x5, hg, hf⟩ := gR_ok hf
    refine g_getR C fl_Fa_87 dX9_favour_18 hg ?_
    refine g_iload_n C dX9_favour_21 rfl ?_
    obtain ⟨x6, hg, h1, hf⟩ := vP_ok hf
    refine g_invV (As := [.int l3]) (st := []) C (c_Ta_has E h1) (rfl : vwCl[7]? = some (y_Ta_has.cls, TX7, 3)) (by decide) hg ml_Fa_104 cm_Ta_has.1 cm_Ta_has.2.1 cm_Ta_has.2.2.1 cm_Ta_has.2.2.2.1 cm_Ta_has.2.2.2.2 rfl ⟨by omega, by omega, by omega, by omega⟩ (by exact Nat.le_of_ble_eq_true rfl) rfl dX9_favour_22 ?_
    refine g_if_eq (tgt := 37) C dX9_favour_25 (by decide) (fun hc => ?_) (fun hc => ?_)
    · have hf := iteT hf hc
      refine g_sub (lv' := [some (.ref (E.2.1 + l0)), some (.int l1), some (.int l2), some (.int l3), some (.int l4), some (.int l5), some (.int l6), none]) ⟨rfl, ⟨rfl, ⟨rfl, ⟨rfl, ⟨rfl, ⟨rfl, ⟨rfl, trivial⟩⟩⟩⟩⟩⟩⟩ ?_
      exact l_Fa_favour_b37 C HR  hf
    · have hf := iteF hf hc
      refine g_iload_n C dX9_favour_28 rfl ?_
      refine g_iload_n C dX9_favour_29 rfl ?_
      refine g_icmp_eq (tgt := 37) C dX9_favour_30 (by decide) (fun hc => ?_) (fun hc => ?_)
      · have hf := iteT hf hc
        refine g_sub (lv' := [some (.ref (E.2.1 + l0)), some (.int l1), some (.int l2), some (.int l3), some (.int l4), some (.int l5), some (.int l6), none]) ⟨rfl, ⟨rfl, ⟨rfl, ⟨rfl, ⟨rfl, ⟨rfl, ⟨rfl, trivial⟩⟩⟩⟩⟩⟩⟩ ?_
        exact l_Fa_favour_b37 C HR  hf
      · have hf := iteF hf hc
        refine g_iconst (v := (1 : Int32)) C dX9_favour_33 (by decide) ?_
        refine g_goto (tgt := 38) C dX9_favour_34 (by decide) ?_
        refine g_sub (lv' := [some (.ref (E.2.1 + l0)), some (.int l1), some (.int l2), some (.int l3), some (.int l4), some (.int l5), some (.int l6), none]) ⟨rfl, ⟨rfl, ⟨rfl, ⟨rfl, ⟨rfl, ⟨rfl, ⟨rfl, trivial⟩⟩⟩⟩⟩⟩⟩ ?_
        exact l_Fa_favour_b38 C HR  hf
theorem c_Fa_favour (E : EE) {G : Hp} {l0 : Nat} {l1 : Int32} {l2 : Int32} {l3 : Int32} {l4 : Int32} {l5 : Int32} {l6 : Int32} {r : Int32} {G' : Hp} (h : f_Fa_favour G l0 l1 l2 l3 l4 l5 l6 = some (r, G')) : gCt E y_Fa_favour cX9_favour 8 (some .int) 3 74 0 0 [.ref (E.2.1 + l0), .int l1, .int l2, .int l3, .int l4, .int l5, .int l6] G (some (.int r)) G' := gCt_of (own := "FavoursGoOff") (ini := false) [some (.ref (E.2.1 + l0)), some (.int l1), some (.int l2), some (.int l3), some (.int l4), some (.int l5), some (.int l6), none] (by decide +kernel) rfl (fun h => by cases h) (Nat.le_of_ble_eq_true rfl) ⟨rfl, ⟨rfl, ⟨rfl, ⟨rfl, ⟨rfl, ⟨rfl, ⟨rfl, trivial⟩⟩⟩⟩⟩⟩⟩ (fun X C HR => l_Fa_favour C HR h)
