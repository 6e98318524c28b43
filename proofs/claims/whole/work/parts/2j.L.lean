/-! ===== each method does as its function says ===== -/
set_option maxRecDepth 20000 in
theorem l_Mo_settles_b83 {E : EE} {X : CT} {G : Hp} (C : gCx E X cX10_settles "FavoursGoOffModel" (some .int) 4 92 0 0 false 5) {r : Int32} {G' : Hp} (HR : gRet E X cX10_settles (some .int) 0 0 (some (.int r)) G') {k31 : Hp → Nat → Int32 → Option (Int32 × Hp)} (K31 : ∀ {G : Hp} {l0 : Nat} {l1 : Int32}, k31 G l0 l1 = some (r, G') → gV E X 0 0 G 31 [some (.ref (E.2.1 + l0)), some (.int l1), none, none, none] []) {k41 : Hp → Nat → Int32 → Int32 → Int32 → Option (Int32 × Hp)} (K41 : ∀ {G : Hp} {l0 : Nat} {l1 : Int32} {l2 : Int32} {l3 : Int32}, k41 G l0 l1 l2 l3 = some (r, G') → gV E X 0 0 G 41 [some (.ref (E.2.1 + l0)), some (.int l1), some (.int l2), some (.int l3), none] []) {l0 : Nat} {l1 : Int32} {l3 : Int32} {l4 : Int32} {s0 : Int32} (hf : f_Mo_settles_b83 k31 k41 G l0 l1 l3 l4 s0 = some (r, G')) : gV E X 0 0 G 83 [some (.ref (E.2.1 + l0)), some (.int l1), none, some (.int l3), some (.int l4)] [.int s0] := by
  unfold f_Mo_settles_b83 at hf
  refine g_istore_n (lv' := [some (.ref (E.2.1 + l0)), some (.int l1), some (.int s0), some (.int l3), some (.int l4)]) C dX10_settles_83 (by decide) rfl ?_
  refine g_aload_n C dX10_settles_84 rfl ?_
  obtain ⟨x1, hg, hf⟩ := gR_ok hf
  refine g_getR C fl_Mo_42 dX10_settles_85 hg ?_
  refine g_iload_n C dX10_settles_88 rfl ?_
  refine g_iload C dX10_settles_89 rfl ?_
  obtain ⟨G2, hG2, hg, hf⟩ := sI_ok hf
  refine e_iast C dX10_settles_91 hG2 hg ?_
  refine g_iinc (v := (l3 + 1)) (lv' := [some (.ref (E.2.1 + l0)), some (.int l1), some (.int s0), some (.int (l3 + 1)), some (.int l4)]) C dX10_settles_92 (by decide) rfl rfl rfl ?_
  refine g_goto (tgt := 41) C dX10_settles_95 (by decide) ?_
  refine g_sub (lv' := [some (.ref (E.2.1 + l0)), some (.int l1), some (.int s0), some (.int (l3 + 1)), none]) ⟨rfl, ⟨rfl, ⟨rfl, ⟨rfl, trivial⟩⟩⟩⟩ ?_
  exact K41 hf
set_option maxRecDepth 20000 in
theorem l_Mo_settles_b82 {E : EE} {X : CT} {G : Hp} (C : gCx E X cX10_settles "FavoursGoOffModel" (some .int) 4 92 0 0 false 5) {r : Int32} {G' : Hp} (HR : gRet E X cX10_settles (some .int) 0 0 (some (.int r)) G') {k31 : Hp → Nat → Int32 → Option (Int32 × Hp)} (K31 : ∀ {G : Hp} {l0 : Nat} {l1 : Int32}, k31 G l0 l1 = some (r, G') → gV E X 0 0 G 31 [some (.ref (E.2.1 + l0)), some (.int l1), none, none, none] []) {k41 : Hp → Nat → Int32 → Int32 → Int32 → Option (Int32 × Hp)} (K41 : ∀ {G : Hp} {l0 : Nat} {l1 : Int32} {l2 : Int32} {l3 : Int32}, k41 G l0 l1 l2 l3 = some (r, G') → gV E X 0 0 G 41 [some (.ref (E.2.1 + l0)), some (.int l1), some (.int l2), some (.int l3), none] []) {l0 : Nat} {l1 : Int32} {l3 : Int32} {l4 : Int32} (hf : f_Mo_settles_b82 k31 k41 G l0 l1 l3 l4 = some (r, G')) : gV E X 0 0 G 82 [some (.ref (E.2.1 + l0)), some (.int l1), none, some (.int l3), some (.int l4)] [] := by
  unfold f_Mo_settles_b82 at hf
  refine g_iconst (v := (0 : Int32)) C dX10_settles_82 (by decide) ?_
  refine g_sub (lv' := [some (.ref (E.2.1 + l0)), some (.int l1), none, some (.int l3), some (.int l4)]) ⟨rfl, ⟨rfl, ⟨rfl, ⟨rfl, trivial⟩⟩⟩⟩ ?_
  exact l_Mo_settles_b83 C HR K31 K41 hf
set_option maxRecDepth 20000 in
theorem l_Mo_settles_b41k {E : EE} {X : CT} {G : Hp} (C : gCx E X cX10_settles "FavoursGoOffModel" (some .int) 4 92 0 0 false 5) {r : Int32} {G' : Hp} (HR : gRet E X cX10_settles (some .int) 0 0 (some (.int r)) G') {k31 : Hp → Nat → Int32 → Option (Int32 × Hp)} (K31 : ∀ {G : Hp} {l0 : Nat} {l1 : Int32}, k31 G l0 l1 = some (r, G') → gV E X 0 0 G 31 [some (.ref (E.2.1 + l0)), some (.int l1), none, none, none] []) {k41 : Hp → Nat → Int32 → Int32 → Int32 → Option (Int32 × Hp)} (K41 : ∀ {G : Hp} {l0 : Nat} {l1 : Int32} {l2 : Int32} {l3 : Int32}, k41 G l0 l1 l2 l3 = some (r, G') → gV E X 0 0 G 41 [some (.ref (E.2.1 + l0)), some (.int l1), some (.int l2), some (.int l3), none] []) {l0 : Nat} {l1 : Int32} {l2 : Int32} {l3 : Int32} (hf : f_Mo_settles_b41_k k31 k41 G l0 l1 l2 l3 = some (r, G')) : gV E X 0 0 G 41 [some (.ref (E.2.1 + l0)), some (.int l1), some (.int l2), some (.int l3), none] [] := by
  unfold f_Mo_settles_b41_k at hf
  refine g_iload_n C dX10_settles_41 rfl ?_
  refine g_iconst (v := (4 : Int32)) C dX10_settles_42 (by decide) ?_
  refine g_icmp_ge (tgt := 98) C dX10_settles_43 (by decide) (fun hc => ?_) (fun hc => ?_)
  · have hf := iteT hf hc
    refine g_iload_n C dX10_settles_98 rfl ?_
    refine g_if_eq (tgt := 104) C dX10_settles_99 (by decide) (fun hc => ?_) (fun hc => ?_)
    · have hf := iteT hf hc
      refine g_iinc (v := (l1 + 1)) (lv' := [some (.ref (E.2.1 + l0)), some (.int (l1 + 1)), some (.int l2), some (.int l3), none]) C dX10_settles_104 (by decide) rfl rfl rfl ?_
      refine g_goto (tgt := 31) C dX10_settles_107 (by decide) ?_
      refine g_sub (lv' := [some (.ref (E.2.1 + l0)), some (.int (l1 + 1)), none, none, none]) ⟨rfl, ⟨rfl, trivial⟩⟩ ?_
      exact K31 hf
    · have hf := iteF hf hc
      refine g_iload_n C dX10_settles_102 rfl ?_
      obtain ⟨rfl, rfl⟩ := rH_ok hf
      exact g_iret HR dX10_settles_103
  · have hf := iteF hf hc
    refine g_aload_n C dX10_settles_46 rfl ?_
    obtain ⟨x1, hg, hf⟩ := gR_ok hf
    refine g_getR C fl_Mo_42 dX10_settles_47 hg ?_
    refine g_iload_n C dX10_settles_50 rfl ?_
    obtain ⟨x2, hx2, hg, hf⟩ := aI_ok hf
    refine e_iald C dX10_settles_51 hx2 hg ?_
    refine g_aload_n C dX10_settles_52 rfl ?_
    refine g_iload_n C dX10_settles_53 rfl ?_
    obtain ⟨x3, hg, h1, hf⟩ := vP_ok hf
    refine g_invV (As := [.int l3]) (st := [.int x2]) C (c_Mo_ratesBy E h1) (rfl : vwCl[10]? = some (y_Mo_ratesBy.cls, TX10, 24)) (by decide) hg ml_Mo_183 cm_Mo_ratesBy.1 cm_Mo_ratesBy.2.1 cm_Mo_ratesBy.2.2.1 cm_Mo_ratesBy.2.2.2.1 cm_Mo_ratesBy.2.2.2.2 rfl ⟨by omega, by omega, by omega, by omega⟩ (by exact Nat.le_of_ble_eq_true rfl) rfl dX10_settles_54 ?_
    refine g_iadd C dX10_settles_57 ?_
    obtain ⟨x4, h1, hf⟩ := cP_ok hf
    refine g_invS (As := [.int (x2 + x3)]) (st := []) C (c_Mo_hold E h1) ml_Mo_186 cm_Mo_hold.1 cm_Mo_hold.2.1 cm_Mo_hold.2.2.1 cm_Mo_hold.2.2.2 rfl ⟨by omega, by omega, by omega, by omega⟩ (by exact Nat.le_of_ble_eq_true rfl) rfl dX10_settles_58 ?_
    refine g_istore (lv' := [some (.ref (E.2.1 + l0)), some (.int l1), some (.int l2), some (.int l3), some (.int x4)]) C dX10_settles_61 (by decide) rfl ?_
    refine g_iload_n C dX10_settles_63 rfl ?_
    refine g_if_eq (tgt := 82) C dX10_settles_64 (by decide) (fun hc => ?_) (fun hc => ?_)
    · have hf := iteT hf hc
      refine g_sub (lv' := [some (.ref (E.2.1 + l0)), some (.int l1), none, some (.int l3), some (.int x4)]) ⟨rfl, ⟨rfl, ⟨rfl, ⟨rfl, trivial⟩⟩⟩⟩ ?_
      exact l_Mo_settles_b82 C HR K31 K41 hf
    · have hf := iteF hf hc
      refine g_iload C dX10_settles_67 rfl ?_
      refine g_aload_n C dX10_settles_69 rfl ?_
      obtain ⟨x5, hg, hf⟩ := gR_ok hf
      refine g_getR C fl_Mo_42 dX10_settles_70 hg ?_
      refine g_iload_n C dX10_settles_73 rfl ?_
      obtain ⟨x6, hx6, hg, hf⟩ := aI_ok hf
      refine e_iald C dX10_settles_74 hx6 hg ?_
      refine g_icmp_ne (tgt := 82) C dX10_settles_75 (by decide) (fun hc => ?_) (fun hc => ?_)
      · have hf := iteF hf hc
        refine g_sub (lv' := [some (.ref (E.2.1 + l0)), some (.int l1), none, some (.int l3), some (.int x4)]) ⟨rfl, ⟨rfl, ⟨rfl, ⟨rfl, trivial⟩⟩⟩⟩ ?_
        exact l_Mo_settles_b82 C HR K31 K41 hf
      · have hf := iteT hf hc
        refine g_iconst (v := (1 : Int32)) C dX10_settles_78 (by decide) ?_
        refine g_goto (tgt := 83) C dX10_settles_79 (by decide) ?_
        refine g_sub (lv' := [some (.ref (E.2.1 + l0)), some (.int l1), none, some (.int l3), some (.int x4)]) ⟨rfl, ⟨rfl, ⟨rfl, ⟨rfl, trivial⟩⟩⟩⟩ ?_
        exact l_Mo_settles_b83 C HR K31 K41 hf
theorem l_Mo_settles_b41 {E : EE} {X : CT} (C : gCx E X cX10_settles "FavoursGoOffModel" (some .int) 4 92 0 0 false 5) {r : Int32} {G' : Hp} (HR : gRet E X cX10_settles (some .int) 0 0 (some (.int r)) G') {k31 : Hp → Nat → Int32 → Option (Int32 × Hp)} (K31 : ∀ {G : Hp} {l0 : Nat} {l1 : Int32}, k31 G l0 l1 = some (r, G') → gV E X 0 0 G 31 [some (.ref (E.2.1 + l0)), some (.int l1), none, none, none] []) : ∀ (nn : Nat) {G : Hp} {l0 : Nat} {l1 : Int32} {l2 : Int32} {l3 : Int32}, f_Mo_settles_b41 k31 nn G l0 l1 l2 l3 = some (r, G') → gV E X 0 0 G 41 [some (.ref (E.2.1 + l0)), some (.int l1), some (.int l2), some (.int l3), none] []
  | 0, _, _, _, _, _, hf => by have h0 : (none : Option (Int32 × Hp)) = some (r, G') := hf; cases h0
  | nn + 1, _, _, _, _, _, hf => l_Mo_settles_b41k C HR K31 (fun h => l_Mo_settles_b41 C HR K31 nn h) hf
set_option maxRecDepth 20000 in
theorem l_Mo_settles_b31k {E : EE} {X : CT} {G : Hp} (C : gCx E X cX10_settles "FavoursGoOffModel" (some .int) 4 92 0 0 false 5) {r : Int32} {G' : Hp} (HR : gRet E X cX10_settles (some .int) 0 0 (some (.int r)) G') {k31 : Hp → Nat → Int32 → Option (Int32 × Hp)} (K31 : ∀ {G : Hp} {l0 : Nat} {l1 : Int32}, k31 G l0 l1 = some (r, G') → gV E X 0 0 G 31 [some (.ref (E.2.1 + l0)), some (.int l1), none, none, none] []) {l0 : Nat} {l1 : Int32} (hf : f_Mo_settles_b31_k k31 G l0 l1 = some (r, G')) : gV E X 0 0 G 31 [some (.ref (E.2.1 + l0)), some (.int l1), none, none, none] [] := by
  unfold f_Mo_settles_b31_k at hf
  refine g_iload_n C dX10_settles_31 rfl ?_
  refine g_bipush (v := (99 : Int32)) C dX10_settles_32 (by decide) ?_
  refine g_icmp_gt (tgt := 110) C dX10_settles_34 (by decide) (fun hc => ?_) (fun hc => ?_)
  · have hf := iteT hf hc
    refine g_iconst (v := (-1 : Int32)) C dX10_settles_110 (by decide) ?_
    obtain ⟨rfl, rfl⟩ := rH_ok hf
    exact g_iret HR dX10_settles_111
  · have hf := iteF hf hc
    refine g_iconst (v := (1 : Int32)) C dX10_settles_37 (by decide) ?_
    refine g_istore_n (lv' := [some (.ref (E.2.1 + l0)), some (.int l1), some (.int (1 : Int32)), none, none]) C dX10_settles_38 (by decide) rfl ?_
    refine g_iconst (v := (0 : Int32)) C dX10_settles_39 (by decide) ?_
    refine g_istore_n (lv' := [some (.ref (E.2.1 + l0)), some (.int l1), some (.int (1 : Int32)), some (.int (0 : Int32)), none]) C dX10_settles_40 (by decide) rfl ?_
    refine g_sub (lv' := [some (.ref (E.2.1 + l0)), some (.int l1), some (.int (1 : Int32)), some (.int (0 : Int32)), none]) ⟨rfl, ⟨rfl, ⟨rfl, ⟨rfl, trivial⟩⟩⟩⟩ ?_
    exact l_Mo_settles_b41 C HR K31 FU hf
theorem l_Mo_settles_b31 {E : EE} {X : CT} (C : gCx E X cX10_settles "FavoursGoOffModel" (some .int) 4 92 0 0 false 5) {r : Int32} {G' : Hp} (HR : gRet E X cX10_settles (some .int) 0 0 (some (.int r)) G') : ∀ (nn : Nat) {G : Hp} {l0 : Nat} {l1 : Int32}, f_Mo_settles_b31 nn G l0 l1 = some (r, G') → gV E X 0 0 G 31 [some (.ref (E.2.1 + l0)), some (.int l1), none, none, none] []
  | 0, _, _, _, hf => by have h0 : (none : Option (Int32 × Hp)) = some (r, G') := hf; cases h0
  | nn + 1, _, _, _, hf => l_Mo_settles_b31k C HR (fun h => l_Mo_settles_b31 C HR nn h) hf
set_option maxRecDepth 20000 in
theorem l_Mo_settles_b2k {E : EE} {X : CT} {G : Hp} (C : gCx E X cX10_settles "FavoursGoOffModel" (some .int) 4 92 0 0 false 5) {r : Int32} {G' : Hp} (HR : gRet E X cX10_settles (some .int) 0 0 (some (.int r)) G') {k2 : Hp → Nat → Int32 → Option (Int32 × Hp)} (K2 : ∀ {G : Hp} {l0 : Nat} {l1 : Int32}, k2 G l0 l1 = some (r, G') → gV E X 0 0 G 2 [some (.ref (E.2.1 + l0)), some (.int l1), none, none, none] []) {l0 : Nat} {l1 : Int32} (hf : f_Mo_settles_b2_k k2 G l0 l1 = some (r, G')) : gV E X 0 0 G 2 [some (.ref (E.2.1 + l0)), some (.int l1), none, none, none] [] := by
  unfold f_Mo_settles_b2_k at hf
  refine g_iload_n C dX10_settles_2 rfl ?_
  refine g_iconst (v := (4 : Int32)) C dX10_settles_3 (by decide) ?_
  refine g_icmp_ge (tgt := 29) C dX10_settles_4 (by decide) (fun hc => ?_) (fun hc => ?_)
  · have hf := iteT hf hc
    refine g_iconst (v := (0 : Int32)) C dX10_settles_29 (by decide) ?_
    refine g_istore_n (lv' := [some (.ref (E.2.1 + l0)), some (.int (0 : Int32)), none, none, none]) C dX10_settles_30 (by decide) rfl ?_
    refine g_sub (lv' := [some (.ref (E.2.1 + l0)), some (.int (0 : Int32)), none, none, none]) ⟨rfl, ⟨rfl, trivial⟩⟩ ?_
    exact l_Mo_settles_b31 C HR  FU hf
  · have hf := iteF hf hc
    refine g_aload_n C dX10_settles_7 rfl ?_
    obtain ⟨x1, hg, hf⟩ := gR_ok hf
    refine g_getR C fl_Mo_42 dX10_settles_8 hg ?_
    refine g_iload_n C dX10_settles_11 rfl ?_
    refine g_aload_n C dX10_settles_12 rfl ?_
    obtain ⟨x2, hg, hf⟩ := gR_ok hf
    refine g_getR C fl_Mo_7 dX10_settles_13 hg ?_
    refine g_sipush (v := (154 : Int32)) C dX10_settles_16 (by decide) ?_
    refine g_iload_n C dX10_settles_19 rfl ?_
    refine g_iadd C dX10_settles_20 ?_
    obtain ⟨x3, hx3, hg, hf⟩ := aI_ok hf
    refine e_iald C dX10_settles_21 hx3 hg ?_
    obtain ⟨G4, hG4, hg, hf⟩ := sI_ok hf
    refine e_iast C dX10_settles_22 hG4 hg ?_
    refine g_iinc (v := (l1 + 1)) (lv' := [some (.ref (E.2.1 + l0)), some (.int (l1 + 1)), none, none, none]) C dX10_settles_23 (by decide) rfl rfl rfl ?_
    refine g_goto (tgt := 2) C dX10_settles_26 (by decide) ?_
    refine g_sub (lv' := [some (.ref (E.2.1 + l0)), some (.int (l1 + 1)), none, none, none]) ⟨rfl, ⟨rfl, trivial⟩⟩ ?_
    exact K2 hf
theorem l_Mo_settles_b2 {E : EE} {X : CT} (C : gCx E X cX10_settles "FavoursGoOffModel" (some .int) 4 92 0 0 false 5) {r : Int32} {G' : Hp} (HR : gRet E X cX10_settles (some .int) 0 0 (some (.int r)) G') : ∀ (nn : Nat) {G : Hp} {l0 : Nat} {l1 : Int32}, f_Mo_settles_b2 nn G l0 l1 = some (r, G') → gV E X 0 0 G 2 [some (.ref (E.2.1 + l0)), some (.int l1), none, none, none] []
  | 0, _, _, _, hf => by have h0 : (none : Option (Int32 × Hp)) = some (r, G') := hf; cases h0
  | nn + 1, _, _, _, hf => l_Mo_settles_b2k C HR (fun h => l_Mo_settles_b2 C HR nn h) hf
set_option maxRecDepth 20000 in
theorem l_Mo_settles {E : EE} {X : CT} {G : Hp} (C : gCx E X cX10_settles "FavoursGoOffModel" (some .int) 4 92 0 0 false 5) {r : Int32} {G' : Hp} (HR : gRet E X cX10_settles (some .int) 0 0 (some (.int r)) G') {l0 : Nat} (hf : f_Mo_settles G l0 = some (r, G')) : gV E X 0 0 G 0 [some (.ref (E.2.1 + l0)), none, none, none, none] [] := by
  unfold f_Mo_settles at hf
  refine g_iconst (v := (0 : Int32)) C dX10_settles_0 (by decide) ?_
  refine g_istore_n (lv' := [some (.ref (E.2.1 + l0)), some (.int (0 : Int32)), none, none, none]) C dX10_settles_1 (by decide) rfl ?_
  refine g_sub (lv' := [some (.ref (E.2.1 + l0)), some (.int (0 : Int32)), none, none, none]) ⟨rfl, ⟨rfl, trivial⟩⟩ ?_
  exact l_Mo_settles_b2 C HR  FU hf
theorem c_Mo_settles (E : EE) {G : Hp} {l0 : Nat} {r : Int32} {G' : Hp} (h : f_Mo_settles G l0 = some (r, G')) : gCt E y_Mo_settles cX10_settles 5 (some .int) 4 92 0 0 [.ref (E.2.1 + l0)] G (some (.int r)) G' := gCt_of (own := "FavoursGoOffModel") (ini := false) [some (.ref (E.2.1 + l0)), none, none, none, none] (by decide +kernel) rfl (fun h => by cases h) (Nat.le_of_ble_eq_true rfl) ⟨rfl, trivial⟩ (fun X C HR => l_Mo_settles C HR h)
set_option maxRecDepth 20000 in
theorem l_Mo_told_b29 {E : EE} {X : CT} {G : Hp} (C : gCx E X cX10_told "FavoursGoOffModel" (some .int) 2 46 0 0 false 5) {r : Int32} {G' : Hp} (HR : gRet E X cX10_told (some .int) 0 0 (some (.int r)) G') {l0 : Nat} (hf : f_Mo_told_b29 G l0 = some (r, G')) : gV E X 0 0 G 29 [some (.ref (E.2.1 + l0)), none, none, none, none] [] := by
  unfold f_Mo_told_b29 at hf
  refine g_aload_n C dX10_told_29 rfl ?_
  refine g_bipush (v := (-2 : Int32)) C dX10_told_30 (by decide) ?_
  obtain ⟨x1, G2, hg, h1, hf⟩ := vH_ok hf
  refine g_invV (As := [.int (-2 : Int32)]) (st := []) C (c_Mo_bad E h1) (rfl : vwCl[10]? = some (y_Mo_bad.cls, TX10, 24)) (by decide) hg ml_Mo_80 cm_Mo_bad.1 cm_Mo_bad.2.1 cm_Mo_bad.2.2.1 cm_Mo_bad.2.2.2.1 cm_Mo_bad.2.2.2.2 rfl ⟨by omega, by omega, by omega, by omega⟩ (by exact Nat.le_of_ble_eq_true rfl) rfl dX10_told_32 ?_
  obtain ⟨rfl, rfl⟩ := rH_ok hf
  exact g_iret HR dX10_told_35
set_option maxRecDepth 20000 in
theorem l_Mo_told {E : EE} {X : CT} {G : Hp} (C : gCx E X cX10_told "FavoursGoOffModel" (some .int) 2 46 0 0 false 5) {r : Int32} {G' : Hp} (HR : gRet E X cX10_told (some .int) 0 0 (some (.int r)) G') {l0 : Nat} {l1 : Int32} {l2 : Int32} {l3 : Int32} (hf : f_Mo_told G l0 l1 l2 l3 = some (r, G')) : gV E X 0 0 G 0 [some (.ref (E.2.1 + l0)), some (.int l1), some (.int l2), some (.int l3), none] [] := by
  unfold f_Mo_told at hf
  refine g_aload_n C dX10_told_0 rfl ?_
  refine g_iload_n C dX10_told_1 rfl ?_
  obtain ⟨x1, hg, h1, hf⟩ := vP_ok hf
  refine g_invV (As := [.int l1]) (st := []) C (c_Mo_isFavour E h1) (rfl : vwCl[10]? = some (y_Mo_isFavour.cls, TX10, 24)) (by decide) hg ml_Mo_122 cm_Mo_isFavour.1 cm_Mo_isFavour.2.1 cm_Mo_isFavour.2.2.1 cm_Mo_isFavour.2.2.2.1 cm_Mo_isFavour.2.2.2.2 rfl ⟨by omega, by omega, by omega, by omega⟩ (by exact Nat.le_of_ble_eq_true rfl) rfl dX10_told_2 ?_
  refine g_if_eq (tgt := 29) C dX10_told_5 (by decide) (fun hc => ?_) (fun hc => ?_)
  · have hf := iteT hf hc
    refine g_sub (lv' := [some (.ref (E.2.1 + l0)), none, none, none, none]) ⟨rfl, trivial⟩ ?_
    exact l_Mo_told_b29 C HR  hf
  · have hf := iteF hf hc
    refine g_aload_n C dX10_told_8 rfl ?_
    refine g_iload_n C dX10_told_9 rfl ?_
    obtain ⟨x2, hg, h1, hf⟩ := vP_ok hf
    refine g_invV (As := [.int l2]) (st := []) C (c_Mo_isOne E h1) (rfl : vwCl[10]? = some (y_Mo_isOne.cls, TX10, 24)) (by decide) hg ml_Mo_84 cm_Mo_isOne.1 cm_Mo_isOne.2.1 cm_Mo_isOne.2.2.1 cm_Mo_isOne.2.2.2.1 cm_Mo_isOne.2.2.2.2 rfl ⟨by omega, by omega, by omega, by omega⟩ (by exact Nat.le_of_ble_eq_true rfl) rfl dX10_told_10 ?_
    refine g_if_eq (tgt := 29) C dX10_told_13 (by decide) (fun hc => ?_) (fun hc => ?_)
    · have hf := iteT hf hc
      refine g_sub (lv' := [some (.ref (E.2.1 + l0)), none, none, none, none]) ⟨rfl, trivial⟩ ?_
      exact l_Mo_told_b29 C HR  hf
    · have hf := iteF hf hc
      refine g_aload_n C dX10_told_16 rfl ?_
      refine g_iload_n C dX10_told_17 rfl ?_
      obtain ⟨x3, hg, h1, hf⟩ := vP_ok hf
      refine g_invV (As := [.int l3]) (st := []) C (c_Mo_isOne E h1) (rfl : vwCl[10]? = some (y_Mo_isOne.cls, TX10, 24)) (by decide) hg ml_Mo_84 cm_Mo_isOne.1 cm_Mo_isOne.2.1 cm_Mo_isOne.2.2.1 cm_Mo_isOne.2.2.2.1 cm_Mo_isOne.2.2.2.2 rfl ⟨by omega, by omega, by omega, by omega⟩ (by exact Nat.le_of_ble_eq_true rfl) rfl dX10_told_18 ?_
      refine g_if_eq (tgt := 29) C dX10_told_21 (by decide) (fun hc => ?_) (fun hc => ?_)
      · have hf := iteT hf hc
        refine g_sub (lv' := [some (.ref (E.2.1 + l0)), none, none, none, none]) ⟨rfl, trivial⟩ ?_
        exact l_Mo_told_b29 C HR  hf
      · have hf := iteF hf hc
        refine g_iload_n C dX10_told_24 rfl ?_
        refine g_iload_n C dX10_told_25 rfl ?_
        refine g_icmp_ne (tgt := 36) C dX10_told_26 (by decide) (fun hc => ?_) (fun hc => ?_)
        · have hf := iteF hf hc
          refine g_aload_n C dX10_told_36 rfl ?_
          obtain ⟨x4, hg, hf⟩ := gR_ok hf
          refine g_getR C fl_Mo_7 dX10_told_37 hg ?_
          refine g_sipush (v := (160 : Int32)) C dX10_told_40 (by decide) ?_
          obtain ⟨x5, hx5, hg, hf⟩ := aI_ok hf
          refine e_iald C dX10_told_43 hx5 hg ?_
          refine g_istore (lv' := [some (.ref (E.2.1 + l0)), some (.int l1), some (.int l2), some (.int l3), some (.int x5)]) C dX10_told_44 (by decide) rfl ?_
          refine g_iload C dX10_told_46 rfl ?_
          refine g_bipush (v := (12 : Int32)) C dX10_told_48 (by decide) ?_
          refine g_icmp_ne (tgt := 58) C dX10_told_50 (by decide) (fun hc => ?_) (fun hc => ?_)
          · have hf := iteF hf hc
            refine g_aload_n C dX10_told_58 rfl ?_
            obtain ⟨x6, hg, hf⟩ := gR_ok hf
            refine g_getR C fl_Mo_7 dX10_told_59 hg ?_
            refine g_bipush (v := (118 : Int32)) C dX10_told_62 (by decide) ?_
            refine g_iconst (v := (3 : Int32)) C dX10_told_64 (by decide) ?_
            refine g_iload C dX10_told_65 rfl ?_
            refine g_imul C dX10_told_67 ?_
            refine g_iadd C dX10_told_68 ?_
            refine g_iload_n C dX10_told_69 rfl ?_
            obtain ⟨G7, hG7, hg, hf⟩ := sI_ok hf
            refine e_iast C dX10_told_70 hG7 hg ?_
            refine g_aload_n C dX10_told_71 rfl ?_
            obtain ⟨x8, hg, hf⟩ := gR_ok hf
            refine g_getR C fl_Mo_7 dX10_told_72 hg ?_
            refine g_bipush (v := (118 : Int32)) C dX10_told_75 (by decide) ?_
            refine g_iconst (v := (3 : Int32)) C dX10_told_77 (by decide) ?_
            refine g_iload C dX10_told_78 rfl ?_
            refine g_imul C dX10_told_80 ?_
            refine g_iadd C dX10_told_81 ?_
            refine g_iconst (v := (1 : Int32)) C dX10_told_82 (by decide) ?_
            refine g_iadd C dX10_told_83 ?_
            refine g_iload_n C dX10_told_84 rfl ?_
            obtain ⟨G9, hG9, hg, hf⟩ := sI_ok hf
            refine e_iast C dX10_told_85 hG9 hg ?_
            refine g_aload_n C dX10_told_86 rfl ?_
            obtain ⟨x10, hg, hf⟩ := gR_ok hf
            refine g_getR C fl_Mo_7 dX10_told_87 hg ?_
            refine g_bipush (v := (118 : Int32)) C dX10_told_90 (by decide) ?_
            refine g_iconst (v := (3 : Int32)) C dX10_told_92 (by decide) ?_
            refine g_iload C dX10_told_93 rfl ?_
            refine g_imul C dX10_told_95 ?_
            refine g_iadd C dX10_told_96 ?_
            refine g_iconst (v := (2 : Int32)) C dX10_told_97 (by decide) ?_
            refine g_iadd C dX10_told_98 ?_
            refine g_iload_n C dX10_told_99 rfl ?_
            obtain ⟨G11, hG11, hg, hf⟩ := sI_ok hf
            refine e_iast C dX10_told_100 hG11 hg ?_
            refine g_aload_n C dX10_told_101 rfl ?_
            obtain ⟨x12, hg, hf⟩ := gR_ok hf
            refine g_getR C fl_Mo_7 dX10_told_102 hg ?_
            refine g_sipush (v := (160 : Int32)) C dX10_told_105 (by decide) ?_
            refine g_dup2 C dX10_told_108 rfl rfl ?_
            obtain ⟨x13, hx13, hg, hf⟩ := aI_ok hf
            refine e_iald C dX10_told_109 hx13 hg ?_
            refine g_iconst (v := (1 : Int32)) C dX10_told_110 (by decide) ?_
            refine g_iadd C dX10_told_111 ?_
            obtain ⟨G14, hG14, hg, hf⟩ := sI_ok hf
            refine e_iast C dX10_told_112 hG14 hg ?_
            refine g_iload C dX10_told_113 rfl ?_
            obtain ⟨rfl, rfl⟩ := rH_ok hf
            exact g_iret HR dX10_told_115
          · have hf := iteT hf hc
            refine g_aload_n C dX10_told_53 rfl ?_
            obtain ⟨x15, G16, hg, h1, hf⟩ := vH_ok hf
            refine g_invV (As := []) (st := []) C (c_Mo_full E h1) (rfl : vwCl[10]? = some (y_Mo_full.cls, TX10, 24)) (by decide) hg ml_Mo_98 cm_Mo_full.1 cm_Mo_full.2.1 cm_Mo_full.2.2.1 cm_Mo_full.2.2.2.1 cm_Mo_full.2.2.2.2 rfl ⟨by omega, by omega, by omega, by omega⟩ (by exact Nat.le_of_ble_eq_true rfl) rfl dX10_told_54 ?_
            obtain ⟨rfl, rfl⟩ := rH_ok hf
            exact g_iret HR dX10_told_57
        · have hf := iteT hf hc
          refine g_sub (lv' := [some (.ref (E.2.1 + l0)), none, none, none, none]) ⟨rfl, trivial⟩ ?_
          exact l_Mo_told_b29 C HR  hf
theorem c_Mo_told (E : EE) {G : Hp} {l0 : Nat} {l1 : Int32} {l2 : Int32} {l3 : Int32} {r : Int32} {G' : Hp} (h : f_Mo_told G l0 l1 l2 l3 = some (r, G')) : gCt E y_Mo_told cX10_told 5 (some .int) 2 46 0 0 [.ref (E.2.1 + l0), .int l1, .int l2, .int l3] G (some (.int r)) G' := gCt_of (own := "FavoursGoOffModel") (ini := false) [some (.ref (E.2.1 + l0)), some (.int l1), some (.int l2), some (.int l3), none] (by decide +kernel) rfl (fun h => by cases h) (Nat.le_of_ble_eq_true rfl) ⟨rfl, ⟨rfl, ⟨rfl, ⟨rfl, trivial⟩⟩⟩⟩ (fun X C HR => l_Mo_told C HR h)
set_option maxRecDepth 20000 in
theorem l_Mo_forged_b92 {E : EE} {X : CT} {G : Hp} (C : gCx E X cX10_forged "FavoursGoOffModel" (some .int) 1 22 0 0 false 4) {r : Int32} {G' : Hp} (HR : gRet E X cX10_forged (some .int) 0 0 (some (.int r)) G') {l1 : Int32} (hf : f_Mo_forged_b92 G l1 = some (r, G')) : gV E X 0 0 G 92 [none, some (.int l1), none, none] [] := by
  unfold f_Mo_forged_b92 at hf
  refine g_iload_n C dX10_forged_92 rfl ?_
  obtain ⟨rfl, rfl⟩ := rH_ok hf
  exact g_iret HR dX10_forged_93
set_option maxRecDepth 20000 in
theorem l_Mo_forged_b128 {E : EE} {X : CT} {G : Hp} (C : gCx E X cX10_forged "FavoursGoOffModel" (some .int) 1 22 0 0 false 4) {r : Int32} {G' : Hp} (HR : gRet E X cX10_forged (some .int) 0 0 (some (.int r)) G') {k34 : Hp → Nat → Int32 → Option (Int32 × Hp)} (K34 : ∀ {G : Hp} {l0 : Nat} {l1 : Int32}, k34 G l0 l1 = some (r, G') → gV E X 0 0 G 34 [some (.ref (E.2.1 + l0)), some (.int l1), none, none] []) {l0 : Nat} {l1 : Int32} {s0 : Nat} {s1 : Int32} {s2 : Int32} (hf : f_Mo_forged_b128 k34 G l0 l1 s0 s1 s2 = some (r, G')) : gV E X 0 0 G 128 [some (.ref (E.2.1 + l0)), some (.int l1), none, none] [.int s2, .int s1, .ref (E.2.1 + s0)] := by
  unfold f_Mo_forged_b128 at hf
  obtain ⟨G1, hG1, hg, hf⟩ := sI_ok hf
  refine e_iast C dX10_forged_128 hG1 hg ?_
  refine g_iinc (v := (l1 + 1)) (lv' := [some (.ref (E.2.1 + l0)), some (.int (l1 + 1)), none, none]) C dX10_forged_129 (by decide) rfl rfl rfl ?_
  refine g_goto (tgt := 34) C dX10_forged_132 (by decide) ?_
  refine g_sub (lv' := [some (.ref (E.2.1 + l0)), some (.int (l1 + 1)), none, none]) ⟨rfl, ⟨rfl, trivial⟩⟩ ?_
  exact K34 hf
set_option maxRecDepth 20000 in
theorem l_Mo_forged_b34k {E : EE} {X : CT} {G : Hp} (C : gCx E X cX10_forged "FavoursGoOffModel" (some .int) 1 22 0 0 false 4) {r : Int32} {G' : Hp} (HR : gRet E X cX10_forged (some .int) 0 0 (some (.int r)) G') {k34 : Hp → Nat → Int32 → Option (Int32 × Hp)} (K34 : ∀ {G : Hp} {l0 : Nat} {l1 : Int32}, k34 G l0 l1 = some (r, G') → gV E X 0 0 G 34 [some (.ref (E.2.1 + l0)), some (.int l1), none, none] []) {l0 : Nat} {l1 : Int32} (hf : f_Mo_forged_b34_k k34 G l0 l1 = some (r, G')) : gV E X 0 0 G 34 [some (.ref (E.2.1 + l0)), some (.int l1), none, none] [] := by
  unfold f_Mo_forged_b34_k at hf
  refine g_iload_n C dX10_forged_34 rfl ?_
  refine g_aload_n C dX10_forged_35 rfl ?_
  obtain ⟨x1, hg, hf⟩ := gR_ok hf
  refine g_getR C fl_Mo_7 dX10_forged_36 hg ?_
  refine g_sipush (v := (160 : Int32)) C dX10_forged_39 (by decide) ?_
  obtain ⟨x2, hx2, hg, hf⟩ := aI_ok hf
  refine e_iald C dX10_forged_42 hx2 hg ?_
  refine g_icmp_ge (tgt := 135) C dX10_forged_43 (by decide) (fun hc => ?_) (fun hc => ?_)
  · have hf := iteT hf hc
    refine g_iconst (v := (-1 : Int32)) C dX10_forged_135 (by decide) ?_
    obtain ⟨rfl, rfl⟩ := rH_ok hf
    exact g_iret HR dX10_forged_136
  · have hf := iteF hf hc
    refine g_aload_n C dX10_forged_46 rfl ?_
    obtain ⟨x3, hg, hf⟩ := gR_ok hf
    refine g_getR C fl_Mo_7 dX10_forged_47 hg ?_
    refine g_bipush (v := (118 : Int32)) C dX10_forged_50 (by decide) ?_
    refine g_iconst (v := (3 : Int32)) C dX10_forged_52 (by decide) ?_
    refine g_iload_n C dX10_forged_53 rfl ?_
    refine g_imul C dX10_forged_54 ?_
    refine g_iadd C dX10_forged_55 ?_
    obtain ⟨x4, hx4, hg, hf⟩ := aI_ok hf
    refine e_iald C dX10_forged_56 hx4 hg ?_
    refine g_istore_n (lv' := [some (.ref (E.2.1 + l0)), some (.int l1), some (.int x4), none]) C dX10_forged_57 (by decide) rfl ?_
    refine g_iload_n C dX10_forged_58 rfl ?_
    refine g_aload_n C dX10_forged_59 rfl ?_
    obtain ⟨x5, hg, hf⟩ := gR_ok hf
    refine g_getR C fl_Mo_7 dX10_forged_60 hg ?_
    refine g_sipush (v := (158 : Int32)) C dX10_forged_63 (by decide) ?_
    obtain ⟨x6, hx6, hg, hf⟩ := aI_ok hf
    refine e_iald C dX10_forged_66 hx6 hg ?_
    refine g_icmp_ge (tgt := 92) C dX10_forged_67 (by decide) (fun hc => ?_) (fun hc => ?_)
    · have hf := iteT hf hc
      refine g_sub (lv' := [none, some (.int l1), none, none]) ⟨rfl, trivial⟩ ?_
      exact l_Mo_forged_b92 C HR  hf
    · have hf := iteF hf hc
      refine g_aload_n C dX10_forged_70 rfl ?_
      obtain ⟨x7, hg, hf⟩ := gR_ok hf
      refine g_getR C fl_Mo_45 dX10_forged_71 hg ?_
      refine g_iload_n C dX10_forged_74 rfl ?_
      obtain ⟨x8, hx8, hg, hf⟩ := aI_ok hf
      refine e_iald C dX10_forged_75 hx8 hg ?_
      refine g_aload_n C dX10_forged_76 rfl ?_
      obtain ⟨x9, hg, hf⟩ := gR_ok hf
      refine g_getR C fl_Mo_7 dX10_forged_77 hg ?_
      refine g_bipush (v := (118 : Int32)) C dX10_forged_80 (by decide) ?_
      refine g_iconst (v := (3 : Int32)) C dX10_forged_82 (by decide) ?_
      refine g_iload_n C dX10_forged_83 rfl ?_
      refine g_imul C dX10_forged_84 ?_
      refine g_iadd C dX10_forged_85 ?_
      refine g_iconst (v := (1 : Int32)) C dX10_forged_86 (by decide) ?_
      refine g_iadd C dX10_forged_87 ?_
      obtain ⟨x10, hx10, hg, hf⟩ := aI_ok hf
      refine e_iald C dX10_forged_88 hx10 hg ?_
      refine g_icmp_eq (tgt := 94) C dX10_forged_89 (by decide) (fun hc => ?_) (fun hc => ?_)
      · have hf := iteT hf hc
        refine g_aload_n C dX10_forged_94 rfl ?_
        obtain ⟨x11, hg, hf⟩ := gR_ok hf
        refine g_getR C fl_Mo_7 dX10_forged_95 hg ?_
        refine g_bipush (v := (118 : Int32)) C dX10_forged_98 (by decide) ?_
        refine g_iconst (v := (3 : Int32)) C dX10_forged_100 (by decide) ?_
        refine g_iload_n C dX10_forged_101 rfl ?_
        refine g_imul C dX10_forged_102 ?_
        refine g_iadd C dX10_forged_103 ?_
        refine g_iconst (v := (2 : Int32)) C dX10_forged_104 (by decide) ?_
        refine g_iadd C dX10_forged_105 ?_
        obtain ⟨x12, hx12, hg, hf⟩ := aI_ok hf
        refine e_iald C dX10_forged_106 hx12 hg ?_
        refine g_istore_n (lv' := [some (.ref (E.2.1 + l0)), some (.int l1), some (.int x4), some (.int x12)]) C dX10_forged_107 (by decide) rfl ?_
        refine g_aload_n C dX10_forged_108 rfl ?_
        obtain ⟨x13, hg, hf⟩ := gR_ok hf
        refine g_getR C fl_Mo_45 dX10_forged_109 hg ?_
        refine g_iload_n C dX10_forged_112 rfl ?_
        refine g_iload_n C dX10_forged_113 rfl ?_
        refine g_aload_n C dX10_forged_114 rfl ?_
        refine g_iload_n C dX10_forged_115 rfl ?_
        refine g_iconst (v := (1 : Int32)) C dX10_forged_116 (by decide) ?_
        obtain ⟨x14, hg, h1, hf⟩ := vP_ok hf
        refine g_invV (As := [.int x4, .int (1 : Int32)]) (st := [.int x12, .int x4, .ref (E.2.1 + x13)]) C (c_Mo_told0 E h1) (rfl : vwCl[10]? = some (y_Mo_told0.cls, TX10, 24)) (by decide) hg ml_Mo_112 cm_Mo_told0.1 cm_Mo_told0.2.1 cm_Mo_told0.2.2.1 cm_Mo_told0.2.2.2.1 cm_Mo_told0.2.2.2.2 rfl ⟨by omega, by omega, by omega, by omega⟩ (by exact Nat.le_of_ble_eq_true rfl) rfl dX10_forged_117 ?_
        refine g_icmp_ne (tgt := 127) C dX10_forged_120 (by decide) (fun hc => ?_) (fun hc => ?_)
        · have hf := iteF hf hc
          refine g_iload_n C dX10_forged_127 rfl ?_
          refine g_sub (lv' := [some (.ref (E.2.1 + l0)), some (.int l1), none, none]) ⟨rfl, ⟨rfl, trivial⟩⟩ ?_
          exact l_Mo_forged_b128 C HR K34 hf
        · have hf := iteT hf hc
          refine g_iconst (v := (-1 : Int32)) C dX10_forged_123 (by decide) ?_
          refine g_goto (tgt := 128) C dX10_forged_124 (by decide) ?_
          refine g_sub (lv' := [some (.ref (E.2.1 + l0)), some (.int l1), none, none]) ⟨rfl, ⟨rfl, trivial⟩⟩ ?_
          exact l_Mo_forged_b128 C HR K34 hf
      · have hf := iteF hf hc
        refine g_sub (lv' := [none, some (.int l1), none, none]) ⟨rfl, trivial⟩ ?_
        exact l_Mo_forged_b92 C HR  hf
theorem l_Mo_forged_b34 {E : EE} {X : CT} (C : gCx E X cX10_forged "FavoursGoOffModel" (some .int) 1 22 0 0 false 4) {r : Int32} {G' : Hp} (HR : gRet E X cX10_forged (some .int) 0 0 (some (.int r)) G') : ∀ (nn : Nat) {G : Hp} {l0 : Nat} {l1 : Int32}, f_Mo_forged_b34 nn G l0 l1 = some (r, G') → gV E X 0 0 G 34 [some (.ref (E.2.1 + l0)), some (.int l1), none, none] []
  | 0, _, _, _, hf => by have h0 : (none : Option (Int32 × Hp)) = some (r, G') := hf; cases h0
  | nn + 1, _, _, _, hf => l_Mo_forged_b34k C HR (fun h => l_Mo_forged_b34 C HR nn h) hf
set_option maxRecDepth 20000 in
theorem l_Mo_forged_b2k {E : EE} {X : CT} {G : Hp} (C : gCx E X cX10_forged "FavoursGoOffModel" (some .int) 1 22 0 0 false 4) {r : Int32} {G' : Hp} (HR : gRet E X cX10_forged (some .int) 0 0 (some (.int r)) G') {k2 : Hp → Nat → Int32 → Option (Int32 × Hp)} (K2 : ∀ {G : Hp} {l0 : Nat} {l1 : Int32}, k2 G l0 l1 = some (r, G') → gV E X 0 0 G 2 [some (.ref (E.2.1 + l0)), some (.int l1), none, none] []) {l0 : Nat} {l1 : Int32} (hf : f_Mo_forged_b2_k k2 G l0 l1 = some (r, G')) : gV E X 0 0 G 2 [some (.ref (E.2.1 + l0)), some (.int l1), none, none] [] := by
  unfold f_Mo_forged_b2_k at hf
  refine g_iload_n C dX10_forged_2 rfl ?_
  refine g_aload_n C dX10_forged_3 rfl ?_
  obtain ⟨x1, hg, hf⟩ := gR_ok hf
  refine g_getR C fl_Mo_7 dX10_forged_4 hg ?_
  refine g_sipush (v := (158 : Int32)) C dX10_forged_7 (by decide) ?_
  obtain ⟨x2, hx2, hg, hf⟩ := aI_ok hf
  refine e_iald C dX10_forged_10 hx2 hg ?_
  refine g_icmp_ge (tgt := 32) C dX10_forged_11 (by decide) (fun hc => ?_) (fun hc => ?_)
  · have hf := iteT hf hc
    refine g_iconst (v := (0 : Int32)) C dX10_forged_32 (by decide) ?_
    refine g_istore_n (lv' := [some (.ref (E.2.1 + l0)), some (.int (0 : Int32)), none, none]) C dX10_forged_33 (by decide) rfl ?_
    refine g_sub (lv' := [some (.ref (E.2.1 + l0)), some (.int (0 : Int32)), none, none]) ⟨rfl, ⟨rfl, trivial⟩⟩ ?_
    exact l_Mo_forged_b34 C HR  FU hf
  · have hf := iteF hf hc
    refine g_aload_n C dX10_forged_14 rfl ?_
    obtain ⟨x3, hg, hf⟩ := gR_ok hf
    refine g_getR C fl_Mo_45 dX10_forged_15 hg ?_
    refine g_iload_n C dX10_forged_18 rfl ?_
    refine g_aload_n C dX10_forged_19 rfl ?_
    refine g_iload_n C dX10_forged_20 rfl ?_
    refine g_iconst (v := (2 : Int32)) C dX10_forged_21 (by decide) ?_
    obtain ⟨x4, hg, h1, hf⟩ := vP_ok hf
    refine g_invV (As := [.int l1, .int (2 : Int32)]) (st := [.int l1, .ref (E.2.1 + x3)]) C (c_Mo_told0 E h1) (rfl : vwCl[10]? = some (y_Mo_told0.cls, TX10, 24)) (by decide) hg ml_Mo_112 cm_Mo_told0.1 cm_Mo_told0.2.1 cm_Mo_told0.2.2.1 cm_Mo_told0.2.2.2.1 cm_Mo_told0.2.2.2.2 rfl ⟨by omega, by omega, by omega, by omega⟩ (by exact Nat.le_of_ble_eq_true rfl) rfl dX10_forged_22 ?_
    obtain ⟨G5, hG5, hg, hf⟩ := sI_ok hf
    refine e_iast C dX10_forged_25 hG5 hg ?_
    refine g_iinc (v := (l1 + 1)) (lv' := [some (.ref (E.2.1 + l0)), some (.int (l1 + 1)), none, none]) C dX10_forged_26 (by decide) rfl rfl rfl ?_
    refine g_goto (tgt := 2) C dX10_forged_29 (by decide) ?_
    refine g_sub (lv' := [some (.ref (E.2.1 + l0)), some (.int (l1 + 1)), none, none]) ⟨rfl, ⟨rfl, trivial⟩⟩ ?_
    exact K2 hf
theorem l_Mo_forged_b2 {E : EE} {X : CT} (C : gCx E X cX10_forged "FavoursGoOffModel" (some .int) 1 22 0 0 false 4) {r : Int32} {G' : Hp} (HR : gRet E X cX10_forged (some .int) 0 0 (some (.int r)) G') : ∀ (nn : Nat) {G : Hp} {l0 : Nat} {l1 : Int32}, f_Mo_forged_b2 nn G l0 l1 = some (r, G') → gV E X 0 0 G 2 [some (.ref (E.2.1 + l0)), some (.int l1), none, none] []
  | 0, _, _, _, hf => by have h0 : (none : Option (Int32 × Hp)) = some (r, G') := hf; cases h0
  | nn + 1, _, _, _, hf => l_Mo_forged_b2k C HR (fun h => l_Mo_forged_b2 C HR nn h) hf
set_option maxRecDepth 20000 in
theorem l_Mo_forged {E : EE} {X : CT} {G : Hp} (C : gCx E X cX10_forged "FavoursGoOffModel" (some .int) 1 22 0 0 false 4) {r : Int32} {G' : Hp} (HR : gRet E X cX10_forged (some .int) 0 0 (some (.int r)) G') {l0 : Nat} (hf : f_Mo_forged G l0 = some (r, G')) : gV E X 0 0 G 0 [some (.ref (E.2.1 + l0)), none, none, none] [] := by
  unfold f_Mo_forged at hf
  refine g_iconst (v := (0 : Int32)) C dX10_forged_0 (by decide) ?_
  refine g_istore_n (lv' := [some (.ref (E.2.1 + l0)), some (.int (0 : Int32)), none, none]) C dX10_forged_1 (by decide) rfl ?_
  refine g_sub (lv' := [some (.ref (E.2.1 + l0)), some (.int (0 : Int32)), none, none]) ⟨rfl, ⟨rfl, trivial⟩⟩ ?_
  exact l_Mo_forged_b2 C HR  FU hf
theorem c_Mo_forged (E : EE) {G : Hp} {l0 : Nat} {r : Int32} {G' : Hp} (h : f_Mo_forged G l0 = some (r, G')) : gCt E y_Mo_forged cX10_forged 4 (some .int) 1 22 0 0 [.ref (E.2.1 + l0)] G (some (.int r)) G' := gCt_of (own := "FavoursGoOffModel") (ini := false) [some (.ref (E.2.1 + l0)), none, none, none] (by decide +kernel) rfl (fun h => by cases h) (Nat.le_of_ble_eq_true rfl) ⟨rfl, trivial⟩ (fun X C HR => l_Mo_forged C HR h)
set_option maxRecDepth 20000 in
theorem l_Mo_forget {E : EE} {X : CT} {G : Hp} (C : gCx E X cX10_forget "FavoursGoOffModel" (some .int) 0 0 0 0 false 2) {r : Int32} {G' : Hp} (HR : gRet E X cX10_forget (some .int) 0 0 (some (.int r)) G') {l0 : Nat} (hf : f_Mo_forget G l0 = some (r, G')) : gV E X 0 0 G 0 [some (.ref (E.2.1 + l0)), none] [] := by
  unfold f_Mo_forget at hf
  refine g_aload_n C dX10_forget_0 rfl ?_
  obtain ⟨x1, hg, hf⟩ := gR_ok hf
  refine g_getR C fl_Mo_7 dX10_forget_1 hg ?_
  refine g_sipush (v := (160 : Int32)) C dX10_forget_4 (by decide) ?_
  obtain ⟨x2, hx2, hg, hf⟩ := aI_ok hf
  refine e_iald C dX10_forget_7 hx2 hg ?_
  refine g_istore_n (lv' := [some (.ref (E.2.1 + l0)), some (.int x2)]) C dX10_forget_8 (by decide) rfl ?_
  refine g_aload_n C dX10_forget_9 rfl ?_
  obtain ⟨x3, hg, hf⟩ := gR_ok hf
  refine g_getR C fl_Mo_7 dX10_forget_10 hg ?_
  refine g_sipush (v := (160 : Int32)) C dX10_forget_13 (by decide) ?_
  refine g_iconst (v := (0 : Int32)) C dX10_forget_16 (by decide) ?_
  obtain ⟨G4, hG4, hg, hf⟩ := sI_ok hf
  refine e_iast C dX10_forget_17 hG4 hg ?_
  refine g_iload_n C dX10_forget_18 rfl ?_
  obtain ⟨rfl, rfl⟩ := rH_ok hf
  exact g_iret HR dX10_forget_19
theorem c_Mo_forget (E : EE) {G : Hp} {l0 : Nat} {r : Int32} {G' : Hp} (h : f_Mo_forget G l0 = some (r, G')) : gCt E y_Mo_forget cX10_forget 2 (some .int) 0 0 0 0 [.ref (E.2.1 + l0)] G (some (.int r)) G' := gCt_of (own := "FavoursGoOffModel") (ini := false) [some (.ref (E.2.1 + l0)), none] (by decide +kernel) rfl (fun h => by cases h) (Nat.le_of_ble_eq_true rfl) ⟨rfl, trivial⟩ (fun X C HR => l_Mo_forget C HR h)
set_option maxRecDepth 20000 in
theorem l_Mo_goesOff_b27k {E : EE} {X : CT} {G : Hp} (C : gCx E X cX10_goesOff "FavoursGoOffModel" (some .int) 3 69 0 0 false 4) {r : Int32} {G' : Hp} (HR : gRet E X cX10_goesOff (some .int) 0 0 (some (.int r)) G') {k27 : Hp → Nat → Int32 → Int32 → Int32 → Option (Int32 × Hp)} (K27 : ∀ {G : Hp} {l0 : Nat} {l1 : Int32} {l2 : Int32} {l3 : Int32}, k27 G l0 l1 l2 l3 = some (r, G') → gV E X 0 0 G 27 [some (.ref (E.2.1 + l0)), some (.int l1), some (.int l2), some (.int l3)] []) {l0 : Nat} {l1 : Int32} {l2 : Int32} {l3 : Int32} (hf : f_Mo_goesOff_b27_k k27 G l0 l1 l2 l3 = some (r, G')) : gV E X 0 0 G 27 [some (.ref (E.2.1 + l0)), some (.int l1), some (.int l2), some (.int l3)] [] := by
  unfold f_Mo_goesOff_b27_k at hf
  refine g_iload_n C dX10_goesOff_27 rfl ?_
  refine g_aload_n C dX10_goesOff_28 rfl ?_
  obtain ⟨x1, hg, hf⟩ := gR_ok hf
  refine g_getR C fl_Mo_7 dX10_goesOff_29 hg ?_
  refine g_sipush (v := (158 : Int32)) C dX10_goesOff_32 (by decide) ?_
  obtain ⟨x2, hx2, hg, hf⟩ := aI_ok hf
  refine e_iald C dX10_goesOff_35 hx2 hg ?_
  refine g_icmp_ge (tgt := 63) C dX10_goesOff_36 (by decide) (fun hc => ?_) (fun hc => ?_)
  · have hf := iteT hf hc
    refine g_iload_n C dX10_goesOff_63 rfl ?_
    obtain ⟨rfl, rfl⟩ := rH_ok hf
    exact g_iret HR dX10_goesOff_64
  · have hf := iteF hf hc
    refine g_iload_n C dX10_goesOff_39 rfl ?_
    refine g_aload_n C dX10_goesOff_40 rfl ?_
    refine g_iload_n C dX10_goesOff_41 rfl ?_
    obtain ⟨x3, hg, h1, hf⟩ := vP_ok hf
    refine g_invV (As := [.int l3]) (st := [.int l2]) C (c_Mo_valueNow E h1) (rfl : vwCl[10]? = some (y_Mo_valueNow.cls, TX10, 24)) (by decide) hg ml_Mo_125 cm_Mo_valueNow.1 cm_Mo_valueNow.2.1 cm_Mo_valueNow.2.2.1 cm_Mo_valueNow.2.2.2.1 cm_Mo_valueNow.2.2.2.2 rfl ⟨by omega, by omega, by omega, by omega⟩ (by exact Nat.le_of_ble_eq_true rfl) rfl dX10_goesOff_42 ?_
    refine g_aload_n C dX10_goesOff_45 rfl ?_
    refine g_iload_n C dX10_goesOff_46 rfl ?_
    refine g_iload_n C dX10_goesOff_47 rfl ?_
    obtain ⟨x4, hg, h1, hf⟩ := vP_ok hf
    refine g_invV (As := [.int l3, .int l1]) (st := [.int x3, .int l2]) C (c_Mo_valueOf E h1) (rfl : vwCl[10]? = some (y_Mo_valueOf.cls, TX10, 24)) (by decide) hg ml_Mo_119 cm_Mo_valueOf.1 cm_Mo_valueOf.2.1 cm_Mo_valueOf.2.2.1 cm_Mo_valueOf.2.2.2.1 cm_Mo_valueOf.2.2.2.2 rfl ⟨by omega, by omega, by omega, by omega⟩ (by exact Nat.le_of_ble_eq_true rfl) rfl dX10_goesOff_48 ?_
    refine g_isub C dX10_goesOff_51 ?_
    obtain ⟨x5, h1, hf⟩ := cP_ok hf
    refine g_invS (As := [.int (x3 - x4)]) (st := [.int l2]) C (c_Mo_notBelow0 E h1) ml_Mo_116 cm_Mo_notBelow0.1 cm_Mo_notBelow0.2.1 cm_Mo_notBelow0.2.2.1 cm_Mo_notBelow0.2.2.2 rfl ⟨by omega, by omega, by omega, by omega⟩ (by exact Nat.le_of_ble_eq_true rfl) rfl dX10_goesOff_52 ?_
    refine g_iadd C dX10_goesOff_55 ?_
    obtain ⟨x6, hx6, hf⟩ := lt_ok hf
    refine e_top hx6 ?_
    refine g_istore_n (lv' := [some (.ref (E.2.1 + l0)), some (.int l1), some (.int x6), some (.int l3)]) C dX10_goesOff_56 (by decide) rfl ?_
    refine g_iinc (v := (l3 + 1)) (lv' := [some (.ref (E.2.1 + l0)), some (.int l1), some (.int x6), some (.int (l3 + 1))]) C dX10_goesOff_57 (by decide) rfl rfl rfl ?_
    refine g_goto (tgt := 27) C dX10_goesOff_60 (by decide) ?_
    refine g_sub (lv' := [some (.ref (E.2.1 + l0)), some (.int l1), some (.int x6), some (.int (l3 + 1))]) ⟨rfl, ⟨rfl, ⟨rfl, ⟨rfl, trivial⟩⟩⟩⟩ ?_
    exact K27 hf
theorem l_Mo_goesOff_b27 {E : EE} {X : CT} (C : gCx E X cX10_goesOff "FavoursGoOffModel" (some .int) 3 69 0 0 false 4) {r : Int32} {G' : Hp} (HR : gRet E X cX10_goesOff (some .int) 0 0 (some (.int r)) G') : ∀ (nn : Nat) {G : Hp} {l0 : Nat} {l1 : Int32} {l2 : Int32} {l3 : Int32}, f_Mo_goesOff_b27 nn G l0 l1 l2 l3 = some (r, G') → gV E X 0 0 G 27 [some (.ref (E.2.1 + l0)), some (.int l1), some (.int l2), some (.int l3)] []
  | 0, _, _, _, _, _, hf => by have h0 : (none : Option (Int32 × Hp)) = some (r, G') := hf; cases h0
  | nn + 1, _, _, _, _, _, hf => l_Mo_goesOff_b27k C HR (fun h => l_Mo_goesOff_b27 C HR nn h) hf
set_option maxRecDepth 20000 in
theorem l_Mo_goesOff {E : EE} {X : CT} {G : Hp} (C : gCx E X cX10_goesOff "FavoursGoOffModel" (some .int) 3 69 0 0 false 4) {r : Int32} {G' : Hp} (HR : gRet E X cX10_goesOff (some .int) 0 0 (some (.int r)) G') {l0 : Nat} {l1 : Int32} (hf : f_Mo_goesOff G l0 l1 = some (r, G')) : gV E X 0 0 G 0 [some (.ref (E.2.1 + l0)), some (.int l1), none, none] [] := by
  unfold f_Mo_goesOff at hf
  refine g_iload_n C dX10_goesOff_0 rfl ?_
  refine g_i2l C dX10_goesOff_1 ?_
  refine g_aload_n C dX10_goesOff_2 rfl ?_
  obtain ⟨x1, hg, h1, hf⟩ := vP_ok hf
  refine g_invV (As := []) (st := [.long l1.toInt64]) C (c_Mo_day E h1) (rfl : vwCl[10]? = some (y_Mo_day.cls, TX10, 24)) (by decide) hg ml_Mo_101 cm_Mo_day.1 cm_Mo_day.2.1 cm_Mo_day.2.2.1 cm_Mo_day.2.2.2.1 cm_Mo_day.2.2.2.2 rfl ⟨by omega, by omega, by omega, by omega⟩ (by exact Nat.le_of_ble_eq_true rfl) rfl dX10_goesOff_3 ?_
  refine g_i2l C dX10_goesOff_6 ?_
  refine g_ldc2 (v := (99 : Int64)) C dX10_goesOff_7 kl_Mo_72 ?_
  obtain ⟨x2, h1, hf⟩ := cP_ok hf
  refine g_invS (As := [.long l1.toInt64, .long x1.toInt64, .long (99 : Int64)]) (st := []) C (c_Mo_in E h1) ml_Mo_68 cm_Mo_in.1 cm_Mo_in.2.1 cm_Mo_in.2.2.1 cm_Mo_in.2.2.2 rfl ⟨by omega, by omega, by omega, by omega⟩ (by exact Nat.le_of_ble_eq_true rfl) rfl dX10_goesOff_10 ?_
  refine g_if_ne (tgt := 23) C dX10_goesOff_13 (by decide) (fun hc => ?_) (fun hc => ?_)
  · have hf := iteF hf hc
    refine g_iconst (v := (0 : Int32)) C dX10_goesOff_23 (by decide) ?_
    refine g_istore_n (lv' := [some (.ref (E.2.1 + l0)), some (.int l1), some (.int (0 : Int32)), none]) C dX10_goesOff_24 (by decide) rfl ?_
    refine g_iconst (v := (0 : Int32)) C dX10_goesOff_25 (by decide) ?_
    refine g_istore_n (lv' := [some (.ref (E.2.1 + l0)), some (.int l1), some (.int (0 : Int32)), some (.int (0 : Int32))]) C dX10_goesOff_26 (by decide) rfl ?_
    refine g_sub (lv' := [some (.ref (E.2.1 + l0)), some (.int l1), some (.int (0 : Int32)), some (.int (0 : Int32))]) ⟨rfl, ⟨rfl, ⟨rfl, ⟨rfl, trivial⟩⟩⟩⟩ ?_
    exact l_Mo_goesOff_b27 C HR  FU hf
  · have hf := iteT hf hc
    refine g_aload_n C dX10_goesOff_16 rfl ?_
    refine g_bipush (v := (-2 : Int32)) C dX10_goesOff_17 (by decide) ?_
    obtain ⟨x3, G4, hg, h1, hf⟩ := vH_ok hf
    refine g_invV (As := [.int (-2 : Int32)]) (st := []) C (c_Mo_bad E h1) (rfl : vwCl[10]? = some (y_Mo_bad.cls, TX10, 24)) (by decide) hg ml_Mo_80 cm_Mo_bad.1 cm_Mo_bad.2.1 cm_Mo_bad.2.2.1 cm_Mo_bad.2.2.2.1 cm_Mo_bad.2.2.2.2 rfl ⟨by omega, by omega, by omega, by omega⟩ (by exact Nat.le_of_ble_eq_true rfl) rfl dX10_goesOff_19 ?_
    obtain ⟨rfl, rfl⟩ := rH_ok hf
    exact g_iret HR dX10_goesOff_22
theorem c_Mo_goesOff (E : EE) {G : Hp} {l0 : Nat} {l1 : Int32} {r : Int32} {G' : Hp} (h : f_Mo_goesOff G l0 l1 = some (r, G')) : gCt E y_Mo_goesOff cX10_goesOff 4 (some .int) 3 69 0 0 [.ref (E.2.1 + l0), .int l1] G (some (.int r)) G' := gCt_of (own := "FavoursGoOffModel") (ini := false) [some (.ref (E.2.1 + l0)), some (.int l1), none, none] (by decide +kernel) rfl (fun h => by cases h) (Nat.le_of_ble_eq_true rfl) ⟨rfl, ⟨rfl, trivial⟩⟩ (fun X C HR => l_Mo_goesOff C HR h)
set_option maxRecDepth 20000 in
theorem l_Mo_kept_b24 {E : EE} {X : CT} {G : Hp} (C : gCx E X cX10_kept "FavoursGoOffModel" (some .int) 5 119 0 0 false 13) {r : Int32} {G' : Hp} (HR : gRet E X cX10_kept (some .int) 0 0 (some (.int r)) G') {l0 : Nat} (hf : f_Mo_kept_b24 G l0 = some (r, G')) : gV E X 0 0 G 24 [some (.ref (E.2.1 + l0)), none, none, none, none, none, none, none, none, none, none, none, none] [] := by
  unfold f_Mo_kept_b24 at hf
  refine g_aload_n C dX10_kept_24 rfl ?_
  refine g_bipush (v := (-2 : Int32)) C dX10_kept_25 (by decide) ?_
  obtain ⟨x1, G2, hg, h1, hf⟩ := vH_ok hf
  refine g_invV (As := [.int (-2 : Int32)]) (st := []) C (c_Mo_bad E h1) (rfl : vwCl[10]? = some (y_Mo_bad.cls, TX10, 24)) (by decide) hg ml_Mo_80 cm_Mo_bad.1 cm_Mo_bad.2.1 cm_Mo_bad.2.2.1 cm_Mo_bad.2.2.2.1 cm_Mo_bad.2.2.2.2 rfl ⟨by omega, by omega, by omega, by omega⟩ (by exact Nat.le_of_ble_eq_true rfl) rfl dX10_kept_27 ?_
  obtain ⟨rfl, rfl⟩ := rH_ok hf
  exact g_iret HR dX10_kept_30
set_option maxRecDepth 20000 in
theorem l_Mo_kept_b90 {E : EE} {X : CT} {G : Hp} (C : gCx E X cX10_kept "FavoursGoOffModel" (some .int) 5 119 0 0 false 13) {r : Int32} {G' : Hp} (HR : gRet E X cX10_kept (some .int) 0 0 (some (.int r)) G') {k46 : Hp → Nat → Int32 → Int32 → Int64 → Int64 → Int64 → Int32 → Option (Int32 × Hp)} (K46 : ∀ {G : Hp} {l0 : Nat} {l1 : Int32} {l2 : Int32} {l3 : Int64} {l5 : Int64} {l7 : Int64} {l9 : Int32}, k46 G l0 l1 l2 l3 l5 l7 l9 = some (r, G') → gV E X 0 0 G 46 [some (.ref (E.2.1 + l0)), some (.int l1), some (.int l2), some (.long l3), none, some (.long l5), none, some (.long l7), none, some (.int l9), none, none, none] []) {k62 : Hp → Nat → Int32 → Int32 → Int64 → Int64 → Int64 → Int32 → Int64 → Int32 → Option (Int32 × Hp)} (K62 : ∀ {G : Hp} {l0 : Nat} {l1 : Int32} {l2 : Int32} {l3 : Int64} {l5 : Int64} {l7 : Int64} {l9 : Int32} {l10 : Int64} {l12 : Int32}, k62 G l0 l1 l2 l3 l5 l7 l9 l10 l12 = some (r, G') → gV E X 0 0 G 62 [some (.ref (E.2.1 + l0)), some (.int l1), some (.int l2), some (.long l3), none, some (.long l5), none, some (.long l7), none, some (.int l9), some (.long l10), none, some (.int l12)] []) {l0 : Nat} {l1 : Int32} {l2 : Int32} {l3 : Int64} {l5 : Int64} {l7 : Int64} {l9 : Int32} {l12 : Int32} {s0 : Int64} {s1 : Int64} (hf : f_Mo_kept_b90 k46 k62 G l0 l1 l2 l3 l5 l7 l9 l12 s0 s1 = some (r, G')) : gV E X 0 0 G 90 [some (.ref (E.2.1 + l0)), some (.int l1), some (.int l2), some (.long l3), none, some (.long l5), none, some (.long l7), none, some (.int l9), none, none, some (.int l12)] [.long s1, .long s0] := by
  unfold f_Mo_kept_b90 at hf
  refine g_lmul C dX10_kept_90 ?_
  obtain ⟨x1, hx1, hf⟩ := lt_ok hf
  refine e_topl hx1 ?_
  refine g_lstore (lv' := [some (.ref (E.2.1 + l0)), some (.int l1), some (.int l2), some (.long l3), none, some (.long l5), none, some (.long l7), none, some (.int l9), some (.long x1), none, some (.int l12)]) C dX10_kept_91 (by decide) rfl ?_
  refine g_iinc (v := (l12 + 1)) (lv' := [some (.ref (E.2.1 + l0)), some (.int l1), some (.int l2), some (.long l3), none, some (.long l5), none, some (.long l7), none, some (.int l9), some (.long x1), none, some (.int (l12 + 1))]) C dX10_kept_93 (by decide) rfl rfl rfl ?_
  refine g_goto (tgt := 62) C dX10_kept_96 (by decide) ?_
  refine g_sub (lv' := [some (.ref (E.2.1 + l0)), some (.int l1), some (.int l2), some (.long l3), none, some (.long l5), none, some (.long l7), none, some (.int l9), some (.long x1), none, some (.int (l12 + 1))]) ⟨rfl, ⟨rfl, ⟨rfl, ⟨rfl, ⟨rfl, ⟨rfl, ⟨rfl, ⟨rfl, ⟨rfl, trivial⟩⟩⟩⟩⟩⟩⟩⟩⟩ ?_
  exact K62 hf
set_option maxRecDepth 20000 in
theorem l_Mo_kept_b151 {E : EE} {X : CT} {G : Hp} (C : gCx E X cX10_kept "FavoursGoOffModel" (some .int) 5 119 0 0 false 13) {r : Int32} {G' : Hp} (HR : gRet E X cX10_kept (some .int) 0 0 (some (.int r)) G') {k46 : Hp → Nat → Int32 → Int32 → Int64 → Int64 → Int64 → Int32 → Option (Int32 × Hp)} (K46 : ∀ {G : Hp} {l0 : Nat} {l1 : Int32} {l2 : Int32} {l3 : Int64} {l5 : Int64} {l7 : Int64} {l9 : Int32}, k46 G l0 l1 l2 l3 l5 l7 l9 = some (r, G') → gV E X 0 0 G 46 [some (.ref (E.2.1 + l0)), some (.int l1), some (.int l2), some (.long l3), none, some (.long l5), none, some (.long l7), none, some (.int l9), none, none, none] []) {l0 : Nat} {l1 : Int32} {l2 : Int32} {l3 : Int64} {l7 : Int64} {l9 : Int32} {s0 : Int64} {s1 : Int64} (hf : f_Mo_kept_b151 k46 G l0 l1 l2 l3 l7 l9 s0 s1 = some (r, G')) : gV E X 0 0 G 151 [some (.ref (E.2.1 + l0)), some (.int l1), some (.int l2), some (.long l3), none, none, none, some (.long l7), none, some (.int l9), none, none, none] [.long s1, .long s0] := by
  unfold f_Mo_kept_b151 at hf
  refine g_lmul C dX10_kept_151 ?_
  obtain ⟨x1, hx1, hf⟩ := lt_ok hf
  refine e_topl hx1 ?_
  refine g_lstore (lv' := [some (.ref (E.2.1 + l0)), some (.int l1), some (.int l2), some (.long l3), none, some (.long x1), none, some (.long l7), none, some (.int l9), none, none, none]) C dX10_kept_152 (by decide) rfl ?_
  refine g_iinc (v := (l9 + 1)) (lv' := [some (.ref (E.2.1 + l0)), some (.int l1), some (.int l2), some (.long l3), none, some (.long x1), none, some (.long l7), none, some (.int (l9 + 1)), none, none, none]) C dX10_kept_154 (by decide) rfl rfl rfl ?_
  refine g_goto (tgt := 46) C dX10_kept_157 (by decide) ?_
  refine g_sub (lv' := [some (.ref (E.2.1 + l0)), some (.int l1), some (.int l2), some (.long l3), none, some (.long x1), none, some (.long l7), none, some (.int (l9 + 1)), none, none, none]) ⟨rfl, ⟨rfl, ⟨rfl, ⟨rfl, ⟨rfl, ⟨rfl, ⟨rfl, trivial⟩⟩⟩⟩⟩⟩⟩ ?_
  exact K46 hf
set_option maxRecDepth 20000 in
theorem l_Mo_kept_b112 {E : EE} {X : CT} {G : Hp} (C : gCx E X cX10_kept "FavoursGoOffModel" (some .int) 5 119 0 0 false 13) {r : Int32} {G' : Hp} (HR : gRet E X cX10_kept (some .int) 0 0 (some (.int r)) G') {k46 : Hp → Nat → Int32 → Int32 → Int64 → Int64 → Int64 → Int32 → Option (Int32 × Hp)} (K46 : ∀ {G : Hp} {l0 : Nat} {l1 : Int32} {l2 : Int32} {l3 : Int64} {l5 : Int64} {l7 : Int64} {l9 : Int32}, k46 G l0 l1 l2 l3 l5 l7 l9 = some (r, G') → gV E X 0 0 G 46 [some (.ref (E.2.1 + l0)), some (.int l1), some (.int l2), some (.long l3), none, some (.long l5), none, some (.long l7), none, some (.int l9), none, none, none] []) {l0 : Nat} {l1 : Int32} {l2 : Int32} {l5 : Int64} {l7 : Int64} {l9 : Int32} {s0 : Int64} {s1 : Int64} (hf : f_Mo_kept_b112 k46 G l0 l1 l2 l5 l7 l9 s0 s1 = some (r, G')) : gV E X 0 0 G 112 [some (.ref (E.2.1 + l0)), some (.int l1), some (.int l2), none, none, some (.long l5), none, some (.long l7), none, some (.int l9), none, none, none] [.long s1, .long s0] := by
  unfold f_Mo_kept_b112 at hf
  refine g_ladd C dX10_kept_112 ?_
  obtain ⟨x1, hx1, hf⟩ := lt_ok hf
  refine e_topl hx1 ?_
  refine g_lstore_n (lv' := [some (.ref (E.2.1 + l0)), some (.int l1), some (.int l2), some (.long x1), none, some (.long l5), none, some (.long l7), none, some (.int l9), none, none, none]) C dX10_kept_113 (by decide) rfl ?_
  refine g_lload C dX10_kept_114 rfl ?_
  refine g_aload_n C dX10_kept_116 rfl ?_
  obtain ⟨x2, hx2, hg, hf⟩ := gI_ok hf
  refine e_getI C fl_Mo_161 dX10_kept_117 hx2 hg ?_
  refine g_iload C dX10_kept_120 rfl ?_
  refine g_isub C dX10_kept_122 ?_
  refine g_i2l C dX10_kept_123 ?_
  refine g_lmul C dX10_kept_124 ?_
  refine g_iload C dX10_kept_125 rfl ?_
  refine g_iconst (v := (1 : Int32)) C dX10_kept_127 (by decide) ?_
  refine g_iadd C dX10_kept_128 ?_
  refine g_i2l C dX10_kept_129 ?_
  obtain ⟨hy, hf⟩ := dL_ok hf
  refine g_ldiv C dX10_kept_130 hy ?_
  obtain ⟨x3, hx3, hf⟩ := lt_ok hf
  refine e_topl hx3 ?_
  refine g_lstore (lv' := [some (.ref (E.2.1 + l0)), some (.int l1), some (.int l2), some (.long x1), none, some (.long l5), none, some (.long x3), none, some (.int l9), none, none, none]) C dX10_kept_131 (by decide) rfl ?_
  refine g_lload C dX10_kept_133 rfl ?_
  refine g_iload C dX10_kept_135 rfl ?_
  refine g_aload_n C dX10_kept_137 rfl ?_
  obtain ⟨x4, hx4, hg, hf⟩ := gI_ok hf
  refine e_getI C fl_Mo_161 dX10_kept_138 hx4 hg ?_
  refine g_icmp_ge (tgt := 150) C dX10_kept_141 (by decide) (fun hc => ?_) (fun hc => ?_)
  · have hf := iteT hf hc
    refine g_lconst (v := (1 : Int64)) C dX10_kept_150 (by decide) ?_
    refine g_sub (lv' := [some (.ref (E.2.1 + l0)), some (.int l1), some (.int l2), some (.long x1), none, none, none, some (.long x3), none, some (.int l9), none, none, none]) ⟨rfl, ⟨rfl, ⟨rfl, ⟨rfl, ⟨rfl, ⟨rfl, trivial⟩⟩⟩⟩⟩⟩ ?_
    exact l_Mo_kept_b151 C HR K46 hf
  · have hf := iteF hf hc
    refine g_ldc2 (v := (10 : Int64)) C dX10_kept_144 kl_Mo_189 ?_
    refine g_goto (tgt := 151) C dX10_kept_147 (by decide) ?_
    refine g_sub (lv' := [some (.ref (E.2.1 + l0)), some (.int l1), some (.int l2), some (.long x1), none, none, none, some (.long x3), none, some (.int l9), none, none, none]) ⟨rfl, ⟨rfl, ⟨rfl, ⟨rfl, ⟨rfl, ⟨rfl, trivial⟩⟩⟩⟩⟩⟩ ?_
    exact l_Mo_kept_b151 C HR K46 hf
set_option maxRecDepth 20000 in
theorem l_Mo_kept_b62k {E : EE} {X : CT} {G : Hp} (C : gCx E X cX10_kept "FavoursGoOffModel" (some .int) 5 119 0 0 false 13) {r : Int32} {G' : Hp} (HR : gRet E X cX10_kept (some .int) 0 0 (some (.int r)) G') {k46 : Hp → Nat → Int32 → Int32 → Int64 → Int64 → Int64 → Int32 → Option (Int32 × Hp)} (K46 : ∀ {G : Hp} {l0 : Nat} {l1 : Int32} {l2 : Int32} {l3 : Int64} {l5 : Int64} {l7 : Int64} {l9 : Int32}, k46 G l0 l1 l2 l3 l5 l7 l9 = some (r, G') → gV E X 0 0 G 46 [some (.ref (E.2.1 + l0)), some (.int l1), some (.int l2), some (.long l3), none, some (.long l5), none, some (.long l7), none, some (.int l9), none, none, none] []) {k62 : Hp → Nat → Int32 → Int32 → Int64 → Int64 → Int64 → Int32 → Int64 → Int32 → Option (Int32 × Hp)} (K62 : ∀ {G : Hp} {l0 : Nat} {l1 : Int32} {l2 : Int32} {l3 : Int64} {l5 : Int64} {l7 : Int64} {l9 : Int32} {l10 : Int64} {l12 : Int32}, k62 G l0 l1 l2 l3 l5 l7 l9 l10 l12 = some (r, G') → gV E X 0 0 G 62 [some (.ref (E.2.1 + l0)), some (.int l1), some (.int l2), some (.long l3), none, some (.long l5), none, some (.long l7), none, some (.int l9), some (.long l10), none, some (.int l12)] []) {l0 : Nat} {l1 : Int32} {l2 : Int32} {l3 : Int64} {l5 : Int64} {l7 : Int64} {l9 : Int32} {l10 : Int64} {l12 : Int32} (hf : f_Mo_kept_b62_k k46 k62 G l0 l1 l2 l3 l5 l7 l9 l10 l12 = some (r, G')) : gV E X 0 0 G 62 [some (.ref (E.2.1 + l0)), some (.int l1), some (.int l2), some (.long l3), none, some (.long l5), none, some (.long l7), none, some (.int l9), some (.long l10), none, some (.int l12)] [] := by
  unfold f_Mo_kept_b62_k at hf
  refine g_iload C dX10_kept_62 rfl ?_
  refine g_aload_n C dX10_kept_64 rfl ?_
  obtain ⟨x1, hx1, hg, hf⟩ := gI_ok hf
  refine e_getI C fl_Mo_161 dX10_kept_65 hx1 hg ?_
  refine g_icmp_ge (tgt := 99) C dX10_kept_68 (by decide) (fun hc => ?_) (fun hc => ?_)
  · have hf := iteT hf hc
    refine g_lload_n C dX10_kept_99 rfl ?_
    refine g_iload C dX10_kept_100 rfl ?_
    refine g_iload_n C dX10_kept_102 rfl ?_
    refine g_icmp_ge (tgt := 110) C dX10_kept_103 (by decide) (fun hc => ?_) (fun hc => ?_)
    · have hf := iteT hf hc
      refine g_lload C dX10_kept_110 rfl ?_
      refine g_sub (lv' := [some (.ref (E.2.1 + l0)), some (.int l1), some (.int l2), none, none, some (.long l5), none, some (.long l7), none, some (.int l9), none, none, none]) ⟨rfl, ⟨rfl, ⟨rfl, ⟨rfl, ⟨rfl, ⟨rfl, trivial⟩⟩⟩⟩⟩⟩ ?_
      exact l_Mo_kept_b112 C HR K46 hf
    · have hf := iteF hf hc
      refine g_lconst (v := (0 : Int64)) C dX10_kept_106 (by decide) ?_
      refine g_goto (tgt := 112) C dX10_kept_107 (by decide) ?_
      refine g_sub (lv' := [some (.ref (E.2.1 + l0)), some (.int l1), some (.int l2), none, none, some (.long l5), none, some (.long l7), none, some (.int l9), none, none, none]) ⟨rfl, ⟨rfl, ⟨rfl, ⟨rfl, ⟨rfl, ⟨rfl, trivial⟩⟩⟩⟩⟩⟩ ?_
      exact l_Mo_kept_b112 C HR K46 hf
  · have hf := iteF hf hc
    refine g_lload C dX10_kept_71 rfl ?_
    refine g_iload C dX10_kept_73 rfl ?_
    refine g_iload C dX10_kept_75 rfl ?_
    refine g_icmp_ge (tgt := 85) C dX10_kept_77 (by decide) (fun hc => ?_) (fun hc => ?_)
    · have hf := iteT hf hc
      refine g_bipush (v := (10 : Int32)) C dX10_kept_85 (by decide) ?_
      refine g_iload_n C dX10_kept_87 rfl ?_
      refine g_isub C dX10_kept_88 ?_
      refine g_i2l C dX10_kept_89 ?_
      refine g_sub (lv' := [some (.ref (E.2.1 + l0)), some (.int l1), some (.int l2), some (.long l3), none, some (.long l5), none, some (.long l7), none, some (.int l9), none, none, some (.int l12)]) ⟨rfl, ⟨rfl, ⟨rfl, ⟨rfl, ⟨rfl, ⟨rfl, ⟨rfl, ⟨rfl, trivial⟩⟩⟩⟩⟩⟩⟩⟩ ?_
      exact l_Mo_kept_b90 C HR K46 K62 hf
    · have hf := iteF hf hc
      refine g_iload_n C dX10_kept_80 rfl ?_
      refine g_i2l C dX10_kept_81 ?_
      refine g_goto (tgt := 90) C dX10_kept_82 (by decide) ?_
      refine g_sub (lv' := [some (.ref (E.2.1 + l0)), some (.int l1), some (.int l2), some (.long l3), none, some (.long l5), none, some (.long l7), none, some (.int l9), none, none, some (.int l12)]) ⟨rfl, ⟨rfl, ⟨rfl, ⟨rfl, ⟨rfl, ⟨rfl, ⟨rfl, ⟨rfl, trivial⟩⟩⟩⟩⟩⟩⟩⟩ ?_
      exact l_Mo_kept_b90 C HR K46 K62 hf
theorem l_Mo_kept_b62 {E : EE} {X : CT} (C : gCx E X cX10_kept "FavoursGoOffModel" (some .int) 5 119 0 0 false 13) {r : Int32} {G' : Hp} (HR : gRet E X cX10_kept (some .int) 0 0 (some (.int r)) G') {k46 : Hp → Nat → Int32 → Int32 → Int64 → Int64 → Int64 → Int32 → Option (Int32 × Hp)} (K46 : ∀ {G : Hp} {l0 : Nat} {l1 : Int32} {l2 : Int32} {l3 : Int64} {l5 : Int64} {l7 : Int64} {l9 : Int32}, k46 G l0 l1 l2 l3 l5 l7 l9 = some (r, G') → gV E X 0 0 G 46 [some (.ref (E.2.1 + l0)), some (.int l1), some (.int l2), some (.long l3), none, some (.long l5), none, some (.long l7), none, some (.int l9), none, none, none] []) : ∀ (nn : Nat) {G : Hp} {l0 : Nat} {l1 : Int32} {l2 : Int32} {l3 : Int64} {l5 : Int64} {l7 : Int64} {l9 : Int32} {l10 : Int64} {l12 : Int32}, f_Mo_kept_b62 k46 nn G l0 l1 l2 l3 l5 l7 l9 l10 l12 = some (r, G') → gV E X 0 0 G 62 [some (.ref (E.2.1 + l0)), some (.int l1), some (.int l2), some (.long l3), none, some (.long l5), none, some (.long l7), none, some (.int l9), some (.long l10), none, some (.int l12)] []
  | 0, _, _, _, _, _, _, _, _, _, _, hf => by have h0 : (none : Option (Int32 × Hp)) = some (r, G') := hf; cases h0
  | nn + 1, _, _, _, _, _, _, _, _, _, _, hf => l_Mo_kept_b62k C HR K46 (fun h => l_Mo_kept_b62 C HR K46 nn h) hf
set_option maxRecDepth 20000 in
theorem l_Mo_kept_b46k {E : EE} {X : CT} {G : Hp} (C : gCx E X cX10_kept "FavoursGoOffModel" (some .int) 5 119 0 0 false 13) {r : Int32} {G' : Hp} (HR : gRet E X cX10_kept (some .int) 0 0 (some (.int r)) G') {k46 : Hp → Nat → Int32 → Int32 → Int64 → Int64 → Int64 → Int32 → Option (Int32 × Hp)} (K46 : ∀ {G : Hp} {l0 : Nat} {l1 : Int32} {l2 : Int32} {l3 : Int64} {l5 : Int64} {l7 : Int64} {l9 : Int32}, k46 G l0 l1 l2 l3 l5 l7 l9 = some (r, G') → gV E X 0 0 G 46 [some (.ref (E.2.1 + l0)), some (.int l1), some (.int l2), some (.long l3), none, some (.long l5), none, some (.long l7), none, some (.int l9), none, none, none] []) {l0 : Nat} {l1 : Int32} {l2 : Int32} {l3 : Int64} {l5 : Int64} {l7 : Int64} {l9 : Int32} (hf : f_Mo_kept_b46_k k46 G l0 l1 l2 l3 l5 l7 l9 = some (r, G')) : gV E X 0 0 G 46 [some (.ref (E.2.1 + l0)), some (.int l1), some (.int l2), some (.long l3), none, some (.long l5), none, some (.long l7), none, some (.int l9), none, none, none] [] := by
  unfold f_Mo_kept_b46_k at hf
  refine g_iload C dX10_kept_46 rfl ?_
  refine g_aload_n C dX10_kept_48 rfl ?_
  obtain ⟨x1, hx1, hg, hf⟩ := gI_ok hf
  refine e_getI C fl_Mo_161 dX10_kept_49 hx1 hg ?_
  refine g_icmp_gt (tgt := 160) C dX10_kept_52 (by decide) (fun hc => ?_) (fun hc => ?_)
  · have hf := iteT hf hc
    refine g_aload_n C dX10_kept_160 rfl ?_
    refine g_lload_n C dX10_kept_161 rfl ?_
    refine g_lload C dX10_kept_162 rfl ?_
    obtain ⟨x2, G3, hg, h1, hf⟩ := vH_ok hf
    refine g_invV (As := [.long l3, .long l5]) (st := []) C (c_Mo_tells E h1) (rfl : vwCl[10]? = some (y_Mo_tells.cls, TX10, 24)) (by decide) hg ml_Mo_193 cm_Mo_tells.1 cm_Mo_tells.2.1 cm_Mo_tells.2.2.1 cm_Mo_tells.2.2.2.1 cm_Mo_tells.2.2.2.2 rfl ⟨by omega, by omega, by omega, by omega⟩ (by exact Nat.le_of_ble_eq_true rfl) rfl dX10_kept_164 ?_
    obtain ⟨rfl, rfl⟩ := rH_ok hf
    exact g_iret HR dX10_kept_167
  · have hf := iteF hf hc
    refine g_lload C dX10_kept_55 rfl ?_
    refine g_lstore (lv' := [some (.ref (E.2.1 + l0)), some (.int l1), some (.int l2), some (.long l3), none, some (.long l5), none, some (.long l7), none, some (.int l9), some (.long l7), none, none]) C dX10_kept_57 (by decide) rfl ?_
    refine g_iconst (v := (0 : Int32)) C dX10_kept_59 (by decide) ?_
    refine g_istore (lv' := [some (.ref (E.2.1 + l0)), some (.int l1), some (.int l2), some (.long l3), none, some (.long l5), none, some (.long l7), none, some (.int l9), some (.long l7), none, some (.int (0 : Int32))]) C dX10_kept_60 (by decide) rfl ?_
    refine g_sub (lv' := [some (.ref (E.2.1 + l0)), some (.int l1), some (.int l2), some (.long l3), none, some (.long l5), none, some (.long l7), none, some (.int l9), some (.long l7), none, some (.int (0 : Int32))]) ⟨rfl, ⟨rfl, ⟨rfl, ⟨rfl, ⟨rfl, ⟨rfl, ⟨rfl, ⟨rfl, ⟨rfl, trivial⟩⟩⟩⟩⟩⟩⟩⟩⟩ ?_
    exact l_Mo_kept_b62 C HR K46 FU hf
theorem l_Mo_kept_b46 {E : EE} {X : CT} (C : gCx E X cX10_kept "FavoursGoOffModel" (some .int) 5 119 0 0 false 13) {r : Int32} {G' : Hp} (HR : gRet E X cX10_kept (some .int) 0 0 (some (.int r)) G') : ∀ (nn : Nat) {G : Hp} {l0 : Nat} {l1 : Int32} {l2 : Int32} {l3 : Int64} {l5 : Int64} {l7 : Int64} {l9 : Int32}, f_Mo_kept_b46 nn G l0 l1 l2 l3 l5 l7 l9 = some (r, G') → gV E X 0 0 G 46 [some (.ref (E.2.1 + l0)), some (.int l1), some (.int l2), some (.long l3), none, some (.long l5), none, some (.long l7), none, some (.int l9), none, none, none] []
  | 0, _, _, _, _, _, _, _, _, hf => by have h0 : (none : Option (Int32 × Hp)) = some (r, G') := hf; cases h0
  | nn + 1, _, _, _, _, _, _, _, _, hf => l_Mo_kept_b46k C HR (fun h => l_Mo_kept_b46 C HR nn h) hf
set_option maxRecDepth 20000 in
theorem l_Mo_kept {E : EE} {X : CT} {G : Hp} (C : gCx E X cX10_kept "FavoursGoOffModel" (some .int) 5 119 0 0 false 13) {r : Int32} {G' : Hp} (HR : gRet E X cX10_kept (some .int) 0 0 (some (.int r)) G') {l0 : Nat} {l1 : Int32} {l2 : Int32} (hf : f_Mo_kept G l0 l1 l2 = some (r, G')) : gV E X 0 0 G 0 [some (.ref (E.2.1 + l0)), some (.int l1), some (.int l2), none, none, none, none, none, none, none, none, none, none] [] := by
  unfold f_Mo_kept at hf
  refine g_iload_n C dX10_kept_0 rfl ?_
  refine g_i2l C dX10_kept_1 ?_
  refine g_lconst (v := (0 : Int64)) C dX10_kept_2 (by decide) ?_
  refine g_ldc2 (v := (10 : Int64)) C dX10_kept_3 kl_Mo_189 ?_
  obtain ⟨x1, h1, hf⟩ := cP_ok hf
  refine g_invS (As := [.long l1.toInt64, .long (0 : Int64), .long (10 : Int64)]) (st := []) C (c_Mo_in E h1) ml_Mo_68 cm_Mo_in.1 cm_Mo_in.2.1 cm_Mo_in.2.2.1 cm_Mo_in.2.2.2 rfl ⟨by omega, by omega, by omega, by omega⟩ (by exact Nat.le_of_ble_eq_true rfl) rfl dX10_kept_6 ?_
  refine g_if_eq (tgt := 24) C dX10_kept_9 (by decide) (fun hc => ?_) (fun hc => ?_)
  · have hf := iteT hf hc
    refine g_sub (lv' := [some (.ref (E.2.1 + l0)), none, none, none, none, none, none, none, none, none, none, none, none]) ⟨rfl, trivial⟩ ?_
    exact l_Mo_kept_b24 C HR  hf
  · have hf := iteF hf hc
    refine g_iload_n C dX10_kept_12 rfl ?_
    refine g_i2l C dX10_kept_13 ?_
    refine g_lconst (v := (0 : Int64)) C dX10_kept_14 (by decide) ?_
    refine g_ldc2 (v := (5 : Int64)) C dX10_kept_15 kl_Mo_191 ?_
    obtain ⟨x2, h1, hf⟩ := cP_ok hf
    refine g_invS (As := [.long l2.toInt64, .long (0 : Int64), .long (5 : Int64)]) (st := []) C (c_Mo_in E h1) ml_Mo_68 cm_Mo_in.1 cm_Mo_in.2.1 cm_Mo_in.2.2.1 cm_Mo_in.2.2.2 rfl ⟨by omega, by omega, by omega, by omega⟩ (by exact Nat.le_of_ble_eq_true rfl) rfl dX10_kept_18 ?_
    refine g_if_ne (tgt := 31) C dX10_kept_21 (by decide) (fun hc => ?_) (fun hc => ?_)
    · have hf := iteF hf hc
      refine g_aload_n C dX10_kept_31 rfl ?_
      obtain ⟨G3, hg, h1, hf⟩ := vP_ok hf
      refine g_invV (As := []) (st := []) C (c_Mo_findMet E h1) (rfl : vwCl[10]? = some (y_Mo_findMet.cls, TX10, 24)) (by decide) hg ml_Mo_173 cm_Mo_findMet.1 cm_Mo_findMet.2.1 cm_Mo_findMet.2.2.1 cm_Mo_findMet.2.2.2.1 cm_Mo_findMet.2.2.2.2 rfl ⟨by omega, by omega, by omega, by omega⟩ (by exact Nat.le_of_ble_eq_true rfl) rfl dX10_kept_32 ?_
      refine g_lconst (v := (0 : Int64)) C dX10_kept_35 (by decide) ?_
      refine g_lstore_n (lv' := [some (.ref (E.2.1 + l0)), some (.int l1), some (.int l2), some (.long (0 : Int64)), none, none, none, none, none, none, none, none, none]) C dX10_kept_36 (by decide) rfl ?_
      refine g_lconst (v := (1 : Int64)) C dX10_kept_37 (by decide) ?_
      refine g_lstore (lv' := [some (.ref (E.2.1 + l0)), some (.int l1), some (.int l2), some (.long (0 : Int64)), none, some (.long (1 : Int64)), none, none, none, none, none, none, none]) C dX10_kept_38 (by decide) rfl ?_
      refine g_lconst (v := (1 : Int64)) C dX10_kept_40 (by decide) ?_
      refine g_lstore (lv' := [some (.ref (E.2.1 + l0)), some (.int l1), some (.int l2), some (.long (0 : Int64)), none, some (.long (1 : Int64)), none, some (.long (1 : Int64)), none, none, none, none, none]) C dX10_kept_41 (by decide) rfl ?_
      refine g_iconst (v := (0 : Int32)) C dX10_kept_43 (by decide) ?_
      refine g_istore (lv' := [some (.ref (E.2.1 + l0)), some (.int l1), some (.int l2), some (.long (0 : Int64)), none, some (.long (1 : Int64)), none, some (.long (1 : Int64)), none, some (.int (0 : Int32)), none, none, none]) C dX10_kept_44 (by decide) rfl ?_
      refine g_sub (lv' := [some (.ref (E.2.1 + l0)), some (.int l1), some (.int l2), some (.long (0 : Int64)), none, some (.long (1 : Int64)), none, some (.long (1 : Int64)), none, some (.int (0 : Int32)), none, none, none]) ⟨rfl, ⟨rfl, ⟨rfl, ⟨rfl, ⟨rfl, ⟨rfl, ⟨rfl, trivial⟩⟩⟩⟩⟩⟩⟩ ?_
      exact l_Mo_kept_b46 C HR  FU hf
    · have hf := iteT hf hc
      refine g_sub (lv' := [some (.ref (E.2.1 + l0)), none, none, none, none, none, none, none, none, none, none, none, none]) ⟨rfl, trivial⟩ ?_
      exact l_Mo_kept_b24 C HR  hf
theorem c_Mo_kept (E : EE) {G : Hp} {l0 : Nat} {l1 : Int32} {l2 : Int32} {r : Int32} {G' : Hp} (h : f_Mo_kept G l0 l1 l2 = some (r, G')) : gCt E y_Mo_kept cX10_kept 13 (some .int) 5 119 0 0 [.ref (E.2.1 + l0), .int l1, .int l2] G (some (.int r)) G' := gCt_of (own := "FavoursGoOffModel") (ini := false) [some (.ref (E.2.1 + l0)), some (.int l1), some (.int l2), none, none, none, none, none, none, none, none, none, none] (by decide +kernel) rfl (fun h => by cases h) (Nat.le_of_ble_eq_true rfl) ⟨rfl, ⟨rfl, ⟨rfl, trivial⟩⟩⟩ (fun X C HR => l_Mo_kept C HR h)
set_option maxRecDepth 20000 in
theorem l_Mo_type_b41k {E : EE} {X : CT} {G : Hp} (C : gCx E X cX10_type "FavoursGoOffModel" (some .int) 1 25 0 0 false 5) {r : Int32} {G' : Hp} (HR : gRet E X cX10_type (some .int) 0 0 (some (.int r)) G') {k41 : Hp → Nat → Int64 → Int32 → Option (Int32 × Hp)} (K41 : ∀ {G : Hp} {l0 : Nat} {l1 : Int64} {l4 : Int32}, k41 G l0 l1 l4 = some (r, G') → gV E X 0 0 G 41 [some (.ref (E.2.1 + l0)), some (.long l1), none, none, some (.int l4)] []) {l0 : Nat} {l1 : Int64} {l4 : Int32} (hf : f_Mo_type_b41_k k41 G l0 l1 l4 = some (r, G')) : gV E X 0 0 G 41 [some (.ref (E.2.1 + l0)), some (.long l1), none, none, some (.int l4)] [] := by
  unfold f_Mo_type_b41_k at hf
  refine g_iload C dX10_type_41 rfl ?_
  refine g_if_lt (tgt := 83) C dX10_type_43 (by decide) (fun hc => ?_) (fun hc => ?_)
  · have hf := iteT hf hc
    refine g_aload_n C dX10_type_83 rfl ?_
    obtain ⟨x1, hx1, hg, hf⟩ := gI_ok hf
    refine e_getI C fl_Mo_199 dX10_type_84 hx1 hg ?_
    obtain ⟨rfl, rfl⟩ := rH_ok hf
    exact g_iret HR dX10_type_87
  · have hf := iteF hf hc
    refine g_aload_n C dX10_type_46 rfl ?_
    obtain ⟨x2, hg, hf⟩ := gR_ok hf
    refine g_getR C fl_Mo_48 dX10_type_47 hg ?_
    refine g_aload_n C dX10_type_50 rfl ?_
    obtain ⟨x3, hx3, hg, hf⟩ := gI_ok hf
    refine e_getI C fl_Mo_199 dX10_type_51 hx3 hg ?_
    refine g_lload_n C dX10_type_54 rfl ?_
    refine g_bipush (v := (8 : Int32)) C dX10_type_55 (by decide) ?_
    refine g_iload C dX10_type_57 rfl ?_
    refine g_imul C dX10_type_59 ?_
    refine g_lushr C dX10_type_60 ?_
    refine g_ldc2 (v := (255 : Int64)) C dX10_type_61 kl_Mo_202 ?_
    refine g_land C dX10_type_64 ?_
    refine g_l2i C dX10_type_65 ?_
    obtain ⟨G4, hG4, hg, hf⟩ := sI_ok hf
    refine e_iast C dX10_type_66 hG4 hg ?_
    refine g_aload_n C dX10_type_67 rfl ?_
    refine g_dup C dX10_type_68 rfl ?_
    obtain ⟨x5, hx5, hg, hf⟩ := gI_ok hf
    refine e_getI C fl_Mo_199 dX10_type_69 hx5 hg ?_
    refine g_iconst (v := (1 : Int32)) C dX10_type_72 (by decide) ?_
    refine g_iadd C dX10_type_73 ?_
    obtain ⟨G6, hG6, hg, hf⟩ := pI_ok hf
    refine e_putI C fl_Mo_199 dX10_type_74 hG6 hg (Or.inl rfl) rfl rfl ?_
    refine g_iinc (v := (l4 + (-1))) (lv' := [some (.ref (E.2.1 + l0)), some (.long l1), none, none, some (.int (l4 + (-1)))]) C dX10_type_77 (by decide) rfl rfl rfl ?_
    refine g_goto (tgt := 41) C dX10_type_80 (by decide) ?_
    refine g_sub (lv' := [some (.ref (E.2.1 + l0)), some (.long l1), none, none, some (.int (l4 + (-1)))]) ⟨rfl, ⟨rfl, ⟨rfl, trivial⟩⟩⟩ ?_
    exact K41 hf
theorem l_Mo_type_b41 {E : EE} {X : CT} (C : gCx E X cX10_type "FavoursGoOffModel" (some .int) 1 25 0 0 false 5) {r : Int32} {G' : Hp} (HR : gRet E X cX10_type (some .int) 0 0 (some (.int r)) G') : ∀ (nn : Nat) {G : Hp} {l0 : Nat} {l1 : Int64} {l4 : Int32}, f_Mo_type_b41 nn G l0 l1 l4 = some (r, G') → gV E X 0 0 G 41 [some (.ref (E.2.1 + l0)), some (.long l1), none, none, some (.int l4)] []
  | 0, _, _, _, _, hf => by have h0 : (none : Option (Int32 × Hp)) = some (r, G') := hf; cases h0
  | nn + 1, _, _, _, _, hf => l_Mo_type_b41k C HR (fun h => l_Mo_type_b41 C HR nn h) hf
set_option maxRecDepth 20000 in
theorem l_Mo_type {E : EE} {X : CT} {G : Hp} (C : gCx E X cX10_type "FavoursGoOffModel" (some .int) 1 25 0 0 false 5) {r : Int32} {G' : Hp} (HR : gRet E X cX10_type (some .int) 0 0 (some (.int r)) G') {l0 : Nat} {l1 : Int64} {l3 : Int32} (hf : f_Mo_type G l0 l1 l3 = some (r, G')) : gV E X 0 0 G 0 [some (.ref (E.2.1 + l0)), some (.long l1), none, some (.int l3), none] [] := by
  unfold f_Mo_type at hf
  refine g_iload_n C dX10_type_0 rfl ?_
  refine g_i2l C dX10_type_1 ?_
  refine g_lconst (v := (1 : Int64)) C dX10_type_2 (by decide) ?_
  refine g_ldc2 (v := (8 : Int64)) C dX10_type_3 kl_Mo_197 ?_
  obtain ⟨x1, h1, hf⟩ := cP_ok hf
  refine g_invS (As := [.long l3.toInt64, .long (1 : Int64), .long (8 : Int64)]) (st := []) C (c_Mo_in E h1) ml_Mo_68 cm_Mo_in.1 cm_Mo_in.2.1 cm_Mo_in.2.2.1 cm_Mo_in.2.2.2 rfl ⟨by omega, by omega, by omega, by omega⟩ (by exact Nat.le_of_ble_eq_true rfl) rfl dX10_type_6 ?_
  refine g_if_ne (tgt := 19) C dX10_type_9 (by decide) (fun hc => ?_) (fun hc => ?_)
  · have hf := iteF hf hc
    refine g_aload_n C dX10_type_19 rfl ?_
    obtain ⟨x2, hx2, hg, hf⟩ := gI_ok hf
    refine e_getI C fl_Mo_199 dX10_type_20 hx2 hg ?_
    refine g_iload_n C dX10_type_23 rfl ?_
    refine g_iadd C dX10_type_24 ?_
    refine g_sipush (v := (250 : Int32)) C dX10_type_25 (by decide) ?_
    refine g_icmp_le (tgt := 36) C dX10_type_28 (by decide) (fun hc => ?_) (fun hc => ?_)
    · have hf := iteT hf hc
      refine g_iload_n C dX10_type_36 rfl ?_
      refine g_iconst (v := (1 : Int32)) C dX10_type_37 (by decide) ?_
      refine g_isub C dX10_type_38 ?_
      obtain ⟨x3, hx3, hf⟩ := lt_ok hf
      refine e_top hx3 ?_
      refine g_istore (lv' := [some (.ref (E.2.1 + l0)), some (.long l1), none, some (.int l3), some (.int x3)]) C dX10_type_39 (by decide) rfl ?_
      refine g_sub (lv' := [some (.ref (E.2.1 + l0)), some (.long l1), none, none, some (.int x3)]) ⟨rfl, ⟨rfl, ⟨rfl, trivial⟩⟩⟩ ?_
      exact l_Mo_type_b41 C HR  FU hf
    · have hf := iteF hf hc
      refine g_aload_n C dX10_type_31 rfl ?_
      obtain ⟨x4, G5, hg, h1, hf⟩ := vH_ok hf
      refine g_invV (As := []) (st := []) C (c_Mo_full E h1) (rfl : vwCl[10]? = some (y_Mo_full.cls, TX10, 24)) (by decide) hg ml_Mo_98 cm_Mo_full.1 cm_Mo_full.2.1 cm_Mo_full.2.2.1 cm_Mo_full.2.2.2.1 cm_Mo_full.2.2.2.2 rfl ⟨by omega, by omega, by omega, by omega⟩ (by exact Nat.le_of_ble_eq_true rfl) rfl dX10_type_32 ?_
      obtain ⟨rfl, rfl⟩ := rH_ok hf
      exact g_iret HR dX10_type_35
  · have hf := iteT hf hc
    refine g_aload_n C dX10_type_12 rfl ?_
    refine g_bipush (v := (-2 : Int32)) C dX10_type_13 (by decide) ?_
    obtain ⟨x6, G7, hg, h1, hf⟩ := vH_ok hf
    refine g_invV (As := [.int (-2 : Int32)]) (st := []) C (c_Mo_bad E h1) (rfl : vwCl[10]? = some (y_Mo_bad.cls, TX10, 24)) (by decide) hg ml_Mo_80 cm_Mo_bad.1 cm_Mo_bad.2.1 cm_Mo_bad.2.2.1 cm_Mo_bad.2.2.2.1 cm_Mo_bad.2.2.2.2 rfl ⟨by omega, by omega, by omega, by omega⟩ (by exact Nat.le_of_ble_eq_true rfl) rfl dX10_type_15 ?_
    obtain ⟨rfl, rfl⟩ := rH_ok hf
    exact g_iret HR dX10_type_18
theorem c_Mo_type (E : EE) {G : Hp} {l0 : Nat} {l1 : Int64} {l3 : Int32} {r : Int32} {G' : Hp} (h : f_Mo_type G l0 l1 l3 = some (r, G')) : gCt E y_Mo_type cX10_type 5 (some .int) 1 25 0 0 [.ref (E.2.1 + l0), .long l1, .int l3] G (some (.int r)) G' := gCt_of (own := "FavoursGoOffModel") (ini := false) [some (.ref (E.2.1 + l0)), some (.long l1), none, some (.int l3), none] (by decide +kernel) rfl (fun h => by cases h) (Nat.le_of_ble_eq_true rfl) ⟨rfl, ⟨rfl, ⟨rfl, trivial⟩⟩⟩ (fun X C HR => l_Mo_type C HR h)
set_option maxRecDepth 20000 in
theorem l_Mo_clear {E : EE} {X : CT} {G : Hp} (C : gCx E X cX10_clear "FavoursGoOffModel" (some .int) 0 0 0 0 false 2) {r : Int32} {G' : Hp} (HR : gRet E X cX10_clear (some .int) 0 0 (some (.int r)) G') {l0 : Nat} (hf : f_Mo_clear G l0 = some (r, G')) : gV E X 0 0 G 0 [some (.ref (E.2.1 + l0)), none] [] := by
  unfold f_Mo_clear at hf
  refine g_aload_n C dX10_clear_0 rfl ?_
  obtain ⟨x1, hx1, hg, hf⟩ := gI_ok hf
  refine e_getI C fl_Mo_199 dX10_clear_1 hx1 hg ?_
  refine g_istore_n (lv' := [some (.ref (E.2.1 + l0)), some (.int x1)]) C dX10_clear_4 (by decide) rfl ?_
  refine g_aload_n C dX10_clear_5 rfl ?_
  refine g_iconst (v := (0 : Int32)) C dX10_clear_6 (by decide) ?_
  obtain ⟨G2, hG2, hg, hf⟩ := pI_ok hf
  refine e_putI C fl_Mo_199 dX10_clear_7 hG2 hg (Or.inl rfl) rfl rfl ?_
  refine g_iload_n C dX10_clear_10 rfl ?_
  obtain ⟨rfl, rfl⟩ := rH_ok hf
  exact g_iret HR dX10_clear_11
theorem c_Mo_clear (E : EE) {G : Hp} {l0 : Nat} {r : Int32} {G' : Hp} (h : f_Mo_clear G l0 = some (r, G')) : gCt E y_Mo_clear cX10_clear 2 (some .int) 0 0 0 0 [.ref (E.2.1 + l0)] G (some (.int r)) G' := gCt_of (own := "FavoursGoOffModel") (ini := false) [some (.ref (E.2.1 + l0)), none] (by decide +kernel) rfl (fun h => by cases h) (Nat.le_of_ble_eq_true rfl) ⟨rfl, trivial⟩ (fun X C HR => l_Mo_clear C HR h)
set_option maxRecDepth 20000 in
theorem l_Mo_isSmall {E : EE} {X : CT} {G : Hp} (C : gCx E X cX10_isSmall "FavoursGoOffModel" (some .boolean) 1 25 0 0 false 1) {r : Int32} (HR : gRet E X cX10_isSmall (some .boolean) 0 0 (some (.int r)) G) {l0 : Int32} (hf : f_Mo_isSmall G l0 = some r) : gV E X 0 0 G 0 [some (.int l0)] [] := by
  unfold f_Mo_isSmall at hf
  refine g_iload_n C dX10_isSmall_0 rfl ?_
  refine g_i2l C dX10_isSmall_1 ?_
  refine g_ldc2 (v := (97 : Int64)) C dX10_isSmall_2 kl_Mo_204 ?_
  refine g_ldc2 (v := (122 : Int64)) C dX10_isSmall_5 kl_Mo_206 ?_
  obtain ⟨x1, h1, hf⟩ := cP_ok hf
  refine g_invS (As := [.long l0.toInt64, .long (97 : Int64), .long (122 : Int64)]) (st := []) C (c_Mo_in E h1) ml_Mo_68 cm_Mo_in.1 cm_Mo_in.2.1 cm_Mo_in.2.2.1 cm_Mo_in.2.2.2 rfl ⟨by omega, by omega, by omega, by omega⟩ (by exact Nat.le_of_ble_eq_true rfl) rfl dX10_isSmall_8 ?_
  obtain ⟨hv, hf⟩ := zR_ok hf
  obtain rfl := rP_ok hf
  exact g_zret HR hv dX10_isSmall_11
theorem c_Mo_isSmall (E : EE) {G : Hp} {l0 : Int32} {r : Int32} (h : f_Mo_isSmall G l0 = some r) : gCt E y_Mo_isSmall cX10_isSmall 1 (some .boolean) 1 25 0 0 [.int l0] G (some (.int r)) G := gCt_of (own := "FavoursGoOffModel") (ini := false) [some (.int l0)] (by decide +kernel) rfl (fun h => by cases h) (Nat.le_of_ble_eq_true rfl) ⟨rfl, trivial⟩ (fun X C HR => l_Mo_isSmall C HR h)
set_option maxRecDepth 20000 in
theorem l_Mo_isFigure {E : EE} {X : CT} {G : Hp} (C : gCx E X cX10_isFigure "FavoursGoOffModel" (some .boolean) 1 25 0 0 false 1) {r : Int32} (HR : gRet E X cX10_isFigure (some .boolean) 0 0 (some (.int r)) G) {l0 : Int32} (hf : f_Mo_isFigure G l0 = some r) : gV E X 0 0 G 0 [some (.int l0)] [] := by
  unfold f_Mo_isFigure at hf
  refine g_iload_n C dX10_isFigure_0 rfl ?_
  refine g_i2l C dX10_isFigure_1 ?_
  refine g_ldc2 (v := (48 : Int64)) C dX10_isFigure_2 kl_Mo_208 ?_
  refine g_ldc2 (v := (57 : Int64)) C dX10_isFigure_5 kl_Mo_210 ?_
  obtain ⟨x1, h1, hf⟩ := cP_ok hf
  refine g_invS (As := [.long l0.toInt64, .long (48 : Int64), .long (57 : Int64)]) (st := []) C (c_Mo_in E h1) ml_Mo_68 cm_Mo_in.1 cm_Mo_in.2.1 cm_Mo_in.2.2.1 cm_Mo_in.2.2.2 rfl ⟨by omega, by omega, by omega, by omega⟩ (by exact Nat.le_of_ble_eq_true rfl) rfl dX10_isFigure_8 ?_
  obtain ⟨hv, hf⟩ := zR_ok hf
  obtain rfl := rP_ok hf
  exact g_zret HR hv dX10_isFigure_11
theorem c_Mo_isFigure (E : EE) {G : Hp} {l0 : Int32} {r : Int32} (h : f_Mo_isFigure G l0 = some r) : gCt E y_Mo_isFigure cX10_isFigure 1 (some .boolean) 1 25 0 0 [.int l0] G (some (.int r)) G := gCt_of (own := "FavoursGoOffModel") (ini := false) [some (.int l0)] (by decide +kernel) rfl (fun h => by cases h) (Nat.le_of_ble_eq_true rfl) ⟨rfl, trivial⟩ (fun X C HR => l_Mo_isFigure C HR h)
set_option maxRecDepth 20000 in
theorem l_Mo_lookAt_b208 {E : EE} {X : CT} {G : Hp} (C : gCx E X cX10_lookAt "FavoursGoOffModel" none 2 45 0 0 false 5) {G' : Hp} (HR : gRet E X cX10_lookAt none 0 0 none G') {k136 : Hp → Nat → Int32 → Option Hp} (K136 : ∀ {G : Hp} {l0 : Nat} {l3 : Int32}, k136 G l0 l3 = some G' → gV E X 0 0 G 136 [some (.ref (E.2.1 + l0)), none, none, some (.int l3), none] []) {l0 : Nat} {l3 : Int32} {s0 : Nat} {s1 : Int32} {s2 : Int32} (hf : f_Mo_lookAt_b208 k136 G l0 l3 s0 s1 s2 = some G') : gV E X 0 0 G 208 [some (.ref (E.2.1 + l0)), none, none, some (.int l3), none] [.int s2, .int s1, .ref (E.2.1 + s0)] := by
  unfold f_Mo_lookAt_b208 at hf
  refine g_iadd C dX10_lookAt_208 ?_
  obtain ⟨G1, hG1, hg, hf⟩ := pI_ok hf
  refine e_putI C fl_Mo_215 dX10_lookAt_209 hG1 hg (Or.inl rfl) rfl rfl ?_
  refine g_goto (tgt := 136) C dX10_lookAt_212 (by decide) ?_
  refine g_sub (lv' := [some (.ref (E.2.1 + l0)), none, none, some (.int l3), none]) ⟨rfl, ⟨rfl, trivial⟩⟩ ?_
  exact K136 hf
set_option maxRecDepth 20000 in
theorem l_Mo_lookAt_b193 {E : EE} {X : CT} {G : Hp} (C : gCx E X cX10_lookAt "FavoursGoOffModel" none 2 45 0 0 false 5) {G' : Hp} (HR : gRet E X cX10_lookAt none 0 0 none G') {k136 : Hp → Nat → Int32 → Option Hp} (K136 : ∀ {G : Hp} {l0 : Nat} {l3 : Int32}, k136 G l0 l3 = some G' → gV E X 0 0 G 136 [some (.ref (E.2.1 + l0)), none, none, some (.int l3), none] []) {l0 : Nat} {s0 : Int32} (hf : f_Mo_lookAt_b193 k136 G l0 s0 = some G') : gV E X 0 0 G 193 [some (.ref (E.2.1 + l0)), none, none, none, none] [.int s0] := by
  unfold f_Mo_lookAt_b193 at hf
  refine g_istore_n (lv' := [some (.ref (E.2.1 + l0)), none, none, some (.int s0), none]) C dX10_lookAt_193 (by decide) rfl ?_
  refine g_aload_n C dX10_lookAt_194 rfl ?_
  refine g_dup C dX10_lookAt_195 rfl ?_
  obtain ⟨x1, hx1, hg, hf⟩ := gI_ok hf
  refine e_getI C fl_Mo_215 dX10_lookAt_196 hx1 hg ?_
  refine g_iload_n C dX10_lookAt_199 rfl ?_
  refine g_if_eq (tgt := 207) C dX10_lookAt_200 (by decide) (fun hc => ?_) (fun hc => ?_)
  · have hf := iteT hf hc
    refine g_iconst (v := (0 : Int32)) C dX10_lookAt_207 (by decide) ?_
    refine g_sub (lv' := [some (.ref (E.2.1 + l0)), none, none, some (.int s0), none]) ⟨rfl, ⟨rfl, trivial⟩⟩ ?_
    exact l_Mo_lookAt_b208 C HR K136 hf
  · have hf := iteF hf hc
    refine g_iconst (v := (1 : Int32)) C dX10_lookAt_203 (by decide) ?_
    refine g_goto (tgt := 208) C dX10_lookAt_204 (by decide) ?_
    refine g_sub (lv' := [some (.ref (E.2.1 + l0)), none, none, some (.int s0), none]) ⟨rfl, ⟨rfl, trivial⟩⟩ ?_
    exact l_Mo_lookAt_b208 C HR K136 hf
set_option maxRecDepth 20000 in
theorem l_Mo_lookAt_b299 {E : EE} {X : CT} {G : Hp} (C : gCx E X cX10_lookAt "FavoursGoOffModel" none 2 45 0 0 false 5) {G' : Hp} (HR : gRet E X cX10_lookAt none 0 0 none G') {s0 : Nat} {s1 : Int32} (hf : f_Mo_lookAt_b299 G s0 s1 = some G') : gV E X 0 0 G 299 [none, none, none, none, none] [.int s1, .ref (E.2.1 + s0)] := by
  unfold f_Mo_lookAt_b299 at hf
  obtain ⟨G1, hG1, hg, hf⟩ := pI_ok hf
  refine e_putI C fl_Mo_218 dX10_lookAt_299 hG1 hg (Or.inl rfl) rfl rfl ?_
  obtain rfl := rP_ok hf
  exact g_vret HR dX10_lookAt_302
set_option maxRecDepth 20000 in
theorem l_Mo_lookAt_b295 {E : EE} {X : CT} {G : Hp} (C : gCx E X cX10_lookAt "FavoursGoOffModel" none 2 45 0 0 false 5) {G' : Hp} (HR : gRet E X cX10_lookAt none 0 0 none G') {l0 : Nat} {s0 : Nat} (hf : f_Mo_lookAt_b295 G l0 s0 = some G') : gV E X 0 0 G 295 [some (.ref (E.2.1 + l0)), none, none, none, none] [.ref (E.2.1 + s0)] := by
  unfold f_Mo_lookAt_b295 at hf
  refine g_aload_n C dX10_lookAt_295 rfl ?_
  obtain ⟨x1, hx1, hg, hf⟩ := gI_ok hf
  refine e_getI C fl_Mo_218 dX10_lookAt_296 hx1 hg ?_
  refine g_sub (lv' := [none, none, none, none, none]) trivial ?_
  exact l_Mo_lookAt_b299 C HR  hf
set_option maxRecDepth 20000 in
theorem l_Mo_lookAt_b274 {E : EE} {X : CT} {G : Hp} (C : gCx E X cX10_lookAt "FavoursGoOffModel" none 2 45 0 0 false 5) {G' : Hp} (HR : gRet E X cX10_lookAt none 0 0 none G') {l0 : Nat} (hf : f_Mo_lookAt_b274 G l0 = some G') : gV E X 0 0 G 274 [some (.ref (E.2.1 + l0)), none, none, none, none] [] := by
  unfold f_Mo_lookAt_b274 at hf
  refine g_aload_n C dX10_lookAt_274 rfl ?_
  refine g_aload_n C dX10_lookAt_275 rfl ?_
  obtain ⟨x1, hx1, hg, hf⟩ := gI_ok hf
  refine e_getI C fl_Mo_218 dX10_lookAt_276 hx1 hg ?_
  refine g_iconst (v := (2 : Int32)) C dX10_lookAt_279 (by decide) ?_
  refine g_icmp_ne (tgt := 295) C dX10_lookAt_280 (by decide) (fun hc => ?_) (fun hc => ?_)
  · have hf := iteF hf hc
    refine g_sub (lv' := [some (.ref (E.2.1 + l0)), none, none, none, none]) ⟨rfl, trivial⟩ ?_
    exact l_Mo_lookAt_b295 C HR  hf
  · have hf := iteT hf hc
    refine g_aload_n C dX10_lookAt_283 rfl ?_
    obtain ⟨x2, hx2, hg, hf⟩ := gI_ok hf
    refine e_getI C fl_Mo_215 dX10_lookAt_284 hx2 hg ?_
    refine g_iconst (v := (2 : Int32)) C dX10_lookAt_287 (by decide) ?_
    refine g_icmp_le (tgt := 295) C dX10_lookAt_288 (by decide) (fun hc => ?_) (fun hc => ?_)
    · have hf := iteT hf hc
      refine g_sub (lv' := [some (.ref (E.2.1 + l0)), none, none, none, none]) ⟨rfl, trivial⟩ ?_
      exact l_Mo_lookAt_b295 C HR  hf
    · have hf := iteF hf hc
      refine g_iconst (v := (4 : Int32)) C dX10_lookAt_291 (by decide) ?_
      refine g_goto (tgt := 299) C dX10_lookAt_292 (by decide) ?_
      refine g_sub (lv' := [none, none, none, none, none]) trivial ?_
      exact l_Mo_lookAt_b299 C HR  hf
set_option maxRecDepth 20000 in
theorem l_Mo_lookAt_b218k {E : EE} {X : CT} {G : Hp} (C : gCx E X cX10_lookAt "FavoursGoOffModel" none 2 45 0 0 false 5) {G' : Hp} (HR : gRet E X cX10_lookAt none 0 0 none G') {k218 : Hp → Nat → Int32 → Option Hp} (K218 : ∀ {G : Hp} {l0 : Nat} {l4 : Int32}, k218 G l0 l4 = some G' → gV E X 0 0 G 218 [some (.ref (E.2.1 + l0)), none, none, none, some (.int l4)] []) {l0 : Nat} {l4 : Int32} (hf : f_Mo_lookAt_b218_k k218 G l0 l4 = some G') : gV E X 0 0 G 218 [some (.ref (E.2.1 + l0)), none, none, none, some (.int l4)] [] := by
  unfold f_Mo_lookAt_b218_k at hf
  refine g_iload C dX10_lookAt_218 rfl ?_
  refine g_aload_n C dX10_lookAt_220 rfl ?_
  obtain ⟨x1, hx1, hg, hf⟩ := gI_ok hf
  refine e_getI C fl_Mo_215 dX10_lookAt_221 hx1 hg ?_
  refine g_icmp_ge (tgt := 274) C dX10_lookAt_224 (by decide) (fun hc => ?_) (fun hc => ?_)
  · have hf := iteT hf hc
    refine g_sub (lv' := [some (.ref (E.2.1 + l0)), none, none, none, none]) ⟨rfl, trivial⟩ ?_
    exact l_Mo_lookAt_b274 C HR  hf
  · have hf := iteF hf hc
    refine g_iload C dX10_lookAt_227 rfl ?_
    refine g_iconst (v := (2 : Int32)) C dX10_lookAt_229 (by decide) ?_
    refine g_icmp_ge (tgt := 274) C dX10_lookAt_230 (by decide) (fun hc => ?_) (fun hc => ?_)
    · have hf := iteT hf hc
      refine g_sub (lv' := [some (.ref (E.2.1 + l0)), none, none, none, none]) ⟨rfl, trivial⟩ ?_
      exact l_Mo_lookAt_b274 C HR  hf
    · have hf := iteF hf hc
      refine g_aload_n C dX10_lookAt_233 rfl ?_
      obtain ⟨x2, hx2, hg, hf⟩ := gI_ok hf
      refine e_getI C fl_Mo_218 dX10_lookAt_234 hx2 hg ?_
      refine g_iconst (v := (2 : Int32)) C dX10_lookAt_237 (by decide) ?_
      refine g_icmp_ne (tgt := 274) C dX10_lookAt_238 (by decide) (fun hc => ?_) (fun hc => ?_)
      · have hf := iteF hf hc
        refine g_sub (lv' := [some (.ref (E.2.1 + l0)), none, none, none, none]) ⟨rfl, trivial⟩ ?_
        exact l_Mo_lookAt_b274 C HR  hf
      · have hf := iteT hf hc
        refine g_aload_n C dX10_lookAt_241 rfl ?_
        refine g_bipush (v := (10 : Int32)) C dX10_lookAt_242 (by decide) ?_
        refine g_aload_n C dX10_lookAt_244 rfl ?_
        obtain ⟨x3, hx3, hg, hf⟩ := gI_ok hf
        refine e_getI C fl_Mo_221 dX10_lookAt_245 hx3 hg ?_
        refine g_imul C dX10_lookAt_248 ?_
        refine g_aload_n C dX10_lookAt_249 rfl ?_
        obtain ⟨x4, hg, hf⟩ := gR_ok hf
        refine g_getR C fl_Mo_48 dX10_lookAt_250 hg ?_
        refine g_aload_n C dX10_lookAt_253 rfl ?_
        obtain ⟨x5, hx5, hg, hf⟩ := gI_ok hf
        refine e_getI C fl_Mo_212 dX10_lookAt_254 hx5 hg ?_
        refine g_iload C dX10_lookAt_257 rfl ?_
        refine g_iadd C dX10_lookAt_259 ?_
        obtain ⟨x6, hx6, hg, hf⟩ := aI_ok hf
        refine e_iald C dX10_lookAt_260 hx6 hg ?_
        refine g_iadd C dX10_lookAt_261 ?_
        refine g_bipush (v := (48 : Int32)) C dX10_lookAt_262 (by decide) ?_
        refine g_isub C dX10_lookAt_264 ?_
        obtain ⟨G7, hG7, hg, hf⟩ := pI_ok hf
        refine e_putI C fl_Mo_221 dX10_lookAt_265 hG7 hg (Or.inl rfl) rfl rfl ?_
        refine g_iinc (v := (l4 + 1)) (lv' := [some (.ref (E.2.1 + l0)), none, none, none, some (.int (l4 + 1))]) C dX10_lookAt_268 (by decide) rfl rfl rfl ?_
        refine g_goto (tgt := 218) C dX10_lookAt_271 (by decide) ?_
        refine g_sub (lv' := [some (.ref (E.2.1 + l0)), none, none, none, some (.int (l4 + 1))]) ⟨rfl, ⟨rfl, trivial⟩⟩ ?_
        exact K218 hf
theorem l_Mo_lookAt_b218 {E : EE} {X : CT} (C : gCx E X cX10_lookAt "FavoursGoOffModel" none 2 45 0 0 false 5) {G' : Hp} (HR : gRet E X cX10_lookAt none 0 0 none G') : ∀ (nn : Nat) {G : Hp} {l0 : Nat} {l4 : Int32}, f_Mo_lookAt_b218 nn G l0 l4 = some G' → gV E X 0 0 G 218 [some (.ref (E.2.1 + l0)), none, none, none, some (.int l4)] []
  | 0, _, _, _, hf => by have h0 : (none : Option Hp) = some G' := hf; cases h0
  | nn + 1, _, _, _, hf => l_Mo_lookAt_b218k C HR (fun h => l_Mo_lookAt_b218 C HR nn h) hf
set_option maxRecDepth 20000 in
theorem l_Mo_lookAt_b215 {E : EE} {X : CT} {G : Hp} (C : gCx E X cX10_lookAt "FavoursGoOffModel" none 2 45 0 0 false 5) {G' : Hp} (HR : gRet E X cX10_lookAt none 0 0 none G') {l0 : Nat} (hf : f_Mo_lookAt_b215 G l0 = some G') : gV E X 0 0 G 215 [some (.ref (E.2.1 + l0)), none, none, none, none] [] := by
  unfold f_Mo_lookAt_b215 at hf
  refine g_iconst (v := (0 : Int32)) C dX10_lookAt_215 (by decide) ?_
  refine g_istore (lv' := [some (.ref (E.2.1 + l0)), none, none, none, some (.int (0 : Int32))]) C dX10_lookAt_216 (by decide) rfl ?_
  refine g_sub (lv' := [some (.ref (E.2.1 + l0)), none, none, none, some (.int (0 : Int32))]) ⟨rfl, ⟨rfl, trivial⟩⟩ ?_
  exact l_Mo_lookAt_b218 C HR  FU hf
set_option maxRecDepth 20000 in
theorem l_Mo_lookAt_b136k {E : EE} {X : CT} {G : Hp} (C : gCx E X cX10_lookAt "FavoursGoOffModel" none 2 45 0 0 false 5) {G' : Hp} (HR : gRet E X cX10_lookAt none 0 0 none G') {k136 : Hp → Nat → Int32 → Option Hp} (K136 : ∀ {G : Hp} {l0 : Nat} {l3 : Int32}, k136 G l0 l3 = some G' → gV E X 0 0 G 136 [some (.ref (E.2.1 + l0)), none, none, some (.int l3), none] []) {l0 : Nat} {l3 : Int32} (hf : f_Mo_lookAt_b136_k k136 G l0 l3 = some G') : gV E X 0 0 G 136 [some (.ref (E.2.1 + l0)), none, none, some (.int l3), none] [] := by
  unfold f_Mo_lookAt_b136_k at hf
  refine g_iload_n C dX10_lookAt_136 rfl ?_
  refine g_if_eq (tgt := 215) C dX10_lookAt_137 (by decide) (fun hc => ?_) (fun hc => ?_)
  · have hf := iteT hf hc
    refine g_sub (lv' := [some (.ref (E.2.1 + l0)), none, none, none, none]) ⟨rfl, trivial⟩ ?_
    exact l_Mo_lookAt_b215 C HR  hf
  · have hf := iteF hf hc
    refine g_aload_n C dX10_lookAt_140 rfl ?_
    obtain ⟨x1, hx1, hg, hf⟩ := gI_ok hf
    refine e_getI C fl_Mo_212 dX10_lookAt_141 hx1 hg ?_
    refine g_aload_n C dX10_lookAt_144 rfl ?_
    obtain ⟨x2, hx2, hg, hf⟩ := gI_ok hf
    refine e_getI C fl_Mo_215 dX10_lookAt_145 hx2 hg ?_
    refine g_iadd C dX10_lookAt_148 ?_
    refine g_aload_n C dX10_lookAt_149 rfl ?_
    obtain ⟨x3, hx3, hg, hf⟩ := gI_ok hf
    refine e_getI C fl_Mo_199 dX10_lookAt_150 hx3 hg ?_
    refine g_icmp_ge (tgt := 215) C dX10_lookAt_153 (by decide) (fun hc => ?_) (fun hc => ?_)
    · have hf := iteT hf hc
      refine g_sub (lv' := [some (.ref (E.2.1 + l0)), none, none, none, none]) ⟨rfl, trivial⟩ ?_
      exact l_Mo_lookAt_b215 C HR  hf
    · have hf := iteF hf hc
      refine g_aload_n C dX10_lookAt_156 rfl ?_
      obtain ⟨x4, hg, hf⟩ := gR_ok hf
      refine g_getR C fl_Mo_48 dX10_lookAt_157 hg ?_
      refine g_aload_n C dX10_lookAt_160 rfl ?_
      obtain ⟨x5, hx5, hg, hf⟩ := gI_ok hf
      refine e_getI C fl_Mo_212 dX10_lookAt_161 hx5 hg ?_
      refine g_aload_n C dX10_lookAt_164 rfl ?_
      obtain ⟨x6, hx6, hg, hf⟩ := gI_ok hf
      refine e_getI C fl_Mo_215 dX10_lookAt_165 hx6 hg ?_
      refine g_iadd C dX10_lookAt_168 ?_
      obtain ⟨x7, hx7, hg, hf⟩ := aI_ok hf
      refine e_iald C dX10_lookAt_169 hx7 hg ?_
      refine g_istore (lv' := [some (.ref (E.2.1 + l0)), none, none, some (.int l3), some (.int x7)]) C dX10_lookAt_170 (by decide) rfl ?_
      refine g_aload_n C dX10_lookAt_172 rfl ?_
      obtain ⟨x8, hx8, hg, hf⟩ := gI_ok hf
      refine e_getI C fl_Mo_218 dX10_lookAt_173 hx8 hg ?_
      refine g_iconst (v := (1 : Int32)) C dX10_lookAt_176 (by decide) ?_
      refine g_icmp_ne (tgt := 188) C dX10_lookAt_177 (by decide) (fun hc => ?_) (fun hc => ?_)
      · have hf := iteF hf hc
        refine g_iload C dX10_lookAt_188 rfl ?_
        obtain ⟨x9, h1, hf⟩ := cP_ok hf
        refine g_invS (As := [.int x7]) (st := []) C (c_Mo_isFigure E h1) ml_Mo_227 cm_Mo_isFigure.1 cm_Mo_isFigure.2.1 cm_Mo_isFigure.2.2.1 cm_Mo_isFigure.2.2.2 rfl ⟨by omega, by omega, by omega, by omega⟩ (by exact Nat.le_of_ble_eq_true rfl) rfl dX10_lookAt_190 ?_
        refine g_sub (lv' := [some (.ref (E.2.1 + l0)), none, none, none, none]) ⟨rfl, trivial⟩ ?_
        exact l_Mo_lookAt_b193 C HR K136 hf
      · have hf := iteT hf hc
        refine g_iload C dX10_lookAt_180 rfl ?_
        obtain ⟨x10, h1, hf⟩ := cP_ok hf
        refine g_invS (As := [.int x7]) (st := []) C (c_Mo_isSmall E h1) ml_Mo_224 cm_Mo_isSmall.1 cm_Mo_isSmall.2.1 cm_Mo_isSmall.2.2.1 cm_Mo_isSmall.2.2.2 rfl ⟨by omega, by omega, by omega, by omega⟩ (by exact Nat.le_of_ble_eq_true rfl) rfl dX10_lookAt_182 ?_
        refine g_goto (tgt := 193) C dX10_lookAt_185 (by decide) ?_
        refine g_sub (lv' := [some (.ref (E.2.1 + l0)), none, none, none, none]) ⟨rfl, trivial⟩ ?_
        exact l_Mo_lookAt_b193 C HR K136 hf
theorem l_Mo_lookAt_b136 {E : EE} {X : CT} (C : gCx E X cX10_lookAt "FavoursGoOffModel" none 2 45 0 0 false 5) {G' : Hp} (HR : gRet E X cX10_lookAt none 0 0 none G') : ∀ (nn : Nat) {G : Hp} {l0 : Nat} {l3 : Int32}, f_Mo_lookAt_b136 nn G l0 l3 = some G' → gV E X 0 0 G 136 [some (.ref (E.2.1 + l0)), none, none, some (.int l3), none] []
  | 0, _, _, _, hf => by have h0 : (none : Option Hp) = some G' := hf; cases h0
  | nn + 1, _, _, _, hf => l_Mo_lookAt_b136k C HR (fun h => l_Mo_lookAt_b136 C HR nn h) hf
set_option maxRecDepth 20000 in
theorem l_Mo_lookAt_b135 {E : EE} {X : CT} {G : Hp} (C : gCx E X cX10_lookAt "FavoursGoOffModel" none 2 45 0 0 false 5) {G' : Hp} (HR : gRet E X cX10_lookAt none 0 0 none G') {l0 : Nat} {s0 : Int32} (hf : f_Mo_lookAt_b135 G l0 s0 = some G') : gV E X 0 0 G 135 [some (.ref (E.2.1 + l0)), none, none, none, none] [.int s0] := by
  unfold f_Mo_lookAt_b135 at hf
  refine g_istore_n (lv' := [some (.ref (E.2.1 + l0)), none, none, some (.int s0), none]) C dX10_lookAt_135 (by decide) rfl ?_
  refine g_sub (lv' := [some (.ref (E.2.1 + l0)), none, none, some (.int s0), none]) ⟨rfl, ⟨rfl, trivial⟩⟩ ?_
  exact l_Mo_lookAt_b136 C HR  FU hf
set_option maxRecDepth 20000 in
theorem l_Mo_lookAt_b114 {E : EE} {X : CT} {G : Hp} (C : gCx E X cX10_lookAt "FavoursGoOffModel" none 2 45 0 0 false 5) {G' : Hp} (HR : gRet E X cX10_lookAt none 0 0 none G') {l0 : Nat} {s0 : Nat} {s1 : Int32} (hf : f_Mo_lookAt_b114 G l0 s0 s1 = some G') : gV E X 0 0 G 114 [some (.ref (E.2.1 + l0)), none, none, none, none] [.int s1, .ref (E.2.1 + s0)] := by
  unfold f_Mo_lookAt_b114 at hf
  obtain ⟨G1, hG1, hg, hf⟩ := pI_ok hf
  refine e_putI C fl_Mo_218 dX10_lookAt_114 hG1 hg (Or.inl rfl) rfl rfl ?_
  refine g_aload_n C dX10_lookAt_117 rfl ?_
  refine g_iconst (v := (1 : Int32)) C dX10_lookAt_118 (by decide) ?_
  obtain ⟨G2, hG2, hg, hf⟩ := pI_ok hf
  refine e_putI C fl_Mo_215 dX10_lookAt_119 hG2 hg (Or.inl rfl) rfl rfl ?_
  refine g_aload_n C dX10_lookAt_122 rfl ?_
  obtain ⟨x3, hx3, hg, hf⟩ := gI_ok hf
  refine e_getI C fl_Mo_218 dX10_lookAt_123 hx3 hg ?_
  refine g_iconst (v := (3 : Int32)) C dX10_lookAt_126 (by decide) ?_
  refine g_icmp_ge (tgt := 134) C dX10_lookAt_127 (by decide) (fun hc => ?_) (fun hc => ?_)
  · have hf := iteT hf hc
    refine g_iconst (v := (0 : Int32)) C dX10_lookAt_134 (by decide) ?_
    refine g_sub (lv' := [some (.ref (E.2.1 + l0)), none, none, none, none]) ⟨rfl, trivial⟩ ?_
    exact l_Mo_lookAt_b135 C HR  hf
  · have hf := iteF hf hc
    refine g_iconst (v := (1 : Int32)) C dX10_lookAt_130 (by decide) ?_
    refine g_goto (tgt := 135) C dX10_lookAt_131 (by decide) ?_
    refine g_sub (lv' := [some (.ref (E.2.1 + l0)), none, none, none, none]) ⟨rfl, trivial⟩ ?_
    exact l_Mo_lookAt_b135 C HR  hf
set_option maxRecDepth 20000 in
theorem l_Mo_lookAt_b43 {E : EE} {X : CT} {G : Hp} (C : gCx E X cX10_lookAt "FavoursGoOffModel" none 2 45 0 0 false 5) {G' : Hp} (HR : gRet E X cX10_lookAt none 0 0 none G') {l0 : Nat} (hf : f_Mo_lookAt_b43 G l0 = some G') : gV E X 0 0 G 43 [some (.ref (E.2.1 + l0)), none, none, none, none] [] := by
  unfold f_Mo_lookAt_b43 at hf
  refine g_aload_n C dX10_lookAt_43 rfl ?_
  refine g_iconst (v := (0 : Int32)) C dX10_lookAt_44 (by decide) ?_
  obtain ⟨G1, hG1, hg, hf⟩ := pI_ok hf
  refine e_putI C fl_Mo_215 dX10_lookAt_45 hG1 hg (Or.inl rfl) rfl rfl ?_
  refine g_aload_n C dX10_lookAt_48 rfl ?_
  refine g_iconst (v := (0 : Int32)) C dX10_lookAt_49 (by decide) ?_
  obtain ⟨G2, hG2, hg, hf⟩ := pI_ok hf
  refine e_putI C fl_Mo_218 dX10_lookAt_50 hG2 hg (Or.inl rfl) rfl rfl ?_
  refine g_aload_n C dX10_lookAt_53 rfl ?_
  refine g_iconst (v := (0 : Int32)) C dX10_lookAt_54 (by decide) ?_
  obtain ⟨G3, hG3, hg, hf⟩ := pI_ok hf
  refine e_putI C fl_Mo_221 dX10_lookAt_55 hG3 hg (Or.inl rfl) rfl rfl ?_
  refine g_aload_n C dX10_lookAt_58 rfl ?_
  obtain ⟨x4, hx4, hg, hf⟩ := gI_ok hf
  refine e_getI C fl_Mo_212 dX10_lookAt_59 hx4 hg ?_
  refine g_aload_n C dX10_lookAt_62 rfl ?_
  obtain ⟨x5, hx5, hg, hf⟩ := gI_ok hf
  refine e_getI C fl_Mo_199 dX10_lookAt_63 hx5 hg ?_
  refine g_icmp_ne (tgt := 70) C dX10_lookAt_66 (by decide) (fun hc => ?_) (fun hc => ?_)
  · have hf := iteF hf hc
    refine g_aload_n C dX10_lookAt_70 rfl ?_
    obtain ⟨x6, hg, hf⟩ := gR_ok hf
    refine g_getR C fl_Mo_48 dX10_lookAt_71 hg ?_
    refine g_aload_n C dX10_lookAt_74 rfl ?_
    obtain ⟨x7, hx7, hg, hf⟩ := gI_ok hf
    refine e_getI C fl_Mo_212 dX10_lookAt_75 hx7 hg ?_
    obtain ⟨x8, hx8, hg, hf⟩ := aI_ok hf
    refine e_iald C dX10_lookAt_78 hx8 hg ?_
    refine g_istore_n (lv' := [some (.ref (E.2.1 + l0)), none, some (.int x8), none, none]) C dX10_lookAt_79 (by decide) rfl ?_
    refine g_aload_n C dX10_lookAt_80 rfl ?_
    refine g_iload_n C dX10_lookAt_81 rfl ?_
    obtain ⟨x9, h1, hf⟩ := cP_ok hf
    refine g_invS (As := [.int x8]) (st := [.ref (E.2.1 + l0)]) C (c_Mo_isSmall E h1) ml_Mo_224 cm_Mo_isSmall.1 cm_Mo_isSmall.2.1 cm_Mo_isSmall.2.2.1 cm_Mo_isSmall.2.2.2 rfl ⟨by omega, by omega, by omega, by omega⟩ (by exact Nat.le_of_ble_eq_true rfl) rfl dX10_lookAt_82 ?_
    refine g_if_eq (tgt := 92) C dX10_lookAt_85 (by decide) (fun hc => ?_) (fun hc => ?_)
    · have hf := iteT hf hc
      refine g_iload_n C dX10_lookAt_92 rfl ?_
      obtain ⟨x10, h1, hf⟩ := cP_ok hf
      refine g_invS (As := [.int x8]) (st := [.ref (E.2.1 + l0)]) C (c_Mo_isFigure E h1) ml_Mo_227 cm_Mo_isFigure.1 cm_Mo_isFigure.2.1 cm_Mo_isFigure.2.2.1 cm_Mo_isFigure.2.2.2 rfl ⟨by omega, by omega, by omega, by omega⟩ (by exact Nat.le_of_ble_eq_true rfl) rfl dX10_lookAt_93 ?_
      refine g_if_eq (tgt := 103) C dX10_lookAt_96 (by decide) (fun hc => ?_) (fun hc => ?_)
      · have hf := iteT hf hc
        refine g_iload_n C dX10_lookAt_103 rfl ?_
        refine g_bipush (v := (59 : Int32)) C dX10_lookAt_104 (by decide) ?_
        refine g_icmp_ne (tgt := 113) C dX10_lookAt_106 (by decide) (fun hc => ?_) (fun hc => ?_)
        · have hf := iteF hf hc
          refine g_iconst (v := (4 : Int32)) C dX10_lookAt_113 (by decide) ?_
          refine g_sub (lv' := [some (.ref (E.2.1 + l0)), none, none, none, none]) ⟨rfl, trivial⟩ ?_
          exact l_Mo_lookAt_b114 C HR  hf
        · have hf := iteT hf hc
          refine g_iconst (v := (3 : Int32)) C dX10_lookAt_109 (by decide) ?_
          refine g_goto (tgt := 114) C dX10_lookAt_110 (by decide) ?_
          refine g_sub (lv' := [some (.ref (E.2.1 + l0)), none, none, none, none]) ⟨rfl, trivial⟩ ?_
          exact l_Mo_lookAt_b114 C HR  hf
      · have hf := iteF hf hc
        refine g_iconst (v := (2 : Int32)) C dX10_lookAt_99 (by decide) ?_
        refine g_goto (tgt := 114) C dX10_lookAt_100 (by decide) ?_
        refine g_sub (lv' := [some (.ref (E.2.1 + l0)), none, none, none, none]) ⟨rfl, trivial⟩ ?_
        exact l_Mo_lookAt_b114 C HR  hf
    · have hf := iteF hf hc
      refine g_iconst (v := (1 : Int32)) C dX10_lookAt_88 (by decide) ?_
      refine g_goto (tgt := 114) C dX10_lookAt_89 (by decide) ?_
      refine g_sub (lv' := [some (.ref (E.2.1 + l0)), none, none, none, none]) ⟨rfl, trivial⟩ ?_
      exact l_Mo_lookAt_b114 C HR  hf
  · have hf := iteT hf hc
    obtain rfl := rP_ok hf
    exact g_vret HR dX10_lookAt_69
set_option maxRecDepth 20000 in
theorem l_Mo_lookAt_b5k {E : EE} {X : CT} {G : Hp} (C : gCx E X cX10_lookAt "FavoursGoOffModel" none 2 45 0 0 false 5) {G' : Hp} (HR : gRet E X cX10_lookAt none 0 0 none G') {k5 : Hp → Nat → Option Hp} (K5 : ∀ {G : Hp} {l0 : Nat}, k5 G l0 = some G' → gV E X 0 0 G 5 [some (.ref (E.2.1 + l0)), none, none, none, none] []) {l0 : Nat} (hf : f_Mo_lookAt_b5_k k5 G l0 = some G') : gV E X 0 0 G 5 [some (.ref (E.2.1 + l0)), none, none, none, none] [] := by
  unfold f_Mo_lookAt_b5_k at hf
  refine g_aload_n C dX10_lookAt_5 rfl ?_
  obtain ⟨x1, hx1, hg, hf⟩ := gI_ok hf
  refine e_getI C fl_Mo_212 dX10_lookAt_6 hx1 hg ?_
  refine g_aload_n C dX10_lookAt_9 rfl ?_
  obtain ⟨x2, hx2, hg, hf⟩ := gI_ok hf
  refine e_getI C fl_Mo_199 dX10_lookAt_10 hx2 hg ?_
  refine g_icmp_ge (tgt := 43) C dX10_lookAt_13 (by decide) (fun hc => ?_) (fun hc => ?_)
  · have hf := iteT hf hc
    refine g_sub (lv' := [some (.ref (E.2.1 + l0)), none, none, none, none]) ⟨rfl, trivial⟩ ?_
    exact l_Mo_lookAt_b43 C HR  hf
  · have hf := iteF hf hc
    refine g_aload_n C dX10_lookAt_16 rfl ?_
    obtain ⟨x3, hg, hf⟩ := gR_ok hf
    refine g_getR C fl_Mo_48 dX10_lookAt_17 hg ?_
    refine g_aload_n C dX10_lookAt_20 rfl ?_
    obtain ⟨x4, hx4, hg, hf⟩ := gI_ok hf
    refine e_getI C fl_Mo_212 dX10_lookAt_21 hx4 hg ?_
    obtain ⟨x5, hx5, hg, hf⟩ := aI_ok hf
    refine e_iald C dX10_lookAt_24 hx5 hg ?_
    refine g_bipush (v := (32 : Int32)) C dX10_lookAt_25 (by decide) ?_
    refine g_icmp_ne (tgt := 43) C dX10_lookAt_27 (by decide) (fun hc => ?_) (fun hc => ?_)
    · have hf := iteF hf hc
      refine g_sub (lv' := [some (.ref (E.2.1 + l0)), none, none, none, none]) ⟨rfl, trivial⟩ ?_
      exact l_Mo_lookAt_b43 C HR  hf
    · have hf := iteT hf hc
      refine g_aload_n C dX10_lookAt_30 rfl ?_
      refine g_dup C dX10_lookAt_31 rfl ?_
      obtain ⟨x6, hx6, hg, hf⟩ := gI_ok hf
      refine e_getI C fl_Mo_212 dX10_lookAt_32 hx6 hg ?_
      refine g_iconst (v := (1 : Int32)) C dX10_lookAt_35 (by decide) ?_
      refine g_iadd C dX10_lookAt_36 ?_
      obtain ⟨G7, hG7, hg, hf⟩ := pI_ok hf
      refine e_putI C fl_Mo_212 dX10_lookAt_37 hG7 hg (Or.inl rfl) rfl rfl ?_
      refine g_goto (tgt := 5) C dX10_lookAt_40 (by decide) ?_
      refine g_sub (lv' := [some (.ref (E.2.1 + l0)), none, none, none, none]) ⟨rfl, trivial⟩ ?_
      exact K5 hf
theorem l_Mo_lookAt_b5 {E : EE} {X : CT} (C : gCx E X cX10_lookAt "FavoursGoOffModel" none 2 45 0 0 false 5) {G' : Hp} (HR : gRet E X cX10_lookAt none 0 0 none G') : ∀ (nn : Nat) {G : Hp} {l0 : Nat}, f_Mo_lookAt_b5 nn G l0 = some G' → gV E X 0 0 G 5 [some (.ref (E.2.1 + l0)), none, none, none, none] []
  | 0, _, _, hf => by have h0 : (none : Option Hp) = some G' := hf; cases h0
  | nn + 1, _, _, hf => l_Mo_lookAt_b5k C HR (fun h => l_Mo_lookAt_b5 C HR nn h) hf
set_option maxRecDepth 20000 in
theorem l_Mo_lookAt {E : EE} {X : CT} {G : Hp} (C : gCx E X cX10_lookAt "FavoursGoOffModel" none 2 45 0 0 false 5) {G' : Hp} (HR : gRet E X cX10_lookAt none 0 0 none G') {l0 : Nat} {l1 : Int32} (hf : f_Mo_lookAt G l0 l1 = some G') : gV E X 0 0 G 0 [some (.ref (E.2.1 + l0)), some (.int l1), none, none, none] [] := by
  unfold f_Mo_lookAt at hf
  refine g_aload_n C dX10_lookAt_0 rfl ?_
  refine g_iload_n C dX10_lookAt_1 rfl ?_
  obtain ⟨G1, hG1, hg, hf⟩ := pI_ok hf
  refine e_putI C fl_Mo_212 dX10_lookAt_2 hG1 hg (Or.inl rfl) rfl rfl ?_
  refine g_sub (lv' := [some (.ref (E.2.1 + l0)), none, none, none, none]) ⟨rfl, trivial⟩ ?_
  exact l_Mo_lookAt_b5 C HR  FU hf
theorem c_Mo_lookAt (E : EE) {G : Hp} {l0 : Nat} {l1 : Int32} {G' : Hp} (h : f_Mo_lookAt G l0 l1 = some G') : gCt E y_Mo_lookAt cX10_lookAt 5 none 2 45 0 0 [.ref (E.2.1 + l0), .int l1] G none G' := gCt_of (own := "FavoursGoOffModel") (ini := false) [some (.ref (E.2.1 + l0)), some (.int l1), none, none, none] (by decide +kernel) rfl (fun h => by cases h) (Nat.le_of_ble_eq_true rfl) ⟨rfl, ⟨rfl, trivial⟩⟩ (fun X C HR => l_Mo_lookAt C HR h)
set_option maxRecDepth 20000 in
theorem l_Mo_goOn {E : EE} {X : CT} {G : Hp} (C : gCx E X cX10_goOn "FavoursGoOffModel" none 3 69 0 0 false 1) {G' : Hp} (HR : gRet E X cX10_goOn none 0 0 none G') {l0 : Nat} (hf : f_Mo_goOn G l0 = some G') : gV E X 0 0 G 0 [some (.ref (E.2.1 + l0))] [] := by
  unfold f_Mo_goOn at hf
  refine g_aload_n C dX10_goOn_0 rfl ?_
  refine g_aload_n C dX10_goOn_1 rfl ?_
  obtain ⟨x1, hx1, hg, hf⟩ := gI_ok hf
  refine e_getI C fl_Mo_212 dX10_goOn_2 hx1 hg ?_
  refine g_aload_n C dX10_goOn_5 rfl ?_
  obtain ⟨x2, hx2, hg, hf⟩ := gI_ok hf
  refine e_getI C fl_Mo_215 dX10_goOn_6 hx2 hg ?_
  refine g_iadd C dX10_goOn_9 ?_
  obtain ⟨G3, hg, h1, hf⟩ := vP_ok hf
  refine g_invV (As := [.int (x1 + x2)]) (st := []) C (c_Mo_lookAt E h1) (rfl : vwCl[10]? = some (y_Mo_lookAt.cls, TX10, 24)) (by decide) hg ml_Mo_230 cm_Mo_lookAt.1 cm_Mo_lookAt.2.1 cm_Mo_lookAt.2.2.1 cm_Mo_lookAt.2.2.2.1 cm_Mo_lookAt.2.2.2.2 rfl ⟨by omega, by omega, by omega, by omega⟩ (by exact Nat.le_of_ble_eq_true rfl) rfl dX10_goOn_10 ?_
  obtain rfl := rP_ok hf
  exact g_vret HR dX10_goOn_13
theorem c_Mo_goOn (E : EE) {G : Hp} {l0 : Nat} {G' : Hp} (h : f_Mo_goOn G l0 = some G') : gCt E y_Mo_goOn cX10_goOn 1 none 3 69 0 0 [.ref (E.2.1 + l0)] G none G' := gCt_of (own := "FavoursGoOffModel") (ini := false) [some (.ref (E.2.1 + l0))] (by decide +kernel) rfl (fun h => by cases h) (Nat.le_of_ble_eq_true rfl) ⟨rfl, trivial⟩ (fun X C HR => l_Mo_goOn C HR h)
set_option maxRecDepth 20000 in
theorem l_Mo_isWord_b125 {E : EE} {X : CT} {G : Hp} (C : gCx E X cX10_isWord "FavoursGoOffModel" (some .boolean) 0 0 0 0 false 10) {r : Int32} (HR : gRet E X cX10_isWord (some .boolean) 0 0 (some (.int r)) G) {k40 : Nat → Int32 → Int32 → Int32 → Int32 → Int32 → Int32 → Int32 → Int32 → Int32 → Option Int32} (K40 : ∀ {l0 : Nat} {l1 : Int32} {l2 : Int32} {l3 : Int32} {l4 : Int32} {l5 : Int32} {l6 : Int32} {l7 : Int32} {l8 : Int32} {l9 : Int32}, k40 l0 l1 l2 l3 l4 l5 l6 l7 l8 l9 = some r → gV E X 0 0 G 40 [some (.ref (E.2.1 + l0)), some (.int l1), some (.int l2), some (.int l3), some (.int l4), some (.int l5), some (.int l6), some (.int l7), some (.int l8), some (.int l9)] []) {l0 : Nat} {l1 : Int32} {l2 : Int32} {l3 : Int32} {l4 : Int32} {l5 : Int32} {l6 : Int32} {l7 : Int32} {l9 : Int32} {s0 : Int32} (hf : f_Mo_isWord_b125 G k40 l0 l1 l2 l3 l4 l5 l6 l7 l9 s0 = some r) : gV E X 0 0 G 125 [some (.ref (E.2.1 + l0)), some (.int l1), some (.int l2), some (.int l3), some (.int l4), some (.int l5), some (.int l6), some (.int l7), none, some (.int l9)] [.int s0] := by
  unfold f_Mo_isWord_b125 at hf
  refine g_istore (lv' := [some (.ref (E.2.1 + l0)), some (.int l1), some (.int l2), some (.int l3), some (.int l4), some (.int l5), some (.int l6), some (.int l7), some (.int s0), some (.int l9)]) C dX10_isWord_125 (by decide) rfl ?_
  refine g_iinc (v := (l9 + 1)) (lv' := [some (.ref (E.2.1 + l0)), some (.int l1), some (.int l2), some (.int l3), some (.int l4), some (.int l5), some (.int l6), some (.int l7), some (.int s0), some (.int (l9 + 1))]) C dX10_isWord_127 (by decide) rfl rfl rfl ?_
  refine g_goto (tgt := 40) C dX10_isWord_130 (by decide) ?_
  refine g_sub (lv' := [some (.ref (E.2.1 + l0)), some (.int l1), some (.int l2), some (.int l3), some (.int l4), some (.int l5), some (.int l6), some (.int l7), some (.int s0), some (.int (l9 + 1))]) ⟨rfl, ⟨rfl, ⟨rfl, ⟨rfl, ⟨rfl, ⟨rfl, ⟨rfl, ⟨rfl, ⟨rfl, ⟨rfl, trivial⟩⟩⟩⟩⟩⟩⟩⟩⟩⟩ ?_
  exact K40 hf
set_option maxRecDepth 20000 in
theorem l_Mo_isWord_b117 {E : EE} {X : CT} {G : Hp} (C : gCx E X cX10_isWord "FavoursGoOffModel" (some .boolean) 0 0 0 0 false 10) {r : Int32} (HR : gRet E X cX10_isWord (some .boolean) 0 0 (some (.int r)) G) {k40 : Nat → Int32 → Int32 → Int32 → Int32 → Int32 → Int32 → Int32 → Int32 → Int32 → Option Int32} (K40 : ∀ {l0 : Nat} {l1 : Int32} {l2 : Int32} {l3 : Int32} {l4 : Int32} {l5 : Int32} {l6 : Int32} {l7 : Int32} {l8 : Int32} {l9 : Int32}, k40 l0 l1 l2 l3 l4 l5 l6 l7 l8 l9 = some r → gV E X 0 0 G 40 [some (.ref (E.2.1 + l0)), some (.int l1), some (.int l2), some (.int l3), some (.int l4), some (.int l5), some (.int l6), some (.int l7), some (.int l8), some (.int l9)] []) {l0 : Nat} {l1 : Int32} {l2 : Int32} {l3 : Int32} {l4 : Int32} {l5 : Int32} {l6 : Int32} {l7 : Int32} {l9 : Int32} {s0 : Int32} {s1 : Int32} (hf : f_Mo_isWord_b117 G k40 l0 l1 l2 l3 l4 l5 l6 l7 l9 s0 s1 = some r) : gV E X 0 0 G 117 [some (.ref (E.2.1 + l0)), some (.int l1), some (.int l2), some (.int l3), some (.int l4), some (.int l5), some (.int l6), some (.int l7), none, some (.int l9)] [.int s1, .int s0] := by
  unfold f_Mo_isWord_b117 at hf
  refine g_icmp_ne (tgt := 124) C dX10_isWord_117 (by decide) (fun hc => ?_) (fun hc => ?_)
  · have hf := iteF hf hc
    refine g_iconst (v := (0 : Int32)) C dX10_isWord_124 (by decide) ?_
    refine g_sub (lv' := [some (.ref (E.2.1 + l0)), some (.int l1), some (.int l2), some (.int l3), some (.int l4), some (.int l5), some (.int l6), some (.int l7), none, some (.int l9)]) ⟨rfl, ⟨rfl, ⟨rfl, ⟨rfl, ⟨rfl, ⟨rfl, ⟨rfl, ⟨rfl, ⟨rfl, trivial⟩⟩⟩⟩⟩⟩⟩⟩⟩ ?_
    exact l_Mo_isWord_b125 C HR K40 hf
  · have hf := iteT hf hc
    refine g_iconst (v := (1 : Int32)) C dX10_isWord_120 (by decide) ?_
    refine g_goto (tgt := 125) C dX10_isWord_121 (by decide) ?_
    refine g_sub (lv' := [some (.ref (E.2.1 + l0)), some (.int l1), some (.int l2), some (.int l3), some (.int l4), some (.int l5), some (.int l6), some (.int l7), none, some (.int l9)]) ⟨rfl, ⟨rfl, ⟨rfl, ⟨rfl, ⟨rfl, ⟨rfl, ⟨rfl, ⟨rfl, ⟨rfl, trivial⟩⟩⟩⟩⟩⟩⟩⟩⟩ ?_
    exact l_Mo_isWord_b125 C HR K40 hf
set_option maxRecDepth 20000 in
theorem l_Mo_isWord_b133 {E : EE} {X : CT} {G : Hp} (C : gCx E X cX10_isWord "FavoursGoOffModel" (some .boolean) 0 0 0 0 false 10) {r : Int32} (HR : gRet E X cX10_isWord (some .boolean) 0 0 (some (.int r)) G) {l8 : Int32} (hf : f_Mo_isWord_b133 G l8 = some r) : gV E X 0 0 G 133 [none, none, none, none, none, none, none, none, some (.int l8), none] [] := by
  unfold f_Mo_isWord_b133 at hf
  refine g_iload C dX10_isWord_133 rfl ?_
  obtain ⟨hv, hf⟩ := zR_ok hf
  obtain rfl := rP_ok hf
  exact g_zret HR hv dX10_isWord_135
set_option maxRecDepth 20000 in
theorem l_Mo_isWord_b40k {E : EE} {X : CT} {G : Hp} (C : gCx E X cX10_isWord "FavoursGoOffModel" (some .boolean) 0 0 0 0 false 10) {r : Int32} (HR : gRet E X cX10_isWord (some .boolean) 0 0 (some (.int r)) G) {k40 : Nat → Int32 → Int32 → Int32 → Int32 → Int32 → Int32 → Int32 → Int32 → Int32 → Option Int32} (K40 : ∀ {l0 : Nat} {l1 : Int32} {l2 : Int32} {l3 : Int32} {l4 : Int32} {l5 : Int32} {l6 : Int32} {l7 : Int32} {l8 : Int32} {l9 : Int32}, k40 l0 l1 l2 l3 l4 l5 l6 l7 l8 l9 = some r → gV E X 0 0 G 40 [some (.ref (E.2.1 + l0)), some (.int l1), some (.int l2), some (.int l3), some (.int l4), some (.int l5), some (.int l6), some (.int l7), some (.int l8), some (.int l9)] []) {l0 : Nat} {l1 : Int32} {l2 : Int32} {l3 : Int32} {l4 : Int32} {l5 : Int32} {l6 : Int32} {l7 : Int32} {l8 : Int32} {l9 : Int32} (hf : f_Mo_isWord_b40_k G k40 l0 l1 l2 l3 l4 l5 l6 l7 l8 l9 = some r) : gV E X 0 0 G 40 [some (.ref (E.2.1 + l0)), some (.int l1), some (.int l2), some (.int l3), some (.int l4), some (.int l5), some (.int l6), some (.int l7), some (.int l8), some (.int l9)] [] := by
  unfold f_Mo_isWord_b40_k at hf
  refine g_iload C dX10_isWord_40 rfl ?_
  refine g_iload C dX10_isWord_42 rfl ?_
  refine g_icmp_ge (tgt := 133) C dX10_isWord_44 (by decide) (fun hc => ?_) (fun hc => ?_)
  · have hf := iteT hf hc
    refine g_sub (lv' := [none, none, none, none, none, none, none, none, some (.int l8), none]) ⟨rfl, trivial⟩ ?_
    exact l_Mo_isWord_b133 C HR  hf
  · have hf := iteF hf hc
    refine g_iload C dX10_isWord_47 rfl ?_
    refine g_if_eq (tgt := 133) C dX10_isWord_49 (by decide) (fun hc => ?_) (fun hc => ?_)
    · have hf := iteT hf hc
      refine g_sub (lv' := [none, none, none, none, none, none, none, none, some (.int l8), none]) ⟨rfl, trivial⟩ ?_
      exact l_Mo_isWord_b133 C HR  hf
    · have hf := iteF hf hc
      refine g_aload_n C dX10_isWord_52 rfl ?_
      obtain ⟨x1, hg, hf⟩ := gR_ok hf
      refine g_getR C fl_Mo_48 dX10_isWord_53 hg ?_
      refine g_aload_n C dX10_isWord_56 rfl ?_
      obtain ⟨x2, hx2, hg, hf⟩ := gI_ok hf
      refine e_getI C fl_Mo_212 dX10_isWord_57 hx2 hg ?_
      refine g_iload C dX10_isWord_60 rfl ?_
      refine g_iadd C dX10_isWord_62 ?_
      obtain ⟨x3, hx3, hg, hf⟩ := aI_ok hf
      refine e_iald C dX10_isWord_63 hx3 hg ?_
      refine g_iload C dX10_isWord_64 rfl ?_
      refine g_if_ne (tgt := 73) C dX10_isWord_66 (by decide) (fun hc => ?_) (fun hc => ?_)
      · have hf := iteF hf hc
        refine g_iload C dX10_isWord_73 rfl ?_
        refine g_iconst (v := (1 : Int32)) C dX10_isWord_75 (by decide) ?_
        refine g_icmp_ne (tgt := 83) C dX10_isWord_76 (by decide) (fun hc => ?_) (fun hc => ?_)
        · have hf := iteF hf hc
          refine g_iload C dX10_isWord_83 rfl ?_
          refine g_iconst (v := (2 : Int32)) C dX10_isWord_85 (by decide) ?_
          refine g_icmp_ne (tgt := 93) C dX10_isWord_86 (by decide) (fun hc => ?_) (fun hc => ?_)
          · have hf := iteF hf hc
            refine g_iload C dX10_isWord_93 rfl ?_
            refine g_iconst (v := (3 : Int32)) C dX10_isWord_95 (by decide) ?_
            refine g_icmp_ne (tgt := 104) C dX10_isWord_96 (by decide) (fun hc => ?_) (fun hc => ?_)
            · have hf := iteF hf hc
              refine g_iload C dX10_isWord_104 rfl ?_
              refine g_iconst (v := (4 : Int32)) C dX10_isWord_106 (by decide) ?_
              refine g_icmp_ne (tgt := 115) C dX10_isWord_107 (by decide) (fun hc => ?_) (fun hc => ?_)
              · have hf := iteF hf hc
                refine g_iload C dX10_isWord_115 rfl ?_
                refine g_sub (lv' := [some (.ref (E.2.1 + l0)), some (.int l1), some (.int l2), some (.int l3), some (.int l4), some (.int l5), some (.int l6), some (.int l7), none, some (.int l9)]) ⟨rfl, ⟨rfl, ⟨rfl, ⟨rfl, ⟨rfl, ⟨rfl, ⟨rfl, ⟨rfl, ⟨rfl, trivial⟩⟩⟩⟩⟩⟩⟩⟩⟩ ?_
                exact l_Mo_isWord_b117 C HR K40 hf
              · have hf := iteT hf hc
                refine g_iload C dX10_isWord_110 rfl ?_
                refine g_goto (tgt := 117) C dX10_isWord_112 (by decide) ?_
                refine g_sub (lv' := [some (.ref (E.2.1 + l0)), some (.int l1), some (.int l2), some (.int l3), some (.int l4), some (.int l5), some (.int l6), some (.int l7), none, some (.int l9)]) ⟨rfl, ⟨rfl, ⟨rfl, ⟨rfl, ⟨rfl, ⟨rfl, ⟨rfl, ⟨rfl, ⟨rfl, trivial⟩⟩⟩⟩⟩⟩⟩⟩⟩ ?_
                exact l_Mo_isWord_b117 C HR K40 hf
            · have hf := iteT hf hc
              refine g_iload C dX10_isWord_99 rfl ?_
              refine g_goto (tgt := 117) C dX10_isWord_101 (by decide) ?_
              refine g_sub (lv' := [some (.ref (E.2.1 + l0)), some (.int l1), some (.int l2), some (.int l3), some (.int l4), some (.int l5), some (.int l6), some (.int l7), none, some (.int l9)]) ⟨rfl, ⟨rfl, ⟨rfl, ⟨rfl, ⟨rfl, ⟨rfl, ⟨rfl, ⟨rfl, ⟨rfl, trivial⟩⟩⟩⟩⟩⟩⟩⟩⟩ ?_
              exact l_Mo_isWord_b117 C HR K40 hf
          · have hf := iteT hf hc
            refine g_iload_n C dX10_isWord_89 rfl ?_
            refine g_goto (tgt := 117) C dX10_isWord_90 (by decide) ?_
            refine g_sub (lv' := [some (.ref (E.2.1 + l0)), some (.int l1), some (.int l2), some (.int l3), some (.int l4), some (.int l5), some (.int l6), some (.int l7), none, some (.int l9)]) ⟨rfl, ⟨rfl, ⟨rfl, ⟨rfl, ⟨rfl, ⟨rfl, ⟨rfl, ⟨rfl, ⟨rfl, trivial⟩⟩⟩⟩⟩⟩⟩⟩⟩ ?_
            exact l_Mo_isWord_b117 C HR K40 hf
        · have hf := iteT hf hc
          refine g_iload_n C dX10_isWord_79 rfl ?_
          refine g_goto (tgt := 117) C dX10_isWord_80 (by decide) ?_
          refine g_sub (lv' := [some (.ref (E.2.1 + l0)), some (.int l1), some (.int l2), some (.int l3), some (.int l4), some (.int l5), some (.int l6), some (.int l7), none, some (.int l9)]) ⟨rfl, ⟨rfl, ⟨rfl, ⟨rfl, ⟨rfl, ⟨rfl, ⟨rfl, ⟨rfl, ⟨rfl, trivial⟩⟩⟩⟩⟩⟩⟩⟩⟩ ?_
          exact l_Mo_isWord_b117 C HR K40 hf
      · have hf := iteT hf hc
        refine g_iload_n C dX10_isWord_69 rfl ?_
        refine g_goto (tgt := 117) C dX10_isWord_70 (by decide) ?_
        refine g_sub (lv' := [some (.ref (E.2.1 + l0)), some (.int l1), some (.int l2), some (.int l3), some (.int l4), some (.int l5), some (.int l6), some (.int l7), none, some (.int l9)]) ⟨rfl, ⟨rfl, ⟨rfl, ⟨rfl, ⟨rfl, ⟨rfl, ⟨rfl, ⟨rfl, ⟨rfl, trivial⟩⟩⟩⟩⟩⟩⟩⟩⟩ ?_
        exact l_Mo_isWord_b117 C HR K40 hf
theorem l_Mo_isWord_b40 {E : EE} {X : CT} {G : Hp} (C : gCx E X cX10_isWord "FavoursGoOffModel" (some .boolean) 0 0 0 0 false 10) {r : Int32} (HR : gRet E X cX10_isWord (some .boolean) 0 0 (some (.int r)) G) : ∀ (nn : Nat) {l0 : Nat} {l1 : Int32} {l2 : Int32} {l3 : Int32} {l4 : Int32} {l5 : Int32} {l6 : Int32} {l7 : Int32} {l8 : Int32} {l9 : Int32}, f_Mo_isWord_b40 G nn l0 l1 l2 l3 l4 l5 l6 l7 l8 l9 = some r → gV E X 0 0 G 40 [some (.ref (E.2.1 + l0)), some (.int l1), some (.int l2), some (.int l3), some (.int l4), some (.int l5), some (.int l6), some (.int l7), some (.int l8), some (.int l9)] []
  | 0, _, _, _, _, _, _, _, _, _, _, hf => by have h0 : (none : Option Int32) = some r := hf; cases h0
  | nn + 1, _, _, _, _, _, _, _, _, _, _, hf => l_Mo_isWord_b40k C HR (fun h => l_Mo_isWord_b40 C HR nn h) hf
set_option maxRecDepth 20000 in
theorem l_Mo_isWord_b35 {E : EE} {X : CT} {G : Hp} (C : gCx E X cX10_isWord "FavoursGoOffModel" (some .boolean) 0 0 0 0 false 10) {r : Int32} (HR : gRet E X cX10_isWord (some .boolean) 0 0 (some (.int r)) G) {l0 : Nat} {l1 : Int32} {l2 : Int32} {l3 : Int32} {l4 : Int32} {l5 : Int32} {l6 : Int32} {l7 : Int32} {s0 : Int32} (hf : f_Mo_isWord_b35 G l0 l1 l2 l3 l4 l5 l6 l7 s0 = some r) : gV E X 0 0 G 35 [some (.ref (E.2.1 + l0)), some (.int l1), some (.int l2), some (.int l3), some (.int l4), some (.int l5), some (.int l6), some (.int l7), none, none] [.int s0] := by
  unfold f_Mo_isWord_b35 at hf
  refine g_istore (lv' := [some (.ref (E.2.1 + l0)), some (.int l1), some (.int l2), some (.int l3), some (.int l4), some (.int l5), some (.int l6), some (.int l7), some (.int s0), none]) C dX10_isWord_35 (by decide) rfl ?_
  refine g_iconst (v := (0 : Int32)) C dX10_isWord_37 (by decide) ?_
  refine g_istore (lv' := [some (.ref (E.2.1 + l0)), some (.int l1), some (.int l2), some (.int l3), some (.int l4), some (.int l5), some (.int l6), some (.int l7), some (.int s0), some (.int (0 : Int32))]) C dX10_isWord_38 (by decide) rfl ?_
  refine g_sub (lv' := [some (.ref (E.2.1 + l0)), some (.int l1), some (.int l2), some (.int l3), some (.int l4), some (.int l5), some (.int l6), some (.int l7), some (.int s0), some (.int (0 : Int32))]) ⟨rfl, ⟨rfl, ⟨rfl, ⟨rfl, ⟨rfl, ⟨rfl, ⟨rfl, ⟨rfl, ⟨rfl, ⟨rfl, trivial⟩⟩⟩⟩⟩⟩⟩⟩⟩⟩ ?_
  exact l_Mo_isWord_b40 C HR  FU hf
set_option maxRecDepth 20000 in
theorem l_Mo_isWord_b34 {E : EE} {X : CT} {G : Hp} (C : gCx E X cX10_isWord "FavoursGoOffModel" (some .boolean) 0 0 0 0 false 10) {r : Int32} (HR : gRet E X cX10_isWord (some .boolean) 0 0 (some (.int r)) G) {l0 : Nat} {l1 : Int32} {l2 : Int32} {l3 : Int32} {l4 : Int32} {l5 : Int32} {l6 : Int32} {l7 : Int32} (hf : f_Mo_isWord_b34 G l0 l1 l2 l3 l4 l5 l6 l7 = some r) : gV E X 0 0 G 34 [some (.ref (E.2.1 + l0)), some (.int l1), some (.int l2), some (.int l3), some (.int l4), some (.int l5), some (.int l6), some (.int l7), none, none] [] := by
  unfold f_Mo_isWord_b34 at hf
  refine g_iconst (v := (0 : Int32)) C dX10_isWord_34 (by decide) ?_
  refine g_sub (lv' := [some (.ref (E.2.1 + l0)), some (.int l1), some (.int l2), some (.int l3), some (.int l4), some (.int l5), some (.int l6), some (.int l7), none, none]) ⟨rfl, ⟨rfl, ⟨rfl, ⟨rfl, ⟨rfl, ⟨rfl, ⟨rfl, ⟨rfl, trivial⟩⟩⟩⟩⟩⟩⟩⟩ ?_
  exact l_Mo_isWord_b35 C HR  hf
set_option maxRecDepth 20000 in
theorem l_Mo_isWord_b11 {E : EE} {X : CT} {G : Hp} (C : gCx E X cX10_isWord "FavoursGoOffModel" (some .boolean) 0 0 0 0 false 10) {r : Int32} (HR : gRet E X cX10_isWord (some .boolean) 0 0 (some (.int r)) G) {l0 : Nat} {l1 : Int32} {l2 : Int32} {l3 : Int32} {l4 : Int32} {l5 : Int32} {l6 : Int32} {s0 : Int32} (hf : f_Mo_isWord_b11 G l0 l1 l2 l3 l4 l5 l6 s0 = some r) : gV E X 0 0 G 11 [some (.ref (E.2.1 + l0)), some (.int l1), some (.int l2), some (.int l3), some (.int l4), some (.int l5), some (.int l6), none, none, none] [.int s0] := by
  unfold f_Mo_isWord_b11 at hf
  refine g_istore (lv' := [some (.ref (E.2.1 + l0)), some (.int l1), some (.int l2), some (.int l3), some (.int l4), some (.int l5), some (.int l6), some (.int s0), none, none]) C dX10_isWord_11 (by decide) rfl ?_
  refine g_aload_n C dX10_isWord_13 rfl ?_
  obtain ⟨x1, hx1, hg, hf⟩ := gI_ok hf
  refine e_getI C fl_Mo_218 dX10_isWord_14 hx1 hg ?_
  refine g_iconst (v := (1 : Int32)) C dX10_isWord_17 (by decide) ?_
  refine g_icmp_ne (tgt := 34) C dX10_isWord_18 (by decide) (fun hc => ?_) (fun hc => ?_)
  · have hf := iteF hf hc
    refine g_sub (lv' := [some (.ref (E.2.1 + l0)), some (.int l1), some (.int l2), some (.int l3), some (.int l4), some (.int l5), some (.int l6), some (.int s0), none, none]) ⟨rfl, ⟨rfl, ⟨rfl, ⟨rfl, ⟨rfl, ⟨rfl, ⟨rfl, ⟨rfl, trivial⟩⟩⟩⟩⟩⟩⟩⟩ ?_
    exact l_Mo_isWord_b34 C HR  hf
  · have hf := iteT hf hc
    refine g_aload_n C dX10_isWord_21 rfl ?_
    obtain ⟨x2, hx2, hg, hf⟩ := gI_ok hf
    refine e_getI C fl_Mo_215 dX10_isWord_22 hx2 hg ?_
    refine g_iload C dX10_isWord_25 rfl ?_
    refine g_icmp_ne (tgt := 34) C dX10_isWord_27 (by decide) (fun hc => ?_) (fun hc => ?_)
    · have hf := iteF hf hc
      refine g_sub (lv' := [some (.ref (E.2.1 + l0)), some (.int l1), some (.int l2), some (.int l3), some (.int l4), some (.int l5), some (.int l6), some (.int s0), none, none]) ⟨rfl, ⟨rfl, ⟨rfl, ⟨rfl, ⟨rfl, ⟨rfl, ⟨rfl, ⟨rfl, trivial⟩⟩⟩⟩⟩⟩⟩⟩ ?_
      exact l_Mo_isWord_b34 C HR  hf
    · have hf := iteT hf hc
      refine g_iconst (v := (1 : Int32)) C dX10_isWord_30 (by decide) ?_
      refine g_goto (tgt := 35) C dX10_isWord_31 (by decide) ?_
      refine g_sub (lv' := [some (.ref (E.2.1 + l0)), some (.int l1), some (.int l2), some (.int l3), some (.int l4), some (.int l5), some (.int l6), some (.int s0), none, none]) ⟨rfl, ⟨rfl, ⟨rfl, ⟨rfl, ⟨rfl, ⟨rfl, ⟨rfl, ⟨rfl, trivial⟩⟩⟩⟩⟩⟩⟩⟩ ?_
      exact l_Mo_isWord_b35 C HR  hf
set_option maxRecDepth 20000 in
theorem l_Mo_isWord {E : EE} {X : CT} {G : Hp} (C : gCx E X cX10_isWord "FavoursGoOffModel" (some .boolean) 0 0 0 0 false 10) {r : Int32} (HR : gRet E X cX10_isWord (some .boolean) 0 0 (some (.int r)) G) {l0 : Nat} {l1 : Int32} {l2 : Int32} {l3 : Int32} {l4 : Int32} {l5 : Int32} {l6 : Int32} (hf : f_Mo_isWord G l0 l1 l2 l3 l4 l5 l6 = some r) : gV E X 0 0 G 0 [some (.ref (E.2.1 + l0)), some (.int l1), some (.int l2), some (.int l3), some (.int l4), some (.int l5), some (.int l6), none, none, none] [] := by
  unfold f_Mo_isWord at hf
  refine g_iload C dX10_isWord_0 rfl ?_
  refine g_if_ne (tgt := 9) C dX10_isWord_2 (by decide) (fun hc => ?_) (fun hc => ?_)
  · have hf := iteF hf hc
    refine g_bipush (v := (6 : Int32)) C dX10_isWord_9 (by decide) ?_
    refine g_sub (lv' := [some (.ref (E.2.1 + l0)), some (.int l1), some (.int l2), some (.int l3), some (.int l4), some (.int l5), some (.int l6), none, none, none]) ⟨rfl, ⟨rfl, ⟨rfl, ⟨rfl, ⟨rfl, ⟨rfl, ⟨rfl, trivial⟩⟩⟩⟩⟩⟩⟩ ?_
    exact l_Mo_isWord_b11 C HR  hf
  · have hf := iteT hf hc
    refine g_iconst (v := (4 : Int32)) C dX10_isWord_5 (by decide) ?_
    refine g_goto (tgt := 11) C dX10_isWord_6 (by decide) ?_
    refine g_sub (lv' := [some (.ref (E.2.1 + l0)), some (.int l1), some (.int l2), some (.int l3), some (.int l4), some (.int l5), some (.int l6), none, none, none]) ⟨rfl, ⟨rfl, ⟨rfl, ⟨rfl, ⟨rfl, ⟨rfl, ⟨rfl, trivial⟩⟩⟩⟩⟩⟩⟩ ?_
    exact l_Mo_isWord_b11 C HR  hf
theorem c_Mo_isWord (E : EE) {G : Hp} {l0 : Nat} {l1 : Int32} {l2 : Int32} {l3 : Int32} {l4 : Int32} {l5 : Int32} {l6 : Int32} {r : Int32} (h : f_Mo_isWord G l0 l1 l2 l3 l4 l5 l6 = some r) : gCt E y_Mo_isWord cX10_isWord 10 (some .boolean) 0 0 0 0 [.ref (E.2.1 + l0), .int l1, .int l2, .int l3, .int l4, .int l5, .int l6] G (some (.int r)) G := gCt_of (own := "FavoursGoOffModel") (ini := false) [some (.ref (E.2.1 + l0)), some (.int l1), some (.int l2), some (.int l3), some (.int l4), some (.int l5), some (.int l6), none, none, none] (by decide +kernel) rfl (fun h => by cases h) (Nat.le_of_ble_eq_true rfl) ⟨rfl, ⟨rfl, ⟨rfl, ⟨rfl, ⟨rfl, ⟨rfl, ⟨rfl, trivial⟩⟩⟩⟩⟩⟩⟩ (fun X C HR => l_Mo_isWord C HR h)
