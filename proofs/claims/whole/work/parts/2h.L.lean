/-! ===== each method does as its function says ===== -/
set_option maxRecDepth 20000 in
theorem l_Mo_ask_b54 {E : EE} {X : CT} {G : Hp} (C : gCx E X cX10_ask "FavoursGoOffModel" (some .int) 3 69 0 0 false 4) {r : Int32} {G' : Hp} (HR : gRet E X cX10_ask (some .int) 0 0 (some (.int r)) G') {l0 : Nat} (hf : f_Mo_ask_b54 G l0 = some (r, G')) : gV E X 0 0 G 54 [some (.ref (E.2.1 + l0)), none, none, none] [] := by
  unfold f_Mo_ask_b54 at hf
  refine g_aload_n C dX10_ask_54 rfl ?_
  refine g_bipush (v := (-3 : Int32)) C dX10_ask_55 (by decide) ?_
  obtain ⟨x1, G2, hg, h1, hf⟩ := vH_ok hf
  refine g_invV (As := [.int (-3 : Int32)]) (st := []) C (c_Mo_no E h1) (rfl : vwCl[10]? = some (y_Mo_no.cls, TX10, 24)) (by decide) hg ml_Mo_128 cm_Mo_no.1 cm_Mo_no.2.1 cm_Mo_no.2.2.1 cm_Mo_no.2.2.2.1 cm_Mo_no.2.2.2.2 rfl ⟨by omega, by omega, by omega, by omega⟩ (by exact Nat.le_of_ble_eq_true rfl) rfl dX10_ask_57 ?_
  obtain ⟨rfl, rfl⟩ := rH_ok hf
  exact g_iret HR dX10_ask_60
set_option maxRecDepth 20000 in
theorem l_Mo_ask {E : EE} {X : CT} {G : Hp} (C : gCx E X cX10_ask "FavoursGoOffModel" (some .int) 3 69 0 0 false 4) {r : Int32} {G' : Hp} (HR : gRet E X cX10_ask (some .int) 0 0 (some (.int r)) G') {l0 : Nat} {l1 : Int32} (hf : f_Mo_ask G l0 l1 = some (r, G')) : gV E X 0 0 G 0 [some (.ref (E.2.1 + l0)), some (.int l1), none, none] [] := by
  unfold f_Mo_ask at hf
  refine g_aload_n C dX10_ask_0 rfl ?_
  refine g_iload_n C dX10_ask_1 rfl ?_
  obtain ⟨x1, hg, h1, hf⟩ := vP_ok hf
  refine g_invV (As := [.int l1]) (st := []) C (c_Mo_isFavour E h1) (rfl : vwCl[10]? = some (y_Mo_isFavour.cls, TX10, 24)) (by decide) hg ml_Mo_122 cm_Mo_isFavour.1 cm_Mo_isFavour.2.1 cm_Mo_isFavour.2.2.1 cm_Mo_isFavour.2.2.2.1 cm_Mo_isFavour.2.2.2.2 rfl ⟨by omega, by omega, by omega, by omega⟩ (by exact Nat.le_of_ble_eq_true rfl) rfl dX10_ask_2 ?_
  refine g_if_ne (tgt := 15) C dX10_ask_5 (by decide) (fun hc => ?_) (fun hc => ?_)
  · have hf := iteF hf hc
    refine g_aload_n C dX10_ask_15 rfl ?_
    refine g_iload_n C dX10_ask_16 rfl ?_
    obtain ⟨x2, hg, h1, hf⟩ := vP_ok hf
    refine g_invV (As := [.int l1]) (st := []) C (c_Mo_valueNow E h1) (rfl : vwCl[10]? = some (y_Mo_valueNow.cls, TX10, 24)) (by decide) hg ml_Mo_125 cm_Mo_valueNow.1 cm_Mo_valueNow.2.1 cm_Mo_valueNow.2.2.1 cm_Mo_valueNow.2.2.2.1 cm_Mo_valueNow.2.2.2.2 rfl ⟨by omega, by omega, by omega, by omega⟩ (by exact Nat.le_of_ble_eq_true rfl) rfl dX10_ask_17 ?_
    refine g_istore_n (lv' := [some (.ref (E.2.1 + l0)), some (.int l1), some (.int x2), none]) C dX10_ask_20 (by decide) rfl ?_
    refine g_aload_n C dX10_ask_21 rfl ?_
    refine g_iload_n C dX10_ask_22 rfl ?_
    refine g_iconst (v := (1 : Int32)) C dX10_ask_23 (by decide) ?_
    obtain ⟨x3, hg, h1, hf⟩ := vP_ok hf
    refine g_invV (As := [.int l1, .int (1 : Int32)]) (st := []) C (c_Mo_told0 E h1) (rfl : vwCl[10]? = some (y_Mo_told0.cls, TX10, 24)) (by decide) hg ml_Mo_112 cm_Mo_told0.1 cm_Mo_told0.2.1 cm_Mo_told0.2.2.1 cm_Mo_told0.2.2.2.1 cm_Mo_told0.2.2.2.2 rfl ⟨by omega, by omega, by omega, by omega⟩ (by exact Nat.le_of_ble_eq_true rfl) rfl dX10_ask_24 ?_
    refine g_istore_n (lv' := [some (.ref (E.2.1 + l0)), some (.int l1), some (.int x2), some (.int x3)]) C dX10_ask_27 (by decide) rfl ?_
    refine g_iload_n C dX10_ask_28 rfl ?_
    refine g_if_eq (tgt := 54) C dX10_ask_29 (by decide) (fun hc => ?_) (fun hc => ?_)
    · have hf := iteT hf hc
      refine g_sub (lv' := [some (.ref (E.2.1 + l0)), none, none, none]) ⟨rfl, trivial⟩ ?_
      exact l_Mo_ask_b54 C HR  hf
    · have hf := iteF hf hc
      refine g_aload_n C dX10_ask_32 rfl ?_
      obtain ⟨x4, hg, hf⟩ := gR_ok hf
      refine g_getR C fl_Mo_7 dX10_ask_33 hg ?_
      refine g_bipush (v := (8 : Int32)) C dX10_ask_36 (by decide) ?_
      refine g_iload_n C dX10_ask_38 rfl ?_
      refine g_iadd C dX10_ask_39 ?_
      obtain ⟨x5, hx5, hg, hf⟩ := aI_ok hf
      refine e_iald C dX10_ask_40 hx5 hg ?_
      refine g_iload_n C dX10_ask_41 rfl ?_
      refine g_iadd C dX10_ask_42 ?_
      refine g_aload_n C dX10_ask_43 rfl ?_
      obtain ⟨x6, hg, hf⟩ := gR_ok hf
      refine g_getR C fl_Mo_7 dX10_ask_44 hg ?_
      refine g_iconst (v := (2 : Int32)) C dX10_ask_47 (by decide) ?_
      refine g_iload_n C dX10_ask_48 rfl ?_
      refine g_iadd C dX10_ask_49 ?_
      obtain ⟨x7, hx7, hg, hf⟩ := aI_ok hf
      refine e_iald C dX10_ask_50 hx7 hg ?_
      refine g_icmp_le (tgt := 61) C dX10_ask_51 (by decide) (fun hc => ?_) (fun hc => ?_)
      · have hf := iteT hf hc
        refine g_aload_n C dX10_ask_61 rfl ?_
        obtain ⟨x8, hg, hf⟩ := gR_ok hf
        refine g_getR C fl_Mo_7 dX10_ask_62 hg ?_
        refine g_bipush (v := (8 : Int32)) C dX10_ask_65 (by decide) ?_
        refine g_iload_n C dX10_ask_67 rfl ?_
        refine g_iadd C dX10_ask_68 ?_
        refine g_dup2 C dX10_ask_69 rfl rfl ?_
        obtain ⟨x9, hx9, hg, hf⟩ := aI_ok hf
        refine e_iald C dX10_ask_70 hx9 hg ?_
        refine g_iload_n C dX10_ask_71 rfl ?_
        refine g_iadd C dX10_ask_72 ?_
        obtain ⟨G10, hG10, hg, hf⟩ := sI_ok hf
        refine e_iast C dX10_ask_73 hG10 hg ?_
        refine g_aload_n C dX10_ask_74 rfl ?_
        refine g_iload_n C dX10_ask_75 rfl ?_
        obtain ⟨G11, hg, h1, hf⟩ := vP_ok hf
        refine g_invV (As := [.int l1]) (st := []) C (c_Mo_lose E h1) (rfl : vwCl[10]? = some (y_Mo_lose.cls, TX10, 24)) (by decide) hg ml_Mo_131 cm_Mo_lose.1 cm_Mo_lose.2.1 cm_Mo_lose.2.2.1 cm_Mo_lose.2.2.2.1 cm_Mo_lose.2.2.2.2 rfl ⟨by omega, by omega, by omega, by omega⟩ (by exact Nat.le_of_ble_eq_true rfl) rfl dX10_ask_76 ?_
        refine g_iload_n C dX10_ask_79 rfl ?_
        obtain ⟨rfl, rfl⟩ := rH_ok hf
        exact g_iret HR dX10_ask_80
      · have hf := iteF hf hc
        refine g_sub (lv' := [some (.ref (E.2.1 + l0)), none, none, none]) ⟨rfl, trivial⟩ ?_
        exact l_Mo_ask_b54 C HR  hf
  · have hf := iteT hf hc
    refine g_aload_n C dX10_ask_8 rfl ?_
    refine g_bipush (v := (-2 : Int32)) C dX10_ask_9 (by decide) ?_
    obtain ⟨x12, G13, hg, h1, hf⟩ := vH_ok hf
    refine g_invV (As := [.int (-2 : Int32)]) (st := []) C (c_Mo_bad E h1) (rfl : vwCl[10]? = some (y_Mo_bad.cls, TX10, 24)) (by decide) hg ml_Mo_80 cm_Mo_bad.1 cm_Mo_bad.2.1 cm_Mo_bad.2.2.1 cm_Mo_bad.2.2.2.1 cm_Mo_bad.2.2.2.2 rfl ⟨by omega, by omega, by omega, by omega⟩ (by exact Nat.le_of_ble_eq_true rfl) rfl dX10_ask_11 ?_
    obtain ⟨rfl, rfl⟩ := rH_ok hf
    exact g_iret HR dX10_ask_14
theorem c_Mo_ask (E : EE) {G : Hp} {l0 : Nat} {l1 : Int32} {r : Int32} {G' : Hp} (h : f_Mo_ask G l0 l1 = some (r, G')) : gCt E y_Mo_ask cX10_ask 4 (some .int) 3 69 0 0 [.ref (E.2.1 + l0), .int l1] G (some (.int r)) G' := gCt_of (own := "FavoursGoOffModel") (ini := false) [some (.ref (E.2.1 + l0)), some (.int l1), none, none] (by decide +kernel) rfl (fun h => by cases h) (Nat.le_of_ble_eq_true rfl) ⟨rfl, ⟨rfl, trivial⟩⟩ (fun X C HR => l_Mo_ask C HR h)
set_option maxRecDepth 20000 in
theorem l_Mo_night_b140k {E : EE} {X : CT} {G : Hp} (C : gCx E X cX10_night "FavoursGoOffModel" (some .int) 1 21 0 0 false 2) {r : Int32} {G' : Hp} (HR : gRet E X cX10_night (some .int) 0 0 (some (.int r)) G') {k140 : Hp → Nat → Int32 → Option (Int32 × Hp)} (K140 : ∀ {G : Hp} {l0 : Nat} {l1 : Int32}, k140 G l0 l1 = some (r, G') → gV E X 0 0 G 140 [some (.ref (E.2.1 + l0)), some (.int l1)] []) {l0 : Nat} {l1 : Int32} (hf : f_Mo_night_b140_k k140 G l0 l1 = some (r, G')) : gV E X 0 0 G 140 [some (.ref (E.2.1 + l0)), some (.int l1)] [] := by
  unfold f_Mo_night_b140_k at hf
  refine g_iload_n C dX10_night_140 rfl ?_
  refine g_bipush (v := (6 : Int32)) C dX10_night_141 (by decide) ?_
  refine g_icmp_ge (tgt := 162) C dX10_night_143 (by decide) (fun hc => ?_) (fun hc => ?_)
  · have hf := iteT hf hc
    refine g_aload_n C dX10_night_162 rfl ?_
    obtain ⟨x1, hg, h1, hf⟩ := vP_ok hf
    refine g_invV (As := []) (st := []) C (c_Mo_day E h1) (rfl : vwCl[10]? = some (y_Mo_day.cls, TX10, 24)) (by decide) hg ml_Mo_101 cm_Mo_day.1 cm_Mo_day.2.1 cm_Mo_day.2.2.1 cm_Mo_day.2.2.2.1 cm_Mo_day.2.2.2.2 rfl ⟨by omega, by omega, by omega, by omega⟩ (by exact Nat.le_of_ble_eq_true rfl) rfl dX10_night_163 ?_
    obtain ⟨rfl, rfl⟩ := rH_ok hf
    exact g_iret HR dX10_night_166
  · have hf := iteF hf hc
    refine g_aload_n C dX10_night_146 rfl ?_
    obtain ⟨x2, hg, hf⟩ := gR_ok hf
    refine g_getR C fl_Mo_7 dX10_night_147 hg ?_
    refine g_bipush (v := (8 : Int32)) C dX10_night_150 (by decide) ?_
    refine g_iload_n C dX10_night_152 rfl ?_
    refine g_iadd C dX10_night_153 ?_
    refine g_iconst (v := (0 : Int32)) C dX10_night_154 (by decide) ?_
    obtain ⟨G3, hG3, hg, hf⟩ := sI_ok hf
    refine e_iast C dX10_night_155 hG3 hg ?_
    refine g_iinc (v := (l1 + 1)) (lv' := [some (.ref (E.2.1 + l0)), some (.int (l1 + 1))]) C dX10_night_156 (by decide) rfl rfl rfl ?_
    refine g_goto (tgt := 140) C dX10_night_159 (by decide) ?_
    refine g_sub (lv' := [some (.ref (E.2.1 + l0)), some (.int (l1 + 1))]) ⟨rfl, ⟨rfl, trivial⟩⟩ ?_
    exact K140 hf
theorem l_Mo_night_b140 {E : EE} {X : CT} (C : gCx E X cX10_night "FavoursGoOffModel" (some .int) 1 21 0 0 false 2) {r : Int32} {G' : Hp} (HR : gRet E X cX10_night (some .int) 0 0 (some (.int r)) G') : ∀ (nn : Nat) {G : Hp} {l0 : Nat} {l1 : Int32}, f_Mo_night_b140 nn G l0 l1 = some (r, G') → gV E X 0 0 G 140 [some (.ref (E.2.1 + l0)), some (.int l1)] []
  | 0, _, _, _, hf => by have h0 : (none : Option (Int32 × Hp)) = some (r, G') := hf; cases h0
  | nn + 1, _, _, _, hf => l_Mo_night_b140k C HR (fun h => l_Mo_night_b140 C HR nn h) hf
set_option maxRecDepth 20000 in
theorem l_Mo_night_b74k {E : EE} {X : CT} {G : Hp} (C : gCx E X cX10_night "FavoursGoOffModel" (some .int) 1 21 0 0 false 2) {r : Int32} {G' : Hp} (HR : gRet E X cX10_night (some .int) 0 0 (some (.int r)) G') {k74 : Hp → Nat → Int32 → Option (Int32 × Hp)} (K74 : ∀ {G : Hp} {l0 : Nat} {l1 : Int32}, k74 G l0 l1 = some (r, G') → gV E X 0 0 G 74 [some (.ref (E.2.1 + l0)), some (.int l1)] []) {l0 : Nat} {l1 : Int32} (hf : f_Mo_night_b74_k k74 G l0 l1 = some (r, G')) : gV E X 0 0 G 74 [some (.ref (E.2.1 + l0)), some (.int l1)] [] := by
  unfold f_Mo_night_b74_k at hf
  refine g_iload_n C dX10_night_74 rfl ?_
  refine g_sipush (v := (161 : Int32)) C dX10_night_75 (by decide) ?_
  refine g_icmp_ge (tgt := 116) C dX10_night_78 (by decide) (fun hc => ?_) (fun hc => ?_)
  · have hf := iteT hf hc
    refine g_aload_n C dX10_night_116 rfl ?_
    obtain ⟨x1, hg, hf⟩ := gR_ok hf
    refine g_getR C fl_Mo_7 dX10_night_117 hg ?_
    refine g_sipush (v := (161 : Int32)) C dX10_night_120 (by decide) ?_
    refine g_dup2 C dX10_night_123 rfl rfl ?_
    obtain ⟨x2, hx2, hg, hf⟩ := aI_ok hf
    refine e_iald C dX10_night_124 hx2 hg ?_
    refine g_iconst (v := (1 : Int32)) C dX10_night_125 (by decide) ?_
    refine g_iadd C dX10_night_126 ?_
    obtain ⟨G3, hG3, hg, hf⟩ := sI_ok hf
    refine e_iast C dX10_night_127 hG3 hg ?_
    refine g_aload_n C dX10_night_128 rfl ?_
    obtain ⟨x4, hg, hf⟩ := gR_ok hf
    refine g_getR C fl_Mo_7 dX10_night_129 hg ?_
    refine g_iconst (v := (0 : Int32)) C dX10_night_132 (by decide) ?_
    refine g_dup2 C dX10_night_133 rfl rfl ?_
    obtain ⟨x5, hx5, hg, hf⟩ := aI_ok hf
    refine e_iald C dX10_night_134 hx5 hg ?_
    refine g_iconst (v := (1 : Int32)) C dX10_night_135 (by decide) ?_
    refine g_iadd C dX10_night_136 ?_
    obtain ⟨G6, hG6, hg, hf⟩ := sI_ok hf
    refine e_iast C dX10_night_137 hG6 hg ?_
    refine g_iconst (v := (0 : Int32)) C dX10_night_138 (by decide) ?_
    refine g_istore_n (lv' := [some (.ref (E.2.1 + l0)), some (.int (0 : Int32))]) C dX10_night_139 (by decide) rfl ?_
    refine g_sub (lv' := [some (.ref (E.2.1 + l0)), some (.int (0 : Int32))]) ⟨rfl, ⟨rfl, trivial⟩⟩ ?_
    exact l_Mo_night_b140 C HR  FU hf
  · have hf := iteF hf hc
    refine g_aload_n C dX10_night_81 rfl ?_
    obtain ⟨x7, hg, hf⟩ := gR_ok hf
    refine g_getR C fl_Mo_7 dX10_night_82 hg ?_
    refine g_sipush (v := (162 : Int32)) C dX10_night_85 (by decide) ?_
    refine g_sipush (v := (161 : Int32)) C dX10_night_88 (by decide) ?_
    refine g_aload_n C dX10_night_91 rfl ?_
    obtain ⟨x8, hg, hf⟩ := gR_ok hf
    refine g_getR C fl_Mo_7 dX10_night_92 hg ?_
    refine g_sipush (v := (161 : Int32)) C dX10_night_95 (by decide) ?_
    obtain ⟨x9, hx9, hg, hf⟩ := aI_ok hf
    refine e_iald C dX10_night_98 hx9 hg ?_
    refine g_imul C dX10_night_99 ?_
    refine g_iadd C dX10_night_100 ?_
    refine g_iload_n C dX10_night_101 rfl ?_
    refine g_iadd C dX10_night_102 ?_
    refine g_aload_n C dX10_night_103 rfl ?_
    obtain ⟨x10, hg, hf⟩ := gR_ok hf
    refine g_getR C fl_Mo_7 dX10_night_104 hg ?_
    refine g_iload_n C dX10_night_107 rfl ?_
    obtain ⟨x11, hx11, hg, hf⟩ := aI_ok hf
    refine e_iald C dX10_night_108 hx11 hg ?_
    obtain ⟨G12, hG12, hg, hf⟩ := sI_ok hf
    refine e_iast C dX10_night_109 hG12 hg ?_
    refine g_iinc (v := (l1 + 1)) (lv' := [some (.ref (E.2.1 + l0)), some (.int (l1 + 1))]) C dX10_night_110 (by decide) rfl rfl rfl ?_
    refine g_goto (tgt := 74) C dX10_night_113 (by decide) ?_
    refine g_sub (lv' := [some (.ref (E.2.1 + l0)), some (.int (l1 + 1))]) ⟨rfl, ⟨rfl, trivial⟩⟩ ?_
    exact K74 hf
theorem l_Mo_night_b74 {E : EE} {X : CT} (C : gCx E X cX10_night "FavoursGoOffModel" (some .int) 1 21 0 0 false 2) {r : Int32} {G' : Hp} (HR : gRet E X cX10_night (some .int) 0 0 (some (.int r)) G') : ∀ (nn : Nat) {G : Hp} {l0 : Nat} {l1 : Int32}, f_Mo_night_b74 nn G l0 l1 = some (r, G') → gV E X 0 0 G 74 [some (.ref (E.2.1 + l0)), some (.int l1)] []
  | 0, _, _, _, hf => by have h0 : (none : Option (Int32 × Hp)) = some (r, G') := hf; cases h0
  | nn + 1, _, _, _, hf => l_Mo_night_b74k C HR (fun h => l_Mo_night_b74 C HR nn h) hf
set_option maxRecDepth 20000 in
theorem l_Mo_night_b72 {E : EE} {X : CT} {G : Hp} (C : gCx E X cX10_night "FavoursGoOffModel" (some .int) 1 21 0 0 false 2) {r : Int32} {G' : Hp} (HR : gRet E X cX10_night (some .int) 0 0 (some (.int r)) G') {l0 : Nat} (hf : f_Mo_night_b72 G l0 = some (r, G')) : gV E X 0 0 G 72 [some (.ref (E.2.1 + l0)), none] [] := by
  unfold f_Mo_night_b72 at hf
  refine g_iconst (v := (0 : Int32)) C dX10_night_72 (by decide) ?_
  refine g_istore_n (lv' := [some (.ref (E.2.1 + l0)), some (.int (0 : Int32))]) C dX10_night_73 (by decide) rfl ?_
  refine g_sub (lv' := [some (.ref (E.2.1 + l0)), some (.int (0 : Int32))]) ⟨rfl, ⟨rfl, trivial⟩⟩ ?_
  exact l_Mo_night_b74 C HR  FU hf
set_option maxRecDepth 20000 in
theorem l_Mo_night_b30k {E : EE} {X : CT} {G : Hp} (C : gCx E X cX10_night "FavoursGoOffModel" (some .int) 1 21 0 0 false 2) {r : Int32} {G' : Hp} (HR : gRet E X cX10_night (some .int) 0 0 (some (.int r)) G') {k30 : Hp → Nat → Int32 → Option (Int32 × Hp)} (K30 : ∀ {G : Hp} {l0 : Nat} {l1 : Int32}, k30 G l0 l1 = some (r, G') → gV E X 0 0 G 30 [some (.ref (E.2.1 + l0)), some (.int l1)] []) {l0 : Nat} {l1 : Int32} (hf : f_Mo_night_b30_k k30 G l0 l1 = some (r, G')) : gV E X 0 0 G 30 [some (.ref (E.2.1 + l0)), some (.int l1)] [] := by
  unfold f_Mo_night_b30_k at hf
  refine g_iload_n C dX10_night_30 rfl ?_
  refine g_sipush (v := (161 : Int32)) C dX10_night_31 (by decide) ?_
  refine g_icmp_ge (tgt := 63) C dX10_night_34 (by decide) (fun hc => ?_) (fun hc => ?_)
  · have hf := iteT hf hc
    refine g_aload_n C dX10_night_63 rfl ?_
    obtain ⟨x1, hg, hf⟩ := gR_ok hf
    refine g_getR C fl_Mo_7 dX10_night_64 hg ?_
    refine g_sipush (v := (161 : Int32)) C dX10_night_67 (by decide) ?_
    refine g_iconst (v := (1 : Int32)) C dX10_night_70 (by decide) ?_
    obtain ⟨G2, hG2, hg, hf⟩ := sI_ok hf
    refine e_iast C dX10_night_71 hG2 hg ?_
    refine g_sub (lv' := [some (.ref (E.2.1 + l0)), none]) ⟨rfl, trivial⟩ ?_
    exact l_Mo_night_b72 C HR  hf
  · have hf := iteF hf hc
    refine g_aload_n C dX10_night_37 rfl ?_
    obtain ⟨x3, hg, hf⟩ := gR_ok hf
    refine g_getR C fl_Mo_7 dX10_night_38 hg ?_
    refine g_sipush (v := (162 : Int32)) C dX10_night_41 (by decide) ?_
    refine g_iload_n C dX10_night_44 rfl ?_
    refine g_iadd C dX10_night_45 ?_
    refine g_aload_n C dX10_night_46 rfl ?_
    obtain ⟨x4, hg, hf⟩ := gR_ok hf
    refine g_getR C fl_Mo_7 dX10_night_47 hg ?_
    refine g_sipush (v := (323 : Int32)) C dX10_night_50 (by decide) ?_
    refine g_iload_n C dX10_night_53 rfl ?_
    refine g_iadd C dX10_night_54 ?_
    obtain ⟨x5, hx5, hg, hf⟩ := aI_ok hf
    refine e_iald C dX10_night_55 hx5 hg ?_
    obtain ⟨G6, hG6, hg, hf⟩ := sI_ok hf
    refine e_iast C dX10_night_56 hG6 hg ?_
    refine g_iinc (v := (l1 + 1)) (lv' := [some (.ref (E.2.1 + l0)), some (.int (l1 + 1))]) C dX10_night_57 (by decide) rfl rfl rfl ?_
    refine g_goto (tgt := 30) C dX10_night_60 (by decide) ?_
    refine g_sub (lv' := [some (.ref (E.2.1 + l0)), some (.int (l1 + 1))]) ⟨rfl, ⟨rfl, trivial⟩⟩ ?_
    exact K30 hf
theorem l_Mo_night_b30 {E : EE} {X : CT} (C : gCx E X cX10_night "FavoursGoOffModel" (some .int) 1 21 0 0 false 2) {r : Int32} {G' : Hp} (HR : gRet E X cX10_night (some .int) 0 0 (some (.int r)) G') : ∀ (nn : Nat) {G : Hp} {l0 : Nat} {l1 : Int32}, f_Mo_night_b30 nn G l0 l1 = some (r, G') → gV E X 0 0 G 30 [some (.ref (E.2.1 + l0)), some (.int l1)] []
  | 0, _, _, _, hf => by have h0 : (none : Option (Int32 × Hp)) = some (r, G') := hf; cases h0
  | nn + 1, _, _, _, hf => l_Mo_night_b30k C HR (fun h => l_Mo_night_b30 C HR nn h) hf
set_option maxRecDepth 20000 in
theorem l_Mo_night {E : EE} {X : CT} {G : Hp} (C : gCx E X cX10_night "FavoursGoOffModel" (some .int) 1 21 0 0 false 2) {r : Int32} {G' : Hp} (HR : gRet E X cX10_night (some .int) 0 0 (some (.int r)) G') {l0 : Nat} (hf : f_Mo_night G l0 = some (r, G')) : gV E X 0 0 G 0 [some (.ref (E.2.1 + l0)), none] [] := by
  unfold f_Mo_night at hf
  refine g_aload_n C dX10_night_0 rfl ?_
  obtain ⟨x1, hg, h1, hf⟩ := vP_ok hf
  refine g_invV (As := []) (st := []) C (c_Mo_day E h1) (rfl : vwCl[10]? = some (y_Mo_day.cls, TX10, 24)) (by decide) hg ml_Mo_101 cm_Mo_day.1 cm_Mo_day.2.1 cm_Mo_day.2.2.1 cm_Mo_day.2.2.2.1 cm_Mo_day.2.2.2.2 rfl ⟨by omega, by omega, by omega, by omega⟩ (by exact Nat.le_of_ble_eq_true rfl) rfl dX10_night_1 ?_
  refine g_bipush (v := (99 : Int32)) C dX10_night_4 (by decide) ?_
  refine g_icmp_ne (tgt := 16) C dX10_night_6 (by decide) (fun hc => ?_) (fun hc => ?_)
  · have hf := iteF hf hc
    refine g_aload_n C dX10_night_16 rfl ?_
    obtain ⟨x2, hg, hf⟩ := gR_ok hf
    refine g_getR C fl_Mo_7 dX10_night_17 hg ?_
    refine g_sipush (v := (161 : Int32)) C dX10_night_20 (by decide) ?_
    obtain ⟨x3, hx3, hg, hf⟩ := aI_ok hf
    refine e_iald C dX10_night_23 hx3 hg ?_
    refine g_iconst (v := (2 : Int32)) C dX10_night_24 (by decide) ?_
    refine g_icmp_ne (tgt := 72) C dX10_night_25 (by decide) (fun hc => ?_) (fun hc => ?_)
    · have hf := iteF hf hc
      refine g_sub (lv' := [some (.ref (E.2.1 + l0)), none]) ⟨rfl, trivial⟩ ?_
      exact l_Mo_night_b72 C HR  hf
    · have hf := iteT hf hc
      refine g_iconst (v := (0 : Int32)) C dX10_night_28 (by decide) ?_
      refine g_istore_n (lv' := [some (.ref (E.2.1 + l0)), some (.int (0 : Int32))]) C dX10_night_29 (by decide) rfl ?_
      refine g_sub (lv' := [some (.ref (E.2.1 + l0)), some (.int (0 : Int32))]) ⟨rfl, ⟨rfl, trivial⟩⟩ ?_
      exact l_Mo_night_b30 C HR  FU hf
  · have hf := iteT hf hc
    refine g_aload_n C dX10_night_9 rfl ?_
    refine g_bipush (v := (-3 : Int32)) C dX10_night_10 (by decide) ?_
    obtain ⟨x4, G5, hg, h1, hf⟩ := vH_ok hf
    refine g_invV (As := [.int (-3 : Int32)]) (st := []) C (c_Mo_no E h1) (rfl : vwCl[10]? = some (y_Mo_no.cls, TX10, 24)) (by decide) hg ml_Mo_128 cm_Mo_no.1 cm_Mo_no.2.1 cm_Mo_no.2.2.1 cm_Mo_no.2.2.2.1 cm_Mo_no.2.2.2.2 rfl ⟨by omega, by omega, by omega, by omega⟩ (by exact Nat.le_of_ble_eq_true rfl) rfl dX10_night_12 ?_
    obtain ⟨rfl, rfl⟩ := rH_ok hf
    exact g_iret HR dX10_night_15
theorem c_Mo_night (E : EE) {G : Hp} {l0 : Nat} {r : Int32} {G' : Hp} (h : f_Mo_night G l0 = some (r, G')) : gCt E y_Mo_night cX10_night 2 (some .int) 1 21 0 0 [.ref (E.2.1 + l0)] G (some (.int r)) G' := gCt_of (own := "FavoursGoOffModel") (ini := false) [some (.ref (E.2.1 + l0)), none] (by decide +kernel) rfl (fun h => by cases h) (Nat.le_of_ble_eq_true rfl) ⟨rfl, trivial⟩ (fun X C HR => l_Mo_night C HR h)
set_option maxRecDepth 20000 in
theorem l_Mo_undo_b32k {E : EE} {X : CT} {G : Hp} (C : gCx E X cX10_undo "FavoursGoOffModel" (some .int) 1 21 0 0 false 2) {r : Int32} {G' : Hp} (HR : gRet E X cX10_undo (some .int) 0 0 (some (.int r)) G') {k32 : Hp → Nat → Int32 → Option (Int32 × Hp)} (K32 : ∀ {G : Hp} {l0 : Nat} {l1 : Int32}, k32 G l0 l1 = some (r, G') → gV E X 0 0 G 32 [some (.ref (E.2.1 + l0)), some (.int l1)] []) {l0 : Nat} {l1 : Int32} (hf : f_Mo_undo_b32_k k32 G l0 l1 = some (r, G')) : gV E X 0 0 G 32 [some (.ref (E.2.1 + l0)), some (.int l1)] [] := by
  unfold f_Mo_undo_b32_k at hf
  refine g_iload_n C dX10_undo_32 rfl ?_
  refine g_sipush (v := (161 : Int32)) C dX10_undo_33 (by decide) ?_
  refine g_icmp_ge (tgt := 74) C dX10_undo_36 (by decide) (fun hc => ?_) (fun hc => ?_)
  · have hf := iteT hf hc
    refine g_iconst (v := (1 : Int32)) C dX10_undo_74 (by decide) ?_
    obtain ⟨rfl, rfl⟩ := rH_ok hf
    exact g_iret HR dX10_undo_75
  · have hf := iteF hf hc
    refine g_aload_n C dX10_undo_39 rfl ?_
    obtain ⟨x1, hg, hf⟩ := gR_ok hf
    refine g_getR C fl_Mo_7 dX10_undo_40 hg ?_
    refine g_iload_n C dX10_undo_43 rfl ?_
    refine g_aload_n C dX10_undo_44 rfl ?_
    obtain ⟨x2, hg, hf⟩ := gR_ok hf
    refine g_getR C fl_Mo_7 dX10_undo_45 hg ?_
    refine g_sipush (v := (162 : Int32)) C dX10_undo_48 (by decide) ?_
    refine g_sipush (v := (161 : Int32)) C dX10_undo_51 (by decide) ?_
    refine g_aload_n C dX10_undo_54 rfl ?_
    obtain ⟨x3, hg, hf⟩ := gR_ok hf
    refine g_getR C fl_Mo_7 dX10_undo_55 hg ?_
    refine g_sipush (v := (161 : Int32)) C dX10_undo_58 (by decide) ?_
    obtain ⟨x4, hx4, hg, hf⟩ := aI_ok hf
    refine e_iald C dX10_undo_61 hx4 hg ?_
    refine g_imul C dX10_undo_62 ?_
    refine g_iadd C dX10_undo_63 ?_
    refine g_iload_n C dX10_undo_64 rfl ?_
    refine g_iadd C dX10_undo_65 ?_
    obtain ⟨x5, hx5, hg, hf⟩ := aI_ok hf
    refine e_iald C dX10_undo_66 hx5 hg ?_
    obtain ⟨G6, hG6, hg, hf⟩ := sI_ok hf
    refine e_iast C dX10_undo_67 hG6 hg ?_
    refine g_iinc (v := (l1 + 1)) (lv' := [some (.ref (E.2.1 + l0)), some (.int (l1 + 1))]) C dX10_undo_68 (by decide) rfl rfl rfl ?_
    refine g_goto (tgt := 32) C dX10_undo_71 (by decide) ?_
    refine g_sub (lv' := [some (.ref (E.2.1 + l0)), some (.int (l1 + 1))]) ⟨rfl, ⟨rfl, trivial⟩⟩ ?_
    exact K32 hf
theorem l_Mo_undo_b32 {E : EE} {X : CT} (C : gCx E X cX10_undo "FavoursGoOffModel" (some .int) 1 21 0 0 false 2) {r : Int32} {G' : Hp} (HR : gRet E X cX10_undo (some .int) 0 0 (some (.int r)) G') : ∀ (nn : Nat) {G : Hp} {l0 : Nat} {l1 : Int32}, f_Mo_undo_b32 nn G l0 l1 = some (r, G') → gV E X 0 0 G 32 [some (.ref (E.2.1 + l0)), some (.int l1)] []
  | 0, _, _, _, hf => by have h0 : (none : Option (Int32 × Hp)) = some (r, G') := hf; cases h0
  | nn + 1, _, _, _, hf => l_Mo_undo_b32k C HR (fun h => l_Mo_undo_b32 C HR nn h) hf
set_option maxRecDepth 20000 in
theorem l_Mo_undo {E : EE} {X : CT} {G : Hp} (C : gCx E X cX10_undo "FavoursGoOffModel" (some .int) 1 21 0 0 false 2) {r : Int32} {G' : Hp} (HR : gRet E X cX10_undo (some .int) 0 0 (some (.int r)) G') {l0 : Nat} (hf : f_Mo_undo G l0 = some (r, G')) : gV E X 0 0 G 0 [some (.ref (E.2.1 + l0)), none] [] := by
  unfold f_Mo_undo at hf
  refine g_aload_n C dX10_undo_0 rfl ?_
  obtain ⟨x1, hg, hf⟩ := gR_ok hf
  refine g_getR C fl_Mo_7 dX10_undo_1 hg ?_
  refine g_sipush (v := (161 : Int32)) C dX10_undo_4 (by decide) ?_
  obtain ⟨x2, hx2, hg, hf⟩ := aI_ok hf
  refine e_iald C dX10_undo_7 hx2 hg ?_
  refine g_if_ne (tgt := 18) C dX10_undo_8 (by decide) (fun hc => ?_) (fun hc => ?_)
  · have hf := iteF hf hc
    refine g_aload_n C dX10_undo_18 rfl ?_
    obtain ⟨x3, hg, hf⟩ := gR_ok hf
    refine g_getR C fl_Mo_7 dX10_undo_19 hg ?_
    refine g_sipush (v := (161 : Int32)) C dX10_undo_22 (by decide) ?_
    refine g_dup2 C dX10_undo_25 rfl rfl ?_
    obtain ⟨x4, hx4, hg, hf⟩ := aI_ok hf
    refine e_iald C dX10_undo_26 hx4 hg ?_
    refine g_iconst (v := (1 : Int32)) C dX10_undo_27 (by decide) ?_
    refine g_isub C dX10_undo_28 ?_
    obtain ⟨G5, hG5, hg, hf⟩ := sI_ok hf
    refine e_iast C dX10_undo_29 hG5 hg ?_
    refine g_iconst (v := (0 : Int32)) C dX10_undo_30 (by decide) ?_
    refine g_istore_n (lv' := [some (.ref (E.2.1 + l0)), some (.int (0 : Int32))]) C dX10_undo_31 (by decide) rfl ?_
    refine g_sub (lv' := [some (.ref (E.2.1 + l0)), some (.int (0 : Int32))]) ⟨rfl, ⟨rfl, trivial⟩⟩ ?_
    exact l_Mo_undo_b32 C HR  FU hf
  · have hf := iteT hf hc
    refine g_aload_n C dX10_undo_11 rfl ?_
    refine g_bipush (v := (-3 : Int32)) C dX10_undo_12 (by decide) ?_
    obtain ⟨x6, G7, hg, h1, hf⟩ := vH_ok hf
    refine g_invV (As := [.int (-3 : Int32)]) (st := []) C (c_Mo_no E h1) (rfl : vwCl[10]? = some (y_Mo_no.cls, TX10, 24)) (by decide) hg ml_Mo_128 cm_Mo_no.1 cm_Mo_no.2.1 cm_Mo_no.2.2.1 cm_Mo_no.2.2.2.1 cm_Mo_no.2.2.2.2 rfl ⟨by omega, by omega, by omega, by omega⟩ (by exact Nat.le_of_ble_eq_true rfl) rfl dX10_undo_14 ?_
    obtain ⟨rfl, rfl⟩ := rH_ok hf
    exact g_iret HR dX10_undo_17
theorem c_Mo_undo (E : EE) {G : Hp} {l0 : Nat} {r : Int32} {G' : Hp} (h : f_Mo_undo G l0 = some (r, G')) : gCt E y_Mo_undo cX10_undo 2 (some .int) 1 21 0 0 [.ref (E.2.1 + l0)] G (some (.int r)) G' := gCt_of (own := "FavoursGoOffModel") (ini := false) [some (.ref (E.2.1 + l0)), none] (by decide +kernel) rfl (fun h => by cases h) (Nat.le_of_ble_eq_true rfl) ⟨rfl, trivial⟩ (fun X C HR => l_Mo_undo C HR h)
set_option maxRecDepth 20000 in
theorem l_Mo_owesTo_b51 {E : EE} {X : CT} {G : Hp} (C : gCx E X cX10_owesTo "FavoursGoOffModel" (some .int) 3 69 0 0 false 5) {r : Int32} (HR : gRet E X cX10_owesTo (some .int) 0 0 (some (.int r)) G) {k5 : Nat → Int32 → Int32 → Int32 → Int32 → Option Int32} (K5 : ∀ {l0 : Nat} {l1 : Int32} {l2 : Int32} {l3 : Int32} {l4 : Int32}, k5 l0 l1 l2 l3 l4 = some r → gV E X 0 0 G 5 [some (.ref (E.2.1 + l0)), some (.int l1), some (.int l2), some (.int l3), some (.int l4)] []) {l0 : Nat} {l1 : Int32} {l2 : Int32} {l4 : Int32} {s0 : Int32} {s1 : Int32} (hf : f_Mo_owesTo_b51 G k5 l0 l1 l2 l4 s0 s1 = some r) : gV E X 0 0 G 51 [some (.ref (E.2.1 + l0)), some (.int l1), some (.int l2), none, some (.int l4)] [.int s1, .int s0] := by
  unfold f_Mo_owesTo_b51 at hf
  refine g_iadd C dX10_owesTo_51 ?_
  obtain ⟨x1, hx1, hf⟩ := lt_ok hf
  refine e_top hx1 ?_
  refine g_istore_n (lv' := [some (.ref (E.2.1 + l0)), some (.int l1), some (.int l2), some (.int x1), some (.int l4)]) C dX10_owesTo_52 (by decide) rfl ?_
  refine g_iinc (v := (l4 + 1)) (lv' := [some (.ref (E.2.1 + l0)), some (.int l1), some (.int l2), some (.int x1), some (.int (l4 + 1))]) C dX10_owesTo_53 (by decide) rfl rfl rfl ?_
  refine g_goto (tgt := 5) C dX10_owesTo_56 (by decide) ?_
  refine g_sub (lv' := [some (.ref (E.2.1 + l0)), some (.int l1), some (.int l2), some (.int x1), some (.int (l4 + 1))]) ⟨rfl, ⟨rfl, ⟨rfl, ⟨rfl, ⟨rfl, trivial⟩⟩⟩⟩⟩ ?_
  exact K5 hf
set_option maxRecDepth 20000 in
theorem l_Mo_owesTo_b50 {E : EE} {X : CT} {G : Hp} (C : gCx E X cX10_owesTo "FavoursGoOffModel" (some .int) 3 69 0 0 false 5) {r : Int32} (HR : gRet E X cX10_owesTo (some .int) 0 0 (some (.int r)) G) {k5 : Nat → Int32 → Int32 → Int32 → Int32 → Option Int32} (K5 : ∀ {l0 : Nat} {l1 : Int32} {l2 : Int32} {l3 : Int32} {l4 : Int32}, k5 l0 l1 l2 l3 l4 = some r → gV E X 0 0 G 5 [some (.ref (E.2.1 + l0)), some (.int l1), some (.int l2), some (.int l3), some (.int l4)] []) {l0 : Nat} {l1 : Int32} {l2 : Int32} {l4 : Int32} {s0 : Int32} (hf : f_Mo_owesTo_b50 G k5 l0 l1 l2 l4 s0 = some r) : gV E X 0 0 G 50 [some (.ref (E.2.1 + l0)), some (.int l1), some (.int l2), none, some (.int l4)] [.int s0] := by
  unfold f_Mo_owesTo_b50 at hf
  refine g_iconst (v := (0 : Int32)) C dX10_owesTo_50 (by decide) ?_
  refine g_sub (lv' := [some (.ref (E.2.1 + l0)), some (.int l1), some (.int l2), none, some (.int l4)]) ⟨rfl, ⟨rfl, ⟨rfl, ⟨rfl, trivial⟩⟩⟩⟩ ?_
  exact l_Mo_owesTo_b51 C HR K5 hf
set_option maxRecDepth 20000 in
theorem l_Mo_owesTo_b5k {E : EE} {X : CT} {G : Hp} (C : gCx E X cX10_owesTo "FavoursGoOffModel" (some .int) 3 69 0 0 false 5) {r : Int32} (HR : gRet E X cX10_owesTo (some .int) 0 0 (some (.int r)) G) {k5 : Nat → Int32 → Int32 → Int32 → Int32 → Option Int32} (K5 : ∀ {l0 : Nat} {l1 : Int32} {l2 : Int32} {l3 : Int32} {l4 : Int32}, k5 l0 l1 l2 l3 l4 = some r → gV E X 0 0 G 5 [some (.ref (E.2.1 + l0)), some (.int l1), some (.int l2), some (.int l3), some (.int l4)] []) {l0 : Nat} {l1 : Int32} {l2 : Int32} {l3 : Int32} {l4 : Int32} (hf : f_Mo_owesTo_b5_k G k5 l0 l1 l2 l3 l4 = some r) : gV E X 0 0 G 5 [some (.ref (E.2.1 + l0)), some (.int l1), some (.int l2), some (.int l3), some (.int l4)] [] := by
  unfold f_Mo_owesTo_b5_k at hf
  refine g_iload C dX10_owesTo_5 rfl ?_
  refine g_aload_n C dX10_owesTo_7 rfl ?_
  obtain ⟨x1, hg, hf⟩ := gR_ok hf
  refine g_getR C fl_Mo_7 dX10_owesTo_8 hg ?_
  refine g_sipush (v := (158 : Int32)) C dX10_owesTo_11 (by decide) ?_
  obtain ⟨x2, hx2, hg, hf⟩ := aI_ok hf
  refine e_iald C dX10_owesTo_14 hx2 hg ?_
  refine g_icmp_ge (tgt := 59) C dX10_owesTo_15 (by decide) (fun hc => ?_) (fun hc => ?_)
  · have hf := iteT hf hc
    refine g_iload_n C dX10_owesTo_59 rfl ?_
    obtain rfl := rP_ok hf
    exact g_iret HR dX10_owesTo_60
  · have hf := iteF hf hc
    refine g_iload_n C dX10_owesTo_18 rfl ?_
    refine g_aload_n C dX10_owesTo_19 rfl ?_
    refine g_iload C dX10_owesTo_20 rfl ?_
    refine g_iconst (v := (1 : Int32)) C dX10_owesTo_22 (by decide) ?_
    obtain ⟨x3, hg, h1, hf⟩ := vP_ok hf
    refine g_invV (As := [.int l4, .int (1 : Int32)]) (st := [.int l3]) C (c_Mo_told0 E h1) (rfl : vwCl[10]? = some (y_Mo_told0.cls, TX10, 24)) (by decide) hg ml_Mo_112 cm_Mo_told0.1 cm_Mo_told0.2.1 cm_Mo_told0.2.2.1 cm_Mo_told0.2.2.2.1 cm_Mo_told0.2.2.2.2 rfl ⟨by omega, by omega, by omega, by omega⟩ (by exact Nat.le_of_ble_eq_true rfl) rfl dX10_owesTo_23 ?_
    refine g_iload_n C dX10_owesTo_26 rfl ?_
    refine g_icmp_ne (tgt := 50) C dX10_owesTo_27 (by decide) (fun hc => ?_) (fun hc => ?_)
    · have hf := iteF hf hc
      refine g_sub (lv' := [some (.ref (E.2.1 + l0)), some (.int l1), some (.int l2), none, some (.int l4)]) ⟨rfl, ⟨rfl, ⟨rfl, ⟨rfl, trivial⟩⟩⟩⟩ ?_
      exact l_Mo_owesTo_b50 C HR K5 hf
    · have hf := iteT hf hc
      refine g_aload_n C dX10_owesTo_30 rfl ?_
      refine g_iload C dX10_owesTo_31 rfl ?_
      refine g_iconst (v := (2 : Int32)) C dX10_owesTo_33 (by decide) ?_
      obtain ⟨x4, hg, h1, hf⟩ := vP_ok hf
      refine g_invV (As := [.int l4, .int (2 : Int32)]) (st := [.int l3]) C (c_Mo_told0 E h1) (rfl : vwCl[10]? = some (y_Mo_told0.cls, TX10, 24)) (by decide) hg ml_Mo_112 cm_Mo_told0.1 cm_Mo_told0.2.1 cm_Mo_told0.2.2.1 cm_Mo_told0.2.2.2.1 cm_Mo_told0.2.2.2.2 rfl ⟨by omega, by omega, by omega, by omega⟩ (by exact Nat.le_of_ble_eq_true rfl) rfl dX10_owesTo_34 ?_
      refine g_iload_n C dX10_owesTo_37 rfl ?_
      refine g_icmp_ne (tgt := 50) C dX10_owesTo_38 (by decide) (fun hc => ?_) (fun hc => ?_)
      · have hf := iteF hf hc
        refine g_sub (lv' := [some (.ref (E.2.1 + l0)), some (.int l1), some (.int l2), none, some (.int l4)]) ⟨rfl, ⟨rfl, ⟨rfl, ⟨rfl, trivial⟩⟩⟩⟩ ?_
        exact l_Mo_owesTo_b50 C HR K5 hf
      · have hf := iteT hf hc
        refine g_aload_n C dX10_owesTo_41 rfl ?_
        refine g_iload C dX10_owesTo_42 rfl ?_
        obtain ⟨x5, hg, h1, hf⟩ := vP_ok hf
        refine g_invV (As := [.int l4]) (st := [.int l3]) C (c_Mo_valueNow E h1) (rfl : vwCl[10]? = some (y_Mo_valueNow.cls, TX10, 24)) (by decide) hg ml_Mo_125 cm_Mo_valueNow.1 cm_Mo_valueNow.2.1 cm_Mo_valueNow.2.2.1 cm_Mo_valueNow.2.2.2.1 cm_Mo_valueNow.2.2.2.2 rfl ⟨by omega, by omega, by omega, by omega⟩ (by exact Nat.le_of_ble_eq_true rfl) rfl dX10_owesTo_44 ?_
        refine g_goto (tgt := 51) C dX10_owesTo_47 (by decide) ?_
        refine g_sub (lv' := [some (.ref (E.2.1 + l0)), some (.int l1), some (.int l2), none, some (.int l4)]) ⟨rfl, ⟨rfl, ⟨rfl, ⟨rfl, trivial⟩⟩⟩⟩ ?_
        exact l_Mo_owesTo_b51 C HR K5 hf
theorem l_Mo_owesTo_b5 {E : EE} {X : CT} {G : Hp} (C : gCx E X cX10_owesTo "FavoursGoOffModel" (some .int) 3 69 0 0 false 5) {r : Int32} (HR : gRet E X cX10_owesTo (some .int) 0 0 (some (.int r)) G) : ∀ (nn : Nat) {l0 : Nat} {l1 : Int32} {l2 : Int32} {l3 : Int32} {l4 : Int32}, f_Mo_owesTo_b5 G nn l0 l1 l2 l3 l4 = some r → gV E X 0 0 G 5 [some (.ref (E.2.1 + l0)), some (.int l1), some (.int l2), some (.int l3), some (.int l4)] []
  | 0, _, _, _, _, _, hf => by have h0 : (none : Option Int32) = some r := hf; cases h0
  | nn + 1, _, _, _, _, _, hf => l_Mo_owesTo_b5k C HR (fun h => l_Mo_owesTo_b5 C HR nn h) hf
set_option maxRecDepth 20000 in
theorem l_Mo_owesTo {E : EE} {X : CT} {G : Hp} (C : gCx E X cX10_owesTo "FavoursGoOffModel" (some .int) 3 69 0 0 false 5) {r : Int32} (HR : gRet E X cX10_owesTo (some .int) 0 0 (some (.int r)) G) {l0 : Nat} {l1 : Int32} {l2 : Int32} (hf : f_Mo_owesTo G l0 l1 l2 = some r) : gV E X 0 0 G 0 [some (.ref (E.2.1 + l0)), some (.int l1), some (.int l2), none, none] [] := by
  unfold f_Mo_owesTo at hf
  refine g_iconst (v := (0 : Int32)) C dX10_owesTo_0 (by decide) ?_
  refine g_istore_n (lv' := [some (.ref (E.2.1 + l0)), some (.int l1), some (.int l2), some (.int (0 : Int32)), none]) C dX10_owesTo_1 (by decide) rfl ?_
  refine g_iconst (v := (0 : Int32)) C dX10_owesTo_2 (by decide) ?_
  refine g_istore (lv' := [some (.ref (E.2.1 + l0)), some (.int l1), some (.int l2), some (.int (0 : Int32)), some (.int (0 : Int32))]) C dX10_owesTo_3 (by decide) rfl ?_
  refine g_sub (lv' := [some (.ref (E.2.1 + l0)), some (.int l1), some (.int l2), some (.int (0 : Int32)), some (.int (0 : Int32))]) ⟨rfl, ⟨rfl, ⟨rfl, ⟨rfl, ⟨rfl, trivial⟩⟩⟩⟩⟩ ?_
  exact l_Mo_owesTo_b5 C HR  FU hf
theorem c_Mo_owesTo (E : EE) {G : Hp} {l0 : Nat} {l1 : Int32} {l2 : Int32} {r : Int32} (h : f_Mo_owesTo G l0 l1 l2 = some r) : gCt E y_Mo_owesTo cX10_owesTo 5 (some .int) 3 69 0 0 [.ref (E.2.1 + l0), .int l1, .int l2] G (some (.int r)) G := gCt_of (own := "FavoursGoOffModel") (ini := false) [some (.ref (E.2.1 + l0)), some (.int l1), some (.int l2), none, none] (by decide +kernel) rfl (fun h => by cases h) (Nat.le_of_ble_eq_true rfl) ⟨rfl, ⟨rfl, ⟨rfl, trivial⟩⟩⟩ (fun X C HR => l_Mo_owesTo C HR h)
set_option maxRecDepth 20000 in
theorem l_Mo_owes_b37 {E : EE} {X : CT} {G : Hp} (C : gCx E X cX10_owes "FavoursGoOffModel" (some .int) 4 93 0 0 false 3) {r : Int32} {G' : Hp} (HR : gRet E X cX10_owes (some .int) 0 0 (some (.int r)) G') {s0 : Int32} (hf : f_Mo_owes_b37 G s0 = some (r, G')) : gV E X 0 0 G 37 [none, none, none] [.int s0] := by
  unfold f_Mo_owes_b37 at hf
  obtain ⟨rfl, rfl⟩ := rH_ok hf
  exact g_iret HR dX10_owes_37
set_option maxRecDepth 20000 in
theorem l_Mo_owes_b30 {E : EE} {X : CT} {G : Hp} (C : gCx E X cX10_owes "FavoursGoOffModel" (some .int) 4 93 0 0 false 3) {r : Int32} {G' : Hp} (HR : gRet E X cX10_owes (some .int) 0 0 (some (.int r)) G') {l0 : Nat} (hf : f_Mo_owes_b30 G l0 = some (r, G')) : gV E X 0 0 G 30 [some (.ref (E.2.1 + l0)), none, none] [] := by
  unfold f_Mo_owes_b30 at hf
  refine g_aload_n C dX10_owes_30 rfl ?_
  refine g_sipush (v := (-1000 : Int32)) C dX10_owes_31 (by decide) ?_
  obtain ⟨x1, G2, hg, h1, hf⟩ := vH_ok hf
  refine g_invV (As := [.int (-1000 : Int32)]) (st := []) C (c_Mo_bad E h1) (rfl : vwCl[10]? = some (y_Mo_bad.cls, TX10, 24)) (by decide) hg ml_Mo_80 cm_Mo_bad.1 cm_Mo_bad.2.1 cm_Mo_bad.2.2.1 cm_Mo_bad.2.2.2.1 cm_Mo_bad.2.2.2.2 rfl ⟨by omega, by omega, by omega, by omega⟩ (by exact Nat.le_of_ble_eq_true rfl) rfl dX10_owes_34 ?_
  refine g_sub (lv' := [none, none, none]) trivial ?_
  exact l_Mo_owes_b37 C HR  hf
set_option maxRecDepth 20000 in
theorem l_Mo_owes {E : EE} {X : CT} {G : Hp} (C : gCx E X cX10_owes "FavoursGoOffModel" (some .int) 4 93 0 0 false 3) {r : Int32} {G' : Hp} (HR : gRet E X cX10_owes (some .int) 0 0 (some (.int r)) G') {l0 : Nat} {l1 : Int32} {l2 : Int32} (hf : f_Mo_owes G l0 l1 l2 = some (r, G')) : gV E X 0 0 G 0 [some (.ref (E.2.1 + l0)), some (.int l1), some (.int l2)] [] := by
  unfold f_Mo_owes at hf
  refine g_aload_n C dX10_owes_0 rfl ?_
  refine g_iload_n C dX10_owes_1 rfl ?_
  obtain ⟨x1, hg, h1, hf⟩ := vP_ok hf
  refine g_invV (As := [.int l1]) (st := []) C (c_Mo_isOne E h1) (rfl : vwCl[10]? = some (y_Mo_isOne.cls, TX10, 24)) (by decide) hg ml_Mo_84 cm_Mo_isOne.1 cm_Mo_isOne.2.1 cm_Mo_isOne.2.2.1 cm_Mo_isOne.2.2.2.1 cm_Mo_isOne.2.2.2.2 rfl ⟨by omega, by omega, by omega, by omega⟩ (by exact Nat.le_of_ble_eq_true rfl) rfl dX10_owes_2 ?_
  refine g_if_eq (tgt := 30) C dX10_owes_5 (by decide) (fun hc => ?_) (fun hc => ?_)
  · have hf := iteT hf hc
    refine g_sub (lv' := [some (.ref (E.2.1 + l0)), none, none]) ⟨rfl, trivial⟩ ?_
    exact l_Mo_owes_b30 C HR  hf
  · have hf := iteF hf hc
    refine g_aload_n C dX10_owes_8 rfl ?_
    refine g_iload_n C dX10_owes_9 rfl ?_
    obtain ⟨x2, hg, h1, hf⟩ := vP_ok hf
    refine g_invV (As := [.int l2]) (st := []) C (c_Mo_isOne E h1) (rfl : vwCl[10]? = some (y_Mo_isOne.cls, TX10, 24)) (by decide) hg ml_Mo_84 cm_Mo_isOne.1 cm_Mo_isOne.2.1 cm_Mo_isOne.2.2.1 cm_Mo_isOne.2.2.2.1 cm_Mo_isOne.2.2.2.2 rfl ⟨by omega, by omega, by omega, by omega⟩ (by exact Nat.le_of_ble_eq_true rfl) rfl dX10_owes_10 ?_
    refine g_if_eq (tgt := 30) C dX10_owes_13 (by decide) (fun hc => ?_) (fun hc => ?_)
    · have hf := iteT hf hc
      refine g_sub (lv' := [some (.ref (E.2.1 + l0)), none, none]) ⟨rfl, trivial⟩ ?_
      exact l_Mo_owes_b30 C HR  hf
    · have hf := iteF hf hc
      refine g_iload_n C dX10_owes_16 rfl ?_
      refine g_iload_n C dX10_owes_17 rfl ?_
      refine g_icmp_eq (tgt := 30) C dX10_owes_18 (by decide) (fun hc => ?_) (fun hc => ?_)
      · have hf := iteT hf hc
        refine g_sub (lv' := [some (.ref (E.2.1 + l0)), none, none]) ⟨rfl, trivial⟩ ?_
        exact l_Mo_owes_b30 C HR  hf
      · have hf := iteF hf hc
        refine g_aload_n C dX10_owes_21 rfl ?_
        refine g_iload_n C dX10_owes_22 rfl ?_
        refine g_iload_n C dX10_owes_23 rfl ?_
        obtain ⟨x3, hg, h1, hf⟩ := vP_ok hf
        refine g_invV (As := [.int l1, .int l2]) (st := []) C (c_Mo_owesTo E h1) (rfl : vwCl[10]? = some (y_Mo_owesTo.cls, TX10, 24)) (by decide) hg ml_Mo_135 cm_Mo_owesTo.1 cm_Mo_owesTo.2.1 cm_Mo_owesTo.2.2.1 cm_Mo_owesTo.2.2.2.1 cm_Mo_owesTo.2.2.2.2 rfl ⟨by omega, by omega, by omega, by omega⟩ (by exact Nat.le_of_ble_eq_true rfl) rfl dX10_owes_24 ?_
        refine g_goto (tgt := 37) C dX10_owes_27 (by decide) ?_
        refine g_sub (lv' := [none, none, none]) trivial ?_
        exact l_Mo_owes_b37 C HR  hf
theorem c_Mo_owes (E : EE) {G : Hp} {l0 : Nat} {l1 : Int32} {l2 : Int32} {r : Int32} {G' : Hp} (h : f_Mo_owes G l0 l1 l2 = some (r, G')) : gCt E y_Mo_owes cX10_owes 3 (some .int) 4 93 0 0 [.ref (E.2.1 + l0), .int l1, .int l2] G (some (.int r)) G' := gCt_of (own := "FavoursGoOffModel") (ini := false) [some (.ref (E.2.1 + l0)), some (.int l1), some (.int l2)] (by decide +kernel) rfl (fun h => by cases h) (Nat.le_of_ble_eq_true rfl) ⟨rfl, ⟨rfl, ⟨rfl, trivial⟩⟩⟩ (fun X C HR => l_Mo_owes C HR h)
set_option maxRecDepth 20000 in
theorem l_Mo_layRing_b92 {E : EE} {X : CT} {G : Hp} (C : gCx E X cX10_layRing "FavoursGoOffModel" (some .boolean) 4 93 0 0 false 7) {r : Int32} {G' : Hp} (HR : gRet E X cX10_layRing (some .boolean) 0 0 (some (.int r)) G') {k44 : Hp → Nat → Int32 → Int32 → Int32 → Option (Int32 × Hp)} (K44 : ∀ {G : Hp} {l0 : Nat} {l2 : Int32} {l4 : Int32} {l5 : Int32}, k44 G l0 l2 l4 l5 = some (r, G') → gV E X 0 0 G 44 [some (.ref (E.2.1 + l0)), none, some (.int l2), none, some (.int l4), some (.int l5), none] []) {k58 : Hp → Nat → Int32 → Int32 → Int32 → Int32 → Option (Int32 × Hp)} (K58 : ∀ {G : Hp} {l0 : Nat} {l2 : Int32} {l4 : Int32} {l5 : Int32} {l6 : Int32}, k58 G l0 l2 l4 l5 l6 = some (r, G') → gV E X 0 0 G 58 [some (.ref (E.2.1 + l0)), none, some (.int l2), none, some (.int l4), some (.int l5), some (.int l6)] []) {l0 : Nat} {l2 : Int32} {l5 : Int32} {l6 : Int32} {s0 : Int32} (hf : f_Mo_layRing_b92 k44 k58 G l0 l2 l5 l6 s0 = some (r, G')) : gV E X 0 0 G 92 [some (.ref (E.2.1 + l0)), none, some (.int l2), none, none, some (.int l5), some (.int l6)] [.int s0] := by
  unfold f_Mo_layRing_b92 at hf
  refine g_istore (lv' := [some (.ref (E.2.1 + l0)), none, some (.int l2), none, some (.int s0), some (.int l5), some (.int l6)]) C dX10_layRing_92 (by decide) rfl ?_
  refine g_iinc (v := (l6 + 1)) (lv' := [some (.ref (E.2.1 + l0)), none, some (.int l2), none, some (.int s0), some (.int l5), some (.int (l6 + 1))]) C dX10_layRing_94 (by decide) rfl rfl rfl ?_
  refine g_goto (tgt := 58) C dX10_layRing_97 (by decide) ?_
  refine g_sub (lv' := [some (.ref (E.2.1 + l0)), none, some (.int l2), none, some (.int s0), some (.int l5), some (.int (l6 + 1))]) ⟨rfl, ⟨rfl, ⟨rfl, ⟨rfl, ⟨rfl, trivial⟩⟩⟩⟩⟩ ?_
  exact K58 hf
set_option maxRecDepth 20000 in
theorem l_Mo_layRing_b91 {E : EE} {X : CT} {G : Hp} (C : gCx E X cX10_layRing "FavoursGoOffModel" (some .boolean) 4 93 0 0 false 7) {r : Int32} {G' : Hp} (HR : gRet E X cX10_layRing (some .boolean) 0 0 (some (.int r)) G') {k44 : Hp → Nat → Int32 → Int32 → Int32 → Option (Int32 × Hp)} (K44 : ∀ {G : Hp} {l0 : Nat} {l2 : Int32} {l4 : Int32} {l5 : Int32}, k44 G l0 l2 l4 l5 = some (r, G') → gV E X 0 0 G 44 [some (.ref (E.2.1 + l0)), none, some (.int l2), none, some (.int l4), some (.int l5), none] []) {k58 : Hp → Nat → Int32 → Int32 → Int32 → Int32 → Option (Int32 × Hp)} (K58 : ∀ {G : Hp} {l0 : Nat} {l2 : Int32} {l4 : Int32} {l5 : Int32} {l6 : Int32}, k58 G l0 l2 l4 l5 l6 = some (r, G') → gV E X 0 0 G 58 [some (.ref (E.2.1 + l0)), none, some (.int l2), none, some (.int l4), some (.int l5), some (.int l6)] []) {l0 : Nat} {l2 : Int32} {l5 : Int32} {l6 : Int32} (hf : f_Mo_layRing_b91 k44 k58 G l0 l2 l5 l6 = some (r, G')) : gV E X 0 0 G 91 [some (.ref (E.2.1 + l0)), none, some (.int l2), none, none, some (.int l5), some (.int l6)] [] := by
  unfold f_Mo_layRing_b91 at hf
  refine g_iconst (v := (0 : Int32)) C dX10_layRing_91 (by decide) ?_
  refine g_sub (lv' := [some (.ref (E.2.1 + l0)), none, some (.int l2), none, none, some (.int l5), some (.int l6)]) ⟨rfl, ⟨rfl, ⟨rfl, ⟨rfl, trivial⟩⟩⟩⟩ ?_
  exact l_Mo_layRing_b92 C HR K44 K58 hf
set_option maxRecDepth 20000 in
theorem l_Mo_layRing_b151 {E : EE} {X : CT} {G : Hp} (C : gCx E X cX10_layRing "FavoursGoOffModel" (some .boolean) 4 93 0 0 false 7) {r : Int32} {G' : Hp} (HR : gRet E X cX10_layRing (some .boolean) 0 0 (some (.int r)) G') {k44 : Hp → Nat → Int32 → Int32 → Int32 → Option (Int32 × Hp)} (K44 : ∀ {G : Hp} {l0 : Nat} {l2 : Int32} {l4 : Int32} {l5 : Int32}, k44 G l0 l2 l4 l5 = some (r, G') → gV E X 0 0 G 44 [some (.ref (E.2.1 + l0)), none, some (.int l2), none, some (.int l4), some (.int l5), none] []) {l0 : Nat} {l2 : Int32} {l5 : Int32} {s0 : Int32} (hf : f_Mo_layRing_b151 k44 G l0 l2 l5 s0 = some (r, G')) : gV E X 0 0 G 151 [some (.ref (E.2.1 + l0)), none, some (.int l2), none, none, some (.int l5), none] [.int s0] := by
  unfold f_Mo_layRing_b151 at hf
  refine g_istore (lv' := [some (.ref (E.2.1 + l0)), none, some (.int l2), none, some (.int s0), some (.int l5), none]) C dX10_layRing_151 (by decide) rfl ?_
  refine g_iinc (v := (l5 + 1)) (lv' := [some (.ref (E.2.1 + l0)), none, some (.int l2), none, some (.int s0), some (.int (l5 + 1)), none]) C dX10_layRing_153 (by decide) rfl rfl rfl ?_
  refine g_goto (tgt := 44) C dX10_layRing_156 (by decide) ?_
  refine g_sub (lv' := [some (.ref (E.2.1 + l0)), none, some (.int l2), none, some (.int s0), some (.int (l5 + 1)), none]) ⟨rfl, ⟨rfl, ⟨rfl, ⟨rfl, trivial⟩⟩⟩⟩ ?_
  exact K44 hf
set_option maxRecDepth 20000 in
theorem l_Mo_layRing_b150 {E : EE} {X : CT} {G : Hp} (C : gCx E X cX10_layRing "FavoursGoOffModel" (some .boolean) 4 93 0 0 false 7) {r : Int32} {G' : Hp} (HR : gRet E X cX10_layRing (some .boolean) 0 0 (some (.int r)) G') {k44 : Hp → Nat → Int32 → Int32 → Int32 → Option (Int32 × Hp)} (K44 : ∀ {G : Hp} {l0 : Nat} {l2 : Int32} {l4 : Int32} {l5 : Int32}, k44 G l0 l2 l4 l5 = some (r, G') → gV E X 0 0 G 44 [some (.ref (E.2.1 + l0)), none, some (.int l2), none, some (.int l4), some (.int l5), none] []) {l0 : Nat} {l2 : Int32} {l5 : Int32} (hf : f_Mo_layRing_b150 k44 G l0 l2 l5 = some (r, G')) : gV E X 0 0 G 150 [some (.ref (E.2.1 + l0)), none, some (.int l2), none, none, some (.int l5), none] [] := by
  unfold f_Mo_layRing_b150 at hf
  refine g_iconst (v := (0 : Int32)) C dX10_layRing_150 (by decide) ?_
  refine g_sub (lv' := [some (.ref (E.2.1 + l0)), none, some (.int l2), none, none, some (.int l5), none]) ⟨rfl, ⟨rfl, ⟨rfl, trivial⟩⟩⟩ ?_
  exact l_Mo_layRing_b151 C HR K44 hf
set_option maxRecDepth 20000 in
theorem l_Mo_layRing_b58k {E : EE} {X : CT} {G : Hp} (C : gCx E X cX10_layRing "FavoursGoOffModel" (some .boolean) 4 93 0 0 false 7) {r : Int32} {G' : Hp} (HR : gRet E X cX10_layRing (some .boolean) 0 0 (some (.int r)) G') {k44 : Hp → Nat → Int32 → Int32 → Int32 → Option (Int32 × Hp)} (K44 : ∀ {G : Hp} {l0 : Nat} {l2 : Int32} {l4 : Int32} {l5 : Int32}, k44 G l0 l2 l4 l5 = some (r, G') → gV E X 0 0 G 44 [some (.ref (E.2.1 + l0)), none, some (.int l2), none, some (.int l4), some (.int l5), none] []) {k58 : Hp → Nat → Int32 → Int32 → Int32 → Int32 → Option (Int32 × Hp)} (K58 : ∀ {G : Hp} {l0 : Nat} {l2 : Int32} {l4 : Int32} {l5 : Int32} {l6 : Int32}, k58 G l0 l2 l4 l5 l6 = some (r, G') → gV E X 0 0 G 58 [some (.ref (E.2.1 + l0)), none, some (.int l2), none, some (.int l4), some (.int l5), some (.int l6)] []) {l0 : Nat} {l2 : Int32} {l4 : Int32} {l5 : Int32} {l6 : Int32} (hf : f_Mo_layRing_b58_k k44 k58 G l0 l2 l4 l5 l6 = some (r, G')) : gV E X 0 0 G 58 [some (.ref (E.2.1 + l0)), none, some (.int l2), none, some (.int l4), some (.int l5), some (.int l6)] [] := by
  unfold f_Mo_layRing_b58_k at hf
  refine g_iload C dX10_layRing_58 rfl ?_
  refine g_iload C dX10_layRing_60 rfl ?_
  refine g_icmp_ge (tgt := 100) C dX10_layRing_62 (by decide) (fun hc => ?_) (fun hc => ?_)
  · have hf := iteT hf hc
    refine g_iload C dX10_layRing_100 rfl ?_
    refine g_if_eq (tgt := 150) C dX10_layRing_102 (by decide) (fun hc => ?_) (fun hc => ?_)
    · have hf := iteT hf hc
      refine g_sub (lv' := [some (.ref (E.2.1 + l0)), none, some (.int l2), none, none, some (.int l5), none]) ⟨rfl, ⟨rfl, ⟨rfl, trivial⟩⟩⟩ ?_
      exact l_Mo_layRing_b150 C HR K44 hf
    · have hf := iteF hf hc
      refine g_aload_n C dX10_layRing_105 rfl ?_
      obtain ⟨x1, hg, hf⟩ := gR_ok hf
      refine g_getR C fl_Mo_27 dX10_layRing_106 hg ?_
      refine g_iconst (v := (0 : Int32)) C dX10_layRing_109 (by decide) ?_
      obtain ⟨x2, hx2, hg, hf⟩ := aI_ok hf
      refine e_iald C dX10_layRing_110 hx2 hg ?_
      refine g_aload_n C dX10_layRing_111 rfl ?_
      obtain ⟨x3, hg, hf⟩ := gR_ok hf
      refine g_getR C fl_Mo_27 dX10_layRing_112 hg ?_
      refine g_iload C dX10_layRing_115 rfl ?_
      obtain ⟨x4, hx4, hg, hf⟩ := aI_ok hf
      refine e_iald C dX10_layRing_117 hx4 hg ?_
      refine g_icmp_gt (tgt := 150) C dX10_layRing_118 (by decide) (fun hc => ?_) (fun hc => ?_)
      · have hf := iteT hf hc
        refine g_sub (lv' := [some (.ref (E.2.1 + l0)), none, some (.int l2), none, none, some (.int l5), none]) ⟨rfl, ⟨rfl, ⟨rfl, trivial⟩⟩⟩ ?_
        exact l_Mo_layRing_b150 C HR K44 hf
      · have hf := iteF hf hc
        refine g_aload_n C dX10_layRing_121 rfl ?_
        refine g_aload_n C dX10_layRing_122 rfl ?_
        obtain ⟨x5, hg, hf⟩ := gR_ok hf
        refine g_getR C fl_Mo_27 dX10_layRing_123 hg ?_
        refine g_iload C dX10_layRing_126 rfl ?_
        obtain ⟨x6, hx6, hg, hf⟩ := aI_ok hf
        refine e_iald C dX10_layRing_128 hx6 hg ?_
        refine g_aload_n C dX10_layRing_129 rfl ?_
        obtain ⟨x7, hg, hf⟩ := gR_ok hf
        refine g_getR C fl_Mo_27 dX10_layRing_130 hg ?_
        refine g_iload C dX10_layRing_133 rfl ?_
        refine g_iconst (v := (1 : Int32)) C dX10_layRing_135 (by decide) ?_
        refine g_iadd C dX10_layRing_136 ?_
        refine g_iload_n C dX10_layRing_137 rfl ?_
        obtain ⟨hy, hf⟩ := dI_ok hf
        refine g_irem C dX10_layRing_138 hy ?_
        obtain ⟨x8, hx8, hg, hf⟩ := aI_ok hf
        refine e_iald C dX10_layRing_139 hx8 hg ?_
        obtain ⟨x9, hg, h1, hf⟩ := vP_ok hf
        refine g_invV (As := [.int x6, .int x8]) (st := []) C (c_Mo_owesTo E h1) (rfl : vwCl[10]? = some (y_Mo_owesTo.cls, TX10, 24)) (by decide) hg ml_Mo_135 cm_Mo_owesTo.1 cm_Mo_owesTo.2.1 cm_Mo_owesTo.2.2.1 cm_Mo_owesTo.2.2.2.1 cm_Mo_owesTo.2.2.2.2 rfl ⟨by omega, by omega, by omega, by omega⟩ (by exact Nat.le_of_ble_eq_true rfl) rfl dX10_layRing_140 ?_
        refine g_if_le (tgt := 150) C dX10_layRing_143 (by decide) (fun hc => ?_) (fun hc => ?_)
        · have hf := iteT hf hc
          refine g_sub (lv' := [some (.ref (E.2.1 + l0)), none, some (.int l2), none, none, some (.int l5), none]) ⟨rfl, ⟨rfl, ⟨rfl, trivial⟩⟩⟩ ?_
          exact l_Mo_layRing_b150 C HR K44 hf
        · have hf := iteF hf hc
          refine g_iconst (v := (1 : Int32)) C dX10_layRing_146 (by decide) ?_
          refine g_goto (tgt := 151) C dX10_layRing_147 (by decide) ?_
          refine g_sub (lv' := [some (.ref (E.2.1 + l0)), none, some (.int l2), none, none, some (.int l5), none]) ⟨rfl, ⟨rfl, ⟨rfl, trivial⟩⟩⟩ ?_
          exact l_Mo_layRing_b151 C HR K44 hf
  · have hf := iteF hf hc
    refine g_iload C dX10_layRing_65 rfl ?_
    refine g_if_eq (tgt := 91) C dX10_layRing_67 (by decide) (fun hc => ?_) (fun hc => ?_)
    · have hf := iteT hf hc
      refine g_sub (lv' := [some (.ref (E.2.1 + l0)), none, some (.int l2), none, none, some (.int l5), some (.int l6)]) ⟨rfl, ⟨rfl, ⟨rfl, ⟨rfl, trivial⟩⟩⟩⟩ ?_
      exact l_Mo_layRing_b91 C HR K44 K58 hf
    · have hf := iteF hf hc
      refine g_aload_n C dX10_layRing_70 rfl ?_
      obtain ⟨x10, hg, hf⟩ := gR_ok hf
      refine g_getR C fl_Mo_27 dX10_layRing_71 hg ?_
      refine g_iload C dX10_layRing_74 rfl ?_
      obtain ⟨x11, hx11, hg, hf⟩ := aI_ok hf
      refine e_iald C dX10_layRing_76 hx11 hg ?_
      refine g_aload_n C dX10_layRing_77 rfl ?_
      obtain ⟨x12, hg, hf⟩ := gR_ok hf
      refine g_getR C fl_Mo_27 dX10_layRing_78 hg ?_
      refine g_iload C dX10_layRing_81 rfl ?_
      obtain ⟨x13, hx13, hg, hf⟩ := aI_ok hf
      refine e_iald C dX10_layRing_83 hx13 hg ?_
      refine g_icmp_eq (tgt := 91) C dX10_layRing_84 (by decide) (fun hc => ?_) (fun hc => ?_)
      · have hf := iteT hf hc
        refine g_sub (lv' := [some (.ref (E.2.1 + l0)), none, some (.int l2), none, none, some (.int l5), some (.int l6)]) ⟨rfl, ⟨rfl, ⟨rfl, ⟨rfl, trivial⟩⟩⟩⟩ ?_
        exact l_Mo_layRing_b91 C HR K44 K58 hf
      · have hf := iteF hf hc
        refine g_iconst (v := (1 : Int32)) C dX10_layRing_87 (by decide) ?_
        refine g_goto (tgt := 92) C dX10_layRing_88 (by decide) ?_
        refine g_sub (lv' := [some (.ref (E.2.1 + l0)), none, some (.int l2), none, none, some (.int l5), some (.int l6)]) ⟨rfl, ⟨rfl, ⟨rfl, ⟨rfl, trivial⟩⟩⟩⟩ ?_
        exact l_Mo_layRing_b92 C HR K44 K58 hf
theorem l_Mo_layRing_b58 {E : EE} {X : CT} (C : gCx E X cX10_layRing "FavoursGoOffModel" (some .boolean) 4 93 0 0 false 7) {r : Int32} {G' : Hp} (HR : gRet E X cX10_layRing (some .boolean) 0 0 (some (.int r)) G') {k44 : Hp → Nat → Int32 → Int32 → Int32 → Option (Int32 × Hp)} (K44 : ∀ {G : Hp} {l0 : Nat} {l2 : Int32} {l4 : Int32} {l5 : Int32}, k44 G l0 l2 l4 l5 = some (r, G') → gV E X 0 0 G 44 [some (.ref (E.2.1 + l0)), none, some (.int l2), none, some (.int l4), some (.int l5), none] []) : ∀ (nn : Nat) {G : Hp} {l0 : Nat} {l2 : Int32} {l4 : Int32} {l5 : Int32} {l6 : Int32}, f_Mo_layRing_b58 k44 nn G l0 l2 l4 l5 l6 = some (r, G') → gV E X 0 0 G 58 [some (.ref (E.2.1 + l0)), none, some (.int l2), none, some (.int l4), some (.int l5), some (.int l6)] []
  | 0, _, _, _, _, _, _, hf => by have h0 : (none : Option (Int32 × Hp)) = some (r, G') := hf; cases h0
  | nn + 1, _, _, _, _, _, _, hf => l_Mo_layRing_b58k C HR K44 (fun h => l_Mo_layRing_b58 C HR K44 nn h) hf
set_option maxRecDepth 20000 in
theorem l_Mo_layRing_b159 {E : EE} {X : CT} {G : Hp} (C : gCx E X cX10_layRing "FavoursGoOffModel" (some .boolean) 4 93 0 0 false 7) {r : Int32} {G' : Hp} (HR : gRet E X cX10_layRing (some .boolean) 0 0 (some (.int r)) G') {l4 : Int32} (hf : f_Mo_layRing_b159 G l4 = some (r, G')) : gV E X 0 0 G 159 [none, none, none, none, some (.int l4), none, none] [] := by
  unfold f_Mo_layRing_b159 at hf
  refine g_iload C dX10_layRing_159 rfl ?_
  obtain ⟨hv, hf⟩ := zR_ok hf
  obtain ⟨rfl, rfl⟩ := rH_ok hf
  exact g_zret HR hv dX10_layRing_161
set_option maxRecDepth 20000 in
theorem l_Mo_layRing_b44k {E : EE} {X : CT} {G : Hp} (C : gCx E X cX10_layRing "FavoursGoOffModel" (some .boolean) 4 93 0 0 false 7) {r : Int32} {G' : Hp} (HR : gRet E X cX10_layRing (some .boolean) 0 0 (some (.int r)) G') {k44 : Hp → Nat → Int32 → Int32 → Int32 → Option (Int32 × Hp)} (K44 : ∀ {G : Hp} {l0 : Nat} {l2 : Int32} {l4 : Int32} {l5 : Int32}, k44 G l0 l2 l4 l5 = some (r, G') → gV E X 0 0 G 44 [some (.ref (E.2.1 + l0)), none, some (.int l2), none, some (.int l4), some (.int l5), none] []) {l0 : Nat} {l2 : Int32} {l4 : Int32} {l5 : Int32} (hf : f_Mo_layRing_b44_k k44 G l0 l2 l4 l5 = some (r, G')) : gV E X 0 0 G 44 [some (.ref (E.2.1 + l0)), none, some (.int l2), none, some (.int l4), some (.int l5), none] [] := by
  unfold f_Mo_layRing_b44_k at hf
  refine g_iload C dX10_layRing_44 rfl ?_
  refine g_iload_n C dX10_layRing_46 rfl ?_
  refine g_icmp_ge (tgt := 159) C dX10_layRing_47 (by decide) (fun hc => ?_) (fun hc => ?_)
  · have hf := iteT hf hc
    refine g_sub (lv' := [none, none, none, none, some (.int l4), none, none]) ⟨rfl, trivial⟩ ?_
    exact l_Mo_layRing_b159 C HR  hf
  · have hf := iteF hf hc
    refine g_iload C dX10_layRing_50 rfl ?_
    refine g_if_eq (tgt := 159) C dX10_layRing_52 (by decide) (fun hc => ?_) (fun hc => ?_)
    · have hf := iteT hf hc
      refine g_sub (lv' := [none, none, none, none, some (.int l4), none, none]) ⟨rfl, trivial⟩ ?_
      exact l_Mo_layRing_b159 C HR  hf
    · have hf := iteF hf hc
      refine g_iconst (v := (0 : Int32)) C dX10_layRing_55 (by decide) ?_
      refine g_istore (lv' := [some (.ref (E.2.1 + l0)), none, some (.int l2), none, some (.int l4), some (.int l5), some (.int (0 : Int32))]) C dX10_layRing_56 (by decide) rfl ?_
      refine g_sub (lv' := [some (.ref (E.2.1 + l0)), none, some (.int l2), none, some (.int l4), some (.int l5), some (.int (0 : Int32))]) ⟨rfl, ⟨rfl, ⟨rfl, ⟨rfl, ⟨rfl, trivial⟩⟩⟩⟩⟩ ?_
      exact l_Mo_layRing_b58 C HR K44 FU hf
theorem l_Mo_layRing_b44 {E : EE} {X : CT} (C : gCx E X cX10_layRing "FavoursGoOffModel" (some .boolean) 4 93 0 0 false 7) {r : Int32} {G' : Hp} (HR : gRet E X cX10_layRing (some .boolean) 0 0 (some (.int r)) G') : ∀ (nn : Nat) {G : Hp} {l0 : Nat} {l2 : Int32} {l4 : Int32} {l5 : Int32}, f_Mo_layRing_b44 nn G l0 l2 l4 l5 = some (r, G') → gV E X 0 0 G 44 [some (.ref (E.2.1 + l0)), none, some (.int l2), none, some (.int l4), some (.int l5), none] []
  | 0, _, _, _, _, _, hf => by have h0 : (none : Option (Int32 × Hp)) = some (r, G') := hf; cases h0
  | nn + 1, _, _, _, _, _, hf => l_Mo_layRing_b44k C HR (fun h => l_Mo_layRing_b44 C HR nn h) hf
set_option maxRecDepth 20000 in
theorem l_Mo_layRing_b7k {E : EE} {X : CT} {G : Hp} (C : gCx E X cX10_layRing "FavoursGoOffModel" (some .boolean) 4 93 0 0 false 7) {r : Int32} {G' : Hp} (HR : gRet E X cX10_layRing (some .boolean) 0 0 (some (.int r)) G') {k7 : Hp → Nat → Int32 → Int32 → Int32 → Option (Int32 × Hp)} (K7 : ∀ {G : Hp} {l0 : Nat} {l2 : Int32} {l3 : Int32} {l4 : Int32}, k7 G l0 l2 l3 l4 = some (r, G') → gV E X 0 0 G 7 [some (.ref (E.2.1 + l0)), none, some (.int l2), some (.int l3), some (.int l4), none, none] []) {l0 : Nat} {l2 : Int32} {l3 : Int32} {l4 : Int32} (hf : f_Mo_layRing_b7_k k7 G l0 l2 l3 l4 = some (r, G')) : gV E X 0 0 G 7 [some (.ref (E.2.1 + l0)), none, some (.int l2), some (.int l3), some (.int l4), none, none] [] := by
  unfold f_Mo_layRing_b7_k at hf
  refine g_iload C dX10_layRing_7 rfl ?_
  refine g_if_lt (tgt := 38) C dX10_layRing_9 (by decide) (fun hc => ?_) (fun hc => ?_)
  · have hf := iteT hf hc
    refine g_iconst (v := (1 : Int32)) C dX10_layRing_38 (by decide) ?_
    refine g_istore (lv' := [some (.ref (E.2.1 + l0)), none, some (.int l2), some (.int l3), some (.int (1 : Int32)), none, none]) C dX10_layRing_39 (by decide) rfl ?_
    refine g_iconst (v := (0 : Int32)) C dX10_layRing_41 (by decide) ?_
    refine g_istore (lv' := [some (.ref (E.2.1 + l0)), none, some (.int l2), some (.int l3), some (.int (1 : Int32)), some (.int (0 : Int32)), none]) C dX10_layRing_42 (by decide) rfl ?_
    refine g_sub (lv' := [some (.ref (E.2.1 + l0)), none, some (.int l2), none, some (.int (1 : Int32)), some (.int (0 : Int32)), none]) ⟨rfl, ⟨rfl, ⟨rfl, ⟨rfl, trivial⟩⟩⟩⟩ ?_
    exact l_Mo_layRing_b44 C HR  FU hf
  · have hf := iteF hf hc
    refine g_aload_n C dX10_layRing_12 rfl ?_
    obtain ⟨x1, hg, hf⟩ := gR_ok hf
    refine g_getR C fl_Mo_27 dX10_layRing_13 hg ?_
    refine g_iload C dX10_layRing_16 rfl ?_
    refine g_iload_n C dX10_layRing_18 rfl ?_
    refine g_aload_n C dX10_layRing_19 rfl ?_
    obtain ⟨x2, hg, h1, hf⟩ := vP_ok hf
    refine g_invV (As := []) (st := [.int l3, .int l4, .ref (E.2.1 + x1)]) C (c_Mo_many E h1) (rfl : vwCl[10]? = some (y_Mo_many.cls, TX10, 24)) (by decide) hg ml_Mo_64 cm_Mo_many.1 cm_Mo_many.2.1 cm_Mo_many.2.2.1 cm_Mo_many.2.2.2.1 cm_Mo_many.2.2.2.2 rfl ⟨by omega, by omega, by omega, by omega⟩ (by exact Nat.le_of_ble_eq_true rfl) rfl dX10_layRing_20 ?_
    obtain ⟨hy, hf⟩ := dI_ok hf
    refine g_irem C dX10_layRing_23 hy ?_
    obtain ⟨G3, hG3, hg, hf⟩ := sI_ok hf
    refine e_iast C dX10_layRing_24 hG3 hg ?_
    refine g_iload_n C dX10_layRing_25 rfl ?_
    refine g_aload_n C dX10_layRing_26 rfl ?_
    obtain ⟨x4, hg, h1, hf⟩ := vP_ok hf
    refine g_invV (As := []) (st := [.int l3]) C (c_Mo_many E h1) (rfl : vwCl[10]? = some (y_Mo_many.cls, TX10, 24)) (by decide) hg ml_Mo_64 cm_Mo_many.1 cm_Mo_many.2.1 cm_Mo_many.2.2.1 cm_Mo_many.2.2.2.1 cm_Mo_many.2.2.2.2 rfl ⟨by omega, by omega, by omega, by omega⟩ (by exact Nat.le_of_ble_eq_true rfl) rfl dX10_layRing_27 ?_
    obtain ⟨hy, hf⟩ := dI_ok hf
    refine g_idiv C dX10_layRing_30 hy ?_
    obtain ⟨x5, hx5, hf⟩ := lt_ok hf
    refine e_top hx5 ?_
    refine g_istore_n (lv' := [some (.ref (E.2.1 + l0)), none, some (.int l2), some (.int x5), some (.int l4), none, none]) C dX10_layRing_31 (by decide) rfl ?_
    refine g_iinc (v := (l4 + (-1))) (lv' := [some (.ref (E.2.1 + l0)), none, some (.int l2), some (.int x5), some (.int (l4 + (-1))), none, none]) C dX10_layRing_32 (by decide) rfl rfl rfl ?_
    refine g_goto (tgt := 7) C dX10_layRing_35 (by decide) ?_
    refine g_sub (lv' := [some (.ref (E.2.1 + l0)), none, some (.int l2), some (.int x5), some (.int (l4 + (-1))), none, none]) ⟨rfl, ⟨rfl, ⟨rfl, ⟨rfl, trivial⟩⟩⟩⟩ ?_
    exact K7 hf
theorem l_Mo_layRing_b7 {E : EE} {X : CT} (C : gCx E X cX10_layRing "FavoursGoOffModel" (some .boolean) 4 93 0 0 false 7) {r : Int32} {G' : Hp} (HR : gRet E X cX10_layRing (some .boolean) 0 0 (some (.int r)) G') : ∀ (nn : Nat) {G : Hp} {l0 : Nat} {l2 : Int32} {l3 : Int32} {l4 : Int32}, f_Mo_layRing_b7 nn G l0 l2 l3 l4 = some (r, G') → gV E X 0 0 G 7 [some (.ref (E.2.1 + l0)), none, some (.int l2), some (.int l3), some (.int l4), none, none] []
  | 0, _, _, _, _, _, hf => by have h0 : (none : Option (Int32 × Hp)) = some (r, G') := hf; cases h0
  | nn + 1, _, _, _, _, _, hf => l_Mo_layRing_b7k C HR (fun h => l_Mo_layRing_b7 C HR nn h) hf
set_option maxRecDepth 20000 in
theorem l_Mo_layRing {E : EE} {X : CT} {G : Hp} (C : gCx E X cX10_layRing "FavoursGoOffModel" (some .boolean) 4 93 0 0 false 7) {r : Int32} {G' : Hp} (HR : gRet E X cX10_layRing (some .boolean) 0 0 (some (.int r)) G') {l0 : Nat} {l1 : Int32} {l2 : Int32} (hf : f_Mo_layRing G l0 l1 l2 = some (r, G')) : gV E X 0 0 G 0 [some (.ref (E.2.1 + l0)), some (.int l1), some (.int l2), none, none, none, none] [] := by
  unfold f_Mo_layRing at hf
  refine g_iload_n C dX10_layRing_0 rfl ?_
  refine g_istore_n (lv' := [some (.ref (E.2.1 + l0)), some (.int l1), some (.int l2), some (.int l1), none, none, none]) C dX10_layRing_1 (by decide) rfl ?_
  refine g_iload_n C dX10_layRing_2 rfl ?_
  refine g_iconst (v := (1 : Int32)) C dX10_layRing_3 (by decide) ?_
  refine g_isub C dX10_layRing_4 ?_
  obtain ⟨x1, hx1, hf⟩ := lt_ok hf
  refine e_top hx1 ?_
  refine g_istore (lv' := [some (.ref (E.2.1 + l0)), some (.int l1), some (.int l2), some (.int l1), some (.int x1), none, none]) C dX10_layRing_5 (by decide) rfl ?_
  refine g_sub (lv' := [some (.ref (E.2.1 + l0)), none, some (.int l2), some (.int l1), some (.int x1), none, none]) ⟨rfl, ⟨rfl, ⟨rfl, ⟨rfl, trivial⟩⟩⟩⟩ ?_
  exact l_Mo_layRing_b7 C HR  FU hf
theorem c_Mo_layRing (E : EE) {G : Hp} {l0 : Nat} {l1 : Int32} {l2 : Int32} {r : Int32} {G' : Hp} (h : f_Mo_layRing G l0 l1 l2 = some (r, G')) : gCt E y_Mo_layRing cX10_layRing 7 (some .boolean) 4 93 0 0 [.ref (E.2.1 + l0), .int l1, .int l2] G (some (.int r)) G' := gCt_of (own := "FavoursGoOffModel") (ini := false) [some (.ref (E.2.1 + l0)), some (.int l1), some (.int l2), none, none, none, none] (by decide +kernel) rfl (fun h => by cases h) (Nat.le_of_ble_eq_true rfl) ⟨rfl, ⟨rfl, ⟨rfl, trivial⟩⟩⟩ (fun X C HR => l_Mo_layRing C HR h)
set_option maxRecDepth 20000 in
theorem l_Mo_findRing_b63 {E : EE} {X : CT} {G : Hp} (C : gCx E X cX10_findRing "FavoursGoOffModel" none 5 119 0 0 false 4) {G' : Hp} (HR : gRet E X cX10_findRing none 0 0 none G') {k12 : Hp → Nat → Int32 → Int32 → Option Hp} (K12 : ∀ {G : Hp} {l0 : Nat} {l1 : Int32} {l2 : Int32}, k12 G l0 l1 l2 = some G' → gV E X 0 0 G 12 [some (.ref (E.2.1 + l0)), some (.int l1), some (.int l2), none] []) {k36 : Hp → Nat → Int32 → Int32 → Int32 → Option Hp} (K36 : ∀ {G : Hp} {l0 : Nat} {l1 : Int32} {l2 : Int32} {l3 : Int32}, k36 G l0 l1 l2 l3 = some G' → gV E X 0 0 G 36 [some (.ref (E.2.1 + l0)), some (.int l1), some (.int l2), some (.int l3)] []) {l0 : Nat} {l1 : Int32} {l2 : Int32} {l3 : Int32} {s0 : Nat} {s1 : Int32} (hf : f_Mo_findRing_b63 k12 k36 G l0 l1 l2 l3 s0 s1 = some G') : gV E X 0 0 G 63 [some (.ref (E.2.1 + l0)), some (.int l1), some (.int l2), some (.int l3)] [.int s1, .ref (E.2.1 + s0)] := by
  unfold f_Mo_findRing_b63 at hf
  obtain ⟨G1, hG1, hg, hf⟩ := pI_ok hf
  refine e_putI C fl_Mo_138 dX10_findRing_63 hG1 hg (Or.inl rfl) rfl rfl ?_
  refine g_iinc (v := (l3 + 1)) (lv' := [some (.ref (E.2.1 + l0)), some (.int l1), some (.int l2), some (.int (l3 + 1))]) C dX10_findRing_66 (by decide) rfl rfl rfl ?_
  refine g_goto (tgt := 36) C dX10_findRing_69 (by decide) ?_
  refine g_sub (lv' := [some (.ref (E.2.1 + l0)), some (.int l1), some (.int l2), some (.int (l3 + 1))]) ⟨rfl, ⟨rfl, ⟨rfl, ⟨rfl, trivial⟩⟩⟩⟩ ?_
  exact K36 hf
set_option maxRecDepth 20000 in
theorem l_Mo_findRing_b72 {E : EE} {X : CT} {G : Hp} (C : gCx E X cX10_findRing "FavoursGoOffModel" none 5 119 0 0 false 4) {G' : Hp} (HR : gRet E X cX10_findRing none 0 0 none G') {k12 : Hp → Nat → Int32 → Int32 → Option Hp} (K12 : ∀ {G : Hp} {l0 : Nat} {l1 : Int32} {l2 : Int32}, k12 G l0 l1 l2 = some G' → gV E X 0 0 G 12 [some (.ref (E.2.1 + l0)), some (.int l1), some (.int l2), none] []) {l0 : Nat} {l1 : Int32} {l2 : Int32} (hf : f_Mo_findRing_b72 k12 G l0 l1 l2 = some G') : gV E X 0 0 G 72 [some (.ref (E.2.1 + l0)), some (.int l1), some (.int l2), none] [] := by
  unfold f_Mo_findRing_b72 at hf
  refine g_iinc (v := (l2 + 1)) (lv' := [some (.ref (E.2.1 + l0)), some (.int l1), some (.int (l2 + 1)), none]) C dX10_findRing_72 (by decide) rfl rfl rfl ?_
  refine g_goto (tgt := 12) C dX10_findRing_75 (by decide) ?_
  refine g_sub (lv' := [some (.ref (E.2.1 + l0)), some (.int l1), some (.int (l2 + 1)), none]) ⟨rfl, ⟨rfl, ⟨rfl, trivial⟩⟩⟩ ?_
  exact K12 hf
set_option maxRecDepth 20000 in
theorem l_Mo_findRing_b36k {E : EE} {X : CT} {G : Hp} (C : gCx E X cX10_findRing "FavoursGoOffModel" none 5 119 0 0 false 4) {G' : Hp} (HR : gRet E X cX10_findRing none 0 0 none G') {k12 : Hp → Nat → Int32 → Int32 → Option Hp} (K12 : ∀ {G : Hp} {l0 : Nat} {l1 : Int32} {l2 : Int32}, k12 G l0 l1 l2 = some G' → gV E X 0 0 G 12 [some (.ref (E.2.1 + l0)), some (.int l1), some (.int l2), none] []) {k36 : Hp → Nat → Int32 → Int32 → Int32 → Option Hp} (K36 : ∀ {G : Hp} {l0 : Nat} {l1 : Int32} {l2 : Int32} {l3 : Int32}, k36 G l0 l1 l2 l3 = some G' → gV E X 0 0 G 36 [some (.ref (E.2.1 + l0)), some (.int l1), some (.int l2), some (.int l3)] []) {l0 : Nat} {l1 : Int32} {l2 : Int32} {l3 : Int32} (hf : f_Mo_findRing_b36_k k12 k36 G l0 l1 l2 l3 = some G') : gV E X 0 0 G 36 [some (.ref (E.2.1 + l0)), some (.int l1), some (.int l2), some (.int l3)] [] := by
  unfold f_Mo_findRing_b36_k at hf
  refine g_iload_n C dX10_findRing_36 rfl ?_
  refine g_iload_n C dX10_findRing_37 rfl ?_
  refine g_icmp_ge (tgt := 72) C dX10_findRing_38 (by decide) (fun hc => ?_) (fun hc => ?_)
  · have hf := iteT hf hc
    refine g_sub (lv' := [some (.ref (E.2.1 + l0)), some (.int l1), some (.int l2), none]) ⟨rfl, ⟨rfl, ⟨rfl, trivial⟩⟩⟩ ?_
    exact l_Mo_findRing_b72 C HR K12 hf
  · have hf := iteF hf hc
    refine g_aload_n C dX10_findRing_41 rfl ?_
    obtain ⟨x1, hx1, hg, hf⟩ := gI_ok hf
    refine e_getI C fl_Mo_138 dX10_findRing_42 hx1 hg ?_
    refine g_if_ne (tgt := 72) C dX10_findRing_45 (by decide) (fun hc => ?_) (fun hc => ?_)
    · have hf := iteF hf hc
      refine g_sub (lv' := [some (.ref (E.2.1 + l0)), some (.int l1), some (.int l2), none]) ⟨rfl, ⟨rfl, ⟨rfl, trivial⟩⟩⟩ ?_
      exact l_Mo_findRing_b72 C HR K12 hf
    · have hf := iteT hf hc
      refine g_aload_n C dX10_findRing_48 rfl ?_
      refine g_aload_n C dX10_findRing_49 rfl ?_
      refine g_iload_n C dX10_findRing_50 rfl ?_
      refine g_iload_n C dX10_findRing_51 rfl ?_
      obtain ⟨x2, G3, hg, h1, hf⟩ := vH_ok hf
      refine g_invV (As := [.int l3, .int l2]) (st := [.ref (E.2.1 + l0)]) C (c_Mo_layRing E h1) (rfl : vwCl[10]? = some (y_Mo_layRing.cls, TX10, 24)) (by decide) hg ml_Mo_142 cm_Mo_layRing.1 cm_Mo_layRing.2.1 cm_Mo_layRing.2.2.1 cm_Mo_layRing.2.2.2.1 cm_Mo_layRing.2.2.2.2 rfl ⟨by omega, by omega, by omega, by omega⟩ (by exact Nat.le_of_ble_eq_true rfl) rfl dX10_findRing_52 ?_
      refine g_if_eq (tgt := 62) C dX10_findRing_55 (by decide) (fun hc => ?_) (fun hc => ?_)
      · have hf := iteT hf hc
        refine g_iconst (v := (0 : Int32)) C dX10_findRing_62 (by decide) ?_
        refine g_sub (lv' := [some (.ref (E.2.1 + l0)), some (.int l1), some (.int l2), some (.int l3)]) ⟨rfl, ⟨rfl, ⟨rfl, ⟨rfl, trivial⟩⟩⟩⟩ ?_
        exact l_Mo_findRing_b63 C HR K12 K36 hf
      · have hf := iteF hf hc
        refine g_iload_n C dX10_findRing_58 rfl ?_
        refine g_goto (tgt := 63) C dX10_findRing_59 (by decide) ?_
        refine g_sub (lv' := [some (.ref (E.2.1 + l0)), some (.int l1), some (.int l2), some (.int l3)]) ⟨rfl, ⟨rfl, ⟨rfl, ⟨rfl, trivial⟩⟩⟩⟩ ?_
        exact l_Mo_findRing_b63 C HR K12 K36 hf
theorem l_Mo_findRing_b36 {E : EE} {X : CT} (C : gCx E X cX10_findRing "FavoursGoOffModel" none 5 119 0 0 false 4) {G' : Hp} (HR : gRet E X cX10_findRing none 0 0 none G') {k12 : Hp → Nat → Int32 → Int32 → Option Hp} (K12 : ∀ {G : Hp} {l0 : Nat} {l1 : Int32} {l2 : Int32}, k12 G l0 l1 l2 = some G' → gV E X 0 0 G 12 [some (.ref (E.2.1 + l0)), some (.int l1), some (.int l2), none] []) : ∀ (nn : Nat) {G : Hp} {l0 : Nat} {l1 : Int32} {l2 : Int32} {l3 : Int32}, f_Mo_findRing_b36 k12 nn G l0 l1 l2 l3 = some G' → gV E X 0 0 G 36 [some (.ref (E.2.1 + l0)), some (.int l1), some (.int l2), some (.int l3)] []
  | 0, _, _, _, _, _, hf => by have h0 : (none : Option Hp) = some G' := hf; cases h0
  | nn + 1, _, _, _, _, _, hf => l_Mo_findRing_b36k C HR K12 (fun h => l_Mo_findRing_b36 C HR K12 nn h) hf
set_option maxRecDepth 20000 in
theorem l_Mo_findRing_b78 {E : EE} {X : CT} {G : Hp} (C : gCx E X cX10_findRing "FavoursGoOffModel" none 5 119 0 0 false 4) {G' : Hp} (HR : gRet E X cX10_findRing none 0 0 none G') (hf : f_Mo_findRing_b78 G = some G') : gV E X 0 0 G 78 [none, none, none, none] [] := by
  unfold f_Mo_findRing_b78 at hf
  obtain rfl := rP_ok hf
  exact g_vret HR dX10_findRing_78
set_option maxRecDepth 20000 in
theorem l_Mo_findRing_b12k {E : EE} {X : CT} {G : Hp} (C : gCx E X cX10_findRing "FavoursGoOffModel" none 5 119 0 0 false 4) {G' : Hp} (HR : gRet E X cX10_findRing none 0 0 none G') {k12 : Hp → Nat → Int32 → Int32 → Option Hp} (K12 : ∀ {G : Hp} {l0 : Nat} {l1 : Int32} {l2 : Int32}, k12 G l0 l1 l2 = some G' → gV E X 0 0 G 12 [some (.ref (E.2.1 + l0)), some (.int l1), some (.int l2), none] []) {l0 : Nat} {l1 : Int32} {l2 : Int32} (hf : f_Mo_findRing_b12_k k12 G l0 l1 l2 = some G') : gV E X 0 0 G 12 [some (.ref (E.2.1 + l0)), some (.int l1), some (.int l2), none] [] := by
  unfold f_Mo_findRing_b12_k at hf
  refine g_iload_n C dX10_findRing_12 rfl ?_
  refine g_aload_n C dX10_findRing_13 rfl ?_
  obtain ⟨x1, hg, h1, hf⟩ := vP_ok hf
  refine g_invV (As := []) (st := [.int l2]) C (c_Mo_many E h1) (rfl : vwCl[10]? = some (y_Mo_many.cls, TX10, 24)) (by decide) hg ml_Mo_64 cm_Mo_many.1 cm_Mo_many.2.1 cm_Mo_many.2.2.1 cm_Mo_many.2.2.2.1 cm_Mo_many.2.2.2.2 rfl ⟨by omega, by omega, by omega, by omega⟩ (by exact Nat.le_of_ble_eq_true rfl) rfl dX10_findRing_14 ?_
  refine g_icmp_gt (tgt := 78) C dX10_findRing_17 (by decide) (fun hc => ?_) (fun hc => ?_)
  · have hf := iteT hf hc
    refine g_sub (lv' := [none, none, none, none]) trivial ?_
    exact l_Mo_findRing_b78 C HR  hf
  · have hf := iteF hf hc
    refine g_aload_n C dX10_findRing_20 rfl ?_
    obtain ⟨x2, hx2, hg, hf⟩ := gI_ok hf
    refine e_getI C fl_Mo_138 dX10_findRing_21 hx2 hg ?_
    refine g_if_ne (tgt := 78) C dX10_findRing_24 (by decide) (fun hc => ?_) (fun hc => ?_)
    · have hf := iteF hf hc
      refine g_sub (lv' := [none, none, none, none]) trivial ?_
      exact l_Mo_findRing_b78 C HR  hf
    · have hf := iteT hf hc
      refine g_iload_n C dX10_findRing_27 rfl ?_
      refine g_aload_n C dX10_findRing_28 rfl ?_
      obtain ⟨x3, hg, h1, hf⟩ := vP_ok hf
      refine g_invV (As := []) (st := [.int l1]) C (c_Mo_many E h1) (rfl : vwCl[10]? = some (y_Mo_many.cls, TX10, 24)) (by decide) hg ml_Mo_64 cm_Mo_many.1 cm_Mo_many.2.1 cm_Mo_many.2.2.1 cm_Mo_many.2.2.2.1 cm_Mo_many.2.2.2.2 rfl ⟨by omega, by omega, by omega, by omega⟩ (by exact Nat.le_of_ble_eq_true rfl) rfl dX10_findRing_29 ?_
      refine g_imul C dX10_findRing_32 ?_
      obtain ⟨x4, hx4, hf⟩ := lt_ok hf
      refine e_top hx4 ?_
      refine g_istore_n (lv' := [some (.ref (E.2.1 + l0)), some (.int x4), some (.int l2), none]) C dX10_findRing_33 (by decide) rfl ?_
      refine g_iconst (v := (0 : Int32)) C dX10_findRing_34 (by decide) ?_
      refine g_istore_n (lv' := [some (.ref (E.2.1 + l0)), some (.int x4), some (.int l2), some (.int (0 : Int32))]) C dX10_findRing_35 (by decide) rfl ?_
      refine g_sub (lv' := [some (.ref (E.2.1 + l0)), some (.int x4), some (.int l2), some (.int (0 : Int32))]) ⟨rfl, ⟨rfl, ⟨rfl, ⟨rfl, trivial⟩⟩⟩⟩ ?_
      exact l_Mo_findRing_b36 C HR K12 FU hf
theorem l_Mo_findRing_b12 {E : EE} {X : CT} (C : gCx E X cX10_findRing "FavoursGoOffModel" none 5 119 0 0 false 4) {G' : Hp} (HR : gRet E X cX10_findRing none 0 0 none G') : ∀ (nn : Nat) {G : Hp} {l0 : Nat} {l1 : Int32} {l2 : Int32}, f_Mo_findRing_b12 nn G l0 l1 l2 = some G' → gV E X 0 0 G 12 [some (.ref (E.2.1 + l0)), some (.int l1), some (.int l2), none] []
  | 0, _, _, _, _, hf => by have h0 : (none : Option Hp) = some G' := hf; cases h0
  | nn + 1, _, _, _, _, hf => l_Mo_findRing_b12k C HR (fun h => l_Mo_findRing_b12 C HR nn h) hf
set_option maxRecDepth 20000 in
theorem l_Mo_findRing {E : EE} {X : CT} {G : Hp} (C : gCx E X cX10_findRing "FavoursGoOffModel" none 5 119 0 0 false 4) {G' : Hp} (HR : gRet E X cX10_findRing none 0 0 none G') {l0 : Nat} (hf : f_Mo_findRing G l0 = some G') : gV E X 0 0 G 0 [some (.ref (E.2.1 + l0)), none, none, none] [] := by
  unfold f_Mo_findRing at hf
  refine g_aload_n C dX10_findRing_0 rfl ?_
  refine g_iconst (v := (0 : Int32)) C dX10_findRing_1 (by decide) ?_
  obtain ⟨G1, hG1, hg, hf⟩ := pI_ok hf
  refine e_putI C fl_Mo_138 dX10_findRing_2 hG1 hg (Or.inl rfl) rfl rfl ?_
  refine g_aload_n C dX10_findRing_5 rfl ?_
  obtain ⟨x2, hg, h1, hf⟩ := vP_ok hf
  refine g_invV (As := []) (st := []) C (c_Mo_many E h1) (rfl : vwCl[10]? = some (y_Mo_many.cls, TX10, 24)) (by decide) hg ml_Mo_64 cm_Mo_many.1 cm_Mo_many.2.1 cm_Mo_many.2.2.1 cm_Mo_many.2.2.2.1 cm_Mo_many.2.2.2.2 rfl ⟨by omega, by omega, by omega, by omega⟩ (by exact Nat.le_of_ble_eq_true rfl) rfl dX10_findRing_6 ?_
  refine g_istore_n (lv' := [some (.ref (E.2.1 + l0)), some (.int x2), none, none]) C dX10_findRing_9 (by decide) rfl ?_
  refine g_iconst (v := (2 : Int32)) C dX10_findRing_10 (by decide) ?_
  refine g_istore_n (lv' := [some (.ref (E.2.1 + l0)), some (.int x2), some (.int (2 : Int32)), none]) C dX10_findRing_11 (by decide) rfl ?_
  refine g_sub (lv' := [some (.ref (E.2.1 + l0)), some (.int x2), some (.int (2 : Int32)), none]) ⟨rfl, ⟨rfl, ⟨rfl, trivial⟩⟩⟩ ?_
  exact l_Mo_findRing_b12 C HR  FU hf
theorem c_Mo_findRing (E : EE) {G : Hp} {l0 : Nat} {G' : Hp} (h : f_Mo_findRing G l0 = some G') : gCt E y_Mo_findRing cX10_findRing 4 none 5 119 0 0 [.ref (E.2.1 + l0)] G none G' := gCt_of (own := "FavoursGoOffModel") (ini := false) [some (.ref (E.2.1 + l0)), none, none, none] (by decide +kernel) rfl (fun h => by cases h) (Nat.le_of_ble_eq_true rfl) ⟨rfl, trivial⟩ (fun X C HR => l_Mo_findRing C HR h)
set_option maxRecDepth 20000 in
theorem l_Mo_ring_b47 {E : EE} {X : CT} {G : Hp} (C : gCx E X cX10_ring "FavoursGoOffModel" (some .int) 6 142 0 0 false 2) {r : Int32} {G' : Hp} (HR : gRet E X cX10_ring (some .int) 0 0 (some (.int r)) G') {s0 : Int32} (hf : f_Mo_ring_b47 G s0 = some (r, G')) : gV E X 0 0 G 47 [none, none] [.int s0] := by
  unfold f_Mo_ring_b47 at hf
  obtain ⟨rfl, rfl⟩ := rH_ok hf
  exact g_iret HR dX10_ring_47
set_option maxRecDepth 20000 in
theorem l_Mo_ring {E : EE} {X : CT} {G : Hp} (C : gCx E X cX10_ring "FavoursGoOffModel" (some .int) 6 142 0 0 false 2) {r : Int32} {G' : Hp} (HR : gRet E X cX10_ring (some .int) 0 0 (some (.int r)) G') {l0 : Nat} {l1 : Int32} (hf : f_Mo_ring G l0 l1 = some (r, G')) : gV E X 0 0 G 0 [some (.ref (E.2.1 + l0)), some (.int l1)] [] := by
  unfold f_Mo_ring at hf
  refine g_iload_n C dX10_ring_0 rfl ?_
  refine g_iconst (v := (-1 : Int32)) C dX10_ring_1 (by decide) ?_
  refine g_icmp_ge (tgt := 12) C dX10_ring_2 (by decide) (fun hc => ?_) (fun hc => ?_)
  · have hf := iteT hf hc
    refine g_aload_n C dX10_ring_12 rfl ?_
    obtain ⟨G1, hg, h1, hf⟩ := vP_ok hf
    refine g_invV (As := []) (st := []) C (c_Mo_findRing E h1) (rfl : vwCl[10]? = some (y_Mo_findRing.cls, TX10, 24)) (by decide) hg ml_Mo_146 cm_Mo_findRing.1 cm_Mo_findRing.2.1 cm_Mo_findRing.2.2.1 cm_Mo_findRing.2.2.2.1 cm_Mo_findRing.2.2.2.2 rfl ⟨by omega, by omega, by omega, by omega⟩ (by exact Nat.le_of_ble_eq_true rfl) rfl dX10_ring_13 ?_
    refine g_iload_n C dX10_ring_16 rfl ?_
    refine g_iconst (v := (-1 : Int32)) C dX10_ring_17 (by decide) ?_
    refine g_icmp_ne (tgt := 28) C dX10_ring_18 (by decide) (fun hc => ?_) (fun hc => ?_)
    · have hf := iteF hf hc
      refine g_iload_n C dX10_ring_28 rfl ?_
      refine g_aload_n C dX10_ring_29 rfl ?_
      obtain ⟨x2, hx2, hg, hf⟩ := gI_ok hf
      refine e_getI C fl_Mo_138 dX10_ring_30 hx2 hg ?_
      refine g_icmp_ge (tgt := 45) C dX10_ring_33 (by decide) (fun hc => ?_) (fun hc => ?_)
      · have hf := iteT hf hc
        refine g_bipush (v := (-5 : Int32)) C dX10_ring_45 (by decide) ?_
        refine g_sub (lv' := [none, none]) trivial ?_
        exact l_Mo_ring_b47 C HR  hf
      · have hf := iteF hf hc
        refine g_aload_n C dX10_ring_36 rfl ?_
        obtain ⟨x3, hg, hf⟩ := gR_ok hf
        refine g_getR C fl_Mo_27 dX10_ring_37 hg ?_
        refine g_iload_n C dX10_ring_40 rfl ?_
        obtain ⟨x4, hx4, hg, hf⟩ := aI_ok hf
        refine e_iald C dX10_ring_41 hx4 hg ?_
        refine g_goto (tgt := 47) C dX10_ring_42 (by decide) ?_
        refine g_sub (lv' := [none, none]) trivial ?_
        exact l_Mo_ring_b47 C HR  hf
    · have hf := iteT hf hc
      refine g_aload_n C dX10_ring_21 rfl ?_
      obtain ⟨x5, hx5, hg, hf⟩ := gI_ok hf
      refine e_getI C fl_Mo_138 dX10_ring_22 hx5 hg ?_
      refine g_goto (tgt := 47) C dX10_ring_25 (by decide) ?_
      refine g_sub (lv' := [none, none]) trivial ?_
      exact l_Mo_ring_b47 C HR  hf
  · have hf := iteF hf hc
    refine g_aload_n C dX10_ring_5 rfl ?_
    refine g_bipush (v := (-10 : Int32)) C dX10_ring_6 (by decide) ?_
    obtain ⟨x6, G7, hg, h1, hf⟩ := vH_ok hf
    refine g_invV (As := [.int (-10 : Int32)]) (st := []) C (c_Mo_bad E h1) (rfl : vwCl[10]? = some (y_Mo_bad.cls, TX10, 24)) (by decide) hg ml_Mo_80 cm_Mo_bad.1 cm_Mo_bad.2.1 cm_Mo_bad.2.2.1 cm_Mo_bad.2.2.2.1 cm_Mo_bad.2.2.2.2 rfl ⟨by omega, by omega, by omega, by omega⟩ (by exact Nat.le_of_ble_eq_true rfl) rfl dX10_ring_8 ?_
    obtain ⟨rfl, rfl⟩ := rH_ok hf
    exact g_iret HR dX10_ring_11
theorem c_Mo_ring (E : EE) {G : Hp} {l0 : Nat} {l1 : Int32} {r : Int32} {G' : Hp} (h : f_Mo_ring G l0 l1 = some (r, G')) : gCt E y_Mo_ring cX10_ring 2 (some .int) 6 142 0 0 [.ref (E.2.1 + l0), .int l1] G (some (.int r)) G' := gCt_of (own := "FavoursGoOffModel") (ini := false) [some (.ref (E.2.1 + l0)), some (.int l1)] (by decide +kernel) rfl (fun h => by cases h) (Nat.le_of_ble_eq_true rfl) ⟨rfl, ⟨rfl, trivial⟩⟩ (fun X C HR => l_Mo_ring C HR h)
set_option maxRecDepth 20000 in
theorem l_Mo_leastOf_b86 {E : EE} {X : CT} {G : Hp} (C : gCx E X cX10_leastOf "FavoursGoOffModel" (some .int) 3 69 0 0 false 6) {r : Int32} (HR : gRet E X cX10_leastOf (some .int) 0 0 (some (.int r)) G) {k5 : Nat → Int32 → Int32 → Int32 → Int32 → Option Int32} (K5 : ∀ {l0 : Nat} {l1 : Int32} {l2 : Int32} {l3 : Int32} {l4 : Int32}, k5 l0 l1 l2 l3 l4 = some r → gV E X 0 0 G 5 [some (.ref (E.2.1 + l0)), some (.int l1), some (.int l2), some (.int l3), some (.int l4), none] []) {l0 : Nat} {l1 : Int32} {l2 : Int32} {l4 : Int32} {s0 : Int32} (hf : f_Mo_leastOf_b86 G k5 l0 l1 l2 l4 s0 = some r) : gV E X 0 0 G 86 [some (.ref (E.2.1 + l0)), some (.int l1), some (.int l2), none, some (.int l4), none] [.int s0] := by
  unfold f_Mo_leastOf_b86 at hf
  refine g_istore_n (lv' := [some (.ref (E.2.1 + l0)), some (.int l1), some (.int l2), some (.int s0), some (.int l4), none]) C dX10_leastOf_86 (by decide) rfl ?_
  refine g_iinc (v := (l4 + 1)) (lv' := [some (.ref (E.2.1 + l0)), some (.int l1), some (.int l2), some (.int s0), some (.int (l4 + 1)), none]) C dX10_leastOf_87 (by decide) rfl rfl rfl ?_
  refine g_goto (tgt := 5) C dX10_leastOf_90 (by decide) ?_
  refine g_sub (lv' := [some (.ref (E.2.1 + l0)), some (.int l1), some (.int l2), some (.int s0), some (.int (l4 + 1)), none]) ⟨rfl, ⟨rfl, ⟨rfl, ⟨rfl, ⟨rfl, trivial⟩⟩⟩⟩⟩ ?_
  exact K5 hf
set_option maxRecDepth 20000 in
theorem l_Mo_leastOf_b80 {E : EE} {X : CT} {G : Hp} (C : gCx E X cX10_leastOf "FavoursGoOffModel" (some .int) 3 69 0 0 false 6) {r : Int32} (HR : gRet E X cX10_leastOf (some .int) 0 0 (some (.int r)) G) {k5 : Nat → Int32 → Int32 → Int32 → Int32 → Option Int32} (K5 : ∀ {l0 : Nat} {l1 : Int32} {l2 : Int32} {l3 : Int32} {l4 : Int32}, k5 l0 l1 l2 l3 l4 = some r → gV E X 0 0 G 5 [some (.ref (E.2.1 + l0)), some (.int l1), some (.int l2), some (.int l3), some (.int l4), none] []) {l0 : Nat} {l1 : Int32} {l2 : Int32} {l4 : Int32} (hf : f_Mo_leastOf_b80 G k5 l0 l1 l2 l4 = some r) : gV E X 0 0 G 80 [some (.ref (E.2.1 + l0)), some (.int l1), some (.int l2), none, some (.int l4), none] [] := by
  unfold f_Mo_leastOf_b80 at hf
  refine g_iload C dX10_leastOf_80 rfl ?_
  refine g_goto (tgt := 86) C dX10_leastOf_82 (by decide) ?_
  refine g_sub (lv' := [some (.ref (E.2.1 + l0)), some (.int l1), some (.int l2), none, some (.int l4), none]) ⟨rfl, ⟨rfl, ⟨rfl, ⟨rfl, trivial⟩⟩⟩⟩ ?_
  exact l_Mo_leastOf_b86 C HR K5 hf
set_option maxRecDepth 20000 in
theorem l_Mo_leastOf_b85 {E : EE} {X : CT} {G : Hp} (C : gCx E X cX10_leastOf "FavoursGoOffModel" (some .int) 3 69 0 0 false 6) {r : Int32} (HR : gRet E X cX10_leastOf (some .int) 0 0 (some (.int r)) G) {k5 : Nat → Int32 → Int32 → Int32 → Int32 → Option Int32} (K5 : ∀ {l0 : Nat} {l1 : Int32} {l2 : Int32} {l3 : Int32} {l4 : Int32}, k5 l0 l1 l2 l3 l4 = some r → gV E X 0 0 G 5 [some (.ref (E.2.1 + l0)), some (.int l1), some (.int l2), some (.int l3), some (.int l4), none] []) {l0 : Nat} {l1 : Int32} {l2 : Int32} {l3 : Int32} {l4 : Int32} (hf : f_Mo_leastOf_b85 G k5 l0 l1 l2 l3 l4 = some r) : gV E X 0 0 G 85 [some (.ref (E.2.1 + l0)), some (.int l1), some (.int l2), some (.int l3), some (.int l4), none] [] := by
  unfold f_Mo_leastOf_b85 at hf
  refine g_iload_n C dX10_leastOf_85 rfl ?_
  refine g_sub (lv' := [some (.ref (E.2.1 + l0)), some (.int l1), some (.int l2), none, some (.int l4), none]) ⟨rfl, ⟨rfl, ⟨rfl, ⟨rfl, trivial⟩⟩⟩⟩ ?_
  exact l_Mo_leastOf_b86 C HR K5 hf
set_option maxRecDepth 20000 in
theorem l_Mo_leastOf_b54 {E : EE} {X : CT} {G : Hp} (C : gCx E X cX10_leastOf "FavoursGoOffModel" (some .int) 3 69 0 0 false 6) {r : Int32} (HR : gRet E X cX10_leastOf (some .int) 0 0 (some (.int r)) G) {k5 : Nat → Int32 → Int32 → Int32 → Int32 → Option Int32} (K5 : ∀ {l0 : Nat} {l1 : Int32} {l2 : Int32} {l3 : Int32} {l4 : Int32}, k5 l0 l1 l2 l3 l4 = some r → gV E X 0 0 G 5 [some (.ref (E.2.1 + l0)), some (.int l1), some (.int l2), some (.int l3), some (.int l4), none] []) {l0 : Nat} {l1 : Int32} {l2 : Int32} {l3 : Int32} {l4 : Int32} {s0 : Int32} (hf : f_Mo_leastOf_b54 G k5 l0 l1 l2 l3 l4 s0 = some r) : gV E X 0 0 G 54 [some (.ref (E.2.1 + l0)), some (.int l1), some (.int l2), some (.int l3), some (.int l4), none] [.int s0] := by
  unfold f_Mo_leastOf_b54 at hf
  refine g_istore (lv' := [some (.ref (E.2.1 + l0)), some (.int l1), some (.int l2), some (.int l3), some (.int l4), some (.int s0)]) C dX10_leastOf_54 (by decide) rfl ?_
  refine g_iload C dX10_leastOf_56 rfl ?_
  refine g_if_eq (tgt := 85) C dX10_leastOf_58 (by decide) (fun hc => ?_) (fun hc => ?_)
  · have hf := iteT hf hc
    refine g_sub (lv' := [some (.ref (E.2.1 + l0)), some (.int l1), some (.int l2), some (.int l3), some (.int l4), none]) ⟨rfl, ⟨rfl, ⟨rfl, ⟨rfl, ⟨rfl, trivial⟩⟩⟩⟩⟩ ?_
    exact l_Mo_leastOf_b85 C HR K5 hf
  · have hf := iteF hf hc
    refine g_iload_n C dX10_leastOf_61 rfl ?_
    refine g_iconst (v := (-1 : Int32)) C dX10_leastOf_62 (by decide) ?_
    refine g_icmp_eq (tgt := 80) C dX10_leastOf_63 (by decide) (fun hc => ?_) (fun hc => ?_)
    · have hf := iteT hf hc
      refine g_sub (lv' := [some (.ref (E.2.1 + l0)), some (.int l1), some (.int l2), none, some (.int l4), none]) ⟨rfl, ⟨rfl, ⟨rfl, ⟨rfl, trivial⟩⟩⟩⟩ ?_
      exact l_Mo_leastOf_b80 C HR K5 hf
    · have hf := iteF hf hc
      refine g_aload_n C dX10_leastOf_66 rfl ?_
      refine g_iload C dX10_leastOf_67 rfl ?_
      obtain ⟨x1, hg, h1, hf⟩ := vP_ok hf
      refine g_invV (As := [.int l4]) (st := []) C (c_Mo_valueNow E h1) (rfl : vwCl[10]? = some (y_Mo_valueNow.cls, TX10, 24)) (by decide) hg ml_Mo_125 cm_Mo_valueNow.1 cm_Mo_valueNow.2.1 cm_Mo_valueNow.2.2.1 cm_Mo_valueNow.2.2.2.1 cm_Mo_valueNow.2.2.2.2 rfl ⟨by omega, by omega, by omega, by omega⟩ (by exact Nat.le_of_ble_eq_true rfl) rfl dX10_leastOf_69 ?_
      refine g_aload_n C dX10_leastOf_72 rfl ?_
      refine g_iload_n C dX10_leastOf_73 rfl ?_
      obtain ⟨x2, hg, h1, hf⟩ := vP_ok hf
      refine g_invV (As := [.int l3]) (st := [.int x1]) C (c_Mo_valueNow E h1) (rfl : vwCl[10]? = some (y_Mo_valueNow.cls, TX10, 24)) (by decide) hg ml_Mo_125 cm_Mo_valueNow.1 cm_Mo_valueNow.2.1 cm_Mo_valueNow.2.2.1 cm_Mo_valueNow.2.2.2.1 cm_Mo_valueNow.2.2.2.2 rfl ⟨by omega, by omega, by omega, by omega⟩ (by exact Nat.le_of_ble_eq_true rfl) rfl dX10_leastOf_74 ?_
      refine g_icmp_ge (tgt := 85) C dX10_leastOf_77 (by decide) (fun hc => ?_) (fun hc => ?_)
      · have hf := iteT hf hc
        refine g_sub (lv' := [some (.ref (E.2.1 + l0)), some (.int l1), some (.int l2), some (.int l3), some (.int l4), none]) ⟨rfl, ⟨rfl, ⟨rfl, ⟨rfl, ⟨rfl, trivial⟩⟩⟩⟩⟩ ?_
        exact l_Mo_leastOf_b85 C HR K5 hf
      · have hf := iteF hf hc
        refine g_sub (lv' := [some (.ref (E.2.1 + l0)), some (.int l1), some (.int l2), none, some (.int l4), none]) ⟨rfl, ⟨rfl, ⟨rfl, ⟨rfl, trivial⟩⟩⟩⟩ ?_
        exact l_Mo_leastOf_b80 C HR K5 hf
set_option maxRecDepth 20000 in
theorem l_Mo_leastOf_b53 {E : EE} {X : CT} {G : Hp} (C : gCx E X cX10_leastOf "FavoursGoOffModel" (some .int) 3 69 0 0 false 6) {r : Int32} (HR : gRet E X cX10_leastOf (some .int) 0 0 (some (.int r)) G) {k5 : Nat → Int32 → Int32 → Int32 → Int32 → Option Int32} (K5 : ∀ {l0 : Nat} {l1 : Int32} {l2 : Int32} {l3 : Int32} {l4 : Int32}, k5 l0 l1 l2 l3 l4 = some r → gV E X 0 0 G 5 [some (.ref (E.2.1 + l0)), some (.int l1), some (.int l2), some (.int l3), some (.int l4), none] []) {l0 : Nat} {l1 : Int32} {l2 : Int32} {l3 : Int32} {l4 : Int32} (hf : f_Mo_leastOf_b53 G k5 l0 l1 l2 l3 l4 = some r) : gV E X 0 0 G 53 [some (.ref (E.2.1 + l0)), some (.int l1), some (.int l2), some (.int l3), some (.int l4), none] [] := by
  unfold f_Mo_leastOf_b53 at hf
  refine g_iconst (v := (0 : Int32)) C dX10_leastOf_53 (by decide) ?_
  refine g_sub (lv' := [some (.ref (E.2.1 + l0)), some (.int l1), some (.int l2), some (.int l3), some (.int l4), none]) ⟨rfl, ⟨rfl, ⟨rfl, ⟨rfl, ⟨rfl, trivial⟩⟩⟩⟩⟩ ?_
  exact l_Mo_leastOf_b54 C HR K5 hf
set_option maxRecDepth 20000 in
theorem l_Mo_leastOf_b5k {E : EE} {X : CT} {G : Hp} (C : gCx E X cX10_leastOf "FavoursGoOffModel" (some .int) 3 69 0 0 false 6) {r : Int32} (HR : gRet E X cX10_leastOf (some .int) 0 0 (some (.int r)) G) {k5 : Nat → Int32 → Int32 → Int32 → Int32 → Option Int32} (K5 : ∀ {l0 : Nat} {l1 : Int32} {l2 : Int32} {l3 : Int32} {l4 : Int32}, k5 l0 l1 l2 l3 l4 = some r → gV E X 0 0 G 5 [some (.ref (E.2.1 + l0)), some (.int l1), some (.int l2), some (.int l3), some (.int l4), none] []) {l0 : Nat} {l1 : Int32} {l2 : Int32} {l3 : Int32} {l4 : Int32} (hf : f_Mo_leastOf_b5_k G k5 l0 l1 l2 l3 l4 = some r) : gV E X 0 0 G 5 [some (.ref (E.2.1 + l0)), some (.int l1), some (.int l2), some (.int l3), some (.int l4), none] [] := by
  unfold f_Mo_leastOf_b5_k at hf
  refine g_iload C dX10_leastOf_5 rfl ?_
  refine g_aload_n C dX10_leastOf_7 rfl ?_
  obtain ⟨x1, hg, hf⟩ := gR_ok hf
  refine g_getR C fl_Mo_7 dX10_leastOf_8 hg ?_
  refine g_sipush (v := (158 : Int32)) C dX10_leastOf_11 (by decide) ?_
  obtain ⟨x2, hx2, hg, hf⟩ := aI_ok hf
  refine e_iald C dX10_leastOf_14 hx2 hg ?_
  refine g_icmp_ge (tgt := 93) C dX10_leastOf_15 (by decide) (fun hc => ?_) (fun hc => ?_)
  · have hf := iteT hf hc
    refine g_iload_n C dX10_leastOf_93 rfl ?_
    obtain rfl := rP_ok hf
    exact g_iret HR dX10_leastOf_94
  · have hf := iteF hf hc
    refine g_aload_n C dX10_leastOf_18 rfl ?_
    refine g_iload C dX10_leastOf_19 rfl ?_
    refine g_iconst (v := (1 : Int32)) C dX10_leastOf_21 (by decide) ?_
    obtain ⟨x3, hg, h1, hf⟩ := vP_ok hf
    refine g_invV (As := [.int l4, .int (1 : Int32)]) (st := []) C (c_Mo_told0 E h1) (rfl : vwCl[10]? = some (y_Mo_told0.cls, TX10, 24)) (by decide) hg ml_Mo_112 cm_Mo_told0.1 cm_Mo_told0.2.1 cm_Mo_told0.2.2.1 cm_Mo_told0.2.2.2.1 cm_Mo_told0.2.2.2.2 rfl ⟨by omega, by omega, by omega, by omega⟩ (by exact Nat.le_of_ble_eq_true rfl) rfl dX10_leastOf_22 ?_
    refine g_iload_n C dX10_leastOf_25 rfl ?_
    refine g_icmp_ne (tgt := 53) C dX10_leastOf_26 (by decide) (fun hc => ?_) (fun hc => ?_)
    · have hf := iteF hf hc
      refine g_sub (lv' := [some (.ref (E.2.1 + l0)), some (.int l1), some (.int l2), some (.int l3), some (.int l4), none]) ⟨rfl, ⟨rfl, ⟨rfl, ⟨rfl, ⟨rfl, trivial⟩⟩⟩⟩⟩ ?_
      exact l_Mo_leastOf_b53 C HR K5 hf
    · have hf := iteT hf hc
      refine g_aload_n C dX10_leastOf_29 rfl ?_
      refine g_iload C dX10_leastOf_30 rfl ?_
      refine g_iconst (v := (2 : Int32)) C dX10_leastOf_32 (by decide) ?_
      obtain ⟨x4, hg, h1, hf⟩ := vP_ok hf
      refine g_invV (As := [.int l4, .int (2 : Int32)]) (st := []) C (c_Mo_told0 E h1) (rfl : vwCl[10]? = some (y_Mo_told0.cls, TX10, 24)) (by decide) hg ml_Mo_112 cm_Mo_told0.1 cm_Mo_told0.2.1 cm_Mo_told0.2.2.1 cm_Mo_told0.2.2.2.1 cm_Mo_told0.2.2.2.2 rfl ⟨by omega, by omega, by omega, by omega⟩ (by exact Nat.le_of_ble_eq_true rfl) rfl dX10_leastOf_33 ?_
      refine g_iload_n C dX10_leastOf_36 rfl ?_
      refine g_icmp_ne (tgt := 53) C dX10_leastOf_37 (by decide) (fun hc => ?_) (fun hc => ?_)
      · have hf := iteF hf hc
        refine g_sub (lv' := [some (.ref (E.2.1 + l0)), some (.int l1), some (.int l2), some (.int l3), some (.int l4), none]) ⟨rfl, ⟨rfl, ⟨rfl, ⟨rfl, ⟨rfl, trivial⟩⟩⟩⟩⟩ ?_
        exact l_Mo_leastOf_b53 C HR K5 hf
      · have hf := iteT hf hc
        refine g_aload_n C dX10_leastOf_40 rfl ?_
        refine g_iload C dX10_leastOf_41 rfl ?_
        obtain ⟨x5, hg, h1, hf⟩ := vP_ok hf
        refine g_invV (As := [.int l4]) (st := []) C (c_Mo_valueNow E h1) (rfl : vwCl[10]? = some (y_Mo_valueNow.cls, TX10, 24)) (by decide) hg ml_Mo_125 cm_Mo_valueNow.1 cm_Mo_valueNow.2.1 cm_Mo_valueNow.2.2.1 cm_Mo_valueNow.2.2.2.1 cm_Mo_valueNow.2.2.2.2 rfl ⟨by omega, by omega, by omega, by omega⟩ (by exact Nat.le_of_ble_eq_true rfl) rfl dX10_leastOf_43 ?_
        refine g_if_le (tgt := 53) C dX10_leastOf_46 (by decide) (fun hc => ?_) (fun hc => ?_)
        · have hf := iteT hf hc
          refine g_sub (lv' := [some (.ref (E.2.1 + l0)), some (.int l1), some (.int l2), some (.int l3), some (.int l4), none]) ⟨rfl, ⟨rfl, ⟨rfl, ⟨rfl, ⟨rfl, trivial⟩⟩⟩⟩⟩ ?_
          exact l_Mo_leastOf_b53 C HR K5 hf
        · have hf := iteF hf hc
          refine g_iconst (v := (1 : Int32)) C dX10_leastOf_49 (by decide) ?_
          refine g_goto (tgt := 54) C dX10_leastOf_50 (by decide) ?_
          refine g_sub (lv' := [some (.ref (E.2.1 + l0)), some (.int l1), some (.int l2), some (.int l3), some (.int l4), none]) ⟨rfl, ⟨rfl, ⟨rfl, ⟨rfl, ⟨rfl, trivial⟩⟩⟩⟩⟩ ?_
          exact l_Mo_leastOf_b54 C HR K5 hf
theorem l_Mo_leastOf_b5 {E : EE} {X : CT} {G : Hp} (C : gCx E X cX10_leastOf "FavoursGoOffModel" (some .int) 3 69 0 0 false 6) {r : Int32} (HR : gRet E X cX10_leastOf (some .int) 0 0 (some (.int r)) G) : ∀ (nn : Nat) {l0 : Nat} {l1 : Int32} {l2 : Int32} {l3 : Int32} {l4 : Int32}, f_Mo_leastOf_b5 G nn l0 l1 l2 l3 l4 = some r → gV E X 0 0 G 5 [some (.ref (E.2.1 + l0)), some (.int l1), some (.int l2), some (.int l3), some (.int l4), none] []
  | 0, _, _, _, _, _, hf => by have h0 : (none : Option Int32) = some r := hf; cases h0
  | nn + 1, _, _, _, _, _, hf => l_Mo_leastOf_b5k C HR (fun h => l_Mo_leastOf_b5 C HR nn h) hf
set_option maxRecDepth 20000 in
theorem l_Mo_leastOf {E : EE} {X : CT} {G : Hp} (C : gCx E X cX10_leastOf "FavoursGoOffModel" (some .int) 3 69 0 0 false 6) {r : Int32} (HR : gRet E X cX10_leastOf (some .int) 0 0 (some (.int r)) G) {l0 : Nat} {l1 : Int32} {l2 : Int32} (hf : f_Mo_leastOf G l0 l1 l2 = some r) : gV E X 0 0 G 0 [some (.ref (E.2.1 + l0)), some (.int l1), some (.int l2), none, none, none] [] := by
  unfold f_Mo_leastOf at hf
  refine g_iconst (v := (-1 : Int32)) C dX10_leastOf_0 (by decide) ?_
  refine g_istore_n (lv' := [some (.ref (E.2.1 + l0)), some (.int l1), some (.int l2), some (.int (-1 : Int32)), none, none]) C dX10_leastOf_1 (by decide) rfl ?_
  refine g_iconst (v := (0 : Int32)) C dX10_leastOf_2 (by decide) ?_
  refine g_istore (lv' := [some (.ref (E.2.1 + l0)), some (.int l1), some (.int l2), some (.int (-1 : Int32)), some (.int (0 : Int32)), none]) C dX10_leastOf_3 (by decide) rfl ?_
  refine g_sub (lv' := [some (.ref (E.2.1 + l0)), some (.int l1), some (.int l2), some (.int (-1 : Int32)), some (.int (0 : Int32)), none]) ⟨rfl, ⟨rfl, ⟨rfl, ⟨rfl, ⟨rfl, trivial⟩⟩⟩⟩⟩ ?_
  exact l_Mo_leastOf_b5 C HR  FU hf
theorem c_Mo_leastOf (E : EE) {G : Hp} {l0 : Nat} {l1 : Int32} {l2 : Int32} {r : Int32} (h : f_Mo_leastOf G l0 l1 l2 = some r) : gCt E y_Mo_leastOf cX10_leastOf 6 (some .int) 3 69 0 0 [.ref (E.2.1 + l0), .int l1, .int l2] G (some (.int r)) G := gCt_of (own := "FavoursGoOffModel") (ini := false) [some (.ref (E.2.1 + l0)), some (.int l1), some (.int l2), none, none, none] (by decide +kernel) rfl (fun h => by cases h) (Nat.le_of_ble_eq_true rfl) ⟨rfl, ⟨rfl, ⟨rfl, trivial⟩⟩⟩ (fun X C HR => l_Mo_leastOf C HR h)
set_option maxRecDepth 20000 in
theorem l_Mo_cancel_b20k {E : EE} {X : CT} {G : Hp} (C : gCx E X cX10_cancel "FavoursGoOffModel" (some .int) 6 142 0 0 false 2) {r : Int32} {G' : Hp} (HR : gRet E X cX10_cancel (some .int) 0 0 (some (.int r)) G') {k20 : Hp → Nat → Int32 → Option (Int32 × Hp)} (K20 : ∀ {G : Hp} {l0 : Nat} {l1 : Int32}, k20 G l0 l1 = some (r, G') → gV E X 0 0 G 20 [some (.ref (E.2.1 + l0)), some (.int l1)] []) {l0 : Nat} {l1 : Int32} (hf : f_Mo_cancel_b20_k k20 G l0 l1 = some (r, G')) : gV E X 0 0 G 20 [some (.ref (E.2.1 + l0)), some (.int l1)] [] := by
  unfold f_Mo_cancel_b20_k at hf
  refine g_iload_n C dX10_cancel_20 rfl ?_
  refine g_aload_n C dX10_cancel_21 rfl ?_
  obtain ⟨x1, hx1, hg, hf⟩ := gI_ok hf
  refine e_getI C fl_Mo_138 dX10_cancel_22 hx1 hg ?_
  refine g_icmp_ge (tgt := 61) C dX10_cancel_25 (by decide) (fun hc => ?_) (fun hc => ?_)
  · have hf := iteT hf hc
    refine g_aload_n C dX10_cancel_61 rfl ?_
    obtain ⟨x2, hx2, hg, hf⟩ := gI_ok hf
    refine e_getI C fl_Mo_138 dX10_cancel_62 hx2 hg ?_
    obtain ⟨rfl, rfl⟩ := rH_ok hf
    exact g_iret HR dX10_cancel_65
  · have hf := iteF hf hc
    refine g_aload_n C dX10_cancel_28 rfl ?_
    refine g_aload_n C dX10_cancel_29 rfl ?_
    refine g_aload_n C dX10_cancel_30 rfl ?_
    obtain ⟨x3, hg, hf⟩ := gR_ok hf
    refine g_getR C fl_Mo_27 dX10_cancel_31 hg ?_
    refine g_iload_n C dX10_cancel_34 rfl ?_
    obtain ⟨x4, hx4, hg, hf⟩ := aI_ok hf
    refine e_iald C dX10_cancel_35 hx4 hg ?_
    refine g_aload_n C dX10_cancel_36 rfl ?_
    obtain ⟨x5, hg, hf⟩ := gR_ok hf
    refine g_getR C fl_Mo_27 dX10_cancel_37 hg ?_
    refine g_iload_n C dX10_cancel_40 rfl ?_
    refine g_iconst (v := (1 : Int32)) C dX10_cancel_41 (by decide) ?_
    refine g_iadd C dX10_cancel_42 ?_
    refine g_aload_n C dX10_cancel_43 rfl ?_
    obtain ⟨x6, hx6, hg, hf⟩ := gI_ok hf
    refine e_getI C fl_Mo_138 dX10_cancel_44 hx6 hg ?_
    obtain ⟨hy, hf⟩ := dI_ok hf
    refine g_irem C dX10_cancel_47 hy ?_
    obtain ⟨x7, hx7, hg, hf⟩ := aI_ok hf
    refine e_iald C dX10_cancel_48 hx7 hg ?_
    obtain ⟨x8, hg, h1, hf⟩ := vP_ok hf
    refine g_invV (As := [.int x4, .int x7]) (st := [.ref (E.2.1 + l0)]) C (c_Mo_leastOf E h1) (rfl : vwCl[10]? = some (y_Mo_leastOf.cls, TX10, 24)) (by decide) hg ml_Mo_149 cm_Mo_leastOf.1 cm_Mo_leastOf.2.1 cm_Mo_leastOf.2.2.1 cm_Mo_leastOf.2.2.2.1 cm_Mo_leastOf.2.2.2.2 rfl ⟨by omega, by omega, by omega, by omega⟩ (by exact Nat.le_of_ble_eq_true rfl) rfl dX10_cancel_49 ?_
    obtain ⟨G9, hg, h1, hf⟩ := vP_ok hf
    refine g_invV (As := [.int x8]) (st := []) C (c_Mo_lose E h1) (rfl : vwCl[10]? = some (y_Mo_lose.cls, TX10, 24)) (by decide) hg ml_Mo_131 cm_Mo_lose.1 cm_Mo_lose.2.1 cm_Mo_lose.2.2.1 cm_Mo_lose.2.2.2.1 cm_Mo_lose.2.2.2.2 rfl ⟨by omega, by omega, by omega, by omega⟩ (by exact Nat.le_of_ble_eq_true rfl) rfl dX10_cancel_52 ?_
    refine g_iinc (v := (l1 + 1)) (lv' := [some (.ref (E.2.1 + l0)), some (.int (l1 + 1))]) C dX10_cancel_55 (by decide) rfl rfl rfl ?_
    refine g_goto (tgt := 20) C dX10_cancel_58 (by decide) ?_
    refine g_sub (lv' := [some (.ref (E.2.1 + l0)), some (.int (l1 + 1))]) ⟨rfl, ⟨rfl, trivial⟩⟩ ?_
    exact K20 hf
theorem l_Mo_cancel_b20 {E : EE} {X : CT} (C : gCx E X cX10_cancel "FavoursGoOffModel" (some .int) 6 142 0 0 false 2) {r : Int32} {G' : Hp} (HR : gRet E X cX10_cancel (some .int) 0 0 (some (.int r)) G') : ∀ (nn : Nat) {G : Hp} {l0 : Nat} {l1 : Int32}, f_Mo_cancel_b20 nn G l0 l1 = some (r, G') → gV E X 0 0 G 20 [some (.ref (E.2.1 + l0)), some (.int l1)] []
  | 0, _, _, _, hf => by have h0 : (none : Option (Int32 × Hp)) = some (r, G') := hf; cases h0
  | nn + 1, _, _, _, hf => l_Mo_cancel_b20k C HR (fun h => l_Mo_cancel_b20 C HR nn h) hf
set_option maxRecDepth 20000 in
theorem l_Mo_cancel {E : EE} {X : CT} {G : Hp} (C : gCx E X cX10_cancel "FavoursGoOffModel" (some .int) 6 142 0 0 false 2) {r : Int32} {G' : Hp} (HR : gRet E X cX10_cancel (some .int) 0 0 (some (.int r)) G') {l0 : Nat} (hf : f_Mo_cancel G l0 = some (r, G')) : gV E X 0 0 G 0 [some (.ref (E.2.1 + l0)), none] [] := by
  unfold f_Mo_cancel at hf
  refine g_aload_n C dX10_cancel_0 rfl ?_
  obtain ⟨G1, hg, h1, hf⟩ := vP_ok hf
  refine g_invV (As := []) (st := []) C (c_Mo_findRing E h1) (rfl : vwCl[10]? = some (y_Mo_findRing.cls, TX10, 24)) (by decide) hg ml_Mo_146 cm_Mo_findRing.1 cm_Mo_findRing.2.1 cm_Mo_findRing.2.2.1 cm_Mo_findRing.2.2.2.1 cm_Mo_findRing.2.2.2.2 rfl ⟨by omega, by omega, by omega, by omega⟩ (by exact Nat.le_of_ble_eq_true rfl) rfl dX10_cancel_1 ?_
  refine g_aload_n C dX10_cancel_4 rfl ?_
  obtain ⟨x2, hx2, hg, hf⟩ := gI_ok hf
  refine e_getI C fl_Mo_138 dX10_cancel_5 hx2 hg ?_
  refine g_if_ne (tgt := 18) C dX10_cancel_8 (by decide) (fun hc => ?_) (fun hc => ?_)
  · have hf := iteF hf hc
    refine g_iconst (v := (0 : Int32)) C dX10_cancel_18 (by decide) ?_
    refine g_istore_n (lv' := [some (.ref (E.2.1 + l0)), some (.int (0 : Int32))]) C dX10_cancel_19 (by decide) rfl ?_
    refine g_sub (lv' := [some (.ref (E.2.1 + l0)), some (.int (0 : Int32))]) ⟨rfl, ⟨rfl, trivial⟩⟩ ?_
    exact l_Mo_cancel_b20 C HR  FU hf
  · have hf := iteT hf hc
    refine g_aload_n C dX10_cancel_11 rfl ?_
    refine g_bipush (v := (-3 : Int32)) C dX10_cancel_12 (by decide) ?_
    obtain ⟨x3, G4, hg, h1, hf⟩ := vH_ok hf
    refine g_invV (As := [.int (-3 : Int32)]) (st := []) C (c_Mo_no E h1) (rfl : vwCl[10]? = some (y_Mo_no.cls, TX10, 24)) (by decide) hg ml_Mo_128 cm_Mo_no.1 cm_Mo_no.2.1 cm_Mo_no.2.2.1 cm_Mo_no.2.2.2.1 cm_Mo_no.2.2.2.2 rfl ⟨by omega, by omega, by omega, by omega⟩ (by exact Nat.le_of_ble_eq_true rfl) rfl dX10_cancel_14 ?_
    obtain ⟨rfl, rfl⟩ := rH_ok hf
    exact g_iret HR dX10_cancel_17
theorem c_Mo_cancel (E : EE) {G : Hp} {l0 : Nat} {r : Int32} {G' : Hp} (h : f_Mo_cancel G l0 = some (r, G')) : gCt E y_Mo_cancel cX10_cancel 2 (some .int) 6 142 0 0 [.ref (E.2.1 + l0)] G (some (.int r)) G' := gCt_of (own := "FavoursGoOffModel") (ini := false) [some (.ref (E.2.1 + l0)), none] (by decide +kernel) rfl (fun h => by cases h) (Nat.le_of_ble_eq_true rfl) ⟨rfl, trivial⟩ (fun X C HR => l_Mo_cancel C HR h)
set_option maxRecDepth 20000 in
theorem l_Mo_netOf_b35 {E : EE} {X : CT} {G : Hp} (C : gCx E X cX10_netOf "FavoursGoOffModel" (some .int) 4 93 0 0 false 4) {r : Int32} (HR : gRet E X cX10_netOf (some .int) 0 0 (some (.int r)) G) {k4 : Nat → Int32 → Int32 → Int32 → Option Int32} (K4 : ∀ {l0 : Nat} {l1 : Int32} {l2 : Int32} {l3 : Int32}, k4 l0 l1 l2 l3 = some r → gV E X 0 0 G 4 [some (.ref (E.2.1 + l0)), some (.int l1), some (.int l2), some (.int l3)] []) {l0 : Nat} {l1 : Int32} {l3 : Int32} {s0 : Int32} {s1 : Int32} (hf : f_Mo_netOf_b35 G k4 l0 l1 l3 s0 s1 = some r) : gV E X 0 0 G 35 [some (.ref (E.2.1 + l0)), some (.int l1), none, some (.int l3)] [.int s1, .int s0] := by
  unfold f_Mo_netOf_b35 at hf
  refine g_iadd C dX10_netOf_35 ?_
  obtain ⟨x1, hx1, hf⟩ := lt_ok hf
  refine e_top hx1 ?_
  refine g_istore_n (lv' := [some (.ref (E.2.1 + l0)), some (.int l1), some (.int x1), some (.int l3)]) C dX10_netOf_36 (by decide) rfl ?_
  refine g_iinc (v := (l3 + 1)) (lv' := [some (.ref (E.2.1 + l0)), some (.int l1), some (.int x1), some (.int (l3 + 1))]) C dX10_netOf_37 (by decide) rfl rfl rfl ?_
  refine g_goto (tgt := 4) C dX10_netOf_40 (by decide) ?_
  refine g_sub (lv' := [some (.ref (E.2.1 + l0)), some (.int l1), some (.int x1), some (.int (l3 + 1))]) ⟨rfl, ⟨rfl, ⟨rfl, ⟨rfl, trivial⟩⟩⟩⟩ ?_
  exact K4 hf
set_option maxRecDepth 20000 in
theorem l_Mo_netOf_b4k {E : EE} {X : CT} {G : Hp} (C : gCx E X cX10_netOf "FavoursGoOffModel" (some .int) 4 93 0 0 false 4) {r : Int32} (HR : gRet E X cX10_netOf (some .int) 0 0 (some (.int r)) G) {k4 : Nat → Int32 → Int32 → Int32 → Option Int32} (K4 : ∀ {l0 : Nat} {l1 : Int32} {l2 : Int32} {l3 : Int32}, k4 l0 l1 l2 l3 = some r → gV E X 0 0 G 4 [some (.ref (E.2.1 + l0)), some (.int l1), some (.int l2), some (.int l3)] []) {l0 : Nat} {l1 : Int32} {l2 : Int32} {l3 : Int32} (hf : f_Mo_netOf_b4_k G k4 l0 l1 l2 l3 = some r) : gV E X 0 0 G 4 [some (.ref (E.2.1 + l0)), some (.int l1), some (.int l2), some (.int l3)] [] := by
  unfold f_Mo_netOf_b4_k at hf
  refine g_iload_n C dX10_netOf_4 rfl ?_
  refine g_aload_n C dX10_netOf_5 rfl ?_
  obtain ⟨x1, hg, h1, hf⟩ := vP_ok hf
  refine g_invV (As := []) (st := [.int l3]) C (c_Mo_many E h1) (rfl : vwCl[10]? = some (y_Mo_many.cls, TX10, 24)) (by decide) hg ml_Mo_64 cm_Mo_many.1 cm_Mo_many.2.1 cm_Mo_many.2.2.1 cm_Mo_many.2.2.2.1 cm_Mo_many.2.2.2.2 rfl ⟨by omega, by omega, by omega, by omega⟩ (by exact Nat.le_of_ble_eq_true rfl) rfl dX10_netOf_6 ?_
  refine g_icmp_ge (tgt := 43) C dX10_netOf_9 (by decide) (fun hc => ?_) (fun hc => ?_)
  · have hf := iteT hf hc
    refine g_iload_n C dX10_netOf_43 rfl ?_
    obtain rfl := rP_ok hf
    exact g_iret HR dX10_netOf_44
  · have hf := iteF hf hc
    refine g_iload_n C dX10_netOf_12 rfl ?_
    refine g_iload_n C dX10_netOf_13 rfl ?_
    refine g_iload_n C dX10_netOf_14 rfl ?_
    refine g_icmp_ne (tgt := 22) C dX10_netOf_15 (by decide) (fun hc => ?_) (fun hc => ?_)
    · have hf := iteF hf hc
      refine g_aload_n C dX10_netOf_22 rfl ?_
      refine g_iload_n C dX10_netOf_23 rfl ?_
      refine g_iload_n C dX10_netOf_24 rfl ?_
      obtain ⟨x2, hg, h1, hf⟩ := vP_ok hf
      refine g_invV (As := [.int l3, .int l1]) (st := [.int l2]) C (c_Mo_owesTo E h1) (rfl : vwCl[10]? = some (y_Mo_owesTo.cls, TX10, 24)) (by decide) hg ml_Mo_135 cm_Mo_owesTo.1 cm_Mo_owesTo.2.1 cm_Mo_owesTo.2.2.1 cm_Mo_owesTo.2.2.2.1 cm_Mo_owesTo.2.2.2.2 rfl ⟨by omega, by omega, by omega, by omega⟩ (by exact Nat.le_of_ble_eq_true rfl) rfl dX10_netOf_25 ?_
      refine g_aload_n C dX10_netOf_28 rfl ?_
      refine g_iload_n C dX10_netOf_29 rfl ?_
      refine g_iload_n C dX10_netOf_30 rfl ?_
      obtain ⟨x3, hg, h1, hf⟩ := vP_ok hf
      refine g_invV (As := [.int l1, .int l3]) (st := [.int x2, .int l2]) C (c_Mo_owesTo E h1) (rfl : vwCl[10]? = some (y_Mo_owesTo.cls, TX10, 24)) (by decide) hg ml_Mo_135 cm_Mo_owesTo.1 cm_Mo_owesTo.2.1 cm_Mo_owesTo.2.2.1 cm_Mo_owesTo.2.2.2.1 cm_Mo_owesTo.2.2.2.2 rfl ⟨by omega, by omega, by omega, by omega⟩ (by exact Nat.le_of_ble_eq_true rfl) rfl dX10_netOf_31 ?_
      refine g_isub C dX10_netOf_34 ?_
      refine g_sub (lv' := [some (.ref (E.2.1 + l0)), some (.int l1), none, some (.int l3)]) ⟨rfl, ⟨rfl, ⟨rfl, trivial⟩⟩⟩ ?_
      exact l_Mo_netOf_b35 C HR K4 hf
    · have hf := iteT hf hc
      refine g_iconst (v := (0 : Int32)) C dX10_netOf_18 (by decide) ?_
      refine g_goto (tgt := 35) C dX10_netOf_19 (by decide) ?_
      refine g_sub (lv' := [some (.ref (E.2.1 + l0)), some (.int l1), none, some (.int l3)]) ⟨rfl, ⟨rfl, ⟨rfl, trivial⟩⟩⟩ ?_
      exact l_Mo_netOf_b35 C HR K4 hf
theorem l_Mo_netOf_b4 {E : EE} {X : CT} {G : Hp} (C : gCx E X cX10_netOf "FavoursGoOffModel" (some .int) 4 93 0 0 false 4) {r : Int32} (HR : gRet E X cX10_netOf (some .int) 0 0 (some (.int r)) G) : ∀ (nn : Nat) {l0 : Nat} {l1 : Int32} {l2 : Int32} {l3 : Int32}, f_Mo_netOf_b4 G nn l0 l1 l2 l3 = some r → gV E X 0 0 G 4 [some (.ref (E.2.1 + l0)), some (.int l1), some (.int l2), some (.int l3)] []
  | 0, _, _, _, _, hf => by have h0 : (none : Option Int32) = some r := hf; cases h0
  | nn + 1, _, _, _, _, hf => l_Mo_netOf_b4k C HR (fun h => l_Mo_netOf_b4 C HR nn h) hf
set_option maxRecDepth 20000 in
theorem l_Mo_netOf {E : EE} {X : CT} {G : Hp} (C : gCx E X cX10_netOf "FavoursGoOffModel" (some .int) 4 93 0 0 false 4) {r : Int32} (HR : gRet E X cX10_netOf (some .int) 0 0 (some (.int r)) G) {l0 : Nat} {l1 : Int32} (hf : f_Mo_netOf G l0 l1 = some r) : gV E X 0 0 G 0 [some (.ref (E.2.1 + l0)), some (.int l1), none, none] [] := by
  unfold f_Mo_netOf at hf
  refine g_iconst (v := (0 : Int32)) C dX10_netOf_0 (by decide) ?_
  refine g_istore_n (lv' := [some (.ref (E.2.1 + l0)), some (.int l1), some (.int (0 : Int32)), none]) C dX10_netOf_1 (by decide) rfl ?_
  refine g_iconst (v := (0 : Int32)) C dX10_netOf_2 (by decide) ?_
  refine g_istore_n (lv' := [some (.ref (E.2.1 + l0)), some (.int l1), some (.int (0 : Int32)), some (.int (0 : Int32))]) C dX10_netOf_3 (by decide) rfl ?_
  refine g_sub (lv' := [some (.ref (E.2.1 + l0)), some (.int l1), some (.int (0 : Int32)), some (.int (0 : Int32))]) ⟨rfl, ⟨rfl, ⟨rfl, ⟨rfl, trivial⟩⟩⟩⟩ ?_
  exact l_Mo_netOf_b4 C HR  FU hf
theorem c_Mo_netOf (E : EE) {G : Hp} {l0 : Nat} {l1 : Int32} {r : Int32} (h : f_Mo_netOf G l0 l1 = some r) : gCt E y_Mo_netOf cX10_netOf 4 (some .int) 4 93 0 0 [.ref (E.2.1 + l0), .int l1] G (some (.int r)) G := gCt_of (own := "FavoursGoOffModel") (ini := false) [some (.ref (E.2.1 + l0)), some (.int l1), none, none] (by decide +kernel) rfl (fun h => by cases h) (Nat.le_of_ble_eq_true rfl) ⟨rfl, ⟨rfl, trivial⟩⟩ (fun X C HR => l_Mo_netOf C HR h)
set_option maxRecDepth 20000 in
theorem l_Mo_net_b23 {E : EE} {X : CT} {G : Hp} (C : gCx E X cX10_net "FavoursGoOffModel" (some .int) 5 116 0 0 false 2) {r : Int32} {G' : Hp} (HR : gRet E X cX10_net (some .int) 0 0 (some (.int r)) G') {s0 : Int32} (hf : f_Mo_net_b23 G s0 = some (r, G')) : gV E X 0 0 G 23 [none, none] [.int s0] := by
  unfold f_Mo_net_b23 at hf
  obtain ⟨rfl, rfl⟩ := rH_ok hf
  exact g_iret HR dX10_net_23
set_option maxRecDepth 20000 in
theorem l_Mo_net {E : EE} {X : CT} {G : Hp} (C : gCx E X cX10_net "FavoursGoOffModel" (some .int) 5 116 0 0 false 2) {r : Int32} {G' : Hp} (HR : gRet E X cX10_net (some .int) 0 0 (some (.int r)) G') {l0 : Nat} {l1 : Int32} (hf : f_Mo_net G l0 l1 = some (r, G')) : gV E X 0 0 G 0 [some (.ref (E.2.1 + l0)), some (.int l1)] [] := by
  unfold f_Mo_net at hf
  refine g_aload_n C dX10_net_0 rfl ?_
  refine g_iload_n C dX10_net_1 rfl ?_
  obtain ⟨x1, hg, h1, hf⟩ := vP_ok hf
  refine g_invV (As := [.int l1]) (st := []) C (c_Mo_isOne E h1) (rfl : vwCl[10]? = some (y_Mo_isOne.cls, TX10, 24)) (by decide) hg ml_Mo_84 cm_Mo_isOne.1 cm_Mo_isOne.2.1 cm_Mo_isOne.2.2.1 cm_Mo_isOne.2.2.2.1 cm_Mo_isOne.2.2.2.2 rfl ⟨by omega, by omega, by omega, by omega⟩ (by exact Nat.le_of_ble_eq_true rfl) rfl dX10_net_2 ?_
  refine g_if_eq (tgt := 16) C dX10_net_5 (by decide) (fun hc => ?_) (fun hc => ?_)
  · have hf := iteT hf hc
    refine g_aload_n C dX10_net_16 rfl ?_
    refine g_sipush (v := (-10000 : Int32)) C dX10_net_17 (by decide) ?_
    obtain ⟨x2, G3, hg, h1, hf⟩ := vH_ok hf
    refine g_invV (As := [.int (-10000 : Int32)]) (st := []) C (c_Mo_bad E h1) (rfl : vwCl[10]? = some (y_Mo_bad.cls, TX10, 24)) (by decide) hg ml_Mo_80 cm_Mo_bad.1 cm_Mo_bad.2.1 cm_Mo_bad.2.2.1 cm_Mo_bad.2.2.2.1 cm_Mo_bad.2.2.2.2 rfl ⟨by omega, by omega, by omega, by omega⟩ (by exact Nat.le_of_ble_eq_true rfl) rfl dX10_net_20 ?_
    refine g_sub (lv' := [none, none]) trivial ?_
    exact l_Mo_net_b23 C HR  hf
  · have hf := iteF hf hc
    refine g_aload_n C dX10_net_8 rfl ?_
    refine g_iload_n C dX10_net_9 rfl ?_
    obtain ⟨x4, hg, h1, hf⟩ := vP_ok hf
    refine g_invV (As := [.int l1]) (st := []) C (c_Mo_netOf E h1) (rfl : vwCl[10]? = some (y_Mo_netOf.cls, TX10, 24)) (by decide) hg ml_Mo_152 cm_Mo_netOf.1 cm_Mo_netOf.2.1 cm_Mo_netOf.2.2.1 cm_Mo_netOf.2.2.2.1 cm_Mo_netOf.2.2.2.2 rfl ⟨by omega, by omega, by omega, by omega⟩ (by exact Nat.le_of_ble_eq_true rfl) rfl dX10_net_10 ?_
    refine g_goto (tgt := 23) C dX10_net_13 (by decide) ?_
    refine g_sub (lv' := [none, none]) trivial ?_
    exact l_Mo_net_b23 C HR  hf
theorem c_Mo_net (E : EE) {G : Hp} {l0 : Nat} {l1 : Int32} {r : Int32} {G' : Hp} (h : f_Mo_net G l0 l1 = some (r, G')) : gCt E y_Mo_net cX10_net 2 (some .int) 5 116 0 0 [.ref (E.2.1 + l0), .int l1] G (some (.int r)) G' := gCt_of (own := "FavoursGoOffModel") (ini := false) [some (.ref (E.2.1 + l0)), some (.int l1)] (by decide +kernel) rfl (fun h => by cases h) (Nat.le_of_ble_eq_true rfl) ⟨rfl, ⟨rfl, trivial⟩⟩ (fun X C HR => l_Mo_net C HR h)
set_option maxRecDepth 20000 in
theorem l_Mo_fewest_b58 {E : EE} {X : CT} {G : Hp} (C : gCx E X cX10_fewest "FavoursGoOffModel" (some .int) 5 116 0 0 false 6) {r : Int32} {G' : Hp} (HR : gRet E X cX10_fewest (some .int) 0 0 (some (.int r)) G') {k11 : Hp → Nat → Int32 → Int32 → Option (Int32 × Hp)} (K11 : ∀ {G : Hp} {l0 : Nat} {l1 : Int32} {l2 : Int32}, k11 G l0 l1 l2 = some (r, G') → gV E X 0 0 G 11 [some (.ref (E.2.1 + l0)), some (.int l1), some (.int l2), none, none, none] []) {k25 : Hp → Nat → Int32 → Int32 → Int32 → Option (Int32 × Hp)} (K25 : ∀ {G : Hp} {l0 : Nat} {l1 : Int32} {l2 : Int32} {l3 : Int32}, k25 G l0 l1 l2 l3 = some (r, G') → gV E X 0 0 G 25 [some (.ref (E.2.1 + l0)), some (.int l1), some (.int l2), some (.int l3), none, none] []) {l0 : Nat} {l1 : Int32} {l2 : Int32} {l3 : Int32} {s0 : Nat} {s1 : Int32} {s2 : Int32} {s3 : Int32} (hf : f_Mo_fewest_b58 k11 k25 G l0 l1 l2 l3 s0 s1 s2 s3 = some (r, G')) : gV E X 0 0 G 58 [some (.ref (E.2.1 + l0)), some (.int l1), some (.int l2), some (.int l3), none, none] [.int s3, .int s2, .int s1, .ref (E.2.1 + s0)] := by
  unfold f_Mo_fewest_b58 at hf
  refine g_iadd C dX10_fewest_58 ?_
  obtain ⟨G1, hG1, hg, hf⟩ := sI_ok hf
  refine e_iast C dX10_fewest_59 hG1 hg ?_
  refine g_iinc (v := (l3 + 1)) (lv' := [some (.ref (E.2.1 + l0)), some (.int l1), some (.int l2), some (.int (l3 + 1)), none, none]) C dX10_fewest_60 (by decide) rfl rfl rfl ?_
  refine g_goto (tgt := 25) C dX10_fewest_63 (by decide) ?_
  refine g_sub (lv' := [some (.ref (E.2.1 + l0)), some (.int l1), some (.int l2), some (.int (l3 + 1)), none, none]) ⟨rfl, ⟨rfl, ⟨rfl, ⟨rfl, trivial⟩⟩⟩⟩ ?_
  exact K25 hf
set_option maxRecDepth 20000 in
theorem l_Mo_fewest_b25k {E : EE} {X : CT} {G : Hp} (C : gCx E X cX10_fewest "FavoursGoOffModel" (some .int) 5 116 0 0 false 6) {r : Int32} {G' : Hp} (HR : gRet E X cX10_fewest (some .int) 0 0 (some (.int r)) G') {k11 : Hp → Nat → Int32 → Int32 → Option (Int32 × Hp)} (K11 : ∀ {G : Hp} {l0 : Nat} {l1 : Int32} {l2 : Int32}, k11 G l0 l1 l2 = some (r, G') → gV E X 0 0 G 11 [some (.ref (E.2.1 + l0)), some (.int l1), some (.int l2), none, none, none] []) {k25 : Hp → Nat → Int32 → Int32 → Int32 → Option (Int32 × Hp)} (K25 : ∀ {G : Hp} {l0 : Nat} {l1 : Int32} {l2 : Int32} {l3 : Int32}, k25 G l0 l1 l2 l3 = some (r, G') → gV E X 0 0 G 25 [some (.ref (E.2.1 + l0)), some (.int l1), some (.int l2), some (.int l3), none, none] []) {l0 : Nat} {l1 : Int32} {l2 : Int32} {l3 : Int32} (hf : f_Mo_fewest_b25_k k11 k25 G l0 l1 l2 l3 = some (r, G')) : gV E X 0 0 G 25 [some (.ref (E.2.1 + l0)), some (.int l1), some (.int l2), some (.int l3), none, none] [] := by
  unfold f_Mo_fewest_b25_k at hf
  refine g_iload_n C dX10_fewest_25 rfl ?_
  refine g_aload_n C dX10_fewest_26 rfl ?_
  obtain ⟨x1, hg, h1, hf⟩ := vP_ok hf
  refine g_invV (As := []) (st := [.int l3]) C (c_Mo_many E h1) (rfl : vwCl[10]? = some (y_Mo_many.cls, TX10, 24)) (by decide) hg ml_Mo_64 cm_Mo_many.1 cm_Mo_many.2.1 cm_Mo_many.2.2.1 cm_Mo_many.2.2.2.1 cm_Mo_many.2.2.2.2 rfl ⟨by omega, by omega, by omega, by omega⟩ (by exact Nat.le_of_ble_eq_true rfl) rfl dX10_fewest_27 ?_
  refine g_icmp_ge (tgt := 66) C dX10_fewest_30 (by decide) (fun hc => ?_) (fun hc => ?_)
  · have hf := iteT hf hc
    refine g_iinc (v := (l2 + 1)) (lv' := [some (.ref (E.2.1 + l0)), some (.int l1), some (.int (l2 + 1)), some (.int l3), none, none]) C dX10_fewest_66 (by decide) rfl rfl rfl ?_
    refine g_goto (tgt := 11) C dX10_fewest_69 (by decide) ?_
    refine g_sub (lv' := [some (.ref (E.2.1 + l0)), some (.int l1), some (.int (l2 + 1)), none, none, none]) ⟨rfl, ⟨rfl, ⟨rfl, trivial⟩⟩⟩ ?_
    exact K11 hf
  · have hf := iteF hf hc
    refine g_aload_n C dX10_fewest_33 rfl ?_
    obtain ⟨x2, hg, hf⟩ := gR_ok hf
    refine g_getR C fl_Mo_30 dX10_fewest_34 hg ?_
    refine g_iload_n C dX10_fewest_37 rfl ?_
    refine g_dup2 C dX10_fewest_38 rfl rfl ?_
    obtain ⟨x3, hx3, hg, hf⟩ := aI_ok hf
    refine e_iald C dX10_fewest_39 hx3 hg ?_
    refine g_iload_n C dX10_fewest_40 rfl ?_
    refine g_iload_n C dX10_fewest_41 rfl ?_
    refine g_ishr C dX10_fewest_42 ?_
    refine g_iconst (v := (1 : Int32)) C dX10_fewest_43 (by decide) ?_
    refine g_iand C dX10_fewest_44 ?_
    refine g_iconst (v := (1 : Int32)) C dX10_fewest_45 (by decide) ?_
    refine g_icmp_ne (tgt := 57) C dX10_fewest_46 (by decide) (fun hc => ?_) (fun hc => ?_)
    · have hf := iteF hf hc
      refine g_iconst (v := (0 : Int32)) C dX10_fewest_57 (by decide) ?_
      refine g_sub (lv' := [some (.ref (E.2.1 + l0)), some (.int l1), some (.int l2), some (.int l3), none, none]) ⟨rfl, ⟨rfl, ⟨rfl, ⟨rfl, trivial⟩⟩⟩⟩ ?_
      exact l_Mo_fewest_b58 C HR K11 K25 hf
    · have hf := iteT hf hc
      refine g_aload_n C dX10_fewest_49 rfl ?_
      refine g_iload_n C dX10_fewest_50 rfl ?_
      obtain ⟨x4, hg, h1, hf⟩ := vP_ok hf
      refine g_invV (As := [.int l3]) (st := [.int x3, .int l2, .ref (E.2.1 + x2)]) C (c_Mo_netOf E h1) (rfl : vwCl[10]? = some (y_Mo_netOf.cls, TX10, 24)) (by decide) hg ml_Mo_152 cm_Mo_netOf.1 cm_Mo_netOf.2.1 cm_Mo_netOf.2.2.1 cm_Mo_netOf.2.2.2.1 cm_Mo_netOf.2.2.2.2 rfl ⟨by omega, by omega, by omega, by omega⟩ (by exact Nat.le_of_ble_eq_true rfl) rfl dX10_fewest_51 ?_
      refine g_goto (tgt := 58) C dX10_fewest_54 (by decide) ?_
      refine g_sub (lv' := [some (.ref (E.2.1 + l0)), some (.int l1), some (.int l2), some (.int l3), none, none]) ⟨rfl, ⟨rfl, ⟨rfl, ⟨rfl, trivial⟩⟩⟩⟩ ?_
      exact l_Mo_fewest_b58 C HR K11 K25 hf
theorem l_Mo_fewest_b25 {E : EE} {X : CT} (C : gCx E X cX10_fewest "FavoursGoOffModel" (some .int) 5 116 0 0 false 6) {r : Int32} {G' : Hp} (HR : gRet E X cX10_fewest (some .int) 0 0 (some (.int r)) G') {k11 : Hp → Nat → Int32 → Int32 → Option (Int32 × Hp)} (K11 : ∀ {G : Hp} {l0 : Nat} {l1 : Int32} {l2 : Int32}, k11 G l0 l1 l2 = some (r, G') → gV E X 0 0 G 11 [some (.ref (E.2.1 + l0)), some (.int l1), some (.int l2), none, none, none] []) : ∀ (nn : Nat) {G : Hp} {l0 : Nat} {l1 : Int32} {l2 : Int32} {l3 : Int32}, f_Mo_fewest_b25 k11 nn G l0 l1 l2 l3 = some (r, G') → gV E X 0 0 G 25 [some (.ref (E.2.1 + l0)), some (.int l1), some (.int l2), some (.int l3), none, none] []
  | 0, _, _, _, _, _, hf => by have h0 : (none : Option (Int32 × Hp)) = some (r, G') := hf; cases h0
  | nn + 1, _, _, _, _, _, hf => l_Mo_fewest_b25k C HR K11 (fun h => l_Mo_fewest_b25 C HR K11 nn h) hf
set_option maxRecDepth 20000 in
theorem l_Mo_fewest_b147 {E : EE} {X : CT} {G : Hp} (C : gCx E X cX10_fewest "FavoursGoOffModel" (some .int) 5 116 0 0 false 6) {r : Int32} {G' : Hp} (HR : gRet E X cX10_fewest (some .int) 0 0 (some (.int r)) G') {k81 : Hp → Nat → Int32 → Int32 → Option (Int32 × Hp)} (K81 : ∀ {G : Hp} {l0 : Nat} {l1 : Int32} {l2 : Int32}, k81 G l0 l1 l2 = some (r, G') → gV E X 0 0 G 81 [some (.ref (E.2.1 + l0)), some (.int l1), some (.int l2), none, none, none] []) {k91 : Hp → Nat → Int32 → Int32 → Int32 → Int32 → Option (Int32 × Hp)} (K91 : ∀ {G : Hp} {l0 : Nat} {l1 : Int32} {l2 : Int32} {l3 : Int32} {l4 : Int32}, k91 G l0 l1 l2 l3 l4 = some (r, G') → gV E X 0 0 G 91 [some (.ref (E.2.1 + l0)), some (.int l1), some (.int l2), some (.int l3), some (.int l4), none] []) {l0 : Nat} {l1 : Int32} {l2 : Int32} {l4 : Int32} {s0 : Int32} (hf : f_Mo_fewest_b147 k81 k91 G l0 l1 l2 l4 s0 = some (r, G')) : gV E X 0 0 G 147 [some (.ref (E.2.1 + l0)), some (.int l1), some (.int l2), none, some (.int l4), none] [.int s0] := by
  unfold f_Mo_fewest_b147 at hf
  refine g_istore_n (lv' := [some (.ref (E.2.1 + l0)), some (.int l1), some (.int l2), some (.int s0), some (.int l4), none]) C dX10_fewest_147 (by decide) rfl ?_
  refine g_iinc (v := (l4 + 1)) (lv' := [some (.ref (E.2.1 + l0)), some (.int l1), some (.int l2), some (.int s0), some (.int (l4 + 1)), none]) C dX10_fewest_148 (by decide) rfl rfl rfl ?_
  refine g_goto (tgt := 91) C dX10_fewest_151 (by decide) ?_
  refine g_sub (lv' := [some (.ref (E.2.1 + l0)), some (.int l1), some (.int l2), some (.int s0), some (.int (l4 + 1)), none]) ⟨rfl, ⟨rfl, ⟨rfl, ⟨rfl, ⟨rfl, trivial⟩⟩⟩⟩⟩ ?_
  exact K91 hf
set_option maxRecDepth 20000 in
theorem l_Mo_fewest_b133 {E : EE} {X : CT} {G : Hp} (C : gCx E X cX10_fewest "FavoursGoOffModel" (some .int) 5 116 0 0 false 6) {r : Int32} {G' : Hp} (HR : gRet E X cX10_fewest (some .int) 0 0 (some (.int r)) G') {k81 : Hp → Nat → Int32 → Int32 → Option (Int32 × Hp)} (K81 : ∀ {G : Hp} {l0 : Nat} {l1 : Int32} {l2 : Int32}, k81 G l0 l1 l2 = some (r, G') → gV E X 0 0 G 81 [some (.ref (E.2.1 + l0)), some (.int l1), some (.int l2), none, none, none] []) {k91 : Hp → Nat → Int32 → Int32 → Int32 → Int32 → Option (Int32 × Hp)} (K91 : ∀ {G : Hp} {l0 : Nat} {l1 : Int32} {l2 : Int32} {l3 : Int32} {l4 : Int32}, k91 G l0 l1 l2 l3 l4 = some (r, G') → gV E X 0 0 G 91 [some (.ref (E.2.1 + l0)), some (.int l1), some (.int l2), some (.int l3), some (.int l4), none] []) {l0 : Nat} {l1 : Int32} {l2 : Int32} {l3 : Int32} {l4 : Int32} {s0 : Int32} (hf : f_Mo_fewest_b133 k81 k91 G l0 l1 l2 l3 l4 s0 = some (r, G')) : gV E X 0 0 G 133 [some (.ref (E.2.1 + l0)), some (.int l1), some (.int l2), some (.int l3), some (.int l4), none] [.int s0] := by
  unfold f_Mo_fewest_b133 at hf
  refine g_istore (lv' := [some (.ref (E.2.1 + l0)), some (.int l1), some (.int l2), some (.int l3), some (.int l4), some (.int s0)]) C dX10_fewest_133 (by decide) rfl ?_
  refine g_iload C dX10_fewest_135 rfl ?_
  refine g_iload_n C dX10_fewest_137 rfl ?_
  refine g_icmp_le (tgt := 146) C dX10_fewest_138 (by decide) (fun hc => ?_) (fun hc => ?_)
  · have hf := iteT hf hc
    refine g_iload_n C dX10_fewest_146 rfl ?_
    refine g_sub (lv' := [some (.ref (E.2.1 + l0)), some (.int l1), some (.int l2), none, some (.int l4), none]) ⟨rfl, ⟨rfl, ⟨rfl, ⟨rfl, trivial⟩⟩⟩⟩ ?_
    exact l_Mo_fewest_b147 C HR K81 K91 hf
  · have hf := iteF hf hc
    refine g_iload C dX10_fewest_141 rfl ?_
    refine g_goto (tgt := 147) C dX10_fewest_143 (by decide) ?_
    refine g_sub (lv' := [some (.ref (E.2.1 + l0)), some (.int l1), some (.int l2), none, some (.int l4), none]) ⟨rfl, ⟨rfl, ⟨rfl, ⟨rfl, trivial⟩⟩⟩⟩ ?_
    exact l_Mo_fewest_b147 C HR K81 K91 hf
set_option maxRecDepth 20000 in
theorem l_Mo_fewest_b132 {E : EE} {X : CT} {G : Hp} (C : gCx E X cX10_fewest "FavoursGoOffModel" (some .int) 5 116 0 0 false 6) {r : Int32} {G' : Hp} (HR : gRet E X cX10_fewest (some .int) 0 0 (some (.int r)) G') {k81 : Hp → Nat → Int32 → Int32 → Option (Int32 × Hp)} (K81 : ∀ {G : Hp} {l0 : Nat} {l1 : Int32} {l2 : Int32}, k81 G l0 l1 l2 = some (r, G') → gV E X 0 0 G 81 [some (.ref (E.2.1 + l0)), some (.int l1), some (.int l2), none, none, none] []) {k91 : Hp → Nat → Int32 → Int32 → Int32 → Int32 → Option (Int32 × Hp)} (K91 : ∀ {G : Hp} {l0 : Nat} {l1 : Int32} {l2 : Int32} {l3 : Int32} {l4 : Int32}, k91 G l0 l1 l2 l3 l4 = some (r, G') → gV E X 0 0 G 91 [some (.ref (E.2.1 + l0)), some (.int l1), some (.int l2), some (.int l3), some (.int l4), none] []) {l0 : Nat} {l1 : Int32} {l2 : Int32} {l3 : Int32} {l4 : Int32} (hf : f_Mo_fewest_b132 k81 k91 G l0 l1 l2 l3 l4 = some (r, G')) : gV E X 0 0 G 132 [some (.ref (E.2.1 + l0)), some (.int l1), some (.int l2), some (.int l3), some (.int l4), none] [] := by
  unfold f_Mo_fewest_b132 at hf
  refine g_iconst (v := (0 : Int32)) C dX10_fewest_132 (by decide) ?_
  refine g_sub (lv' := [some (.ref (E.2.1 + l0)), some (.int l1), some (.int l2), some (.int l3), some (.int l4), none]) ⟨rfl, ⟨rfl, ⟨rfl, ⟨rfl, ⟨rfl, trivial⟩⟩⟩⟩⟩ ?_
  exact l_Mo_fewest_b133 C HR K81 K91 hf
set_option maxRecDepth 20000 in
theorem l_Mo_fewest_b91k {E : EE} {X : CT} {G : Hp} (C : gCx E X cX10_fewest "FavoursGoOffModel" (some .int) 5 116 0 0 false 6) {r : Int32} {G' : Hp} (HR : gRet E X cX10_fewest (some .int) 0 0 (some (.int r)) G') {k81 : Hp → Nat → Int32 → Int32 → Option (Int32 × Hp)} (K81 : ∀ {G : Hp} {l0 : Nat} {l1 : Int32} {l2 : Int32}, k81 G l0 l1 l2 = some (r, G') → gV E X 0 0 G 81 [some (.ref (E.2.1 + l0)), some (.int l1), some (.int l2), none, none, none] []) {k91 : Hp → Nat → Int32 → Int32 → Int32 → Int32 → Option (Int32 × Hp)} (K91 : ∀ {G : Hp} {l0 : Nat} {l1 : Int32} {l2 : Int32} {l3 : Int32} {l4 : Int32}, k91 G l0 l1 l2 l3 l4 = some (r, G') → gV E X 0 0 G 91 [some (.ref (E.2.1 + l0)), some (.int l1), some (.int l2), some (.int l3), some (.int l4), none] []) {l0 : Nat} {l1 : Int32} {l2 : Int32} {l3 : Int32} {l4 : Int32} (hf : f_Mo_fewest_b91_k k81 k91 G l0 l1 l2 l3 l4 = some (r, G')) : gV E X 0 0 G 91 [some (.ref (E.2.1 + l0)), some (.int l1), some (.int l2), some (.int l3), some (.int l4), none] [] := by
  unfold f_Mo_fewest_b91_k at hf
  refine g_iload C dX10_fewest_91 rfl ?_
  refine g_iload_n C dX10_fewest_93 rfl ?_
  refine g_icmp_gt (tgt := 154) C dX10_fewest_94 (by decide) (fun hc => ?_) (fun hc => ?_)
  · have hf := iteT hf hc
    refine g_aload_n C dX10_fewest_154 rfl ?_
    obtain ⟨x1, hg, hf⟩ := gR_ok hf
    refine g_getR C fl_Mo_33 dX10_fewest_155 hg ?_
    refine g_iload_n C dX10_fewest_158 rfl ?_
    refine g_iload_n C dX10_fewest_159 rfl ?_
    obtain ⟨G2, hG2, hg, hf⟩ := sI_ok hf
    refine e_iast C dX10_fewest_160 hG2 hg ?_
    refine g_iinc (v := (l2 + 1)) (lv' := [some (.ref (E.2.1 + l0)), some (.int l1), some (.int (l2 + 1)), some (.int l3), some (.int l4), none]) C dX10_fewest_161 (by decide) rfl rfl rfl ?_
    refine g_goto (tgt := 81) C dX10_fewest_164 (by decide) ?_
    refine g_sub (lv' := [some (.ref (E.2.1 + l0)), some (.int l1), some (.int (l2 + 1)), none, none, none]) ⟨rfl, ⟨rfl, ⟨rfl, trivial⟩⟩⟩ ?_
    exact K81 hf
  · have hf := iteF hf hc
    refine g_iload C dX10_fewest_97 rfl ?_
    refine g_iload_n C dX10_fewest_99 rfl ?_
    refine g_iconst (v := (-1 : Int32)) C dX10_fewest_100 (by decide) ?_
    refine g_ixor C dX10_fewest_101 ?_
    refine g_iand C dX10_fewest_102 ?_
    refine g_if_ne (tgt := 132) C dX10_fewest_103 (by decide) (fun hc => ?_) (fun hc => ?_)
    · have hf := iteF hf hc
      refine g_sub (lv' := [some (.ref (E.2.1 + l0)), some (.int l1), some (.int l2), some (.int l3), some (.int l4), none]) ⟨rfl, ⟨rfl, ⟨rfl, ⟨rfl, ⟨rfl, trivial⟩⟩⟩⟩⟩ ?_
      exact l_Mo_fewest_b132 C HR K81 K91 hf
    · have hf := iteT hf hc
      refine g_aload_n C dX10_fewest_106 rfl ?_
      obtain ⟨x3, hg, hf⟩ := gR_ok hf
      refine g_getR C fl_Mo_30 dX10_fewest_107 hg ?_
      refine g_iload C dX10_fewest_110 rfl ?_
      obtain ⟨x4, hx4, hg, hf⟩ := aI_ok hf
      refine e_iald C dX10_fewest_112 hx4 hg ?_
      refine g_if_ne (tgt := 132) C dX10_fewest_113 (by decide) (fun hc => ?_) (fun hc => ?_)
      · have hf := iteF hf hc
        refine g_sub (lv' := [some (.ref (E.2.1 + l0)), some (.int l1), some (.int l2), some (.int l3), some (.int l4), none]) ⟨rfl, ⟨rfl, ⟨rfl, ⟨rfl, ⟨rfl, trivial⟩⟩⟩⟩⟩ ?_
        exact l_Mo_fewest_b132 C HR K81 K91 hf
      · have hf := iteT hf hc
        refine g_aload_n C dX10_fewest_116 rfl ?_
        obtain ⟨x5, hg, hf⟩ := gR_ok hf
        refine g_getR C fl_Mo_33 dX10_fewest_117 hg ?_
        refine g_iload_n C dX10_fewest_120 rfl ?_
        refine g_iload C dX10_fewest_121 rfl ?_
        refine g_iconst (v := (-1 : Int32)) C dX10_fewest_123 (by decide) ?_
        refine g_ixor C dX10_fewest_124 ?_
        refine g_iand C dX10_fewest_125 ?_
        obtain ⟨x6, hx6, hg, hf⟩ := aI_ok hf
        refine e_iald C dX10_fewest_126 hx6 hg ?_
        refine g_iconst (v := (1 : Int32)) C dX10_fewest_127 (by decide) ?_
        refine g_iadd C dX10_fewest_128 ?_
        refine g_goto (tgt := 133) C dX10_fewest_129 (by decide) ?_
        refine g_sub (lv' := [some (.ref (E.2.1 + l0)), some (.int l1), some (.int l2), some (.int l3), some (.int l4), none]) ⟨rfl, ⟨rfl, ⟨rfl, ⟨rfl, ⟨rfl, trivial⟩⟩⟩⟩⟩ ?_
        exact l_Mo_fewest_b133 C HR K81 K91 hf
theorem l_Mo_fewest_b91 {E : EE} {X : CT} (C : gCx E X cX10_fewest "FavoursGoOffModel" (some .int) 5 116 0 0 false 6) {r : Int32} {G' : Hp} (HR : gRet E X cX10_fewest (some .int) 0 0 (some (.int r)) G') {k81 : Hp → Nat → Int32 → Int32 → Option (Int32 × Hp)} (K81 : ∀ {G : Hp} {l0 : Nat} {l1 : Int32} {l2 : Int32}, k81 G l0 l1 l2 = some (r, G') → gV E X 0 0 G 81 [some (.ref (E.2.1 + l0)), some (.int l1), some (.int l2), none, none, none] []) : ∀ (nn : Nat) {G : Hp} {l0 : Nat} {l1 : Int32} {l2 : Int32} {l3 : Int32} {l4 : Int32}, f_Mo_fewest_b91 k81 nn G l0 l1 l2 l3 l4 = some (r, G') → gV E X 0 0 G 91 [some (.ref (E.2.1 + l0)), some (.int l1), some (.int l2), some (.int l3), some (.int l4), none] []
  | 0, _, _, _, _, _, _, hf => by have h0 : (none : Option (Int32 × Hp)) = some (r, G') := hf; cases h0
  | nn + 1, _, _, _, _, _, _, hf => l_Mo_fewest_b91k C HR K81 (fun h => l_Mo_fewest_b91 C HR K81 nn h) hf
set_option maxRecDepth 20000 in
theorem l_Mo_fewest_b81k {E : EE} {X : CT} {G : Hp} (C : gCx E X cX10_fewest "FavoursGoOffModel" (some .int) 5 116 0 0 false 6) {r : Int32} {G' : Hp} (HR : gRet E X cX10_fewest (some .int) 0 0 (some (.int r)) G') {k81 : Hp → Nat → Int32 → Int32 → Option (Int32 × Hp)} (K81 : ∀ {G : Hp} {l0 : Nat} {l1 : Int32} {l2 : Int32}, k81 G l0 l1 l2 = some (r, G') → gV E X 0 0 G 81 [some (.ref (E.2.1 + l0)), some (.int l1), some (.int l2), none, none, none] []) {l0 : Nat} {l1 : Int32} {l2 : Int32} (hf : f_Mo_fewest_b81_k k81 G l0 l1 l2 = some (r, G')) : gV E X 0 0 G 81 [some (.ref (E.2.1 + l0)), some (.int l1), some (.int l2), none, none, none] [] := by
  unfold f_Mo_fewest_b81_k at hf
  refine g_iload_n C dX10_fewest_81 rfl ?_
  refine g_iload_n C dX10_fewest_82 rfl ?_
  refine g_icmp_gt (tgt := 167) C dX10_fewest_83 (by decide) (fun hc => ?_) (fun hc => ?_)
  · have hf := iteT hf hc
    refine g_aload_n C dX10_fewest_167 rfl ?_
    obtain ⟨x1, hg, h1, hf⟩ := vP_ok hf
    refine g_invV (As := []) (st := []) C (c_Mo_many E h1) (rfl : vwCl[10]? = some (y_Mo_many.cls, TX10, 24)) (by decide) hg ml_Mo_64 cm_Mo_many.1 cm_Mo_many.2.1 cm_Mo_many.2.2.1 cm_Mo_many.2.2.2.1 cm_Mo_many.2.2.2.2 rfl ⟨by omega, by omega, by omega, by omega⟩ (by exact Nat.le_of_ble_eq_true rfl) rfl dX10_fewest_168 ?_
    refine g_aload_n C dX10_fewest_171 rfl ?_
    obtain ⟨x2, hg, hf⟩ := gR_ok hf
    refine g_getR C fl_Mo_33 dX10_fewest_172 hg ?_
    refine g_iload_n C dX10_fewest_175 rfl ?_
    obtain ⟨x3, hx3, hg, hf⟩ := aI_ok hf
    refine e_iald C dX10_fewest_176 hx3 hg ?_
    refine g_isub C dX10_fewest_177 ?_
    obtain ⟨rfl, rfl⟩ := rH_ok hf
    exact g_iret HR dX10_fewest_178
  · have hf := iteF hf hc
    refine g_iconst (v := (0 : Int32)) C dX10_fewest_86 (by decide) ?_
    refine g_istore_n (lv' := [some (.ref (E.2.1 + l0)), some (.int l1), some (.int l2), some (.int (0 : Int32)), none, none]) C dX10_fewest_87 (by decide) rfl ?_
    refine g_iconst (v := (1 : Int32)) C dX10_fewest_88 (by decide) ?_
    refine g_istore (lv' := [some (.ref (E.2.1 + l0)), some (.int l1), some (.int l2), some (.int (0 : Int32)), some (.int (1 : Int32)), none]) C dX10_fewest_89 (by decide) rfl ?_
    refine g_sub (lv' := [some (.ref (E.2.1 + l0)), some (.int l1), some (.int l2), some (.int (0 : Int32)), some (.int (1 : Int32)), none]) ⟨rfl, ⟨rfl, ⟨rfl, ⟨rfl, ⟨rfl, trivial⟩⟩⟩⟩⟩ ?_
    exact l_Mo_fewest_b91 C HR K81 FU hf
theorem l_Mo_fewest_b81 {E : EE} {X : CT} (C : gCx E X cX10_fewest "FavoursGoOffModel" (some .int) 5 116 0 0 false 6) {r : Int32} {G' : Hp} (HR : gRet E X cX10_fewest (some .int) 0 0 (some (.int r)) G') : ∀ (nn : Nat) {G : Hp} {l0 : Nat} {l1 : Int32} {l2 : Int32}, f_Mo_fewest_b81 nn G l0 l1 l2 = some (r, G') → gV E X 0 0 G 81 [some (.ref (E.2.1 + l0)), some (.int l1), some (.int l2), none, none, none] []
  | 0, _, _, _, _, hf => by have h0 : (none : Option (Int32 × Hp)) = some (r, G') := hf; cases h0
  | nn + 1, _, _, _, _, hf => l_Mo_fewest_b81k C HR (fun h => l_Mo_fewest_b81 C HR nn h) hf
set_option maxRecDepth 20000 in
theorem l_Mo_fewest_b11k {E : EE} {X : CT} {G : Hp} (C : gCx E X cX10_fewest "FavoursGoOffModel" (some .int) 5 116 0 0 false 6) {r : Int32} {G' : Hp} (HR : gRet E X cX10_fewest (some .int) 0 0 (some (.int r)) G') {k11 : Hp → Nat → Int32 → Int32 → Option (Int32 × Hp)} (K11 : ∀ {G : Hp} {l0 : Nat} {l1 : Int32} {l2 : Int32}, k11 G l0 l1 l2 = some (r, G') → gV E X 0 0 G 11 [some (.ref (E.2.1 + l0)), some (.int l1), some (.int l2), none, none, none] []) {l0 : Nat} {l1 : Int32} {l2 : Int32} (hf : f_Mo_fewest_b11_k k11 G l0 l1 l2 = some (r, G')) : gV E X 0 0 G 11 [some (.ref (E.2.1 + l0)), some (.int l1), some (.int l2), none, none, none] [] := by
  unfold f_Mo_fewest_b11_k at hf
  refine g_iload_n C dX10_fewest_11 rfl ?_
  refine g_iload_n C dX10_fewest_12 rfl ?_
  refine g_icmp_gt (tgt := 72) C dX10_fewest_13 (by decide) (fun hc => ?_) (fun hc => ?_)
  · have hf := iteT hf hc
    refine g_aload_n C dX10_fewest_72 rfl ?_
    obtain ⟨x1, hg, hf⟩ := gR_ok hf
    refine g_getR C fl_Mo_33 dX10_fewest_73 hg ?_
    refine g_iconst (v := (0 : Int32)) C dX10_fewest_76 (by decide) ?_
    refine g_iconst (v := (0 : Int32)) C dX10_fewest_77 (by decide) ?_
    obtain ⟨G2, hG2, hg, hf⟩ := sI_ok hf
    refine e_iast C dX10_fewest_78 hG2 hg ?_
    refine g_iconst (v := (1 : Int32)) C dX10_fewest_79 (by decide) ?_
    refine g_istore_n (lv' := [some (.ref (E.2.1 + l0)), some (.int l1), some (.int (1 : Int32)), none, none, none]) C dX10_fewest_80 (by decide) rfl ?_
    refine g_sub (lv' := [some (.ref (E.2.1 + l0)), some (.int l1), some (.int (1 : Int32)), none, none, none]) ⟨rfl, ⟨rfl, ⟨rfl, trivial⟩⟩⟩ ?_
    exact l_Mo_fewest_b81 C HR  FU hf
  · have hf := iteF hf hc
    refine g_aload_n C dX10_fewest_16 rfl ?_
    obtain ⟨x3, hg, hf⟩ := gR_ok hf
    refine g_getR C fl_Mo_30 dX10_fewest_17 hg ?_
    refine g_iload_n C dX10_fewest_20 rfl ?_
    refine g_iconst (v := (0 : Int32)) C dX10_fewest_21 (by decide) ?_
    obtain ⟨G4, hG4, hg, hf⟩ := sI_ok hf
    refine e_iast C dX10_fewest_22 hG4 hg ?_
    refine g_iconst (v := (0 : Int32)) C dX10_fewest_23 (by decide) ?_
    refine g_istore_n (lv' := [some (.ref (E.2.1 + l0)), some (.int l1), some (.int l2), some (.int (0 : Int32)), none, none]) C dX10_fewest_24 (by decide) rfl ?_
    refine g_sub (lv' := [some (.ref (E.2.1 + l0)), some (.int l1), some (.int l2), some (.int (0 : Int32)), none, none]) ⟨rfl, ⟨rfl, ⟨rfl, ⟨rfl, trivial⟩⟩⟩⟩ ?_
    exact l_Mo_fewest_b25 C HR K11 FU hf
theorem l_Mo_fewest_b11 {E : EE} {X : CT} (C : gCx E X cX10_fewest "FavoursGoOffModel" (some .int) 5 116 0 0 false 6) {r : Int32} {G' : Hp} (HR : gRet E X cX10_fewest (some .int) 0 0 (some (.int r)) G') : ∀ (nn : Nat) {G : Hp} {l0 : Nat} {l1 : Int32} {l2 : Int32}, f_Mo_fewest_b11 nn G l0 l1 l2 = some (r, G') → gV E X 0 0 G 11 [some (.ref (E.2.1 + l0)), some (.int l1), some (.int l2), none, none, none] []
  | 0, _, _, _, _, hf => by have h0 : (none : Option (Int32 × Hp)) = some (r, G') := hf; cases h0
  | nn + 1, _, _, _, _, hf => l_Mo_fewest_b11k C HR (fun h => l_Mo_fewest_b11 C HR nn h) hf
set_option maxRecDepth 20000 in
theorem l_Mo_fewest {E : EE} {X : CT} {G : Hp} (C : gCx E X cX10_fewest "FavoursGoOffModel" (some .int) 5 116 0 0 false 6) {r : Int32} {G' : Hp} (HR : gRet E X cX10_fewest (some .int) 0 0 (some (.int r)) G') {l0 : Nat} (hf : f_Mo_fewest G l0 = some (r, G')) : gV E X 0 0 G 0 [some (.ref (E.2.1 + l0)), none, none, none, none, none] [] := by
  unfold f_Mo_fewest at hf
  refine g_iconst (v := (1 : Int32)) C dX10_fewest_0 (by decide) ?_
  refine g_aload_n C dX10_fewest_1 rfl ?_
  obtain ⟨x1, hg, h1, hf⟩ := vP_ok hf
  refine g_invV (As := []) (st := [.int (1 : Int32)]) C (c_Mo_many E h1) (rfl : vwCl[10]? = some (y_Mo_many.cls, TX10, 24)) (by decide) hg ml_Mo_64 cm_Mo_many.1 cm_Mo_many.2.1 cm_Mo_many.2.2.1 cm_Mo_many.2.2.2.1 cm_Mo_many.2.2.2.2 rfl ⟨by omega, by omega, by omega, by omega⟩ (by exact Nat.le_of_ble_eq_true rfl) rfl dX10_fewest_2 ?_
  refine g_ishl C dX10_fewest_5 ?_
  refine g_iconst (v := (1 : Int32)) C dX10_fewest_6 (by decide) ?_
  refine g_isub C dX10_fewest_7 ?_
  obtain ⟨x2, hx2, hf⟩ := lt_ok hf
  refine e_top hx2 ?_
  refine g_istore_n (lv' := [some (.ref (E.2.1 + l0)), some (.int x2), none, none, none, none]) C dX10_fewest_8 (by decide) rfl ?_
  refine g_iconst (v := (0 : Int32)) C dX10_fewest_9 (by decide) ?_
  refine g_istore_n (lv' := [some (.ref (E.2.1 + l0)), some (.int x2), some (.int (0 : Int32)), none, none, none]) C dX10_fewest_10 (by decide) rfl ?_
  refine g_sub (lv' := [some (.ref (E.2.1 + l0)), some (.int x2), some (.int (0 : Int32)), none, none, none]) ⟨rfl, ⟨rfl, ⟨rfl, trivial⟩⟩⟩ ?_
  exact l_Mo_fewest_b11 C HR  FU hf
theorem c_Mo_fewest (E : EE) {G : Hp} {l0 : Nat} {r : Int32} {G' : Hp} (h : f_Mo_fewest G l0 = some (r, G')) : gCt E y_Mo_fewest cX10_fewest 6 (some .int) 5 116 0 0 [.ref (E.2.1 + l0)] G (some (.int r)) G' := gCt_of (own := "FavoursGoOffModel") (ini := false) [some (.ref (E.2.1 + l0)), none, none, none, none, none] (by decide +kernel) rfl (fun h => by cases h) (Nat.le_of_ble_eq_true rfl) ⟨rfl, trivial⟩ (fun X C HR => l_Mo_fewest C HR h)
