/-! ===== each method does as its function says ===== -/
set_option maxRecDepth 20000 in
theorem l_Mo_need0 {E : EE} {X : CT} {G : Hp} (C : gCx E X cX10_need0 "FavoursGoOffModel" (some .int) 0 0 0 0 false 3) {r : Int32} (HR : gRet E X cX10_need0 (some .int) 0 0 (some (.int r)) G) {l0 : Nat} {l1 : Int32} {l2 : Int32} (hf : f_Mo_need0 G l0 l1 l2 = some r) : gV E X 0 0 G 0 [some (.ref (E.2.1 + l0)), some (.int l1), some (.int l2)] [] := by
  unfold f_Mo_need0 at hf
  refine g_aload_n C dX10_need0_0 rfl ?_
  obtain ⟨x1, hg, hf⟩ := gR_ok hf
  refine g_getR C fl_Mo_7 dX10_need0_1 hg ?_
  refine g_bipush (v := (98 : Int32)) C dX10_need0_4 (by decide) ?_
  refine g_iconst (v := (4 : Int32)) C dX10_need0_6 (by decide) ?_
  refine g_iload_n C dX10_need0_7 rfl ?_
  refine g_imul C dX10_need0_8 ?_
  refine g_iadd C dX10_need0_9 ?_
  refine g_iload_n C dX10_need0_10 rfl ?_
  refine g_iadd C dX10_need0_11 ?_
  obtain ⟨x2, hx2, hg, hf⟩ := aI_ok hf
  refine e_iald C dX10_need0_12 hx2 hg ?_
  obtain rfl := rP_ok hf
  exact g_iret HR dX10_need0_13
theorem c_Mo_need0 (E : EE) {G : Hp} {l0 : Nat} {l1 : Int32} {l2 : Int32} {r : Int32} (h : f_Mo_need0 G l0 l1 l2 = some r) : gCt E y_Mo_need0 cX10_need0 3 (some .int) 0 0 0 0 [.ref (E.2.1 + l0), .int l1, .int l2] G (some (.int r)) G := gCt_of (own := "FavoursGoOffModel") (ini := false) [some (.ref (E.2.1 + l0)), some (.int l1), some (.int l2)] (by decide +kernel) rfl (fun h => by cases h) (Nat.le_of_ble_eq_true rfl) ⟨rfl, ⟨rfl, ⟨rfl, trivial⟩⟩⟩ (fun X C HR => l_Mo_need0 C HR h)
set_option maxRecDepth 20000 in
theorem l_Mo_mayMeet_b65 {E : EE} {X : CT} {G : Hp} (C : gCx E X cX10_mayMeet "FavoursGoOffModel" (some .boolean) 2 48 0 0 false 4) {r : Int32} (HR : gRet E X cX10_mayMeet (some .boolean) 0 0 (some (.int r)) G) {s0 : Int32} (hf : f_Mo_mayMeet_b65 G s0 = some r) : gV E X 0 0 G 65 [none, none, none, none] [.int s0] := by
  unfold f_Mo_mayMeet_b65 at hf
  obtain ⟨hv, hf⟩ := zR_ok hf
  obtain rfl := rP_ok hf
  exact g_zret HR hv dX10_mayMeet_65
set_option maxRecDepth 20000 in
theorem l_Mo_mayMeet_b64 {E : EE} {X : CT} {G : Hp} (C : gCx E X cX10_mayMeet "FavoursGoOffModel" (some .boolean) 2 48 0 0 false 4) {r : Int32} (HR : gRet E X cX10_mayMeet (some .boolean) 0 0 (some (.int r)) G) (hf : f_Mo_mayMeet_b64 G = some r) : gV E X 0 0 G 64 [none, none, none, none] [] := by
  unfold f_Mo_mayMeet_b64 at hf
  refine g_iconst (v := (0 : Int32)) C dX10_mayMeet_64 (by decide) ?_
  refine g_sub (lv' := [none, none, none, none]) trivial ?_
  exact l_Mo_mayMeet_b65 C HR  hf
set_option maxRecDepth 20000 in
theorem l_Mo_mayMeet_b35 {E : EE} {X : CT} {G : Hp} (C : gCx E X cX10_mayMeet "FavoursGoOffModel" (some .boolean) 2 48 0 0 false 4) {r : Int32} (HR : gRet E X cX10_mayMeet (some .boolean) 0 0 (some (.int r)) G) {l0 : Nat} {l1 : Int32} {l2 : Int32} {s0 : Int32} (hf : f_Mo_mayMeet_b35 G l0 l1 l2 s0 = some r) : gV E X 0 0 G 35 [some (.ref (E.2.1 + l0)), some (.int l1), some (.int l2), none] [.int s0] := by
  unfold f_Mo_mayMeet_b35 at hf
  refine g_istore_n (lv' := [some (.ref (E.2.1 + l0)), some (.int l1), some (.int l2), some (.int s0)]) C dX10_mayMeet_35 (by decide) rfl ?_
  refine g_iload_n C dX10_mayMeet_36 rfl ?_
  refine g_if_eq (tgt := 64) C dX10_mayMeet_37 (by decide) (fun hc => ?_) (fun hc => ?_)
  · have hf := iteT hf hc
    refine g_sub (lv' := [none, none, none, none]) trivial ?_
    exact l_Mo_mayMeet_b64 C HR  hf
  · have hf := iteF hf hc
    refine g_aload_n C dX10_mayMeet_40 rfl ?_
    refine g_iload_n C dX10_mayMeet_41 rfl ?_
    refine g_aload_n C dX10_mayMeet_42 rfl ?_
    refine g_iload_n C dX10_mayMeet_43 rfl ?_
    refine g_iconst (v := (3 : Int32)) C dX10_mayMeet_44 (by decide) ?_
    obtain ⟨x1, hg, h1, hf⟩ := vP_ok hf
    refine g_invV (As := [.int l1, .int (3 : Int32)]) (st := [.int l2, .ref (E.2.1 + l0)]) C (c_Mo_need0 E h1) (rfl : vwCl[10]? = some (y_Mo_need0.cls, TX10, 24)) (by decide) hg ml_Mo_155 cm_Mo_need0.1 cm_Mo_need0.2.1 cm_Mo_need0.2.2.1 cm_Mo_need0.2.2.2.1 cm_Mo_need0.2.2.2.2 rfl ⟨by omega, by omega, by omega, by omega⟩ (by exact Nat.le_of_ble_eq_true rfl) rfl dX10_mayMeet_45 ?_
    obtain ⟨x2, hg, h1, hf⟩ := vP_ok hf
    refine g_invV (As := [.int l2, .int x1]) (st := []) C (c_Mo_valueOf E h1) (rfl : vwCl[10]? = some (y_Mo_valueOf.cls, TX10, 24)) (by decide) hg ml_Mo_119 cm_Mo_valueOf.1 cm_Mo_valueOf.2.1 cm_Mo_valueOf.2.2.1 cm_Mo_valueOf.2.2.2.1 cm_Mo_valueOf.2.2.2.2 rfl ⟨by omega, by omega, by omega, by omega⟩ (by exact Nat.le_of_ble_eq_true rfl) rfl dX10_mayMeet_48 ?_
    refine g_aload_n C dX10_mayMeet_51 rfl ?_
    refine g_iload_n C dX10_mayMeet_52 rfl ?_
    refine g_iconst (v := (2 : Int32)) C dX10_mayMeet_53 (by decide) ?_
    obtain ⟨x3, hg, h1, hf⟩ := vP_ok hf
    refine g_invV (As := [.int l1, .int (2 : Int32)]) (st := [.int x2]) C (c_Mo_need0 E h1) (rfl : vwCl[10]? = some (y_Mo_need0.cls, TX10, 24)) (by decide) hg ml_Mo_155 cm_Mo_need0.1 cm_Mo_need0.2.1 cm_Mo_need0.2.2.1 cm_Mo_need0.2.2.2.1 cm_Mo_need0.2.2.2.2 rfl ⟨by omega, by omega, by omega, by omega⟩ (by exact Nat.le_of_ble_eq_true rfl) rfl dX10_mayMeet_54 ?_
    refine g_icmp_lt (tgt := 64) C dX10_mayMeet_57 (by decide) (fun hc => ?_) (fun hc => ?_)
    · have hf := iteT hf hc
      refine g_sub (lv' := [none, none, none, none]) trivial ?_
      exact l_Mo_mayMeet_b64 C HR  hf
    · have hf := iteF hf hc
      refine g_iconst (v := (1 : Int32)) C dX10_mayMeet_60 (by decide) ?_
      refine g_goto (tgt := 65) C dX10_mayMeet_61 (by decide) ?_
      refine g_sub (lv' := [none, none, none, none]) trivial ?_
      exact l_Mo_mayMeet_b65 C HR  hf
set_option maxRecDepth 20000 in
theorem l_Mo_mayMeet_b34 {E : EE} {X : CT} {G : Hp} (C : gCx E X cX10_mayMeet "FavoursGoOffModel" (some .boolean) 2 48 0 0 false 4) {r : Int32} (HR : gRet E X cX10_mayMeet (some .boolean) 0 0 (some (.int r)) G) {l0 : Nat} {l1 : Int32} {l2 : Int32} (hf : f_Mo_mayMeet_b34 G l0 l1 l2 = some r) : gV E X 0 0 G 34 [some (.ref (E.2.1 + l0)), some (.int l1), some (.int l2), none] [] := by
  unfold f_Mo_mayMeet_b34 at hf
  refine g_iconst (v := (0 : Int32)) C dX10_mayMeet_34 (by decide) ?_
  refine g_sub (lv' := [some (.ref (E.2.1 + l0)), some (.int l1), some (.int l2), none]) ⟨rfl, ⟨rfl, ⟨rfl, trivial⟩⟩⟩ ?_
  exact l_Mo_mayMeet_b35 C HR  hf
set_option maxRecDepth 20000 in
theorem l_Mo_mayMeet {E : EE} {X : CT} {G : Hp} (C : gCx E X cX10_mayMeet "FavoursGoOffModel" (some .boolean) 2 48 0 0 false 4) {r : Int32} (HR : gRet E X cX10_mayMeet (some .boolean) 0 0 (some (.int r)) G) {l0 : Nat} {l1 : Int32} {l2 : Int32} (hf : f_Mo_mayMeet G l0 l1 l2 = some r) : gV E X 0 0 G 0 [some (.ref (E.2.1 + l0)), some (.int l1), some (.int l2), none] [] := by
  unfold f_Mo_mayMeet at hf
  refine g_aload_n C dX10_mayMeet_0 rfl ?_
  refine g_iload_n C dX10_mayMeet_1 rfl ?_
  refine g_iconst (v := (2 : Int32)) C dX10_mayMeet_2 (by decide) ?_
  obtain ⟨x1, hg, h1, hf⟩ := vP_ok hf
  refine g_invV (As := [.int l2, .int (2 : Int32)]) (st := []) C (c_Mo_told0 E h1) (rfl : vwCl[10]? = some (y_Mo_told0.cls, TX10, 24)) (by decide) hg ml_Mo_112 cm_Mo_told0.1 cm_Mo_told0.2.1 cm_Mo_told0.2.2.1 cm_Mo_told0.2.2.2.1 cm_Mo_told0.2.2.2.2 rfl ⟨by omega, by omega, by omega, by omega⟩ (by exact Nat.le_of_ble_eq_true rfl) rfl dX10_mayMeet_3 ?_
  refine g_aload_n C dX10_mayMeet_6 rfl ?_
  refine g_iload_n C dX10_mayMeet_7 rfl ?_
  refine g_iconst (v := (0 : Int32)) C dX10_mayMeet_8 (by decide) ?_
  obtain ⟨x2, hg, h1, hf⟩ := vP_ok hf
  refine g_invV (As := [.int l1, .int (0 : Int32)]) (st := [.int x1]) C (c_Mo_need0 E h1) (rfl : vwCl[10]? = some (y_Mo_need0.cls, TX10, 24)) (by decide) hg ml_Mo_155 cm_Mo_need0.1 cm_Mo_need0.2.1 cm_Mo_need0.2.2.1 cm_Mo_need0.2.2.2.1 cm_Mo_need0.2.2.2.2 rfl ⟨by omega, by omega, by omega, by omega⟩ (by exact Nat.le_of_ble_eq_true rfl) rfl dX10_mayMeet_9 ?_
  refine g_icmp_ne (tgt := 34) C dX10_mayMeet_12 (by decide) (fun hc => ?_) (fun hc => ?_)
  · have hf := iteF hf hc
    refine g_sub (lv' := [some (.ref (E.2.1 + l0)), some (.int l1), some (.int l2), none]) ⟨rfl, ⟨rfl, ⟨rfl, trivial⟩⟩⟩ ?_
    exact l_Mo_mayMeet_b34 C HR  hf
  · have hf := iteT hf hc
    refine g_aload_n C dX10_mayMeet_15 rfl ?_
    refine g_iload_n C dX10_mayMeet_16 rfl ?_
    refine g_iconst (v := (3 : Int32)) C dX10_mayMeet_17 (by decide) ?_
    obtain ⟨x3, hg, h1, hf⟩ := vP_ok hf
    refine g_invV (As := [.int l2, .int (3 : Int32)]) (st := []) C (c_Mo_told0 E h1) (rfl : vwCl[10]? = some (y_Mo_told0.cls, TX10, 24)) (by decide) hg ml_Mo_112 cm_Mo_told0.1 cm_Mo_told0.2.1 cm_Mo_told0.2.2.1 cm_Mo_told0.2.2.2.1 cm_Mo_told0.2.2.2.2 rfl ⟨by omega, by omega, by omega, by omega⟩ (by exact Nat.le_of_ble_eq_true rfl) rfl dX10_mayMeet_18 ?_
    refine g_aload_n C dX10_mayMeet_21 rfl ?_
    refine g_iload_n C dX10_mayMeet_22 rfl ?_
    refine g_iconst (v := (1 : Int32)) C dX10_mayMeet_23 (by decide) ?_
    obtain ⟨x4, hg, h1, hf⟩ := vP_ok hf
    refine g_invV (As := [.int l1, .int (1 : Int32)]) (st := [.int x3]) C (c_Mo_need0 E h1) (rfl : vwCl[10]? = some (y_Mo_need0.cls, TX10, 24)) (by decide) hg ml_Mo_155 cm_Mo_need0.1 cm_Mo_need0.2.1 cm_Mo_need0.2.2.1 cm_Mo_need0.2.2.2.1 cm_Mo_need0.2.2.2.2 rfl ⟨by omega, by omega, by omega, by omega⟩ (by exact Nat.le_of_ble_eq_true rfl) rfl dX10_mayMeet_24 ?_
    refine g_icmp_ne (tgt := 34) C dX10_mayMeet_27 (by decide) (fun hc => ?_) (fun hc => ?_)
    · have hf := iteF hf hc
      refine g_sub (lv' := [some (.ref (E.2.1 + l0)), some (.int l1), some (.int l2), none]) ⟨rfl, ⟨rfl, ⟨rfl, trivial⟩⟩⟩ ?_
      exact l_Mo_mayMeet_b34 C HR  hf
    · have hf := iteT hf hc
      refine g_iconst (v := (1 : Int32)) C dX10_mayMeet_30 (by decide) ?_
      refine g_goto (tgt := 35) C dX10_mayMeet_31 (by decide) ?_
      refine g_sub (lv' := [some (.ref (E.2.1 + l0)), some (.int l1), some (.int l2), none]) ⟨rfl, ⟨rfl, ⟨rfl, trivial⟩⟩⟩ ?_
      exact l_Mo_mayMeet_b35 C HR  hf
theorem c_Mo_mayMeet (E : EE) {G : Hp} {l0 : Nat} {l1 : Int32} {l2 : Int32} {r : Int32} (h : f_Mo_mayMeet G l0 l1 l2 = some r) : gCt E y_Mo_mayMeet cX10_mayMeet 4 (some .boolean) 2 48 0 0 [.ref (E.2.1 + l0), .int l1, .int l2] G (some (.int r)) G := gCt_of (own := "FavoursGoOffModel") (ini := false) [some (.ref (E.2.1 + l0)), some (.int l1), some (.int l2), none] (by decide +kernel) rfl (fun h => by cases h) (Nat.le_of_ble_eq_true rfl) ⟨rfl, ⟨rfl, ⟨rfl, trivial⟩⟩⟩ (fun X C HR => l_Mo_mayMeet C HR h)
set_option maxRecDepth 20000 in
theorem l_Mo_fits_b125 {E : EE} {X : CT} {G : Hp} (C : gCx E X cX10_fits "FavoursGoOffModel" (some .boolean) 3 71 0 0 false 7) {r : Int32} (HR : gRet E X cX10_fits (some .boolean) 0 0 (some (.int r)) G) {k50 : Nat → Int32 → Int32 → Int32 → Int32 → Int32 → Option Int32} (K50 : ∀ {l0 : Nat} {l1 : Int32} {l2 : Int32} {l3 : Int32} {l4 : Int32} {l5 : Int32}, k50 l0 l1 l2 l3 l4 l5 = some r → gV E X 0 0 G 50 [some (.ref (E.2.1 + l0)), some (.int l1), some (.int l2), some (.int l3), some (.int l4), some (.int l5), none] []) {l0 : Nat} {l1 : Int32} {l2 : Int32} {l3 : Int32} {l4 : Int32} {l5 : Int32} (hf : f_Mo_fits_b125 G k50 l0 l1 l2 l3 l4 l5 = some r) : gV E X 0 0 G 125 [some (.ref (E.2.1 + l0)), some (.int l1), some (.int l2), some (.int l3), some (.int l4), some (.int l5), none] [] := by
  unfold f_Mo_fits_b125 at hf
  refine g_iinc (v := (l5 + 1)) (lv' := [some (.ref (E.2.1 + l0)), some (.int l1), some (.int l2), some (.int l3), some (.int l4), some (.int (l5 + 1)), none]) C dX10_fits_125 (by decide) rfl rfl rfl ?_
  refine g_goto (tgt := 50) C dX10_fits_128 (by decide) ?_
  refine g_sub (lv' := [some (.ref (E.2.1 + l0)), some (.int l1), some (.int l2), some (.int l3), some (.int l4), some (.int (l5 + 1)), none]) ⟨rfl, ⟨rfl, ⟨rfl, ⟨rfl, ⟨rfl, ⟨rfl, trivial⟩⟩⟩⟩⟩⟩ ?_
  exact K50 hf
set_option maxRecDepth 20000 in
theorem l_Mo_fits_b154 {E : EE} {X : CT} {G : Hp} (C : gCx E X cX10_fits "FavoursGoOffModel" (some .boolean) 3 71 0 0 false 7) {r : Int32} (HR : gRet E X cX10_fits (some .boolean) 0 0 (some (.int r)) G) {s0 : Int32} (hf : f_Mo_fits_b154 G s0 = some r) : gV E X 0 0 G 154 [none, none, none, none, none, none, none] [.int s0] := by
  unfold f_Mo_fits_b154 at hf
  obtain ⟨hv, hf⟩ := zR_ok hf
  obtain rfl := rP_ok hf
  exact g_zret HR hv dX10_fits_154
set_option maxRecDepth 20000 in
theorem l_Mo_fits_b50k {E : EE} {X : CT} {G : Hp} (C : gCx E X cX10_fits "FavoursGoOffModel" (some .boolean) 3 71 0 0 false 7) {r : Int32} (HR : gRet E X cX10_fits (some .boolean) 0 0 (some (.int r)) G) {k50 : Nat → Int32 → Int32 → Int32 → Int32 → Int32 → Option Int32} (K50 : ∀ {l0 : Nat} {l1 : Int32} {l2 : Int32} {l3 : Int32} {l4 : Int32} {l5 : Int32}, k50 l0 l1 l2 l3 l4 l5 = some r → gV E X 0 0 G 50 [some (.ref (E.2.1 + l0)), some (.int l1), some (.int l2), some (.int l3), some (.int l4), some (.int l5), none] []) {l0 : Nat} {l1 : Int32} {l2 : Int32} {l3 : Int32} {l4 : Int32} {l5 : Int32} (hf : f_Mo_fits_b50_k G k50 l0 l1 l2 l3 l4 l5 = some r) : gV E X 0 0 G 50 [some (.ref (E.2.1 + l0)), some (.int l1), some (.int l2), some (.int l3), some (.int l4), some (.int l5), none] [] := by
  unfold f_Mo_fits_b50_k at hf
  refine g_iload C dX10_fits_50 rfl ?_
  refine g_iload_n C dX10_fits_52 rfl ?_
  refine g_icmp_ge (tgt := 131) C dX10_fits_53 (by decide) (fun hc => ?_) (fun hc => ?_)
  · have hf := iteT hf hc
    refine g_iload C dX10_fits_131 rfl ?_
    refine g_aload_n C dX10_fits_133 rfl ?_
    obtain ⟨x1, hg, hf⟩ := gR_ok hf
    refine g_getR C fl_Mo_7 dX10_fits_134 hg ?_
    refine g_iconst (v := (2 : Int32)) C dX10_fits_137 (by decide) ?_
    refine g_aload_n C dX10_fits_138 rfl ?_
    refine g_iload_n C dX10_fits_139 rfl ?_
    refine g_iconst (v := (1 : Int32)) C dX10_fits_140 (by decide) ?_
    obtain ⟨x2, hg, h1, hf⟩ := vP_ok hf
    refine g_invV (As := [.int l2, .int (1 : Int32)]) (st := [.int (2 : Int32), .ref (E.2.1 + x1), .int l4]) C (c_Mo_told0 E h1) (rfl : vwCl[10]? = some (y_Mo_told0.cls, TX10, 24)) (by decide) hg ml_Mo_112 cm_Mo_told0.1 cm_Mo_told0.2.1 cm_Mo_told0.2.2.1 cm_Mo_told0.2.2.2.1 cm_Mo_told0.2.2.2.2 rfl ⟨by omega, by omega, by omega, by omega⟩ (by exact Nat.le_of_ble_eq_true rfl) rfl dX10_fits_141 ?_
    refine g_iadd C dX10_fits_144 ?_
    obtain ⟨x3, hx3, hg, hf⟩ := aI_ok hf
    refine e_iald C dX10_fits_145 hx3 hg ?_
    refine g_icmp_gt (tgt := 153) C dX10_fits_146 (by decide) (fun hc => ?_) (fun hc => ?_)
    · have hf := iteT hf hc
      refine g_iconst (v := (0 : Int32)) C dX10_fits_153 (by decide) ?_
      refine g_sub (lv' := [none, none, none, none, none, none, none]) trivial ?_
      exact l_Mo_fits_b154 C HR  hf
    · have hf := iteF hf hc
      refine g_iconst (v := (1 : Int32)) C dX10_fits_149 (by decide) ?_
      refine g_goto (tgt := 154) C dX10_fits_150 (by decide) ?_
      refine g_sub (lv' := [none, none, none, none, none, none, none]) trivial ?_
      exact l_Mo_fits_b154 C HR  hf
  · have hf := iteF hf hc
    refine g_aload_n C dX10_fits_56 rfl ?_
    obtain ⟨x4, hg, hf⟩ := gR_ok hf
    refine g_getR C fl_Mo_36 dX10_fits_57 hg ?_
    refine g_iload C dX10_fits_60 rfl ?_
    obtain ⟨x5, hx5, hg, hf⟩ := aI_ok hf
    refine e_iald C dX10_fits_62 hx5 hg ?_
    refine g_istore (lv' := [some (.ref (E.2.1 + l0)), some (.int l1), some (.int l2), some (.int l3), some (.int l4), some (.int l5), some (.int x5)]) C dX10_fits_63 (by decide) rfl ?_
    refine g_iload C dX10_fits_65 rfl ?_
    refine g_iload_n C dX10_fits_67 rfl ?_
    refine g_icmp_ne (tgt := 73) C dX10_fits_68 (by decide) (fun hc => ?_) (fun hc => ?_)
    · have hf := iteF hf hc
      refine g_iload C dX10_fits_73 rfl ?_
      refine g_aload_n C dX10_fits_75 rfl ?_
      obtain ⟨x6, hg, hf⟩ := gR_ok hf
      refine g_getR C fl_Mo_7 dX10_fits_76 hg ?_
      refine g_sipush (v := (158 : Int32)) C dX10_fits_79 (by decide) ?_
      obtain ⟨x7, hx7, hg, hf⟩ := aI_ok hf
      refine e_iald C dX10_fits_82 hx7 hg ?_
      refine g_icmp_ge (tgt := 125) C dX10_fits_83 (by decide) (fun hc => ?_) (fun hc => ?_)
      · have hf := iteT hf hc
        refine g_sub (lv' := [some (.ref (E.2.1 + l0)), some (.int l1), some (.int l2), some (.int l3), some (.int l4), some (.int l5), none]) ⟨rfl, ⟨rfl, ⟨rfl, ⟨rfl, ⟨rfl, ⟨rfl, trivial⟩⟩⟩⟩⟩⟩ ?_
        exact l_Mo_fits_b125 C HR K50 hf
      · have hf := iteF hf hc
        refine g_aload_n C dX10_fits_86 rfl ?_
        refine g_iload C dX10_fits_87 rfl ?_
        refine g_iconst (v := (3 : Int32)) C dX10_fits_89 (by decide) ?_
        obtain ⟨x8, hg, h1, hf⟩ := vP_ok hf
        refine g_invV (As := [.int l5, .int (3 : Int32)]) (st := []) C (c_Mo_need0 E h1) (rfl : vwCl[10]? = some (y_Mo_need0.cls, TX10, 24)) (by decide) hg ml_Mo_155 cm_Mo_need0.1 cm_Mo_need0.2.1 cm_Mo_need0.2.2.1 cm_Mo_need0.2.2.2.1 cm_Mo_need0.2.2.2.2 rfl ⟨by omega, by omega, by omega, by omega⟩ (by exact Nat.le_of_ble_eq_true rfl) rfl dX10_fits_90 ?_
        refine g_iload_n C dX10_fits_93 rfl ?_
        refine g_icmp_ne (tgt := 125) C dX10_fits_94 (by decide) (fun hc => ?_) (fun hc => ?_)
        · have hf := iteF hf hc
          refine g_sub (lv' := [some (.ref (E.2.1 + l0)), some (.int l1), some (.int l2), some (.int l3), some (.int l4), some (.int l5), none]) ⟨rfl, ⟨rfl, ⟨rfl, ⟨rfl, ⟨rfl, ⟨rfl, trivial⟩⟩⟩⟩⟩⟩ ?_
          exact l_Mo_fits_b125 C HR K50 hf
        · have hf := iteT hf hc
          refine g_aload_n C dX10_fits_97 rfl ?_
          refine g_iload C dX10_fits_98 rfl ?_
          refine g_iconst (v := (1 : Int32)) C dX10_fits_100 (by decide) ?_
          obtain ⟨x9, hg, h1, hf⟩ := vP_ok hf
          refine g_invV (As := [.int x5, .int (1 : Int32)]) (st := []) C (c_Mo_told0 E h1) (rfl : vwCl[10]? = some (y_Mo_told0.cls, TX10, 24)) (by decide) hg ml_Mo_112 cm_Mo_told0.1 cm_Mo_told0.2.1 cm_Mo_told0.2.2.1 cm_Mo_told0.2.2.2.1 cm_Mo_told0.2.2.2.2 rfl ⟨by omega, by omega, by omega, by omega⟩ (by exact Nat.le_of_ble_eq_true rfl) rfl dX10_fits_101 ?_
          refine g_aload_n C dX10_fits_104 rfl ?_
          refine g_iload_n C dX10_fits_105 rfl ?_
          refine g_iconst (v := (1 : Int32)) C dX10_fits_106 (by decide) ?_
          obtain ⟨x10, hg, h1, hf⟩ := vP_ok hf
          refine g_invV (As := [.int l2, .int (1 : Int32)]) (st := [.int x9]) C (c_Mo_told0 E h1) (rfl : vwCl[10]? = some (y_Mo_told0.cls, TX10, 24)) (by decide) hg ml_Mo_112 cm_Mo_told0.1 cm_Mo_told0.2.1 cm_Mo_told0.2.2.1 cm_Mo_told0.2.2.2.1 cm_Mo_told0.2.2.2.2 rfl ⟨by omega, by omega, by omega, by omega⟩ (by exact Nat.le_of_ble_eq_true rfl) rfl dX10_fits_107 ?_
          refine g_icmp_ne (tgt := 125) C dX10_fits_110 (by decide) (fun hc => ?_) (fun hc => ?_)
          · have hf := iteF hf hc
            refine g_sub (lv' := [some (.ref (E.2.1 + l0)), some (.int l1), some (.int l2), some (.int l3), some (.int l4), some (.int l5), none]) ⟨rfl, ⟨rfl, ⟨rfl, ⟨rfl, ⟨rfl, ⟨rfl, trivial⟩⟩⟩⟩⟩⟩ ?_
            exact l_Mo_fits_b125 C HR K50 hf
          · have hf := iteT hf hc
            refine g_iload C dX10_fits_113 rfl ?_
            refine g_aload_n C dX10_fits_115 rfl ?_
            refine g_iload C dX10_fits_116 rfl ?_
            refine g_iload_n C dX10_fits_118 rfl ?_
            obtain ⟨x11, hg, h1, hf⟩ := vP_ok hf
            refine g_invV (As := [.int x5, .int l3]) (st := [.int l4]) C (c_Mo_valueOf E h1) (rfl : vwCl[10]? = some (y_Mo_valueOf.cls, TX10, 24)) (by decide) hg ml_Mo_119 cm_Mo_valueOf.1 cm_Mo_valueOf.2.1 cm_Mo_valueOf.2.2.1 cm_Mo_valueOf.2.2.2.1 cm_Mo_valueOf.2.2.2.2 rfl ⟨by omega, by omega, by omega, by omega⟩ (by exact Nat.le_of_ble_eq_true rfl) rfl dX10_fits_119 ?_
            refine g_iadd C dX10_fits_122 ?_
            obtain ⟨x12, hx12, hf⟩ := lt_ok hf
            refine e_top hx12 ?_
            refine g_istore (lv' := [some (.ref (E.2.1 + l0)), some (.int l1), some (.int l2), some (.int l3), some (.int x12), some (.int l5), some (.int x5)]) C dX10_fits_123 (by decide) rfl ?_
            refine g_sub (lv' := [some (.ref (E.2.1 + l0)), some (.int l1), some (.int l2), some (.int l3), some (.int x12), some (.int l5), none]) ⟨rfl, ⟨rfl, ⟨rfl, ⟨rfl, ⟨rfl, ⟨rfl, trivial⟩⟩⟩⟩⟩⟩ ?_
            exact l_Mo_fits_b125 C HR K50 hf
    · have hf := iteT hf hc
      refine g_iconst (v := (0 : Int32)) C dX10_fits_71 (by decide) ?_
      obtain rfl := rP_ok hf
      exact g_zret HR (Or.inl rfl) dX10_fits_72
theorem l_Mo_fits_b50 {E : EE} {X : CT} {G : Hp} (C : gCx E X cX10_fits "FavoursGoOffModel" (some .boolean) 3 71 0 0 false 7) {r : Int32} (HR : gRet E X cX10_fits (some .boolean) 0 0 (some (.int r)) G) : ∀ (nn : Nat) {l0 : Nat} {l1 : Int32} {l2 : Int32} {l3 : Int32} {l4 : Int32} {l5 : Int32}, f_Mo_fits_b50 G nn l0 l1 l2 l3 l4 l5 = some r → gV E X 0 0 G 50 [some (.ref (E.2.1 + l0)), some (.int l1), some (.int l2), some (.int l3), some (.int l4), some (.int l5), none] []
  | 0, _, _, _, _, _, _, hf => by have h0 : (none : Option Int32) = some r := hf; cases h0
  | nn + 1, _, _, _, _, _, _, hf => l_Mo_fits_b50k C HR (fun h => l_Mo_fits_b50 C HR nn h) hf
set_option maxRecDepth 20000 in
theorem l_Mo_fits {E : EE} {X : CT} {G : Hp} (C : gCx E X cX10_fits "FavoursGoOffModel" (some .boolean) 3 71 0 0 false 7) {r : Int32} (HR : gRet E X cX10_fits (some .boolean) 0 0 (some (.int r)) G) {l0 : Nat} {l1 : Int32} (hf : f_Mo_fits G l0 l1 = some r) : gV E X 0 0 G 0 [some (.ref (E.2.1 + l0)), some (.int l1), none, none, none, none, none] [] := by
  unfold f_Mo_fits at hf
  refine g_aload_n C dX10_fits_0 rfl ?_
  obtain ⟨x1, hg, hf⟩ := gR_ok hf
  refine g_getR C fl_Mo_36 dX10_fits_1 hg ?_
  refine g_iload_n C dX10_fits_4 rfl ?_
  obtain ⟨x2, hx2, hg, hf⟩ := aI_ok hf
  refine e_iald C dX10_fits_5 hx2 hg ?_
  refine g_istore_n (lv' := [some (.ref (E.2.1 + l0)), some (.int l1), some (.int x2), none, none, none, none]) C dX10_fits_6 (by decide) rfl ?_
  refine g_iload_n C dX10_fits_7 rfl ?_
  refine g_aload_n C dX10_fits_8 rfl ?_
  obtain ⟨x3, hg, hf⟩ := gR_ok hf
  refine g_getR C fl_Mo_7 dX10_fits_9 hg ?_
  refine g_sipush (v := (158 : Int32)) C dX10_fits_12 (by decide) ?_
  obtain ⟨x4, hx4, hg, hf⟩ := aI_ok hf
  refine e_iald C dX10_fits_15 hx4 hg ?_
  refine g_icmp_ne (tgt := 21) C dX10_fits_16 (by decide) (fun hc => ?_) (fun hc => ?_)
  · have hf := iteF hf hc
    refine g_aload_n C dX10_fits_21 rfl ?_
    refine g_iload_n C dX10_fits_22 rfl ?_
    refine g_iload_n C dX10_fits_23 rfl ?_
    obtain ⟨x5, hg, h1, hf⟩ := vP_ok hf
    refine g_invV (As := [.int l1, .int x2]) (st := []) C (c_Mo_mayMeet E h1) (rfl : vwCl[10]? = some (y_Mo_mayMeet.cls, TX10, 24)) (by decide) hg ml_Mo_158 cm_Mo_mayMeet.1 cm_Mo_mayMeet.2.1 cm_Mo_mayMeet.2.2.1 cm_Mo_mayMeet.2.2.2.1 cm_Mo_mayMeet.2.2.2.2 rfl ⟨by omega, by omega, by omega, by omega⟩ (by exact Nat.le_of_ble_eq_true rfl) rfl dX10_fits_24 ?_
    refine g_if_ne (tgt := 32) C dX10_fits_27 (by decide) (fun hc => ?_) (fun hc => ?_)
    · have hf := iteF hf hc
      refine g_aload_n C dX10_fits_32 rfl ?_
      refine g_iload_n C dX10_fits_33 rfl ?_
      refine g_iconst (v := (3 : Int32)) C dX10_fits_34 (by decide) ?_
      obtain ⟨x6, hg, h1, hf⟩ := vP_ok hf
      refine g_invV (As := [.int l1, .int (3 : Int32)]) (st := []) C (c_Mo_need0 E h1) (rfl : vwCl[10]? = some (y_Mo_need0.cls, TX10, 24)) (by decide) hg ml_Mo_155 cm_Mo_need0.1 cm_Mo_need0.2.1 cm_Mo_need0.2.2.1 cm_Mo_need0.2.2.2.1 cm_Mo_need0.2.2.2.2 rfl ⟨by omega, by omega, by omega, by omega⟩ (by exact Nat.le_of_ble_eq_true rfl) rfl dX10_fits_35 ?_
      refine g_istore_n (lv' := [some (.ref (E.2.1 + l0)), some (.int l1), some (.int x2), some (.int x6), none, none, none]) C dX10_fits_38 (by decide) rfl ?_
      refine g_aload_n C dX10_fits_39 rfl ?_
      refine g_iload_n C dX10_fits_40 rfl ?_
      refine g_iload_n C dX10_fits_41 rfl ?_
      obtain ⟨x7, hg, h1, hf⟩ := vP_ok hf
      refine g_invV (As := [.int x2, .int x6]) (st := []) C (c_Mo_valueOf E h1) (rfl : vwCl[10]? = some (y_Mo_valueOf.cls, TX10, 24)) (by decide) hg ml_Mo_119 cm_Mo_valueOf.1 cm_Mo_valueOf.2.1 cm_Mo_valueOf.2.2.1 cm_Mo_valueOf.2.2.2.1 cm_Mo_valueOf.2.2.2.2 rfl ⟨by omega, by omega, by omega, by omega⟩ (by exact Nat.le_of_ble_eq_true rfl) rfl dX10_fits_42 ?_
      refine g_istore (lv' := [some (.ref (E.2.1 + l0)), some (.int l1), some (.int x2), some (.int x6), some (.int x7), none, none]) C dX10_fits_45 (by decide) rfl ?_
      refine g_iconst (v := (0 : Int32)) C dX10_fits_47 (by decide) ?_
      refine g_istore (lv' := [some (.ref (E.2.1 + l0)), some (.int l1), some (.int x2), some (.int x6), some (.int x7), some (.int (0 : Int32)), none]) C dX10_fits_48 (by decide) rfl ?_
      refine g_sub (lv' := [some (.ref (E.2.1 + l0)), some (.int l1), some (.int x2), some (.int x6), some (.int x7), some (.int (0 : Int32)), none]) ⟨rfl, ⟨rfl, ⟨rfl, ⟨rfl, ⟨rfl, ⟨rfl, trivial⟩⟩⟩⟩⟩⟩ ?_
      exact l_Mo_fits_b50 C HR  FU hf
    · have hf := iteT hf hc
      refine g_iconst (v := (0 : Int32)) C dX10_fits_30 (by decide) ?_
      obtain rfl := rP_ok hf
      exact g_zret HR (Or.inl rfl) dX10_fits_31
  · have hf := iteT hf hc
    refine g_iconst (v := (1 : Int32)) C dX10_fits_19 (by decide) ?_
    obtain rfl := rP_ok hf
    exact g_zret HR (Or.inr rfl) dX10_fits_20
theorem c_Mo_fits (E : EE) {G : Hp} {l0 : Nat} {l1 : Int32} {r : Int32} (h : f_Mo_fits G l0 l1 = some r) : gCt E y_Mo_fits cX10_fits 7 (some .boolean) 3 71 0 0 [.ref (E.2.1 + l0), .int l1] G (some (.int r)) G := gCt_of (own := "FavoursGoOffModel") (ini := false) [some (.ref (E.2.1 + l0)), some (.int l1), none, none, none, none, none] (by decide +kernel) rfl (fun h => by cases h) (Nat.le_of_ble_eq_true rfl) ⟨rfl, ⟨rfl, trivial⟩⟩ (fun X C HR => l_Mo_fits C HR h)
set_option maxRecDepth 20000 in
theorem l_Mo_look_b57 {E : EE} {X : CT} {G : Hp} (C : gCx E X cX10_look "FavoursGoOffModel" none 2 48 0 0 false 4) {G' : Hp} (HR : gRet E X cX10_look none 0 0 none G') {k6 : Hp → Nat → Int32 → Int32 → Int32 → Option Hp} (K6 : ∀ {G : Hp} {l0 : Nat} {l1 : Int32} {l2 : Int32} {l3 : Int32}, k6 G l0 l1 l2 l3 = some G' → gV E X 0 0 G 6 [some (.ref (E.2.1 + l0)), some (.int l1), some (.int l2), some (.int l3)] []) {l0 : Nat} {l1 : Int32} {l2 : Int32} {l3 : Int32} (hf : f_Mo_look_b57 k6 G l0 l1 l2 l3 = some G') : gV E X 0 0 G 57 [some (.ref (E.2.1 + l0)), some (.int l1), some (.int l2), some (.int l3)] [] := by
  unfold f_Mo_look_b57 at hf
  refine g_iinc (v := (l3 + 1)) (lv' := [some (.ref (E.2.1 + l0)), some (.int l1), some (.int l2), some (.int (l3 + 1))]) C dX10_look_57 (by decide) rfl rfl rfl ?_
  refine g_goto (tgt := 6) C dX10_look_60 (by decide) ?_
  refine g_sub (lv' := [some (.ref (E.2.1 + l0)), some (.int l1), some (.int l2), some (.int (l3 + 1))]) ⟨rfl, ⟨rfl, ⟨rfl, ⟨rfl, trivial⟩⟩⟩⟩ ?_
  exact K6 hf
set_option maxRecDepth 20000 in
theorem l_Mo_look_b122 {E : EE} {X : CT} {G : Hp} (C : gCx E X cX10_look "FavoursGoOffModel" none 2 48 0 0 false 4) {G' : Hp} (HR : gRet E X cX10_look none 0 0 none G') (hf : f_Mo_look_b122 G = some G') : gV E X 0 0 G 122 [none, none, none, none] [] := by
  unfold f_Mo_look_b122 at hf
  obtain rfl := rP_ok hf
  exact g_vret HR dX10_look_122
set_option maxRecDepth 20000 in
theorem l_Mo_look_b99k {E : EE} {X : CT} {G : Hp} (C : gCx E X cX10_look "FavoursGoOffModel" none 2 48 0 0 false 4) {G' : Hp} (HR : gRet E X cX10_look none 0 0 none G') {k99 : Hp → Nat → Int32 → Option Hp} (K99 : ∀ {G : Hp} {l0 : Nat} {l3 : Int32}, k99 G l0 l3 = some G' → gV E X 0 0 G 99 [some (.ref (E.2.1 + l0)), none, none, some (.int l3)] []) {l0 : Nat} {l3 : Int32} (hf : f_Mo_look_b99_k k99 G l0 l3 = some G') : gV E X 0 0 G 99 [some (.ref (E.2.1 + l0)), none, none, some (.int l3)] [] := by
  unfold f_Mo_look_b99_k at hf
  refine g_iload_n C dX10_look_99 rfl ?_
  refine g_iconst (v := (5 : Int32)) C dX10_look_100 (by decide) ?_
  refine g_icmp_ge (tgt := 122) C dX10_look_101 (by decide) (fun hc => ?_) (fun hc => ?_)
  · have hf := iteT hf hc
    refine g_sub (lv' := [none, none, none, none]) trivial ?_
    exact l_Mo_look_b122 C HR  hf
  · have hf := iteF hf hc
    refine g_aload_n C dX10_look_104 rfl ?_
    obtain ⟨x1, hg, hf⟩ := gR_ok hf
    refine g_getR C fl_Mo_39 dX10_look_105 hg ?_
    refine g_iload_n C dX10_look_108 rfl ?_
    refine g_aload_n C dX10_look_109 rfl ?_
    obtain ⟨x2, hg, hf⟩ := gR_ok hf
    refine g_getR C fl_Mo_36 dX10_look_110 hg ?_
    refine g_iload_n C dX10_look_113 rfl ?_
    obtain ⟨x3, hx3, hg, hf⟩ := aI_ok hf
    refine e_iald C dX10_look_114 hx3 hg ?_
    obtain ⟨G4, hG4, hg, hf⟩ := sI_ok hf
    refine e_iast C dX10_look_115 hG4 hg ?_
    refine g_iinc (v := (l3 + 1)) (lv' := [some (.ref (E.2.1 + l0)), none, none, some (.int (l3 + 1))]) C dX10_look_116 (by decide) rfl rfl rfl ?_
    refine g_goto (tgt := 99) C dX10_look_119 (by decide) ?_
    refine g_sub (lv' := [some (.ref (E.2.1 + l0)), none, none, some (.int (l3 + 1))]) ⟨rfl, ⟨rfl, trivial⟩⟩ ?_
    exact K99 hf
theorem l_Mo_look_b99 {E : EE} {X : CT} (C : gCx E X cX10_look "FavoursGoOffModel" none 2 48 0 0 false 4) {G' : Hp} (HR : gRet E X cX10_look none 0 0 none G') : ∀ (nn : Nat) {G : Hp} {l0 : Nat} {l3 : Int32}, f_Mo_look_b99 nn G l0 l3 = some G' → gV E X 0 0 G 99 [some (.ref (E.2.1 + l0)), none, none, some (.int l3)] []
  | 0, _, _, _, hf => by have h0 : (none : Option Hp) = some G' := hf; cases h0
  | nn + 1, _, _, _, hf => l_Mo_look_b99k C HR (fun h => l_Mo_look_b99 C HR nn h) hf
set_option maxRecDepth 20000 in
theorem l_Mo_look_b87 {E : EE} {X : CT} {G : Hp} (C : gCx E X cX10_look "FavoursGoOffModel" none 2 48 0 0 false 4) {G' : Hp} (HR : gRet E X cX10_look none 0 0 none G') {l0 : Nat} {l1 : Int32} {l2 : Int32} (hf : f_Mo_look_b87 G l0 l1 l2 = some G') : gV E X 0 0 G 87 [some (.ref (E.2.1 + l0)), some (.int l1), some (.int l2), none] [] := by
  unfold f_Mo_look_b87 at hf
  refine g_aload_n C dX10_look_87 rfl ?_
  refine g_iload_n C dX10_look_88 rfl ?_
  obtain ⟨G1, hG1, hg, hf⟩ := pI_ok hf
  refine e_putI C fl_Mo_161 dX10_look_89 hG1 hg (Or.inl rfl) rfl rfl ?_
  refine g_aload_n C dX10_look_92 rfl ?_
  refine g_iload_n C dX10_look_93 rfl ?_
  obtain ⟨G2, hG2, hg, hf⟩ := pI_ok hf
  refine e_putI C fl_Mo_164 dX10_look_94 hG2 hg (Or.inl rfl) rfl rfl ?_
  refine g_iconst (v := (0 : Int32)) C dX10_look_97 (by decide) ?_
  refine g_istore_n (lv' := [some (.ref (E.2.1 + l0)), some (.int l1), some (.int l2), some (.int (0 : Int32))]) C dX10_look_98 (by decide) rfl ?_
  refine g_sub (lv' := [some (.ref (E.2.1 + l0)), none, none, some (.int (0 : Int32))]) ⟨rfl, ⟨rfl, trivial⟩⟩ ?_
  exact l_Mo_look_b99 C HR  FU hf
set_option maxRecDepth 20000 in
theorem l_Mo_look_b6k {E : EE} {X : CT} {G : Hp} (C : gCx E X cX10_look "FavoursGoOffModel" none 2 48 0 0 false 4) {G' : Hp} (HR : gRet E X cX10_look none 0 0 none G') {k6 : Hp → Nat → Int32 → Int32 → Int32 → Option Hp} (K6 : ∀ {G : Hp} {l0 : Nat} {l1 : Int32} {l2 : Int32} {l3 : Int32}, k6 G l0 l1 l2 l3 = some G' → gV E X 0 0 G 6 [some (.ref (E.2.1 + l0)), some (.int l1), some (.int l2), some (.int l3)] []) {l0 : Nat} {l1 : Int32} {l2 : Int32} {l3 : Int32} (hf : f_Mo_look_b6_k k6 G l0 l1 l2 l3 = some G') : gV E X 0 0 G 6 [some (.ref (E.2.1 + l0)), some (.int l1), some (.int l2), some (.int l3)] [] := by
  unfold f_Mo_look_b6_k at hf
  refine g_iload_n C dX10_look_6 rfl ?_
  refine g_aload_n C dX10_look_7 rfl ?_
  obtain ⟨x1, hg, hf⟩ := gR_ok hf
  refine g_getR C fl_Mo_7 dX10_look_8 hg ?_
  refine g_sipush (v := (159 : Int32)) C dX10_look_11 (by decide) ?_
  obtain ⟨x2, hx2, hg, hf⟩ := aI_ok hf
  refine e_iald C dX10_look_14 hx2 hg ?_
  refine g_icmp_ge (tgt := 63) C dX10_look_15 (by decide) (fun hc => ?_) (fun hc => ?_)
  · have hf := iteT hf hc
    refine g_iload_n C dX10_look_63 rfl ?_
    refine g_aload_n C dX10_look_64 rfl ?_
    obtain ⟨x3, hx3, hg, hf⟩ := gI_ok hf
    refine e_getI C fl_Mo_161 dX10_look_65 hx3 hg ?_
    refine g_icmp_gt (tgt := 87) C dX10_look_68 (by decide) (fun hc => ?_) (fun hc => ?_)
    · have hf := iteT hf hc
      refine g_sub (lv' := [some (.ref (E.2.1 + l0)), some (.int l1), some (.int l2), none]) ⟨rfl, ⟨rfl, ⟨rfl, trivial⟩⟩⟩ ?_
      exact l_Mo_look_b87 C HR  hf
    · have hf := iteF hf hc
      refine g_iload_n C dX10_look_71 rfl ?_
      refine g_aload_n C dX10_look_72 rfl ?_
      obtain ⟨x4, hx4, hg, hf⟩ := gI_ok hf
      refine e_getI C fl_Mo_161 dX10_look_73 hx4 hg ?_
      refine g_icmp_ne (tgt := 122) C dX10_look_76 (by decide) (fun hc => ?_) (fun hc => ?_)
      · have hf := iteF hf hc
        refine g_sub (lv' := [none, none, none, none]) trivial ?_
        exact l_Mo_look_b122 C HR  hf
      · have hf := iteT hf hc
        refine g_iload_n C dX10_look_79 rfl ?_
        refine g_aload_n C dX10_look_80 rfl ?_
        obtain ⟨x5, hx5, hg, hf⟩ := gI_ok hf
        refine e_getI C fl_Mo_164 dX10_look_81 hx5 hg ?_
        refine g_icmp_ge (tgt := 122) C dX10_look_84 (by decide) (fun hc => ?_) (fun hc => ?_)
        · have hf := iteT hf hc
          refine g_sub (lv' := [none, none, none, none]) trivial ?_
          exact l_Mo_look_b122 C HR  hf
        · have hf := iteF hf hc
          refine g_sub (lv' := [some (.ref (E.2.1 + l0)), some (.int l1), some (.int l2), none]) ⟨rfl, ⟨rfl, ⟨rfl, trivial⟩⟩⟩ ?_
          exact l_Mo_look_b87 C HR  hf
  · have hf := iteF hf hc
    refine g_aload_n C dX10_look_18 rfl ?_
    obtain ⟨x6, hg, hf⟩ := gR_ok hf
    refine g_getR C fl_Mo_36 dX10_look_19 hg ?_
    refine g_iload_n C dX10_look_22 rfl ?_
    obtain ⟨x7, hx7, hg, hf⟩ := aI_ok hf
    refine e_iald C dX10_look_23 hx7 hg ?_
    refine g_aload_n C dX10_look_24 rfl ?_
    obtain ⟨x8, hg, hf⟩ := gR_ok hf
    refine g_getR C fl_Mo_7 dX10_look_25 hg ?_
    refine g_sipush (v := (158 : Int32)) C dX10_look_28 (by decide) ?_
    obtain ⟨x9, hx9, hg, hf⟩ := aI_ok hf
    refine e_iald C dX10_look_31 hx9 hg ?_
    refine g_icmp_ge (tgt := 57) C dX10_look_32 (by decide) (fun hc => ?_) (fun hc => ?_)
    · have hf := iteT hf hc
      refine g_sub (lv' := [some (.ref (E.2.1 + l0)), some (.int l1), some (.int l2), some (.int l3)]) ⟨rfl, ⟨rfl, ⟨rfl, ⟨rfl, trivial⟩⟩⟩⟩ ?_
      exact l_Mo_look_b57 C HR K6 hf
    · have hf := iteF hf hc
      refine g_iinc (v := (l1 + 1)) (lv' := [some (.ref (E.2.1 + l0)), some (.int (l1 + 1)), some (.int l2), some (.int l3)]) C dX10_look_35 (by decide) rfl rfl rfl ?_
      refine g_iload_n C dX10_look_38 rfl ?_
      refine g_aload_n C dX10_look_39 rfl ?_
      refine g_aload_n C dX10_look_40 rfl ?_
      obtain ⟨x10, hg, hf⟩ := gR_ok hf
      refine g_getR C fl_Mo_36 dX10_look_41 hg ?_
      refine g_iload_n C dX10_look_44 rfl ?_
      obtain ⟨x11, hx11, hg, hf⟩ := aI_ok hf
      refine e_iald C dX10_look_45 hx11 hg ?_
      refine g_aload_n C dX10_look_46 rfl ?_
      refine g_iload_n C dX10_look_47 rfl ?_
      refine g_iconst (v := (3 : Int32)) C dX10_look_48 (by decide) ?_
      obtain ⟨x12, hg, h1, hf⟩ := vP_ok hf
      refine g_invV (As := [.int l3, .int (3 : Int32)]) (st := [.int x11, .ref (E.2.1 + l0), .int l2]) C (c_Mo_need0 E h1) (rfl : vwCl[10]? = some (y_Mo_need0.cls, TX10, 24)) (by decide) hg ml_Mo_155 cm_Mo_need0.1 cm_Mo_need0.2.1 cm_Mo_need0.2.2.1 cm_Mo_need0.2.2.2.1 cm_Mo_need0.2.2.2.2 rfl ⟨by omega, by omega, by omega, by omega⟩ (by exact Nat.le_of_ble_eq_true rfl) rfl dX10_look_49 ?_
      obtain ⟨x13, hg, h1, hf⟩ := vP_ok hf
      refine g_invV (As := [.int x11, .int x12]) (st := [.int l2]) C (c_Mo_valueOf E h1) (rfl : vwCl[10]? = some (y_Mo_valueOf.cls, TX10, 24)) (by decide) hg ml_Mo_119 cm_Mo_valueOf.1 cm_Mo_valueOf.2.1 cm_Mo_valueOf.2.2.1 cm_Mo_valueOf.2.2.2.1 cm_Mo_valueOf.2.2.2.2 rfl ⟨by omega, by omega, by omega, by omega⟩ (by exact Nat.le_of_ble_eq_true rfl) rfl dX10_look_52 ?_
      refine g_iadd C dX10_look_55 ?_
      obtain ⟨x14, hx14, hf⟩ := lt_ok hf
      refine e_top hx14 ?_
      refine g_istore_n (lv' := [some (.ref (E.2.1 + l0)), some (.int (l1 + 1)), some (.int x14), some (.int l3)]) C dX10_look_56 (by decide) rfl ?_
      refine g_sub (lv' := [some (.ref (E.2.1 + l0)), some (.int (l1 + 1)), some (.int x14), some (.int l3)]) ⟨rfl, ⟨rfl, ⟨rfl, ⟨rfl, trivial⟩⟩⟩⟩ ?_
      exact l_Mo_look_b57 C HR K6 hf
theorem l_Mo_look_b6 {E : EE} {X : CT} (C : gCx E X cX10_look "FavoursGoOffModel" none 2 48 0 0 false 4) {G' : Hp} (HR : gRet E X cX10_look none 0 0 none G') : ∀ (nn : Nat) {G : Hp} {l0 : Nat} {l1 : Int32} {l2 : Int32} {l3 : Int32}, f_Mo_look_b6 nn G l0 l1 l2 l3 = some G' → gV E X 0 0 G 6 [some (.ref (E.2.1 + l0)), some (.int l1), some (.int l2), some (.int l3)] []
  | 0, _, _, _, _, _, hf => by have h0 : (none : Option Hp) = some G' := hf; cases h0
  | nn + 1, _, _, _, _, _, hf => l_Mo_look_b6k C HR (fun h => l_Mo_look_b6 C HR nn h) hf
set_option maxRecDepth 20000 in
theorem l_Mo_look {E : EE} {X : CT} {G : Hp} (C : gCx E X cX10_look "FavoursGoOffModel" none 2 48 0 0 false 4) {G' : Hp} (HR : gRet E X cX10_look none 0 0 none G') {l0 : Nat} (hf : f_Mo_look G l0 = some G') : gV E X 0 0 G 0 [some (.ref (E.2.1 + l0)), none, none, none] [] := by
  unfold f_Mo_look at hf
  refine g_iconst (v := (0 : Int32)) C dX10_look_0 (by decide) ?_
  refine g_istore_n (lv' := [some (.ref (E.2.1 + l0)), some (.int (0 : Int32)), none, none]) C dX10_look_1 (by decide) rfl ?_
  refine g_iconst (v := (0 : Int32)) C dX10_look_2 (by decide) ?_
  refine g_istore_n (lv' := [some (.ref (E.2.1 + l0)), some (.int (0 : Int32)), some (.int (0 : Int32)), none]) C dX10_look_3 (by decide) rfl ?_
  refine g_iconst (v := (0 : Int32)) C dX10_look_4 (by decide) ?_
  refine g_istore_n (lv' := [some (.ref (E.2.1 + l0)), some (.int (0 : Int32)), some (.int (0 : Int32)), some (.int (0 : Int32))]) C dX10_look_5 (by decide) rfl ?_
  refine g_sub (lv' := [some (.ref (E.2.1 + l0)), some (.int (0 : Int32)), some (.int (0 : Int32)), some (.int (0 : Int32))]) ⟨rfl, ⟨rfl, ⟨rfl, ⟨rfl, trivial⟩⟩⟩⟩ ?_
  exact l_Mo_look_b6 C HR  FU hf
theorem c_Mo_look (E : EE) {G : Hp} {l0 : Nat} {G' : Hp} (h : f_Mo_look G l0 = some G') : gCt E y_Mo_look cX10_look 4 none 2 48 0 0 [.ref (E.2.1 + l0)] G none G' := gCt_of (own := "FavoursGoOffModel") (ini := false) [some (.ref (E.2.1 + l0)), none, none, none] (by decide +kernel) rfl (fun h => by cases h) (Nat.le_of_ble_eq_true rfl) ⟨rfl, trivial⟩ (fun X C HR => l_Mo_look C HR h)
set_option maxRecDepth 20000 in
theorem l_Mo_findMet_b38k {E : EE} {X : CT} {G : Hp} (C : gCx E X cX10_findMet "FavoursGoOffModel" none 4 97 0 0 false 3) {G' : Hp} (HR : gRet E X cX10_findMet none 0 0 none G') {k38 : Hp → Nat → Int32 → Int32 → Option Hp} (K38 : ∀ {G : Hp} {l0 : Nat} {l1 : Int32} {l2 : Int32}, k38 G l0 l1 l2 = some G' → gV E X 0 0 G 38 [some (.ref (E.2.1 + l0)), some (.int l1), some (.int l2)] []) {l0 : Nat} {l1 : Int32} {l2 : Int32} (hf : f_Mo_findMet_b38_k k38 G l0 l1 l2 = some G') : gV E X 0 0 G 38 [some (.ref (E.2.1 + l0)), some (.int l1), some (.int l2)] [] := by
  unfold f_Mo_findMet_b38_k at hf
  refine g_iload_n C dX10_findMet_38 rfl ?_
  refine g_if_lt (tgt := 110) C dX10_findMet_39 (by decide) (fun hc => ?_) (fun hc => ?_)
  · have hf := iteT hf hc
    obtain rfl := rP_ok hf
    exact g_vret HR dX10_findMet_110
  · have hf := iteF hf hc
    refine g_aload_n C dX10_findMet_42 rfl ?_
    obtain ⟨x1, hg, hf⟩ := gR_ok hf
    refine g_getR C fl_Mo_36 dX10_findMet_43 hg ?_
    refine g_iload_n C dX10_findMet_46 rfl ?_
    refine g_dup2 C dX10_findMet_47 rfl rfl ?_
    obtain ⟨x2, hx2, hg, hf⟩ := aI_ok hf
    refine e_iald C dX10_findMet_48 hx2 hg ?_
    refine g_iconst (v := (1 : Int32)) C dX10_findMet_49 (by decide) ?_
    refine g_iadd C dX10_findMet_50 ?_
    obtain ⟨G3, hG3, hg, hf⟩ := sI_ok hf
    refine e_iast C dX10_findMet_51 hG3 hg ?_
    refine g_aload_n C dX10_findMet_52 rfl ?_
    obtain ⟨x4, hg, hf⟩ := gR_ok hf
    refine g_getR C fl_Mo_36 dX10_findMet_53 hg ?_
    refine g_iload_n C dX10_findMet_56 rfl ?_
    obtain ⟨x5, hx5, hg, hf⟩ := aI_ok hf
    refine e_iald C dX10_findMet_57 hx5 hg ?_
    refine g_aload_n C dX10_findMet_58 rfl ?_
    obtain ⟨x6, hg, hf⟩ := gR_ok hf
    refine g_getR C fl_Mo_7 dX10_findMet_59 hg ?_
    refine g_sipush (v := (158 : Int32)) C dX10_findMet_62 (by decide) ?_
    obtain ⟨x7, hx7, hg, hf⟩ := aI_ok hf
    refine e_iald C dX10_findMet_65 hx7 hg ?_
    refine g_icmp_le (tgt := 75) C dX10_findMet_66 (by decide) (fun hc => ?_) (fun hc => ?_)
    · have hf := iteT hf hc
      refine g_aload_n C dX10_findMet_75 rfl ?_
      refine g_iload_n C dX10_findMet_76 rfl ?_
      obtain ⟨x8, hg, h1, hf⟩ := vP_ok hf
      refine g_invV (As := [.int l2]) (st := []) C (c_Mo_fits E h1) (rfl : vwCl[10]? = some (y_Mo_fits.cls, TX10, 24)) (by decide) hg ml_Mo_167 cm_Mo_fits.1 cm_Mo_fits.2.1 cm_Mo_fits.2.2.1 cm_Mo_fits.2.2.2.1 cm_Mo_fits.2.2.2.2 rfl ⟨by omega, by omega, by omega, by omega⟩ (by exact Nat.le_of_ble_eq_true rfl) rfl dX10_findMet_77 ?_
      refine g_if_eq (tgt := 38) C dX10_findMet_80 (by decide) (fun hc => ?_) (fun hc => ?_)
      · have hf := iteT hf hc
        refine g_sub (lv' := [some (.ref (E.2.1 + l0)), some (.int l1), some (.int l2)]) ⟨rfl, ⟨rfl, ⟨rfl, trivial⟩⟩⟩ ?_
        exact K38 hf
      · have hf := iteF hf hc
        refine g_iload_n C dX10_findMet_83 rfl ?_
        refine g_iload_n C dX10_findMet_84 rfl ?_
        refine g_iconst (v := (1 : Int32)) C dX10_findMet_85 (by decide) ?_
        refine g_isub C dX10_findMet_86 ?_
        refine g_icmp_ne (tgt := 97) C dX10_findMet_87 (by decide) (fun hc => ?_) (fun hc => ?_)
        · have hf := iteF hf hc
          refine g_iinc (v := (l2 + 1)) (lv' := [some (.ref (E.2.1 + l0)), some (.int l1), some (.int (l2 + 1))]) C dX10_findMet_97 (by decide) rfl rfl rfl ?_
          refine g_aload_n C dX10_findMet_100 rfl ?_
          obtain ⟨x9, hg, hf⟩ := gR_ok hf
          refine g_getR C fl_Mo_36 dX10_findMet_101 hg ?_
          refine g_iload_n C dX10_findMet_104 rfl ?_
          refine g_iconst (v := (-1 : Int32)) C dX10_findMet_105 (by decide) ?_
          obtain ⟨G10, hG10, hg, hf⟩ := sI_ok hf
          refine e_iast C dX10_findMet_106 hG10 hg ?_
          refine g_goto (tgt := 38) C dX10_findMet_107 (by decide) ?_
          refine g_sub (lv' := [some (.ref (E.2.1 + l0)), some (.int l1), some (.int (l2 + 1))]) ⟨rfl, ⟨rfl, ⟨rfl, trivial⟩⟩⟩ ?_
          exact K38 hf
        · have hf := iteT hf hc
          refine g_aload_n C dX10_findMet_90 rfl ?_
          obtain ⟨G11, hg, h1, hf⟩ := vP_ok hf
          refine g_invV (As := []) (st := []) C (c_Mo_look E h1) (rfl : vwCl[10]? = some (y_Mo_look.cls, TX10, 24)) (by decide) hg ml_Mo_170 cm_Mo_look.1 cm_Mo_look.2.1 cm_Mo_look.2.2.1 cm_Mo_look.2.2.2.1 cm_Mo_look.2.2.2.2 rfl ⟨by omega, by omega, by omega, by omega⟩ (by exact Nat.le_of_ble_eq_true rfl) rfl dX10_findMet_91 ?_
          refine g_goto (tgt := 38) C dX10_findMet_94 (by decide) ?_
          refine g_sub (lv' := [some (.ref (E.2.1 + l0)), some (.int l1), some (.int l2)]) ⟨rfl, ⟨rfl, ⟨rfl, trivial⟩⟩⟩ ?_
          exact K38 hf
    · have hf := iteF hf hc
      refine g_iinc (v := (l2 + (-1))) (lv' := [some (.ref (E.2.1 + l0)), some (.int l1), some (.int (l2 + (-1)))]) C dX10_findMet_69 (by decide) rfl rfl rfl ?_
      refine g_goto (tgt := 38) C dX10_findMet_72 (by decide) ?_
      refine g_sub (lv' := [some (.ref (E.2.1 + l0)), some (.int l1), some (.int (l2 + (-1)))]) ⟨rfl, ⟨rfl, ⟨rfl, trivial⟩⟩⟩ ?_
      exact K38 hf
theorem l_Mo_findMet_b38 {E : EE} {X : CT} (C : gCx E X cX10_findMet "FavoursGoOffModel" none 4 97 0 0 false 3) {G' : Hp} (HR : gRet E X cX10_findMet none 0 0 none G') : ∀ (nn : Nat) {G : Hp} {l0 : Nat} {l1 : Int32} {l2 : Int32}, f_Mo_findMet_b38 nn G l0 l1 l2 = some G' → gV E X 0 0 G 38 [some (.ref (E.2.1 + l0)), some (.int l1), some (.int l2)] []
  | 0, _, _, _, _, hf => by have h0 : (none : Option Hp) = some G' := hf; cases h0
  | nn + 1, _, _, _, _, hf => l_Mo_findMet_b38k C HR (fun h => l_Mo_findMet_b38 C HR nn h) hf
set_option maxRecDepth 20000 in
theorem l_Mo_findMet {E : EE} {X : CT} {G : Hp} (C : gCx E X cX10_findMet "FavoursGoOffModel" none 4 97 0 0 false 3) {G' : Hp} (HR : gRet E X cX10_findMet none 0 0 none G') {l0 : Nat} (hf : f_Mo_findMet G l0 = some G') : gV E X 0 0 G 0 [some (.ref (E.2.1 + l0)), none, none] [] := by
  unfold f_Mo_findMet at hf
  refine g_aload_n C dX10_findMet_0 rfl ?_
  refine g_iconst (v := (-1 : Int32)) C dX10_findMet_1 (by decide) ?_
  obtain ⟨G1, hG1, hg, hf⟩ := pI_ok hf
  refine e_putI C fl_Mo_161 dX10_findMet_2 hG1 hg (Or.inl rfl) rfl rfl ?_
  refine g_aload_n C dX10_findMet_5 rfl ?_
  refine g_iconst (v := (0 : Int32)) C dX10_findMet_6 (by decide) ?_
  obtain ⟨G2, hG2, hg, hf⟩ := pI_ok hf
  refine e_putI C fl_Mo_164 dX10_findMet_7 hG2 hg (Or.inl rfl) rfl rfl ?_
  refine g_aload_n C dX10_findMet_10 rfl ?_
  obtain ⟨x3, hg, hf⟩ := gR_ok hf
  refine g_getR C fl_Mo_7 dX10_findMet_11 hg ?_
  refine g_sipush (v := (159 : Int32)) C dX10_findMet_14 (by decide) ?_
  obtain ⟨x4, hx4, hg, hf⟩ := aI_ok hf
  refine e_iald C dX10_findMet_17 hx4 hg ?_
  refine g_istore_n (lv' := [some (.ref (E.2.1 + l0)), some (.int x4), none]) C dX10_findMet_18 (by decide) rfl ?_
  refine g_iload_n C dX10_findMet_19 rfl ?_
  refine g_if_ne (tgt := 29) C dX10_findMet_20 (by decide) (fun hc => ?_) (fun hc => ?_)
  · have hf := iteF hf hc
    refine g_iconst (v := (0 : Int32)) C dX10_findMet_29 (by decide) ?_
    refine g_istore_n (lv' := [some (.ref (E.2.1 + l0)), some (.int x4), some (.int (0 : Int32))]) C dX10_findMet_30 (by decide) rfl ?_
    refine g_aload_n C dX10_findMet_31 rfl ?_
    obtain ⟨x5, hg, hf⟩ := gR_ok hf
    refine g_getR C fl_Mo_36 dX10_findMet_32 hg ?_
    refine g_iconst (v := (0 : Int32)) C dX10_findMet_35 (by decide) ?_
    refine g_iconst (v := (-1 : Int32)) C dX10_findMet_36 (by decide) ?_
    obtain ⟨G6, hG6, hg, hf⟩ := sI_ok hf
    refine e_iast C dX10_findMet_37 hG6 hg ?_
    refine g_sub (lv' := [some (.ref (E.2.1 + l0)), some (.int x4), some (.int (0 : Int32))]) ⟨rfl, ⟨rfl, ⟨rfl, trivial⟩⟩⟩ ?_
    exact l_Mo_findMet_b38 C HR  FU hf
  · have hf := iteT hf hc
    refine g_aload_n C dX10_findMet_23 rfl ?_
    refine g_iconst (v := (0 : Int32)) C dX10_findMet_24 (by decide) ?_
    obtain ⟨G7, hG7, hg, hf⟩ := pI_ok hf
    refine e_putI C fl_Mo_161 dX10_findMet_25 hG7 hg (Or.inl rfl) rfl rfl ?_
    obtain rfl := rP_ok hf
    exact g_vret HR dX10_findMet_28
theorem c_Mo_findMet (E : EE) {G : Hp} {l0 : Nat} {G' : Hp} (h : f_Mo_findMet G l0 = some G') : gCt E y_Mo_findMet cX10_findMet 3 none 4 97 0 0 [.ref (E.2.1 + l0)] G none G' := gCt_of (own := "FavoursGoOffModel") (ini := false) [some (.ref (E.2.1 + l0)), none, none] (by decide +kernel) rfl (fun h => by cases h) (Nat.le_of_ble_eq_true rfl) ⟨rfl, trivial⟩ (fun X C HR => l_Mo_findMet C HR h)
set_option maxRecDepth 20000 in
theorem l_Mo_met_b36 {E : EE} {X : CT} {G : Hp} (C : gCx E X cX10_met "FavoursGoOffModel" (some .int) 5 119 0 0 false 2) {r : Int32} {G' : Hp} (HR : gRet E X cX10_met (some .int) 0 0 (some (.int r)) G') {s0 : Int32} (hf : f_Mo_met_b36 G s0 = some (r, G')) : gV E X 0 0 G 36 [none, none] [.int s0] := by
  unfold f_Mo_met_b36 at hf
  obtain ⟨rfl, rfl⟩ := rH_ok hf
  exact g_iret HR dX10_met_36
set_option maxRecDepth 20000 in
theorem l_Mo_met {E : EE} {X : CT} {G : Hp} (C : gCx E X cX10_met "FavoursGoOffModel" (some .int) 5 119 0 0 false 2) {r : Int32} {G' : Hp} (HR : gRet E X cX10_met (some .int) 0 0 (some (.int r)) G') {l0 : Nat} {l1 : Int32} (hf : f_Mo_met G l0 l1 = some (r, G')) : gV E X 0 0 G 0 [some (.ref (E.2.1 + l0)), some (.int l1)] [] := by
  unfold f_Mo_met at hf
  refine g_iload_n C dX10_met_0 rfl ?_
  refine g_i2l C dX10_met_1 ?_
  refine g_lconst (v := (0 : Int64)) C dX10_met_2 (by decide) ?_
  refine g_lconst (v := (1 : Int64)) C dX10_met_3 (by decide) ?_
  obtain ⟨x1, h1, hf⟩ := cP_ok hf
  refine g_invS (As := [.long l1.toInt64, .long (0 : Int64), .long (1 : Int64)]) (st := []) C (c_Mo_in E h1) ml_Mo_68 cm_Mo_in.1 cm_Mo_in.2.1 cm_Mo_in.2.2.1 cm_Mo_in.2.2.2 rfl ⟨by omega, by omega, by omega, by omega⟩ (by exact Nat.le_of_ble_eq_true rfl) rfl dX10_met_4 ?_
  refine g_if_ne (tgt := 17) C dX10_met_7 (by decide) (fun hc => ?_) (fun hc => ?_)
  · have hf := iteF hf hc
    refine g_aload_n C dX10_met_17 rfl ?_
    obtain ⟨G2, hg, h1, hf⟩ := vP_ok hf
    refine g_invV (As := []) (st := []) C (c_Mo_findMet E h1) (rfl : vwCl[10]? = some (y_Mo_findMet.cls, TX10, 24)) (by decide) hg ml_Mo_173 cm_Mo_findMet.1 cm_Mo_findMet.2.1 cm_Mo_findMet.2.2.1 cm_Mo_findMet.2.2.2.1 cm_Mo_findMet.2.2.2.2 rfl ⟨by omega, by omega, by omega, by omega⟩ (by exact Nat.le_of_ble_eq_true rfl) rfl dX10_met_18 ?_
    refine g_iload_n C dX10_met_21 rfl ?_
    refine g_if_ne (tgt := 32) C dX10_met_22 (by decide) (fun hc => ?_) (fun hc => ?_)
    · have hf := iteF hf hc
      refine g_aload_n C dX10_met_32 rfl ?_
      obtain ⟨x3, hx3, hg, hf⟩ := gI_ok hf
      refine e_getI C fl_Mo_164 dX10_met_33 hx3 hg ?_
      refine g_sub (lv' := [none, none]) trivial ?_
      exact l_Mo_met_b36 C HR  hf
    · have hf := iteT hf hc
      refine g_aload_n C dX10_met_25 rfl ?_
      obtain ⟨x4, hx4, hg, hf⟩ := gI_ok hf
      refine e_getI C fl_Mo_161 dX10_met_26 hx4 hg ?_
      refine g_goto (tgt := 36) C dX10_met_29 (by decide) ?_
      refine g_sub (lv' := [none, none]) trivial ?_
      exact l_Mo_met_b36 C HR  hf
  · have hf := iteT hf hc
    refine g_aload_n C dX10_met_10 rfl ?_
    refine g_bipush (v := (-2 : Int32)) C dX10_met_11 (by decide) ?_
    obtain ⟨x5, G6, hg, h1, hf⟩ := vH_ok hf
    refine g_invV (As := [.int (-2 : Int32)]) (st := []) C (c_Mo_bad E h1) (rfl : vwCl[10]? = some (y_Mo_bad.cls, TX10, 24)) (by decide) hg ml_Mo_80 cm_Mo_bad.1 cm_Mo_bad.2.1 cm_Mo_bad.2.2.1 cm_Mo_bad.2.2.2.1 cm_Mo_bad.2.2.2.2 rfl ⟨by omega, by omega, by omega, by omega⟩ (by exact Nat.le_of_ble_eq_true rfl) rfl dX10_met_13 ?_
    obtain ⟨rfl, rfl⟩ := rH_ok hf
    exact g_iret HR dX10_met_16
theorem c_Mo_met (E : EE) {G : Hp} {l0 : Nat} {l1 : Int32} {r : Int32} {G' : Hp} (h : f_Mo_met G l0 l1 = some (r, G')) : gCt E y_Mo_met cX10_met 2 (some .int) 5 119 0 0 [.ref (E.2.1 + l0), .int l1] G (some (.int r)) G' := gCt_of (own := "FavoursGoOffModel") (ini := false) [some (.ref (E.2.1 + l0)), some (.int l1)] (by decide +kernel) rfl (fun h => by cases h) (Nat.le_of_ble_eq_true rfl) ⟨rfl, ⟨rfl, trivial⟩⟩ (fun X C HR => l_Mo_met C HR h)
set_option maxRecDepth 20000 in
theorem l_Mo_plan_b58 {E : EE} {X : CT} {G : Hp} (C : gCx E X cX10_plan "FavoursGoOffModel" (some .int) 5 119 0 0 false 2) {r : Int32} {G' : Hp} (HR : gRet E X cX10_plan (some .int) 0 0 (some (.int r)) G') {s0 : Int32} (hf : f_Mo_plan_b58 G s0 = some (r, G')) : gV E X 0 0 G 58 [none, none] [.int s0] := by
  unfold f_Mo_plan_b58 at hf
  obtain ⟨rfl, rfl⟩ := rH_ok hf
  exact g_iret HR dX10_plan_58
set_option maxRecDepth 20000 in
theorem l_Mo_plan {E : EE} {X : CT} {G : Hp} (C : gCx E X cX10_plan "FavoursGoOffModel" (some .int) 5 119 0 0 false 2) {r : Int32} {G' : Hp} (HR : gRet E X cX10_plan (some .int) 0 0 (some (.int r)) G') {l0 : Nat} {l1 : Int32} (hf : f_Mo_plan G l0 l1 = some (r, G')) : gV E X 0 0 G 0 [some (.ref (E.2.1 + l0)), some (.int l1)] [] := by
  unfold f_Mo_plan at hf
  refine g_iload_n C dX10_plan_0 rfl ?_
  refine g_i2l C dX10_plan_1 ?_
  refine g_lconst (v := (0 : Int64)) C dX10_plan_2 (by decide) ?_
  refine g_aload_n C dX10_plan_3 rfl ?_
  obtain ⟨x1, hg, hf⟩ := gR_ok hf
  refine g_getR C fl_Mo_7 dX10_plan_4 hg ?_
  refine g_sipush (v := (159 : Int32)) C dX10_plan_7 (by decide) ?_
  obtain ⟨x2, hx2, hg, hf⟩ := aI_ok hf
  refine e_iald C dX10_plan_10 hx2 hg ?_
  refine g_iconst (v := (1 : Int32)) C dX10_plan_11 (by decide) ?_
  refine g_isub C dX10_plan_12 ?_
  refine g_i2l C dX10_plan_13 ?_
  obtain ⟨x3, h1, hf⟩ := cP_ok hf
  refine g_invS (As := [.long l1.toInt64, .long (0 : Int64), .long ((x2 - (1 : Int32)).toInt64)]) (st := []) C (c_Mo_in E h1) ml_Mo_68 cm_Mo_in.1 cm_Mo_in.2.1 cm_Mo_in.2.2.1 cm_Mo_in.2.2.2 rfl ⟨by omega, by omega, by omega, by omega⟩ (by exact Nat.le_of_ble_eq_true rfl) rfl dX10_plan_14 ?_
  refine g_if_ne (tgt := 27) C dX10_plan_17 (by decide) (fun hc => ?_) (fun hc => ?_)
  · have hf := iteF hf hc
    refine g_aload_n C dX10_plan_27 rfl ?_
    obtain ⟨G4, hg, h1, hf⟩ := vP_ok hf
    refine g_invV (As := []) (st := []) C (c_Mo_findMet E h1) (rfl : vwCl[10]? = some (y_Mo_findMet.cls, TX10, 24)) (by decide) hg ml_Mo_173 cm_Mo_findMet.1 cm_Mo_findMet.2.1 cm_Mo_findMet.2.2.1 cm_Mo_findMet.2.2.2.1 cm_Mo_findMet.2.2.2.2 rfl ⟨by omega, by omega, by omega, by omega⟩ (by exact Nat.le_of_ble_eq_true rfl) rfl dX10_plan_28 ?_
    refine g_aload_n C dX10_plan_31 rfl ?_
    obtain ⟨x5, hg, hf⟩ := gR_ok hf
    refine g_getR C fl_Mo_39 dX10_plan_32 hg ?_
    refine g_iload_n C dX10_plan_35 rfl ?_
    obtain ⟨x6, hx6, hg, hf⟩ := aI_ok hf
    refine e_iald C dX10_plan_36 hx6 hg ?_
    refine g_aload_n C dX10_plan_37 rfl ?_
    obtain ⟨x7, hg, hf⟩ := gR_ok hf
    refine g_getR C fl_Mo_7 dX10_plan_38 hg ?_
    refine g_sipush (v := (158 : Int32)) C dX10_plan_41 (by decide) ?_
    obtain ⟨x8, hx8, hg, hf⟩ := aI_ok hf
    refine e_iald C dX10_plan_44 hx8 hg ?_
    refine g_icmp_ne (tgt := 52) C dX10_plan_45 (by decide) (fun hc => ?_) (fun hc => ?_)
    · have hf := iteF hf hc
      refine g_aload_n C dX10_plan_52 rfl ?_
      obtain ⟨x9, hg, hf⟩ := gR_ok hf
      refine g_getR C fl_Mo_39 dX10_plan_53 hg ?_
      refine g_iload_n C dX10_plan_56 rfl ?_
      obtain ⟨x10, hx10, hg, hf⟩ := aI_ok hf
      refine e_iald C dX10_plan_57 hx10 hg ?_
      refine g_sub (lv' := [none, none]) trivial ?_
      exact l_Mo_plan_b58 C HR  hf
    · have hf := iteT hf hc
      refine g_iconst (v := (-1 : Int32)) C dX10_plan_48 (by decide) ?_
      refine g_goto (tgt := 58) C dX10_plan_49 (by decide) ?_
      refine g_sub (lv' := [none, none]) trivial ?_
      exact l_Mo_plan_b58 C HR  hf
  · have hf := iteT hf hc
    refine g_aload_n C dX10_plan_20 rfl ?_
    refine g_bipush (v := (-2 : Int32)) C dX10_plan_21 (by decide) ?_
    obtain ⟨x11, G12, hg, h1, hf⟩ := vH_ok hf
    refine g_invV (As := [.int (-2 : Int32)]) (st := []) C (c_Mo_bad E h1) (rfl : vwCl[10]? = some (y_Mo_bad.cls, TX10, 24)) (by decide) hg ml_Mo_80 cm_Mo_bad.1 cm_Mo_bad.2.1 cm_Mo_bad.2.2.1 cm_Mo_bad.2.2.2.1 cm_Mo_bad.2.2.2.2 rfl ⟨by omega, by omega, by omega, by omega⟩ (by exact Nat.le_of_ble_eq_true rfl) rfl dX10_plan_23 ?_
    obtain ⟨rfl, rfl⟩ := rH_ok hf
    exact g_iret HR dX10_plan_26
theorem c_Mo_plan (E : EE) {G : Hp} {l0 : Nat} {l1 : Int32} {r : Int32} {G' : Hp} (h : f_Mo_plan G l0 l1 = some (r, G')) : gCt E y_Mo_plan cX10_plan 2 (some .int) 5 119 0 0 [.ref (E.2.1 + l0), .int l1] G (some (.int r)) G' := gCt_of (own := "FavoursGoOffModel") (ini := false) [some (.ref (E.2.1 + l0)), some (.int l1)] (by decide +kernel) rfl (fun h => by cases h) (Nat.le_of_ble_eq_true rfl) ⟨rfl, ⟨rfl, trivial⟩⟩ (fun X C HR => l_Mo_plan C HR h)
set_option maxRecDepth 20000 in
theorem l_Mo_toDo_b41 {E : EE} {X : CT} {G : Hp} (C : gCx E X cX10_toDo "FavoursGoOffModel" (some .int) 2 48 0 0 false 5) {r : Int32} (HR : gRet E X cX10_toDo (some .int) 0 0 (some (.int r)) G) {k5 : Nat → Int32 → Int32 → Int32 → Int32 → Option Int32} (K5 : ∀ {l0 : Nat} {l1 : Int32} {l2 : Int32} {l3 : Int32} {l4 : Int32}, k5 l0 l1 l2 l3 l4 = some r → gV E X 0 0 G 5 [some (.ref (E.2.1 + l0)), some (.int l1), some (.int l2), some (.int l3), some (.int l4)] []) {l0 : Nat} {l1 : Int32} {l2 : Int32} {l4 : Int32} {s0 : Int32} {s1 : Int32} (hf : f_Mo_toDo_b41 G k5 l0 l1 l2 l4 s0 s1 = some r) : gV E X 0 0 G 41 [some (.ref (E.2.1 + l0)), some (.int l1), some (.int l2), none, some (.int l4)] [.int s1, .int s0] := by
  unfold f_Mo_toDo_b41 at hf
  refine g_iadd C dX10_toDo_41 ?_
  obtain ⟨x1, hx1, hf⟩ := lt_ok hf
  refine e_top hx1 ?_
  refine g_istore_n (lv' := [some (.ref (E.2.1 + l0)), some (.int l1), some (.int l2), some (.int x1), some (.int l4)]) C dX10_toDo_42 (by decide) rfl ?_
  refine g_iinc (v := (l4 + 1)) (lv' := [some (.ref (E.2.1 + l0)), some (.int l1), some (.int l2), some (.int x1), some (.int (l4 + 1))]) C dX10_toDo_43 (by decide) rfl rfl rfl ?_
  refine g_goto (tgt := 5) C dX10_toDo_46 (by decide) ?_
  refine g_sub (lv' := [some (.ref (E.2.1 + l0)), some (.int l1), some (.int l2), some (.int x1), some (.int (l4 + 1))]) ⟨rfl, ⟨rfl, ⟨rfl, ⟨rfl, ⟨rfl, trivial⟩⟩⟩⟩⟩ ?_
  exact K5 hf
set_option maxRecDepth 20000 in
theorem l_Mo_toDo_b5k {E : EE} {X : CT} {G : Hp} (C : gCx E X cX10_toDo "FavoursGoOffModel" (some .int) 2 48 0 0 false 5) {r : Int32} (HR : gRet E X cX10_toDo (some .int) 0 0 (some (.int r)) G) {k5 : Nat → Int32 → Int32 → Int32 → Int32 → Option Int32} (K5 : ∀ {l0 : Nat} {l1 : Int32} {l2 : Int32} {l3 : Int32} {l4 : Int32}, k5 l0 l1 l2 l3 l4 = some r → gV E X 0 0 G 5 [some (.ref (E.2.1 + l0)), some (.int l1), some (.int l2), some (.int l3), some (.int l4)] []) {l0 : Nat} {l1 : Int32} {l2 : Int32} {l3 : Int32} {l4 : Int32} (hf : f_Mo_toDo_b5_k G k5 l0 l1 l2 l3 l4 = some r) : gV E X 0 0 G 5 [some (.ref (E.2.1 + l0)), some (.int l1), some (.int l2), some (.int l3), some (.int l4)] [] := by
  unfold f_Mo_toDo_b5_k at hf
  refine g_iload C dX10_toDo_5 rfl ?_
  refine g_aload_n C dX10_toDo_7 rfl ?_
  obtain ⟨x1, hg, hf⟩ := gR_ok hf
  refine g_getR C fl_Mo_7 dX10_toDo_8 hg ?_
  refine g_sipush (v := (158 : Int32)) C dX10_toDo_11 (by decide) ?_
  obtain ⟨x2, hx2, hg, hf⟩ := aI_ok hf
  refine e_iald C dX10_toDo_14 hx2 hg ?_
  refine g_icmp_ge (tgt := 49) C dX10_toDo_15 (by decide) (fun hc => ?_) (fun hc => ?_)
  · have hf := iteT hf hc
    refine g_iload_n C dX10_toDo_49 rfl ?_
    obtain rfl := rP_ok hf
    exact g_iret HR dX10_toDo_50
  · have hf := iteF hf hc
    refine g_iload_n C dX10_toDo_18 rfl ?_
    refine g_aload_n C dX10_toDo_19 rfl ?_
    refine g_iload C dX10_toDo_20 rfl ?_
    refine g_iconst (v := (1 : Int32)) C dX10_toDo_22 (by decide) ?_
    obtain ⟨x3, hg, h1, hf⟩ := vP_ok hf
    refine g_invV (As := [.int l4, .int (1 : Int32)]) (st := [.int l3]) C (c_Mo_told0 E h1) (rfl : vwCl[10]? = some (y_Mo_told0.cls, TX10, 24)) (by decide) hg ml_Mo_112 cm_Mo_told0.1 cm_Mo_told0.2.1 cm_Mo_told0.2.2.1 cm_Mo_told0.2.2.2.1 cm_Mo_told0.2.2.2.2 rfl ⟨by omega, by omega, by omega, by omega⟩ (by exact Nat.le_of_ble_eq_true rfl) rfl dX10_toDo_23 ?_
    refine g_iload_n C dX10_toDo_26 rfl ?_
    refine g_icmp_ne (tgt := 40) C dX10_toDo_27 (by decide) (fun hc => ?_) (fun hc => ?_)
    · have hf := iteF hf hc
      refine g_iconst (v := (0 : Int32)) C dX10_toDo_40 (by decide) ?_
      refine g_sub (lv' := [some (.ref (E.2.1 + l0)), some (.int l1), some (.int l2), none, some (.int l4)]) ⟨rfl, ⟨rfl, ⟨rfl, ⟨rfl, trivial⟩⟩⟩⟩ ?_
      exact l_Mo_toDo_b41 C HR K5 hf
    · have hf := iteT hf hc
      refine g_aload_n C dX10_toDo_30 rfl ?_
      refine g_iload C dX10_toDo_31 rfl ?_
      refine g_iload_n C dX10_toDo_33 rfl ?_
      obtain ⟨x4, hg, h1, hf⟩ := vP_ok hf
      refine g_invV (As := [.int l4, .int l2]) (st := [.int l3]) C (c_Mo_valueOf E h1) (rfl : vwCl[10]? = some (y_Mo_valueOf.cls, TX10, 24)) (by decide) hg ml_Mo_119 cm_Mo_valueOf.1 cm_Mo_valueOf.2.1 cm_Mo_valueOf.2.2.1 cm_Mo_valueOf.2.2.2.1 cm_Mo_valueOf.2.2.2.2 rfl ⟨by omega, by omega, by omega, by omega⟩ (by exact Nat.le_of_ble_eq_true rfl) rfl dX10_toDo_34 ?_
      refine g_goto (tgt := 41) C dX10_toDo_37 (by decide) ?_
      refine g_sub (lv' := [some (.ref (E.2.1 + l0)), some (.int l1), some (.int l2), none, some (.int l4)]) ⟨rfl, ⟨rfl, ⟨rfl, ⟨rfl, trivial⟩⟩⟩⟩ ?_
      exact l_Mo_toDo_b41 C HR K5 hf
theorem l_Mo_toDo_b5 {E : EE} {X : CT} {G : Hp} (C : gCx E X cX10_toDo "FavoursGoOffModel" (some .int) 2 48 0 0 false 5) {r : Int32} (HR : gRet E X cX10_toDo (some .int) 0 0 (some (.int r)) G) : ∀ (nn : Nat) {l0 : Nat} {l1 : Int32} {l2 : Int32} {l3 : Int32} {l4 : Int32}, f_Mo_toDo_b5 G nn l0 l1 l2 l3 l4 = some r → gV E X 0 0 G 5 [some (.ref (E.2.1 + l0)), some (.int l1), some (.int l2), some (.int l3), some (.int l4)] []
  | 0, _, _, _, _, _, hf => by have h0 : (none : Option Int32) = some r := hf; cases h0
  | nn + 1, _, _, _, _, _, hf => l_Mo_toDo_b5k C HR (fun h => l_Mo_toDo_b5 C HR nn h) hf
set_option maxRecDepth 20000 in
theorem l_Mo_toDo {E : EE} {X : CT} {G : Hp} (C : gCx E X cX10_toDo "FavoursGoOffModel" (some .int) 2 48 0 0 false 5) {r : Int32} (HR : gRet E X cX10_toDo (some .int) 0 0 (some (.int r)) G) {l0 : Nat} {l1 : Int32} {l2 : Int32} (hf : f_Mo_toDo G l0 l1 l2 = some r) : gV E X 0 0 G 0 [some (.ref (E.2.1 + l0)), some (.int l1), some (.int l2), none, none] [] := by
  unfold f_Mo_toDo at hf
  refine g_iconst (v := (0 : Int32)) C dX10_toDo_0 (by decide) ?_
  refine g_istore_n (lv' := [some (.ref (E.2.1 + l0)), some (.int l1), some (.int l2), some (.int (0 : Int32)), none]) C dX10_toDo_1 (by decide) rfl ?_
  refine g_iconst (v := (0 : Int32)) C dX10_toDo_2 (by decide) ?_
  refine g_istore (lv' := [some (.ref (E.2.1 + l0)), some (.int l1), some (.int l2), some (.int (0 : Int32)), some (.int (0 : Int32))]) C dX10_toDo_3 (by decide) rfl ?_
  refine g_sub (lv' := [some (.ref (E.2.1 + l0)), some (.int l1), some (.int l2), some (.int (0 : Int32)), some (.int (0 : Int32))]) ⟨rfl, ⟨rfl, ⟨rfl, ⟨rfl, ⟨rfl, trivial⟩⟩⟩⟩⟩ ?_
  exact l_Mo_toDo_b5 C HR  FU hf
theorem c_Mo_toDo (E : EE) {G : Hp} {l0 : Nat} {l1 : Int32} {l2 : Int32} {r : Int32} (h : f_Mo_toDo G l0 l1 l2 = some r) : gCt E y_Mo_toDo cX10_toDo 5 (some .int) 2 48 0 0 [.ref (E.2.1 + l0), .int l1, .int l2] G (some (.int r)) G := gCt_of (own := "FavoursGoOffModel") (ini := false) [some (.ref (E.2.1 + l0)), some (.int l1), some (.int l2), none, none] (by decide +kernel) rfl (fun h => by cases h) (Nat.le_of_ble_eq_true rfl) ⟨rfl, ⟨rfl, ⟨rfl, trivial⟩⟩⟩ (fun X C HR => l_Mo_toDo C HR h)
set_option maxRecDepth 20000 in
theorem l_Mo_doneFor_b57 {E : EE} {X : CT} {G : Hp} (C : gCx E X cX10_doneFor "FavoursGoOffModel" (some .int) 2 48 0 0 false 6) {r : Int32} (HR : gRet E X cX10_doneFor (some .int) 0 0 (some (.int r)) G) {k6 : Nat → Int32 → Int32 → Int32 → Int32 → Int32 → Option Int32} (K6 : ∀ {l0 : Nat} {l1 : Int32} {l2 : Int32} {l3 : Int32} {l4 : Int32} {l5 : Int32}, k6 l0 l1 l2 l3 l4 l5 = some r → gV E X 0 0 G 6 [some (.ref (E.2.1 + l0)), some (.int l1), some (.int l2), some (.int l3), some (.int l4), some (.int l5)] []) {l0 : Nat} {l1 : Int32} {l2 : Int32} {l3 : Int32} {l5 : Int32} {s0 : Int32} {s1 : Int32} (hf : f_Mo_doneFor_b57 G k6 l0 l1 l2 l3 l5 s0 s1 = some r) : gV E X 0 0 G 57 [some (.ref (E.2.1 + l0)), some (.int l1), some (.int l2), some (.int l3), none, some (.int l5)] [.int s1, .int s0] := by
  unfold f_Mo_doneFor_b57 at hf
  refine g_iadd C dX10_doneFor_57 ?_
  obtain ⟨x1, hx1, hf⟩ := lt_ok hf
  refine e_top hx1 ?_
  refine g_istore (lv' := [some (.ref (E.2.1 + l0)), some (.int l1), some (.int l2), some (.int l3), some (.int x1), some (.int l5)]) C dX10_doneFor_58 (by decide) rfl ?_
  refine g_iinc (v := (l5 + 1)) (lv' := [some (.ref (E.2.1 + l0)), some (.int l1), some (.int l2), some (.int l3), some (.int x1), some (.int (l5 + 1))]) C dX10_doneFor_60 (by decide) rfl rfl rfl ?_
  refine g_goto (tgt := 6) C dX10_doneFor_63 (by decide) ?_
  refine g_sub (lv' := [some (.ref (E.2.1 + l0)), some (.int l1), some (.int l2), some (.int l3), some (.int x1), some (.int (l5 + 1))]) ⟨rfl, ⟨rfl, ⟨rfl, ⟨rfl, ⟨rfl, ⟨rfl, trivial⟩⟩⟩⟩⟩⟩ ?_
  exact K6 hf
set_option maxRecDepth 20000 in
theorem l_Mo_doneFor_b56 {E : EE} {X : CT} {G : Hp} (C : gCx E X cX10_doneFor "FavoursGoOffModel" (some .int) 2 48 0 0 false 6) {r : Int32} (HR : gRet E X cX10_doneFor (some .int) 0 0 (some (.int r)) G) {k6 : Nat → Int32 → Int32 → Int32 → Int32 → Int32 → Option Int32} (K6 : ∀ {l0 : Nat} {l1 : Int32} {l2 : Int32} {l3 : Int32} {l4 : Int32} {l5 : Int32}, k6 l0 l1 l2 l3 l4 l5 = some r → gV E X 0 0 G 6 [some (.ref (E.2.1 + l0)), some (.int l1), some (.int l2), some (.int l3), some (.int l4), some (.int l5)] []) {l0 : Nat} {l1 : Int32} {l2 : Int32} {l3 : Int32} {l5 : Int32} {s0 : Int32} (hf : f_Mo_doneFor_b56 G k6 l0 l1 l2 l3 l5 s0 = some r) : gV E X 0 0 G 56 [some (.ref (E.2.1 + l0)), some (.int l1), some (.int l2), some (.int l3), none, some (.int l5)] [.int s0] := by
  unfold f_Mo_doneFor_b56 at hf
  refine g_iconst (v := (0 : Int32)) C dX10_doneFor_56 (by decide) ?_
  refine g_sub (lv' := [some (.ref (E.2.1 + l0)), some (.int l1), some (.int l2), some (.int l3), none, some (.int l5)]) ⟨rfl, ⟨rfl, ⟨rfl, ⟨rfl, ⟨rfl, trivial⟩⟩⟩⟩⟩ ?_
  exact l_Mo_doneFor_b57 C HR K6 hf
set_option maxRecDepth 20000 in
theorem l_Mo_doneFor_b6k {E : EE} {X : CT} {G : Hp} (C : gCx E X cX10_doneFor "FavoursGoOffModel" (some .int) 2 48 0 0 false 6) {r : Int32} (HR : gRet E X cX10_doneFor (some .int) 0 0 (some (.int r)) G) {k6 : Nat → Int32 → Int32 → Int32 → Int32 → Int32 → Option Int32} (K6 : ∀ {l0 : Nat} {l1 : Int32} {l2 : Int32} {l3 : Int32} {l4 : Int32} {l5 : Int32}, k6 l0 l1 l2 l3 l4 l5 = some r → gV E X 0 0 G 6 [some (.ref (E.2.1 + l0)), some (.int l1), some (.int l2), some (.int l3), some (.int l4), some (.int l5)] []) {l0 : Nat} {l1 : Int32} {l2 : Int32} {l3 : Int32} {l4 : Int32} {l5 : Int32} (hf : f_Mo_doneFor_b6_k G k6 l0 l1 l2 l3 l4 l5 = some r) : gV E X 0 0 G 6 [some (.ref (E.2.1 + l0)), some (.int l1), some (.int l2), some (.int l3), some (.int l4), some (.int l5)] [] := by
  unfold f_Mo_doneFor_b6_k at hf
  refine g_iload C dX10_doneFor_6 rfl ?_
  refine g_aload_n C dX10_doneFor_8 rfl ?_
  obtain ⟨x1, hg, hf⟩ := gR_ok hf
  refine g_getR C fl_Mo_7 dX10_doneFor_9 hg ?_
  refine g_sipush (v := (158 : Int32)) C dX10_doneFor_12 (by decide) ?_
  obtain ⟨x2, hx2, hg, hf⟩ := aI_ok hf
  refine e_iald C dX10_doneFor_15 hx2 hg ?_
  refine g_icmp_ge (tgt := 66) C dX10_doneFor_16 (by decide) (fun hc => ?_) (fun hc => ?_)
  · have hf := iteT hf hc
    refine g_iload C dX10_doneFor_66 rfl ?_
    obtain rfl := rP_ok hf
    exact g_iret HR dX10_doneFor_68
  · have hf := iteF hf hc
    refine g_iload C dX10_doneFor_19 rfl ?_
    refine g_aload_n C dX10_doneFor_21 rfl ?_
    refine g_iload C dX10_doneFor_22 rfl ?_
    refine g_iconst (v := (2 : Int32)) C dX10_doneFor_24 (by decide) ?_
    obtain ⟨x3, hg, h1, hf⟩ := vP_ok hf
    refine g_invV (As := [.int l5, .int (2 : Int32)]) (st := [.int l4]) C (c_Mo_told0 E h1) (rfl : vwCl[10]? = some (y_Mo_told0.cls, TX10, 24)) (by decide) hg ml_Mo_112 cm_Mo_told0.1 cm_Mo_told0.2.1 cm_Mo_told0.2.2.1 cm_Mo_told0.2.2.2.1 cm_Mo_told0.2.2.2.2 rfl ⟨by omega, by omega, by omega, by omega⟩ (by exact Nat.le_of_ble_eq_true rfl) rfl dX10_doneFor_25 ?_
    refine g_iload_n C dX10_doneFor_28 rfl ?_
    refine g_icmp_ne (tgt := 56) C dX10_doneFor_29 (by decide) (fun hc => ?_) (fun hc => ?_)
    · have hf := iteF hf hc
      refine g_sub (lv' := [some (.ref (E.2.1 + l0)), some (.int l1), some (.int l2), some (.int l3), none, some (.int l5)]) ⟨rfl, ⟨rfl, ⟨rfl, ⟨rfl, ⟨rfl, trivial⟩⟩⟩⟩⟩ ?_
      exact l_Mo_doneFor_b56 C HR K6 hf
    · have hf := iteT hf hc
      refine g_iload_n C dX10_doneFor_32 rfl ?_
      refine g_aload_n C dX10_doneFor_33 rfl ?_
      refine g_iload C dX10_doneFor_34 rfl ?_
      refine g_iconst (v := (1 : Int32)) C dX10_doneFor_36 (by decide) ?_
      obtain ⟨x4, hg, h1, hf⟩ := vP_ok hf
      refine g_invV (As := [.int l5, .int (1 : Int32)]) (st := [.int l3, .int l4]) C (c_Mo_told0 E h1) (rfl : vwCl[10]? = some (y_Mo_told0.cls, TX10, 24)) (by decide) hg ml_Mo_112 cm_Mo_told0.1 cm_Mo_told0.2.1 cm_Mo_told0.2.2.1 cm_Mo_told0.2.2.2.1 cm_Mo_told0.2.2.2.2 rfl ⟨by omega, by omega, by omega, by omega⟩ (by exact Nat.le_of_ble_eq_true rfl) rfl dX10_doneFor_37 ?_
      refine g_ishr C dX10_doneFor_40 ?_
      refine g_iconst (v := (1 : Int32)) C dX10_doneFor_41 (by decide) ?_
      refine g_iand C dX10_doneFor_42 ?_
      refine g_if_ne (tgt := 56) C dX10_doneFor_43 (by decide) (fun hc => ?_) (fun hc => ?_)
      · have hf := iteF hf hc
        refine g_sub (lv' := [some (.ref (E.2.1 + l0)), some (.int l1), some (.int l2), some (.int l3), none, some (.int l5)]) ⟨rfl, ⟨rfl, ⟨rfl, ⟨rfl, ⟨rfl, trivial⟩⟩⟩⟩⟩ ?_
        exact l_Mo_doneFor_b56 C HR K6 hf
      · have hf := iteT hf hc
        refine g_aload_n C dX10_doneFor_46 rfl ?_
        refine g_iload C dX10_doneFor_47 rfl ?_
        refine g_iload_n C dX10_doneFor_49 rfl ?_
        obtain ⟨x5, hg, h1, hf⟩ := vP_ok hf
        refine g_invV (As := [.int l5, .int l2]) (st := [.int l4]) C (c_Mo_valueOf E h1) (rfl : vwCl[10]? = some (y_Mo_valueOf.cls, TX10, 24)) (by decide) hg ml_Mo_119 cm_Mo_valueOf.1 cm_Mo_valueOf.2.1 cm_Mo_valueOf.2.2.1 cm_Mo_valueOf.2.2.2.1 cm_Mo_valueOf.2.2.2.2 rfl ⟨by omega, by omega, by omega, by omega⟩ (by exact Nat.le_of_ble_eq_true rfl) rfl dX10_doneFor_50 ?_
        refine g_goto (tgt := 57) C dX10_doneFor_53 (by decide) ?_
        refine g_sub (lv' := [some (.ref (E.2.1 + l0)), some (.int l1), some (.int l2), some (.int l3), none, some (.int l5)]) ⟨rfl, ⟨rfl, ⟨rfl, ⟨rfl, ⟨rfl, trivial⟩⟩⟩⟩⟩ ?_
        exact l_Mo_doneFor_b57 C HR K6 hf
theorem l_Mo_doneFor_b6 {E : EE} {X : CT} {G : Hp} (C : gCx E X cX10_doneFor "FavoursGoOffModel" (some .int) 2 48 0 0 false 6) {r : Int32} (HR : gRet E X cX10_doneFor (some .int) 0 0 (some (.int r)) G) : ∀ (nn : Nat) {l0 : Nat} {l1 : Int32} {l2 : Int32} {l3 : Int32} {l4 : Int32} {l5 : Int32}, f_Mo_doneFor_b6 G nn l0 l1 l2 l3 l4 l5 = some r → gV E X 0 0 G 6 [some (.ref (E.2.1 + l0)), some (.int l1), some (.int l2), some (.int l3), some (.int l4), some (.int l5)] []
  | 0, _, _, _, _, _, _, hf => by have h0 : (none : Option Int32) = some r := hf; cases h0
  | nn + 1, _, _, _, _, _, _, hf => l_Mo_doneFor_b6k C HR (fun h => l_Mo_doneFor_b6 C HR nn h) hf
set_option maxRecDepth 20000 in
theorem l_Mo_doneFor {E : EE} {X : CT} {G : Hp} (C : gCx E X cX10_doneFor "FavoursGoOffModel" (some .int) 2 48 0 0 false 6) {r : Int32} (HR : gRet E X cX10_doneFor (some .int) 0 0 (some (.int r)) G) {l0 : Nat} {l1 : Int32} {l2 : Int32} {l3 : Int32} (hf : f_Mo_doneFor G l0 l1 l2 l3 = some r) : gV E X 0 0 G 0 [some (.ref (E.2.1 + l0)), some (.int l1), some (.int l2), some (.int l3), none, none] [] := by
  unfold f_Mo_doneFor at hf
  refine g_iconst (v := (0 : Int32)) C dX10_doneFor_0 (by decide) ?_
  refine g_istore (lv' := [some (.ref (E.2.1 + l0)), some (.int l1), some (.int l2), some (.int l3), some (.int (0 : Int32)), none]) C dX10_doneFor_1 (by decide) rfl ?_
  refine g_iconst (v := (0 : Int32)) C dX10_doneFor_3 (by decide) ?_
  refine g_istore (lv' := [some (.ref (E.2.1 + l0)), some (.int l1), some (.int l2), some (.int l3), some (.int (0 : Int32)), some (.int (0 : Int32))]) C dX10_doneFor_4 (by decide) rfl ?_
  refine g_sub (lv' := [some (.ref (E.2.1 + l0)), some (.int l1), some (.int l2), some (.int l3), some (.int (0 : Int32)), some (.int (0 : Int32))]) ⟨rfl, ⟨rfl, ⟨rfl, ⟨rfl, ⟨rfl, ⟨rfl, trivial⟩⟩⟩⟩⟩⟩ ?_
  exact l_Mo_doneFor_b6 C HR  FU hf
theorem c_Mo_doneFor (E : EE) {G : Hp} {l0 : Nat} {l1 : Int32} {l2 : Int32} {l3 : Int32} {r : Int32} (h : f_Mo_doneFor G l0 l1 l2 l3 = some r) : gCt E y_Mo_doneFor cX10_doneFor 6 (some .int) 2 48 0 0 [.ref (E.2.1 + l0), .int l1, .int l2, .int l3] G (some (.int r)) G := gCt_of (own := "FavoursGoOffModel") (ini := false) [some (.ref (E.2.1 + l0)), some (.int l1), some (.int l2), some (.int l3), none, none] (by decide +kernel) rfl (fun h => by cases h) (Nat.le_of_ble_eq_true rfl) ⟨rfl, ⟨rfl, ⟨rfl, ⟨rfl, trivial⟩⟩⟩⟩ (fun X C HR => l_Mo_doneFor C HR h)
set_option maxRecDepth 20000 in
theorem l_Mo_fire_b17 {E : EE} {X : CT} {G : Hp} (C : gCx E X cX10_fire "FavoursGoOffModel" (some .int) 3 73 0 0 false 8) {r : Int32} {G' : Hp} (HR : gRet E X cX10_fire (some .int) 0 0 (some (.int r)) G') {l0 : Nat} (hf : f_Mo_fire_b17 G l0 = some (r, G')) : gV E X 0 0 G 17 [some (.ref (E.2.1 + l0)), none, none, none, none, none, none, none] [] := by
  unfold f_Mo_fire_b17 at hf
  refine g_aload_n C dX10_fire_17 rfl ?_
  refine g_bipush (v := (-2 : Int32)) C dX10_fire_18 (by decide) ?_
  obtain ⟨x1, G2, hg, h1, hf⟩ := vH_ok hf
  refine g_invV (As := [.int (-2 : Int32)]) (st := []) C (c_Mo_bad E h1) (rfl : vwCl[10]? = some (y_Mo_bad.cls, TX10, 24)) (by decide) hg ml_Mo_80 cm_Mo_bad.1 cm_Mo_bad.2.1 cm_Mo_bad.2.2.1 cm_Mo_bad.2.2.2.1 cm_Mo_bad.2.2.2.2 rfl ⟨by omega, by omega, by omega, by omega⟩ (by exact Nat.le_of_ble_eq_true rfl) rfl dX10_fire_20 ?_
  obtain ⟨rfl, rfl⟩ := rH_ok hf
  exact g_iret HR dX10_fire_23
set_option maxRecDepth 20000 in
theorem l_Mo_fire_b90 {E : EE} {X : CT} {G : Hp} (C : gCx E X cX10_fire "FavoursGoOffModel" (some .int) 3 73 0 0 false 8) {r : Int32} {G' : Hp} (HR : gRet E X cX10_fire (some .int) 0 0 (some (.int r)) G') {k32 : Hp → Nat → Int32 → Int32 → Int32 → Int32 → Int32 → Option (Int32 × Hp)} (K32 : ∀ {G : Hp} {l0 : Nat} {l1 : Int32} {l2 : Int32} {l3 : Int32} {l4 : Int32} {l5 : Int32}, k32 G l0 l1 l2 l3 l4 l5 = some (r, G') → gV E X 0 0 G 32 [some (.ref (E.2.1 + l0)), some (.int l1), some (.int l2), some (.int l3), some (.int l4), some (.int l5), none, none] []) {k43 : Hp → Nat → Int32 → Int32 → Int32 → Int32 → Int32 → Int32 → Option (Int32 × Hp)} (K43 : ∀ {G : Hp} {l0 : Nat} {l1 : Int32} {l2 : Int32} {l3 : Int32} {l4 : Int32} {l6 : Int32} {l7 : Int32}, k43 G l0 l1 l2 l3 l4 l6 l7 = some (r, G') → gV E X 0 0 G 43 [some (.ref (E.2.1 + l0)), some (.int l1), some (.int l2), some (.int l3), some (.int l4), none, some (.int l6), some (.int l7)] []) {l0 : Nat} {l1 : Int32} {l2 : Int32} {l3 : Int32} {l4 : Int32} {l7 : Int32} {s0 : Int32} {s1 : Int32} (hf : f_Mo_fire_b90 k32 k43 G l0 l1 l2 l3 l4 l7 s0 s1 = some (r, G')) : gV E X 0 0 G 90 [some (.ref (E.2.1 + l0)), some (.int l1), some (.int l2), some (.int l3), some (.int l4), none, none, some (.int l7)] [.int s1, .int s0] := by
  unfold f_Mo_fire_b90 at hf
  refine g_ior C dX10_fire_90 ?_
  obtain ⟨x1, hx1, hf⟩ := lt_ok hf
  refine e_top hx1 ?_
  refine g_istore (lv' := [some (.ref (E.2.1 + l0)), some (.int l1), some (.int l2), some (.int l3), some (.int l4), none, some (.int x1), some (.int l7)]) C dX10_fire_91 (by decide) rfl ?_
  refine g_iinc (v := (l7 + 1)) (lv' := [some (.ref (E.2.1 + l0)), some (.int l1), some (.int l2), some (.int l3), some (.int l4), none, some (.int x1), some (.int (l7 + 1))]) C dX10_fire_93 (by decide) rfl rfl rfl ?_
  refine g_goto (tgt := 43) C dX10_fire_96 (by decide) ?_
  refine g_sub (lv' := [some (.ref (E.2.1 + l0)), some (.int l1), some (.int l2), some (.int l3), some (.int l4), none, some (.int x1), some (.int (l7 + 1))]) ⟨rfl, ⟨rfl, ⟨rfl, ⟨rfl, ⟨rfl, ⟨rfl, ⟨rfl, trivial⟩⟩⟩⟩⟩⟩⟩ ?_
  exact K43 hf
set_option maxRecDepth 20000 in
theorem l_Mo_fire_b124 {E : EE} {X : CT} {G : Hp} (C : gCx E X cX10_fire "FavoursGoOffModel" (some .int) 3 73 0 0 false 8) {r : Int32} {G' : Hp} (HR : gRet E X cX10_fire (some .int) 0 0 (some (.int r)) G') {k32 : Hp → Nat → Int32 → Int32 → Int32 → Int32 → Int32 → Option (Int32 × Hp)} (K32 : ∀ {G : Hp} {l0 : Nat} {l1 : Int32} {l2 : Int32} {l3 : Int32} {l4 : Int32} {l5 : Int32}, k32 G l0 l1 l2 l3 l4 l5 = some (r, G') → gV E X 0 0 G 32 [some (.ref (E.2.1 + l0)), some (.int l1), some (.int l2), some (.int l3), some (.int l4), some (.int l5), none, none] []) {l0 : Nat} {l1 : Int32} {l2 : Int32} {l5 : Int32} {l6 : Int32} {s0 : Int32} {s1 : Int32} (hf : f_Mo_fire_b124 k32 G l0 l1 l2 l5 l6 s0 s1 = some (r, G')) : gV E X 0 0 G 124 [some (.ref (E.2.1 + l0)), some (.int l1), some (.int l2), none, none, some (.int l5), some (.int l6), none] [.int s1, .int s0] := by
  unfold f_Mo_fire_b124 at hf
  refine g_iadd C dX10_fire_124 ?_
  obtain ⟨x1, hx1, hf⟩ := lt_ok hf
  refine e_top hx1 ?_
  refine g_istore (lv' := [some (.ref (E.2.1 + l0)), some (.int l1), some (.int l2), none, some (.int x1), some (.int l5), some (.int l6), none]) C dX10_fire_125 (by decide) rfl ?_
  refine g_iload C dX10_fire_127 rfl ?_
  refine g_istore_n (lv' := [some (.ref (E.2.1 + l0)), some (.int l1), some (.int l2), some (.int l6), some (.int x1), some (.int l5), some (.int l6), none]) C dX10_fire_129 (by decide) rfl ?_
  refine g_goto (tgt := 32) C dX10_fire_130 (by decide) ?_
  refine g_sub (lv' := [some (.ref (E.2.1 + l0)), some (.int l1), some (.int l2), some (.int l6), some (.int x1), some (.int l5), none, none]) ⟨rfl, ⟨rfl, ⟨rfl, ⟨rfl, ⟨rfl, ⟨rfl, trivial⟩⟩⟩⟩⟩⟩ ?_
  exact K32 hf
set_option maxRecDepth 20000 in
theorem l_Mo_fire_b110 {E : EE} {X : CT} {G : Hp} (C : gCx E X cX10_fire "FavoursGoOffModel" (some .int) 3 73 0 0 false 8) {r : Int32} {G' : Hp} (HR : gRet E X cX10_fire (some .int) 0 0 (some (.int r)) G') {k32 : Hp → Nat → Int32 → Int32 → Int32 → Int32 → Int32 → Option (Int32 × Hp)} (K32 : ∀ {G : Hp} {l0 : Nat} {l1 : Int32} {l2 : Int32} {l3 : Int32} {l4 : Int32} {l5 : Int32}, k32 G l0 l1 l2 l3 l4 l5 = some (r, G') → gV E X 0 0 G 32 [some (.ref (E.2.1 + l0)), some (.int l1), some (.int l2), some (.int l3), some (.int l4), some (.int l5), none, none] []) {l0 : Nat} {l1 : Int32} {l2 : Int32} {l4 : Int32} {l6 : Int32} {s0 : Int32} (hf : f_Mo_fire_b110 k32 G l0 l1 l2 l4 l6 s0 = some (r, G')) : gV E X 0 0 G 110 [some (.ref (E.2.1 + l0)), some (.int l1), some (.int l2), none, some (.int l4), none, some (.int l6), none] [.int s0] := by
  unfold f_Mo_fire_b110 at hf
  refine g_istore (lv' := [some (.ref (E.2.1 + l0)), some (.int l1), some (.int l2), none, some (.int l4), some (.int s0), some (.int l6), none]) C dX10_fire_110 (by decide) rfl ?_
  refine g_iload C dX10_fire_112 rfl ?_
  refine g_iload C dX10_fire_114 rfl ?_
  refine g_if_eq (tgt := 123) C dX10_fire_116 (by decide) (fun hc => ?_) (fun hc => ?_)
  · have hf := iteT hf hc
    refine g_iconst (v := (0 : Int32)) C dX10_fire_123 (by decide) ?_
    refine g_sub (lv' := [some (.ref (E.2.1 + l0)), some (.int l1), some (.int l2), none, none, some (.int s0), some (.int l6), none]) ⟨rfl, ⟨rfl, ⟨rfl, ⟨rfl, ⟨rfl, trivial⟩⟩⟩⟩⟩ ?_
    exact l_Mo_fire_b124 C HR K32 hf
  · have hf := iteF hf hc
    refine g_iconst (v := (1 : Int32)) C dX10_fire_119 (by decide) ?_
    refine g_goto (tgt := 124) C dX10_fire_120 (by decide) ?_
    refine g_sub (lv' := [some (.ref (E.2.1 + l0)), some (.int l1), some (.int l2), none, none, some (.int s0), some (.int l6), none]) ⟨rfl, ⟨rfl, ⟨rfl, ⟨rfl, ⟨rfl, trivial⟩⟩⟩⟩⟩ ?_
    exact l_Mo_fire_b124 C HR K32 hf
set_option maxRecDepth 20000 in
theorem l_Mo_fire_b43k {E : EE} {X : CT} {G : Hp} (C : gCx E X cX10_fire "FavoursGoOffModel" (some .int) 3 73 0 0 false 8) {r : Int32} {G' : Hp} (HR : gRet E X cX10_fire (some .int) 0 0 (some (.int r)) G') {k32 : Hp → Nat → Int32 → Int32 → Int32 → Int32 → Int32 → Option (Int32 × Hp)} (K32 : ∀ {G : Hp} {l0 : Nat} {l1 : Int32} {l2 : Int32} {l3 : Int32} {l4 : Int32} {l5 : Int32}, k32 G l0 l1 l2 l3 l4 l5 = some (r, G') → gV E X 0 0 G 32 [some (.ref (E.2.1 + l0)), some (.int l1), some (.int l2), some (.int l3), some (.int l4), some (.int l5), none, none] []) {k43 : Hp → Nat → Int32 → Int32 → Int32 → Int32 → Int32 → Int32 → Option (Int32 × Hp)} (K43 : ∀ {G : Hp} {l0 : Nat} {l1 : Int32} {l2 : Int32} {l3 : Int32} {l4 : Int32} {l6 : Int32} {l7 : Int32}, k43 G l0 l1 l2 l3 l4 l6 l7 = some (r, G') → gV E X 0 0 G 43 [some (.ref (E.2.1 + l0)), some (.int l1), some (.int l2), some (.int l3), some (.int l4), none, some (.int l6), some (.int l7)] []) {l0 : Nat} {l1 : Int32} {l2 : Int32} {l3 : Int32} {l4 : Int32} {l6 : Int32} {l7 : Int32} (hf : f_Mo_fire_b43_k k32 k43 G l0 l1 l2 l3 l4 l6 l7 = some (r, G')) : gV E X 0 0 G 43 [some (.ref (E.2.1 + l0)), some (.int l1), some (.int l2), some (.int l3), some (.int l4), none, some (.int l6), some (.int l7)] [] := by
  unfold f_Mo_fire_b43_k at hf
  refine g_iload C dX10_fire_43 rfl ?_
  refine g_aload_n C dX10_fire_45 rfl ?_
  obtain ⟨x1, hg, h1, hf⟩ := vP_ok hf
  refine g_invV (As := []) (st := [.int l7]) C (c_Mo_many E h1) (rfl : vwCl[10]? = some (y_Mo_many.cls, TX10, 24)) (by decide) hg ml_Mo_64 cm_Mo_many.1 cm_Mo_many.2.1 cm_Mo_many.2.2.1 cm_Mo_many.2.2.2.1 cm_Mo_many.2.2.2.2 rfl ⟨by omega, by omega, by omega, by omega⟩ (by exact Nat.le_of_ble_eq_true rfl) rfl dX10_fire_46 ?_
  refine g_icmp_ge (tgt := 99) C dX10_fire_49 (by decide) (fun hc => ?_) (fun hc => ?_)
  · have hf := iteT hf hc
    refine g_iload C dX10_fire_99 rfl ?_
    refine g_iload_n C dX10_fire_101 rfl ?_
    refine g_icmp_eq (tgt := 109) C dX10_fire_102 (by decide) (fun hc => ?_) (fun hc => ?_)
    · have hf := iteT hf hc
      refine g_iconst (v := (0 : Int32)) C dX10_fire_109 (by decide) ?_
      refine g_sub (lv' := [some (.ref (E.2.1 + l0)), some (.int l1), some (.int l2), none, some (.int l4), none, some (.int l6), none]) ⟨rfl, ⟨rfl, ⟨rfl, ⟨rfl, ⟨rfl, trivial⟩⟩⟩⟩⟩ ?_
      exact l_Mo_fire_b110 C HR K32 hf
    · have hf := iteF hf hc
      refine g_iconst (v := (1 : Int32)) C dX10_fire_105 (by decide) ?_
      refine g_goto (tgt := 110) C dX10_fire_106 (by decide) ?_
      refine g_sub (lv' := [some (.ref (E.2.1 + l0)), some (.int l1), some (.int l2), none, some (.int l4), none, some (.int l6), none]) ⟨rfl, ⟨rfl, ⟨rfl, ⟨rfl, ⟨rfl, trivial⟩⟩⟩⟩⟩ ?_
      exact l_Mo_fire_b110 C HR K32 hf
  · have hf := iteF hf hc
    refine g_iload C dX10_fire_52 rfl ?_
    refine g_aload_n C dX10_fire_54 rfl ?_
    refine g_iload C dX10_fire_55 rfl ?_
    refine g_iload_n C dX10_fire_57 rfl ?_
    obtain ⟨x2, hg, h1, hf⟩ := vP_ok hf
    refine g_invV (As := [.int l7, .int l1]) (st := [.int l6]) C (c_Mo_toDo E h1) (rfl : vwCl[10]? = some (y_Mo_toDo.cls, TX10, 24)) (by decide) hg ml_Mo_176 cm_Mo_toDo.1 cm_Mo_toDo.2.1 cm_Mo_toDo.2.2.1 cm_Mo_toDo.2.2.2.1 cm_Mo_toDo.2.2.2.2 rfl ⟨by omega, by omega, by omega, by omega⟩ (by exact Nat.le_of_ble_eq_true rfl) rfl dX10_fire_58 ?_
    refine g_aload_n C dX10_fire_61 rfl ?_
    obtain ⟨x3, hg, hf⟩ := gR_ok hf
    refine g_getR C fl_Mo_7 dX10_fire_62 hg ?_
    refine g_iconst (v := (2 : Int32)) C dX10_fire_65 (by decide) ?_
    refine g_iload C dX10_fire_66 rfl ?_
    refine g_iadd C dX10_fire_68 ?_
    obtain ⟨x4, hx4, hg, hf⟩ := aI_ok hf
    refine e_iald C dX10_fire_69 hx4 hg ?_
    refine g_aload_n C dX10_fire_70 rfl ?_
    refine g_iload C dX10_fire_71 rfl ?_
    refine g_iload_n C dX10_fire_73 rfl ?_
    refine g_iload_n C dX10_fire_74 rfl ?_
    obtain ⟨x5, hg, h1, hf⟩ := vP_ok hf
    refine g_invV (As := [.int l7, .int l1, .int l3]) (st := [.int x4, .int x2, .int l6]) C (c_Mo_doneFor E h1) (rfl : vwCl[10]? = some (y_Mo_doneFor.cls, TX10, 24)) (by decide) hg ml_Mo_179 cm_Mo_doneFor.1 cm_Mo_doneFor.2.1 cm_Mo_doneFor.2.2.1 cm_Mo_doneFor.2.2.2.1 cm_Mo_doneFor.2.2.2.2 rfl ⟨by omega, by omega, by omega, by omega⟩ (by exact Nat.le_of_ble_eq_true rfl) rfl dX10_fire_75 ?_
    refine g_iadd C dX10_fire_78 ?_
    refine g_icmp_le (tgt := 89) C dX10_fire_79 (by decide) (fun hc => ?_) (fun hc => ?_)
    · have hf := iteT hf hc
      refine g_iconst (v := (0 : Int32)) C dX10_fire_89 (by decide) ?_
      refine g_sub (lv' := [some (.ref (E.2.1 + l0)), some (.int l1), some (.int l2), some (.int l3), some (.int l4), none, none, some (.int l7)]) ⟨rfl, ⟨rfl, ⟨rfl, ⟨rfl, ⟨rfl, ⟨rfl, trivial⟩⟩⟩⟩⟩⟩ ?_
      exact l_Mo_fire_b90 C HR K32 K43 hf
    · have hf := iteF hf hc
      refine g_iconst (v := (1 : Int32)) C dX10_fire_82 (by decide) ?_
      refine g_iload C dX10_fire_83 rfl ?_
      refine g_ishl C dX10_fire_85 ?_
      refine g_goto (tgt := 90) C dX10_fire_86 (by decide) ?_
      refine g_sub (lv' := [some (.ref (E.2.1 + l0)), some (.int l1), some (.int l2), some (.int l3), some (.int l4), none, none, some (.int l7)]) ⟨rfl, ⟨rfl, ⟨rfl, ⟨rfl, ⟨rfl, ⟨rfl, trivial⟩⟩⟩⟩⟩⟩ ?_
      exact l_Mo_fire_b90 C HR K32 K43 hf
theorem l_Mo_fire_b43 {E : EE} {X : CT} (C : gCx E X cX10_fire "FavoursGoOffModel" (some .int) 3 73 0 0 false 8) {r : Int32} {G' : Hp} (HR : gRet E X cX10_fire (some .int) 0 0 (some (.int r)) G') {k32 : Hp → Nat → Int32 → Int32 → Int32 → Int32 → Int32 → Option (Int32 × Hp)} (K32 : ∀ {G : Hp} {l0 : Nat} {l1 : Int32} {l2 : Int32} {l3 : Int32} {l4 : Int32} {l5 : Int32}, k32 G l0 l1 l2 l3 l4 l5 = some (r, G') → gV E X 0 0 G 32 [some (.ref (E.2.1 + l0)), some (.int l1), some (.int l2), some (.int l3), some (.int l4), some (.int l5), none, none] []) : ∀ (nn : Nat) {G : Hp} {l0 : Nat} {l1 : Int32} {l2 : Int32} {l3 : Int32} {l4 : Int32} {l6 : Int32} {l7 : Int32}, f_Mo_fire_b43 k32 nn G l0 l1 l2 l3 l4 l6 l7 = some (r, G') → gV E X 0 0 G 43 [some (.ref (E.2.1 + l0)), some (.int l1), some (.int l2), some (.int l3), some (.int l4), none, some (.int l6), some (.int l7)] []
  | 0, _, _, _, _, _, _, _, _, hf => by have h0 : (none : Option (Int32 × Hp)) = some (r, G') := hf; cases h0
  | nn + 1, _, _, _, _, _, _, _, _, hf => l_Mo_fire_b43k C HR K32 (fun h => l_Mo_fire_b43 C HR K32 nn h) hf
set_option maxRecDepth 20000 in
theorem l_Mo_fire_b143 {E : EE} {X : CT} {G : Hp} (C : gCx E X cX10_fire "FavoursGoOffModel" (some .int) 3 73 0 0 false 8) {r : Int32} {G' : Hp} (HR : gRet E X cX10_fire (some .int) 0 0 (some (.int r)) G') {s0 : Int32} (hf : f_Mo_fire_b143 G s0 = some (r, G')) : gV E X 0 0 G 143 [none, none, none, none, none, none, none, none] [.int s0] := by
  unfold f_Mo_fire_b143 at hf
  obtain ⟨rfl, rfl⟩ := rH_ok hf
  exact g_iret HR dX10_fire_143
set_option maxRecDepth 20000 in
theorem l_Mo_fire_b32k {E : EE} {X : CT} {G : Hp} (C : gCx E X cX10_fire "FavoursGoOffModel" (some .int) 3 73 0 0 false 8) {r : Int32} {G' : Hp} (HR : gRet E X cX10_fire (some .int) 0 0 (some (.int r)) G') {k32 : Hp → Nat → Int32 → Int32 → Int32 → Int32 → Int32 → Option (Int32 × Hp)} (K32 : ∀ {G : Hp} {l0 : Nat} {l1 : Int32} {l2 : Int32} {l3 : Int32} {l4 : Int32} {l5 : Int32}, k32 G l0 l1 l2 l3 l4 l5 = some (r, G') → gV E X 0 0 G 32 [some (.ref (E.2.1 + l0)), some (.int l1), some (.int l2), some (.int l3), some (.int l4), some (.int l5), none, none] []) {l0 : Nat} {l1 : Int32} {l2 : Int32} {l3 : Int32} {l4 : Int32} {l5 : Int32} (hf : f_Mo_fire_b32_k k32 G l0 l1 l2 l3 l4 l5 = some (r, G')) : gV E X 0 0 G 32 [some (.ref (E.2.1 + l0)), some (.int l1), some (.int l2), some (.int l3), some (.int l4), some (.int l5), none, none] [] := by
  unfold f_Mo_fire_b32_k at hf
  refine g_iload C dX10_fire_32 rfl ?_
  refine g_if_eq (tgt := 133) C dX10_fire_34 (by decide) (fun hc => ?_) (fun hc => ?_)
  · have hf := iteT hf hc
    refine g_iload_n C dX10_fire_133 rfl ?_
    refine g_if_ne (tgt := 141) C dX10_fire_134 (by decide) (fun hc => ?_) (fun hc => ?_)
    · have hf := iteF hf hc
      refine g_iload C dX10_fire_141 rfl ?_
      refine g_sub (lv' := [none, none, none, none, none, none, none, none]) trivial ?_
      exact l_Mo_fire_b143 C HR  hf
    · have hf := iteT hf hc
      refine g_iload_n C dX10_fire_137 rfl ?_
      refine g_goto (tgt := 143) C dX10_fire_138 (by decide) ?_
      refine g_sub (lv' := [none, none, none, none, none, none, none, none]) trivial ?_
      exact l_Mo_fire_b143 C HR  hf
  · have hf := iteF hf hc
    refine g_iload_n C dX10_fire_37 rfl ?_
    refine g_istore (lv' := [some (.ref (E.2.1 + l0)), some (.int l1), some (.int l2), some (.int l3), some (.int l4), some (.int l5), some (.int l3), none]) C dX10_fire_38 (by decide) rfl ?_
    refine g_iconst (v := (0 : Int32)) C dX10_fire_40 (by decide) ?_
    refine g_istore (lv' := [some (.ref (E.2.1 + l0)), some (.int l1), some (.int l2), some (.int l3), some (.int l4), some (.int l5), some (.int l3), some (.int (0 : Int32))]) C dX10_fire_41 (by decide) rfl ?_
    refine g_sub (lv' := [some (.ref (E.2.1 + l0)), some (.int l1), some (.int l2), some (.int l3), some (.int l4), none, some (.int l3), some (.int (0 : Int32))]) ⟨rfl, ⟨rfl, ⟨rfl, ⟨rfl, ⟨rfl, ⟨rfl, ⟨rfl, trivial⟩⟩⟩⟩⟩⟩⟩ ?_
    exact l_Mo_fire_b43 C HR K32 FU hf
theorem l_Mo_fire_b32 {E : EE} {X : CT} (C : gCx E X cX10_fire "FavoursGoOffModel" (some .int) 3 73 0 0 false 8) {r : Int32} {G' : Hp} (HR : gRet E X cX10_fire (some .int) 0 0 (some (.int r)) G') : ∀ (nn : Nat) {G : Hp} {l0 : Nat} {l1 : Int32} {l2 : Int32} {l3 : Int32} {l4 : Int32} {l5 : Int32}, f_Mo_fire_b32 nn G l0 l1 l2 l3 l4 l5 = some (r, G') → gV E X 0 0 G 32 [some (.ref (E.2.1 + l0)), some (.int l1), some (.int l2), some (.int l3), some (.int l4), some (.int l5), none, none] []
  | 0, _, _, _, _, _, _, _, hf => by have h0 : (none : Option (Int32 × Hp)) = some (r, G') := hf; cases h0
  | nn + 1, _, _, _, _, _, _, _, hf => l_Mo_fire_b32k C HR (fun h => l_Mo_fire_b32 C HR nn h) hf
set_option maxRecDepth 20000 in
theorem l_Mo_fire {E : EE} {X : CT} {G : Hp} (C : gCx E X cX10_fire "FavoursGoOffModel" (some .int) 3 73 0 0 false 8) {r : Int32} {G' : Hp} (HR : gRet E X cX10_fire (some .int) 0 0 (some (.int r)) G') {l0 : Nat} {l1 : Int32} {l2 : Int32} (hf : f_Mo_fire G l0 l1 l2 = some (r, G')) : gV E X 0 0 G 0 [some (.ref (E.2.1 + l0)), some (.int l1), some (.int l2), none, none, none, none, none] [] := by
  unfold f_Mo_fire at hf
  refine g_iload_n C dX10_fire_0 rfl ?_
  obtain ⟨x1, h1, hf⟩ := cP_ok hf
  refine g_invS (As := [.int l1]) (st := []) C (c_Mo_isDay E h1) ml_Mo_95 cm_Mo_isDay.1 cm_Mo_isDay.2.1 cm_Mo_isDay.2.2.1 cm_Mo_isDay.2.2.2 rfl ⟨by omega, by omega, by omega, by omega⟩ (by exact Nat.le_of_ble_eq_true rfl) rfl dX10_fire_1 ?_
  refine g_if_eq (tgt := 17) C dX10_fire_4 (by decide) (fun hc => ?_) (fun hc => ?_)
  · have hf := iteT hf hc
    refine g_sub (lv' := [some (.ref (E.2.1 + l0)), none, none, none, none, none, none, none]) ⟨rfl, trivial⟩ ?_
    exact l_Mo_fire_b17 C HR  hf
  · have hf := iteF hf hc
    refine g_iload_n C dX10_fire_7 rfl ?_
    refine g_i2l C dX10_fire_8 ?_
    refine g_lconst (v := (0 : Int64)) C dX10_fire_9 (by decide) ?_
    refine g_lconst (v := (1 : Int64)) C dX10_fire_10 (by decide) ?_
    obtain ⟨x2, h1, hf⟩ := cP_ok hf
    refine g_invS (As := [.long l2.toInt64, .long (0 : Int64), .long (1 : Int64)]) (st := []) C (c_Mo_in E h1) ml_Mo_68 cm_Mo_in.1 cm_Mo_in.2.1 cm_Mo_in.2.2.1 cm_Mo_in.2.2.2 rfl ⟨by omega, by omega, by omega, by omega⟩ (by exact Nat.le_of_ble_eq_true rfl) rfl dX10_fire_11 ?_
    refine g_if_ne (tgt := 24) C dX10_fire_14 (by decide) (fun hc => ?_) (fun hc => ?_)
    · have hf := iteF hf hc
      refine g_iconst (v := (0 : Int32)) C dX10_fire_24 (by decide) ?_
      refine g_istore_n (lv' := [some (.ref (E.2.1 + l0)), some (.int l1), some (.int l2), some (.int (0 : Int32)), none, none, none, none]) C dX10_fire_25 (by decide) rfl ?_
      refine g_iconst (v := (0 : Int32)) C dX10_fire_26 (by decide) ?_
      refine g_istore (lv' := [some (.ref (E.2.1 + l0)), some (.int l1), some (.int l2), some (.int (0 : Int32)), some (.int (0 : Int32)), none, none, none]) C dX10_fire_27 (by decide) rfl ?_
      refine g_iconst (v := (1 : Int32)) C dX10_fire_29 (by decide) ?_
      refine g_istore (lv' := [some (.ref (E.2.1 + l0)), some (.int l1), some (.int l2), some (.int (0 : Int32)), some (.int (0 : Int32)), some (.int (1 : Int32)), none, none]) C dX10_fire_30 (by decide) rfl ?_
      refine g_sub (lv' := [some (.ref (E.2.1 + l0)), some (.int l1), some (.int l2), some (.int (0 : Int32)), some (.int (0 : Int32)), some (.int (1 : Int32)), none, none]) ⟨rfl, ⟨rfl, ⟨rfl, ⟨rfl, ⟨rfl, ⟨rfl, trivial⟩⟩⟩⟩⟩⟩ ?_
      exact l_Mo_fire_b32 C HR  FU hf
    · have hf := iteT hf hc
      refine g_sub (lv' := [some (.ref (E.2.1 + l0)), none, none, none, none, none, none, none]) ⟨rfl, trivial⟩ ?_
      exact l_Mo_fire_b17 C HR  hf
theorem c_Mo_fire (E : EE) {G : Hp} {l0 : Nat} {l1 : Int32} {l2 : Int32} {r : Int32} {G' : Hp} (h : f_Mo_fire G l0 l1 l2 = some (r, G')) : gCt E y_Mo_fire cX10_fire 8 (some .int) 3 73 0 0 [.ref (E.2.1 + l0), .int l1, .int l2] G (some (.int r)) G' := gCt_of (own := "FavoursGoOffModel") (ini := false) [some (.ref (E.2.1 + l0)), some (.int l1), some (.int l2), none, none, none, none, none] (by decide +kernel) rfl (fun h => by cases h) (Nat.le_of_ble_eq_true rfl) ⟨rfl, ⟨rfl, ⟨rfl, trivial⟩⟩⟩ (fun X C HR => l_Mo_fire C HR h)
set_option maxRecDepth 20000 in
theorem l_Mo_ratesBy_b32 {E : EE} {X : CT} {G : Hp} (C : gCx E X cX10_ratesBy "FavoursGoOffModel" (some .int) 3 69 0 0 false 4) {r : Int32} (HR : gRet E X cX10_ratesBy (some .int) 0 0 (some (.int r)) G) {k4 : Nat → Int32 → Int32 → Int32 → Option Int32} (K4 : ∀ {l0 : Nat} {l1 : Int32} {l2 : Int32} {l3 : Int32}, k4 l0 l1 l2 l3 = some r → gV E X 0 0 G 4 [some (.ref (E.2.1 + l0)), some (.int l1), some (.int l2), some (.int l3)] []) {l0 : Nat} {l1 : Int32} {l3 : Int32} {s0 : Int32} {s1 : Int32} (hf : f_Mo_ratesBy_b32 G k4 l0 l1 l3 s0 s1 = some r) : gV E X 0 0 G 32 [some (.ref (E.2.1 + l0)), some (.int l1), none, some (.int l3)] [.int s1, .int s0] := by
  unfold f_Mo_ratesBy_b32 at hf
  refine g_iadd C dX10_ratesBy_32 ?_
  obtain ⟨x1, hx1, hf⟩ := lt_ok hf
  refine e_top hx1 ?_
  refine g_istore_n (lv' := [some (.ref (E.2.1 + l0)), some (.int l1), some (.int x1), some (.int l3)]) C dX10_ratesBy_33 (by decide) rfl ?_
  refine g_iinc (v := (l3 + 1)) (lv' := [some (.ref (E.2.1 + l0)), some (.int l1), some (.int x1), some (.int (l3 + 1))]) C dX10_ratesBy_34 (by decide) rfl rfl rfl ?_
  refine g_goto (tgt := 4) C dX10_ratesBy_37 (by decide) ?_
  refine g_sub (lv' := [some (.ref (E.2.1 + l0)), some (.int l1), some (.int x1), some (.int (l3 + 1))]) ⟨rfl, ⟨rfl, ⟨rfl, ⟨rfl, trivial⟩⟩⟩⟩ ?_
  exact K4 hf
set_option maxRecDepth 20000 in
theorem l_Mo_ratesBy_b78 {E : EE} {X : CT} {G : Hp} (C : gCx E X cX10_ratesBy "FavoursGoOffModel" (some .int) 3 69 0 0 false 4) {r : Int32} (HR : gRet E X cX10_ratesBy (some .int) 0 0 (some (.int r)) G) {k42 : Nat → Int32 → Int32 → Int32 → Option Int32} (K42 : ∀ {l0 : Nat} {l1 : Int32} {l2 : Int32} {l3 : Int32}, k42 l0 l1 l2 l3 = some r → gV E X 0 0 G 42 [some (.ref (E.2.1 + l0)), some (.int l1), some (.int l2), some (.int l3)] []) {l0 : Nat} {l1 : Int32} {l3 : Int32} {s0 : Int32} {s1 : Int32} (hf : f_Mo_ratesBy_b78 G k42 l0 l1 l3 s0 s1 = some r) : gV E X 0 0 G 78 [some (.ref (E.2.1 + l0)), some (.int l1), none, some (.int l3)] [.int s1, .int s0] := by
  unfold f_Mo_ratesBy_b78 at hf
  refine g_isub C dX10_ratesBy_78 ?_
  obtain ⟨x1, hx1, hf⟩ := lt_ok hf
  refine e_top hx1 ?_
  refine g_istore_n (lv' := [some (.ref (E.2.1 + l0)), some (.int l1), some (.int x1), some (.int l3)]) C dX10_ratesBy_79 (by decide) rfl ?_
  refine g_iinc (v := (l3 + 1)) (lv' := [some (.ref (E.2.1 + l0)), some (.int l1), some (.int x1), some (.int (l3 + 1))]) C dX10_ratesBy_80 (by decide) rfl rfl rfl ?_
  refine g_goto (tgt := 42) C dX10_ratesBy_83 (by decide) ?_
  refine g_sub (lv' := [some (.ref (E.2.1 + l0)), some (.int l1), some (.int x1), some (.int (l3 + 1))]) ⟨rfl, ⟨rfl, ⟨rfl, ⟨rfl, trivial⟩⟩⟩⟩ ?_
  exact K42 hf
set_option maxRecDepth 20000 in
theorem l_Mo_ratesBy_b77 {E : EE} {X : CT} {G : Hp} (C : gCx E X cX10_ratesBy "FavoursGoOffModel" (some .int) 3 69 0 0 false 4) {r : Int32} (HR : gRet E X cX10_ratesBy (some .int) 0 0 (some (.int r)) G) {k42 : Nat → Int32 → Int32 → Int32 → Option Int32} (K42 : ∀ {l0 : Nat} {l1 : Int32} {l2 : Int32} {l3 : Int32}, k42 l0 l1 l2 l3 = some r → gV E X 0 0 G 42 [some (.ref (E.2.1 + l0)), some (.int l1), some (.int l2), some (.int l3)] []) {l0 : Nat} {l1 : Int32} {l3 : Int32} {s0 : Int32} (hf : f_Mo_ratesBy_b77 G k42 l0 l1 l3 s0 = some r) : gV E X 0 0 G 77 [some (.ref (E.2.1 + l0)), some (.int l1), none, some (.int l3)] [.int s0] := by
  unfold f_Mo_ratesBy_b77 at hf
  refine g_iconst (v := (0 : Int32)) C dX10_ratesBy_77 (by decide) ?_
  refine g_sub (lv' := [some (.ref (E.2.1 + l0)), some (.int l1), none, some (.int l3)]) ⟨rfl, ⟨rfl, ⟨rfl, trivial⟩⟩⟩ ?_
  exact l_Mo_ratesBy_b78 C HR K42 hf
set_option maxRecDepth 20000 in
theorem l_Mo_ratesBy_b42k {E : EE} {X : CT} {G : Hp} (C : gCx E X cX10_ratesBy "FavoursGoOffModel" (some .int) 3 69 0 0 false 4) {r : Int32} (HR : gRet E X cX10_ratesBy (some .int) 0 0 (some (.int r)) G) {k42 : Nat → Int32 → Int32 → Int32 → Option Int32} (K42 : ∀ {l0 : Nat} {l1 : Int32} {l2 : Int32} {l3 : Int32}, k42 l0 l1 l2 l3 = some r → gV E X 0 0 G 42 [some (.ref (E.2.1 + l0)), some (.int l1), some (.int l2), some (.int l3)] []) {l0 : Nat} {l1 : Int32} {l2 : Int32} {l3 : Int32} (hf : f_Mo_ratesBy_b42_k G k42 l0 l1 l2 l3 = some r) : gV E X 0 0 G 42 [some (.ref (E.2.1 + l0)), some (.int l1), some (.int l2), some (.int l3)] [] := by
  unfold f_Mo_ratesBy_b42_k at hf
  refine g_iload_n C dX10_ratesBy_42 rfl ?_
  refine g_aload_n C dX10_ratesBy_43 rfl ?_
  obtain ⟨x1, hg, hf⟩ := gR_ok hf
  refine g_getR C fl_Mo_7 dX10_ratesBy_44 hg ?_
  refine g_sipush (v := (158 : Int32)) C dX10_ratesBy_47 (by decide) ?_
  obtain ⟨x2, hx2, hg, hf⟩ := aI_ok hf
  refine e_iald C dX10_ratesBy_50 hx2 hg ?_
  refine g_icmp_ge (tgt := 86) C dX10_ratesBy_51 (by decide) (fun hc => ?_) (fun hc => ?_)
  · have hf := iteT hf hc
    refine g_iload_n C dX10_ratesBy_86 rfl ?_
    obtain rfl := rP_ok hf
    exact g_iret HR dX10_ratesBy_87
  · have hf := iteF hf hc
    refine g_iload_n C dX10_ratesBy_54 rfl ?_
    refine g_aload_n C dX10_ratesBy_55 rfl ?_
    refine g_iload_n C dX10_ratesBy_56 rfl ?_
    refine g_iconst (v := (3 : Int32)) C dX10_ratesBy_57 (by decide) ?_
    obtain ⟨x3, hg, h1, hf⟩ := vP_ok hf
    refine g_invV (As := [.int l3, .int (3 : Int32)]) (st := [.int l2]) C (c_Mo_told0 E h1) (rfl : vwCl[10]? = some (y_Mo_told0.cls, TX10, 24)) (by decide) hg ml_Mo_112 cm_Mo_told0.1 cm_Mo_told0.2.1 cm_Mo_told0.2.2.1 cm_Mo_told0.2.2.2.1 cm_Mo_told0.2.2.2.2 rfl ⟨by omega, by omega, by omega, by omega⟩ (by exact Nat.le_of_ble_eq_true rfl) rfl dX10_ratesBy_58 ?_
    refine g_iload_n C dX10_ratesBy_61 rfl ?_
    refine g_icmp_ne (tgt := 77) C dX10_ratesBy_62 (by decide) (fun hc => ?_) (fun hc => ?_)
    · have hf := iteF hf hc
      refine g_sub (lv' := [some (.ref (E.2.1 + l0)), some (.int l1), none, some (.int l3)]) ⟨rfl, ⟨rfl, ⟨rfl, trivial⟩⟩⟩ ?_
      exact l_Mo_ratesBy_b77 C HR K42 hf
    · have hf := iteT hf hc
      refine g_aload_n C dX10_ratesBy_65 rfl ?_
      refine g_iload_n C dX10_ratesBy_66 rfl ?_
      obtain ⟨x4, hg, h1, hf⟩ := vP_ok hf
      refine g_invV (As := [.int l3]) (st := [.int l2]) C (c_Mo_valueNow E h1) (rfl : vwCl[10]? = some (y_Mo_valueNow.cls, TX10, 24)) (by decide) hg ml_Mo_125 cm_Mo_valueNow.1 cm_Mo_valueNow.2.1 cm_Mo_valueNow.2.2.1 cm_Mo_valueNow.2.2.2.1 cm_Mo_valueNow.2.2.2.2 rfl ⟨by omega, by omega, by omega, by omega⟩ (by exact Nat.le_of_ble_eq_true rfl) rfl dX10_ratesBy_67 ?_
      refine g_if_le (tgt := 77) C dX10_ratesBy_70 (by decide) (fun hc => ?_) (fun hc => ?_)
      · have hf := iteT hf hc
        refine g_sub (lv' := [some (.ref (E.2.1 + l0)), some (.int l1), none, some (.int l3)]) ⟨rfl, ⟨rfl, ⟨rfl, trivial⟩⟩⟩ ?_
        exact l_Mo_ratesBy_b77 C HR K42 hf
      · have hf := iteF hf hc
        refine g_iconst (v := (1 : Int32)) C dX10_ratesBy_73 (by decide) ?_
        refine g_goto (tgt := 78) C dX10_ratesBy_74 (by decide) ?_
        refine g_sub (lv' := [some (.ref (E.2.1 + l0)), some (.int l1), none, some (.int l3)]) ⟨rfl, ⟨rfl, ⟨rfl, trivial⟩⟩⟩ ?_
        exact l_Mo_ratesBy_b78 C HR K42 hf
theorem l_Mo_ratesBy_b42 {E : EE} {X : CT} {G : Hp} (C : gCx E X cX10_ratesBy "FavoursGoOffModel" (some .int) 3 69 0 0 false 4) {r : Int32} (HR : gRet E X cX10_ratesBy (some .int) 0 0 (some (.int r)) G) : ∀ (nn : Nat) {l0 : Nat} {l1 : Int32} {l2 : Int32} {l3 : Int32}, f_Mo_ratesBy_b42 G nn l0 l1 l2 l3 = some r → gV E X 0 0 G 42 [some (.ref (E.2.1 + l0)), some (.int l1), some (.int l2), some (.int l3)] []
  | 0, _, _, _, _, hf => by have h0 : (none : Option Int32) = some r := hf; cases h0
  | nn + 1, _, _, _, _, hf => l_Mo_ratesBy_b42k C HR (fun h => l_Mo_ratesBy_b42 C HR nn h) hf
set_option maxRecDepth 20000 in
theorem l_Mo_ratesBy_b4k {E : EE} {X : CT} {G : Hp} (C : gCx E X cX10_ratesBy "FavoursGoOffModel" (some .int) 3 69 0 0 false 4) {r : Int32} (HR : gRet E X cX10_ratesBy (some .int) 0 0 (some (.int r)) G) {k4 : Nat → Int32 → Int32 → Int32 → Option Int32} (K4 : ∀ {l0 : Nat} {l1 : Int32} {l2 : Int32} {l3 : Int32}, k4 l0 l1 l2 l3 = some r → gV E X 0 0 G 4 [some (.ref (E.2.1 + l0)), some (.int l1), some (.int l2), some (.int l3)] []) {l0 : Nat} {l1 : Int32} {l2 : Int32} {l3 : Int32} (hf : f_Mo_ratesBy_b4_k G k4 l0 l1 l2 l3 = some r) : gV E X 0 0 G 4 [some (.ref (E.2.1 + l0)), some (.int l1), some (.int l2), some (.int l3)] [] := by
  unfold f_Mo_ratesBy_b4_k at hf
  refine g_iload_n C dX10_ratesBy_4 rfl ?_
  refine g_aload_n C dX10_ratesBy_5 rfl ?_
  obtain ⟨x1, hg, hf⟩ := gR_ok hf
  refine g_getR C fl_Mo_7 dX10_ratesBy_6 hg ?_
  refine g_sipush (v := (159 : Int32)) C dX10_ratesBy_9 (by decide) ?_
  obtain ⟨x2, hx2, hg, hf⟩ := aI_ok hf
  refine e_iald C dX10_ratesBy_12 hx2 hg ?_
  refine g_icmp_ge (tgt := 40) C dX10_ratesBy_13 (by decide) (fun hc => ?_) (fun hc => ?_)
  · have hf := iteT hf hc
    refine g_iconst (v := (0 : Int32)) C dX10_ratesBy_40 (by decide) ?_
    refine g_istore_n (lv' := [some (.ref (E.2.1 + l0)), some (.int l1), some (.int l2), some (.int (0 : Int32))]) C dX10_ratesBy_41 (by decide) rfl ?_
    refine g_sub (lv' := [some (.ref (E.2.1 + l0)), some (.int l1), some (.int l2), some (.int (0 : Int32))]) ⟨rfl, ⟨rfl, ⟨rfl, ⟨rfl, trivial⟩⟩⟩⟩ ?_
    exact l_Mo_ratesBy_b42 C HR  FU hf
  · have hf := iteF hf hc
    refine g_iload_n C dX10_ratesBy_16 rfl ?_
    refine g_aload_n C dX10_ratesBy_17 rfl ?_
    refine g_iload_n C dX10_ratesBy_18 rfl ?_
    refine g_iconst (v := (1 : Int32)) C dX10_ratesBy_19 (by decide) ?_
    obtain ⟨x3, hg, h1, hf⟩ := vP_ok hf
    refine g_invV (As := [.int l3, .int (1 : Int32)]) (st := [.int l2]) C (c_Mo_need0 E h1) (rfl : vwCl[10]? = some (y_Mo_need0.cls, TX10, 24)) (by decide) hg ml_Mo_155 cm_Mo_need0.1 cm_Mo_need0.2.1 cm_Mo_need0.2.2.1 cm_Mo_need0.2.2.2.1 cm_Mo_need0.2.2.2.2 rfl ⟨by omega, by omega, by omega, by omega⟩ (by exact Nat.le_of_ble_eq_true rfl) rfl dX10_ratesBy_20 ?_
    refine g_iload_n C dX10_ratesBy_23 rfl ?_
    refine g_icmp_ne (tgt := 31) C dX10_ratesBy_24 (by decide) (fun hc => ?_) (fun hc => ?_)
    · have hf := iteF hf hc
      refine g_iconst (v := (0 : Int32)) C dX10_ratesBy_31 (by decide) ?_
      refine g_sub (lv' := [some (.ref (E.2.1 + l0)), some (.int l1), none, some (.int l3)]) ⟨rfl, ⟨rfl, ⟨rfl, trivial⟩⟩⟩ ?_
      exact l_Mo_ratesBy_b32 C HR K4 hf
    · have hf := iteT hf hc
      refine g_iconst (v := (1 : Int32)) C dX10_ratesBy_27 (by decide) ?_
      refine g_goto (tgt := 32) C dX10_ratesBy_28 (by decide) ?_
      refine g_sub (lv' := [some (.ref (E.2.1 + l0)), some (.int l1), none, some (.int l3)]) ⟨rfl, ⟨rfl, ⟨rfl, trivial⟩⟩⟩ ?_
      exact l_Mo_ratesBy_b32 C HR K4 hf
theorem l_Mo_ratesBy_b4 {E : EE} {X : CT} {G : Hp} (C : gCx E X cX10_ratesBy "FavoursGoOffModel" (some .int) 3 69 0 0 false 4) {r : Int32} (HR : gRet E X cX10_ratesBy (some .int) 0 0 (some (.int r)) G) : ∀ (nn : Nat) {l0 : Nat} {l1 : Int32} {l2 : Int32} {l3 : Int32}, f_Mo_ratesBy_b4 G nn l0 l1 l2 l3 = some r → gV E X 0 0 G 4 [some (.ref (E.2.1 + l0)), some (.int l1), some (.int l2), some (.int l3)] []
  | 0, _, _, _, _, hf => by have h0 : (none : Option Int32) = some r := hf; cases h0
  | nn + 1, _, _, _, _, hf => l_Mo_ratesBy_b4k C HR (fun h => l_Mo_ratesBy_b4 C HR nn h) hf
set_option maxRecDepth 20000 in
theorem l_Mo_ratesBy {E : EE} {X : CT} {G : Hp} (C : gCx E X cX10_ratesBy "FavoursGoOffModel" (some .int) 3 69 0 0 false 4) {r : Int32} (HR : gRet E X cX10_ratesBy (some .int) 0 0 (some (.int r)) G) {l0 : Nat} {l1 : Int32} (hf : f_Mo_ratesBy G l0 l1 = some r) : gV E X 0 0 G 0 [some (.ref (E.2.1 + l0)), some (.int l1), none, none] [] := by
  unfold f_Mo_ratesBy at hf
  refine g_iconst (v := (0 : Int32)) C dX10_ratesBy_0 (by decide) ?_
  refine g_istore_n (lv' := [some (.ref (E.2.1 + l0)), some (.int l1), some (.int (0 : Int32)), none]) C dX10_ratesBy_1 (by decide) rfl ?_
  refine g_iconst (v := (0 : Int32)) C dX10_ratesBy_2 (by decide) ?_
  refine g_istore_n (lv' := [some (.ref (E.2.1 + l0)), some (.int l1), some (.int (0 : Int32)), some (.int (0 : Int32))]) C dX10_ratesBy_3 (by decide) rfl ?_
  refine g_sub (lv' := [some (.ref (E.2.1 + l0)), some (.int l1), some (.int (0 : Int32)), some (.int (0 : Int32))]) ⟨rfl, ⟨rfl, ⟨rfl, ⟨rfl, trivial⟩⟩⟩⟩ ?_
  exact l_Mo_ratesBy_b4 C HR  FU hf
theorem c_Mo_ratesBy (E : EE) {G : Hp} {l0 : Nat} {l1 : Int32} {r : Int32} (h : f_Mo_ratesBy G l0 l1 = some r) : gCt E y_Mo_ratesBy cX10_ratesBy 4 (some .int) 3 69 0 0 [.ref (E.2.1 + l0), .int l1] G (some (.int r)) G := gCt_of (own := "FavoursGoOffModel") (ini := false) [some (.ref (E.2.1 + l0)), some (.int l1), none, none] (by decide +kernel) rfl (fun h => by cases h) (Nat.le_of_ble_eq_true rfl) ⟨rfl, ⟨rfl, trivial⟩⟩ (fun X C HR => l_Mo_ratesBy C HR h)
set_option maxRecDepth 20000 in
theorem l_Mo_hold_b21 {E : EE} {X : CT} {G : Hp} (C : gCx E X cX10_hold "FavoursGoOffModel" (some .int) 0 0 0 0 false 1) {r : Int32} (HR : gRet E X cX10_hold (some .int) 0 0 (some (.int r)) G) {s0 : Int32} (hf : f_Mo_hold_b21 G s0 = some r) : gV E X 0 0 G 21 [none] [.int s0] := by
  unfold f_Mo_hold_b21 at hf
  obtain rfl := rP_ok hf
  exact g_iret HR dX10_hold_21
set_option maxRecDepth 20000 in
theorem l_Mo_hold {E : EE} {X : CT} {G : Hp} (C : gCx E X cX10_hold "FavoursGoOffModel" (some .int) 0 0 0 0 false 1) {r : Int32} (HR : gRet E X cX10_hold (some .int) 0 0 (some (.int r)) G) {l0 : Int32} (hf : f_Mo_hold G l0 = some r) : gV E X 0 0 G 0 [some (.int l0)] [] := by
  unfold f_Mo_hold at hf
  refine g_iload_n C dX10_hold_0 rfl ?_
  refine g_iconst (v := (1 : Int32)) C dX10_hold_1 (by decide) ?_
  refine g_icmp_ge (tgt := 9) C dX10_hold_2 (by decide) (fun hc => ?_) (fun hc => ?_)
  · have hf := iteT hf hc
    refine g_iload_n C dX10_hold_9 rfl ?_
    refine g_bipush (v := (99 : Int32)) C dX10_hold_10 (by decide) ?_
    refine g_icmp_le (tgt := 20) C dX10_hold_12 (by decide) (fun hc => ?_) (fun hc => ?_)
    · have hf := iteT hf hc
      refine g_iload_n C dX10_hold_20 rfl ?_
      refine g_sub (lv' := [none]) trivial ?_
      exact l_Mo_hold_b21 C HR  hf
    · have hf := iteF hf hc
      refine g_bipush (v := (99 : Int32)) C dX10_hold_15 (by decide) ?_
      refine g_goto (tgt := 21) C dX10_hold_17 (by decide) ?_
      refine g_sub (lv' := [none]) trivial ?_
      exact l_Mo_hold_b21 C HR  hf
  · have hf := iteF hf hc
    refine g_iconst (v := (1 : Int32)) C dX10_hold_5 (by decide) ?_
    refine g_goto (tgt := 21) C dX10_hold_6 (by decide) ?_
    refine g_sub (lv' := [none]) trivial ?_
    exact l_Mo_hold_b21 C HR  hf
theorem c_Mo_hold (E : EE) {G : Hp} {l0 : Int32} {r : Int32} (h : f_Mo_hold G l0 = some r) : gCt E y_Mo_hold cX10_hold 1 (some .int) 0 0 0 0 [.int l0] G (some (.int r)) G := gCt_of (own := "FavoursGoOffModel") (ini := false) [some (.int l0)] (by decide +kernel) rfl (fun h => by cases h) (Nat.le_of_ble_eq_true rfl) ⟨rfl, trivial⟩ (fun X C HR => l_Mo_hold C HR h)
set_option maxRecDepth 20000 in
theorem l_Mo_rate_b19 {E : EE} {X : CT} {G : Hp} (C : gCx E X cX10_rate "FavoursGoOffModel" (some .int) 4 92 0 0 false 6) {r : Int32} {G' : Hp} (HR : gRet E X cX10_rate (some .int) 0 0 (some (.int r)) G') {l0 : Nat} (hf : f_Mo_rate_b19 G l0 = some (r, G')) : gV E X 0 0 G 19 [some (.ref (E.2.1 + l0)), none, none, none, none, none] [] := by
  unfold f_Mo_rate_b19 at hf
  refine g_aload_n C dX10_rate_19 rfl ?_
  refine g_bipush (v := (-2 : Int32)) C dX10_rate_20 (by decide) ?_
  obtain ⟨x1, G2, hg, h1, hf⟩ := vH_ok hf
  refine g_invV (As := [.int (-2 : Int32)]) (st := []) C (c_Mo_bad E h1) (rfl : vwCl[10]? = some (y_Mo_bad.cls, TX10, 24)) (by decide) hg ml_Mo_80 cm_Mo_bad.1 cm_Mo_bad.2.1 cm_Mo_bad.2.2.1 cm_Mo_bad.2.2.2.1 cm_Mo_bad.2.2.2.2 rfl ⟨by omega, by omega, by omega, by omega⟩ (by exact Nat.le_of_ble_eq_true rfl) rfl dX10_rate_22 ?_
  obtain ⟨rfl, rfl⟩ := rH_ok hf
  exact g_iret HR dX10_rate_25
set_option maxRecDepth 20000 in
theorem l_Mo_rate_b47k {E : EE} {X : CT} {G : Hp} (C : gCx E X cX10_rate "FavoursGoOffModel" (some .int) 4 92 0 0 false 6) {r : Int32} {G' : Hp} (HR : gRet E X cX10_rate (some .int) 0 0 (some (.int r)) G') {k47 : Hp → Int32 → Int32 → Int32 → Int32 → Option (Int32 × Hp)} (K47 : ∀ {G : Hp} {l2 : Int32} {l3 : Int32} {l4 : Int32} {l5 : Int32}, k47 G l2 l3 l4 l5 = some (r, G') → gV E X 0 0 G 47 [none, none, some (.int l2), some (.int l3), some (.int l4), some (.int l5)] []) {l2 : Int32} {l3 : Int32} {l4 : Int32} {l5 : Int32} (hf : f_Mo_rate_b47_k k47 G l2 l3 l4 l5 = some (r, G')) : gV E X 0 0 G 47 [none, none, some (.int l2), some (.int l3), some (.int l4), some (.int l5)] [] := by
  unfold f_Mo_rate_b47_k at hf
  refine g_iload C dX10_rate_47 rfl ?_
  refine g_iload_n C dX10_rate_49 rfl ?_
  refine g_icmp_ge (tgt := 67) C dX10_rate_50 (by decide) (fun hc => ?_) (fun hc => ?_)
  · have hf := iteT hf hc
    refine g_iload_n C dX10_rate_67 rfl ?_
    obtain ⟨rfl, rfl⟩ := rH_ok hf
    exact g_iret HR dX10_rate_68
  · have hf := iteF hf hc
    refine g_iload_n C dX10_rate_53 rfl ?_
    refine g_iload C dX10_rate_54 rfl ?_
    refine g_iadd C dX10_rate_56 ?_
    obtain ⟨x1, h1, hf⟩ := cP_ok hf
    refine g_invS (As := [.int (l3 + l4)]) (st := []) C (c_Mo_hold E h1) ml_Mo_186 cm_Mo_hold.1 cm_Mo_hold.2.1 cm_Mo_hold.2.2.1 cm_Mo_hold.2.2.2 rfl ⟨by omega, by omega, by omega, by omega⟩ (by exact Nat.le_of_ble_eq_true rfl) rfl dX10_rate_57 ?_
    refine g_istore_n (lv' := [none, none, some (.int l2), some (.int x1), some (.int l4), some (.int l5)]) C dX10_rate_60 (by decide) rfl ?_
    refine g_iinc (v := (l5 + 1)) (lv' := [none, none, some (.int l2), some (.int x1), some (.int l4), some (.int (l5 + 1))]) C dX10_rate_61 (by decide) rfl rfl rfl ?_
    refine g_goto (tgt := 47) C dX10_rate_64 (by decide) ?_
    refine g_sub (lv' := [none, none, some (.int l2), some (.int x1), some (.int l4), some (.int (l5 + 1))]) ⟨rfl, ⟨rfl, ⟨rfl, ⟨rfl, trivial⟩⟩⟩⟩ ?_
    exact K47 hf
theorem l_Mo_rate_b47 {E : EE} {X : CT} (C : gCx E X cX10_rate "FavoursGoOffModel" (some .int) 4 92 0 0 false 6) {r : Int32} {G' : Hp} (HR : gRet E X cX10_rate (some .int) 0 0 (some (.int r)) G') : ∀ (nn : Nat) {G : Hp} {l2 : Int32} {l3 : Int32} {l4 : Int32} {l5 : Int32}, f_Mo_rate_b47 nn G l2 l3 l4 l5 = some (r, G') → gV E X 0 0 G 47 [none, none, some (.int l2), some (.int l3), some (.int l4), some (.int l5)] []
  | 0, _, _, _, _, _, hf => by have h0 : (none : Option (Int32 × Hp)) = some (r, G') := hf; cases h0
  | nn + 1, _, _, _, _, _, hf => l_Mo_rate_b47k C HR (fun h => l_Mo_rate_b47 C HR nn h) hf
set_option maxRecDepth 20000 in
theorem l_Mo_rate {E : EE} {X : CT} {G : Hp} (C : gCx E X cX10_rate "FavoursGoOffModel" (some .int) 4 92 0 0 false 6) {r : Int32} {G' : Hp} (HR : gRet E X cX10_rate (some .int) 0 0 (some (.int r)) G') {l0 : Nat} {l1 : Int32} {l2 : Int32} (hf : f_Mo_rate G l0 l1 l2 = some (r, G')) : gV E X 0 0 G 0 [some (.ref (E.2.1 + l0)), some (.int l1), some (.int l2), none, none, none] [] := by
  unfold f_Mo_rate at hf
  refine g_iload_n C dX10_rate_0 rfl ?_
  obtain ⟨x1, h1, hf⟩ := cP_ok hf
  refine g_invS (As := [.int l1]) (st := []) C (c_Mo_isThing E h1) ml_Mo_90 cm_Mo_isThing.1 cm_Mo_isThing.2.1 cm_Mo_isThing.2.2.1 cm_Mo_isThing.2.2.2 rfl ⟨by omega, by omega, by omega, by omega⟩ (by exact Nat.le_of_ble_eq_true rfl) rfl dX10_rate_1 ?_
  refine g_if_eq (tgt := 19) C dX10_rate_4 (by decide) (fun hc => ?_) (fun hc => ?_)
  · have hf := iteT hf hc
    refine g_sub (lv' := [some (.ref (E.2.1 + l0)), none, none, none, none, none]) ⟨rfl, trivial⟩ ?_
    exact l_Mo_rate_b19 C HR  hf
  · have hf := iteF hf hc
    refine g_iload_n C dX10_rate_7 rfl ?_
    refine g_i2l C dX10_rate_8 ?_
    refine g_lconst (v := (0 : Int64)) C dX10_rate_9 (by decide) ?_
    refine g_ldc2 (v := (99 : Int64)) C dX10_rate_10 kl_Mo_72 ?_
    obtain ⟨x2, h1, hf⟩ := cP_ok hf
    refine g_invS (As := [.long l2.toInt64, .long (0 : Int64), .long (99 : Int64)]) (st := []) C (c_Mo_in E h1) ml_Mo_68 cm_Mo_in.1 cm_Mo_in.2.1 cm_Mo_in.2.2.1 cm_Mo_in.2.2.2 rfl ⟨by omega, by omega, by omega, by omega⟩ (by exact Nat.le_of_ble_eq_true rfl) rfl dX10_rate_13 ?_
    refine g_if_ne (tgt := 26) C dX10_rate_16 (by decide) (fun hc => ?_) (fun hc => ?_)
    · have hf := iteF hf hc
      refine g_aload_n C dX10_rate_26 rfl ?_
      obtain ⟨x3, hg, hf⟩ := gR_ok hf
      refine g_getR C fl_Mo_7 dX10_rate_27 hg ?_
      refine g_sipush (v := (154 : Int32)) C dX10_rate_30 (by decide) ?_
      refine g_iload_n C dX10_rate_33 rfl ?_
      refine g_iadd C dX10_rate_34 ?_
      obtain ⟨x4, hx4, hg, hf⟩ := aI_ok hf
      refine e_iald C dX10_rate_35 hx4 hg ?_
      refine g_istore_n (lv' := [some (.ref (E.2.1 + l0)), some (.int l1), some (.int l2), some (.int x4), none, none]) C dX10_rate_36 (by decide) rfl ?_
      refine g_aload_n C dX10_rate_37 rfl ?_
      refine g_iload_n C dX10_rate_38 rfl ?_
      obtain ⟨x5, hg, h1, hf⟩ := vP_ok hf
      refine g_invV (As := [.int l1]) (st := []) C (c_Mo_ratesBy E h1) (rfl : vwCl[10]? = some (y_Mo_ratesBy.cls, TX10, 24)) (by decide) hg ml_Mo_183 cm_Mo_ratesBy.1 cm_Mo_ratesBy.2.1 cm_Mo_ratesBy.2.2.1 cm_Mo_ratesBy.2.2.2.1 cm_Mo_ratesBy.2.2.2.2 rfl ⟨by omega, by omega, by omega, by omega⟩ (by exact Nat.le_of_ble_eq_true rfl) rfl dX10_rate_39 ?_
      refine g_istore (lv' := [some (.ref (E.2.1 + l0)), some (.int l1), some (.int l2), some (.int x4), some (.int x5), none]) C dX10_rate_42 (by decide) rfl ?_
      refine g_iconst (v := (0 : Int32)) C dX10_rate_44 (by decide) ?_
      refine g_istore (lv' := [some (.ref (E.2.1 + l0)), some (.int l1), some (.int l2), some (.int x4), some (.int x5), some (.int (0 : Int32))]) C dX10_rate_45 (by decide) rfl ?_
      refine g_sub (lv' := [none, none, some (.int l2), some (.int x4), some (.int x5), some (.int (0 : Int32))]) ⟨rfl, ⟨rfl, ⟨rfl, ⟨rfl, trivial⟩⟩⟩⟩ ?_
      exact l_Mo_rate_b47 C HR  FU hf
    · have hf := iteT hf hc
      refine g_sub (lv' := [some (.ref (E.2.1 + l0)), none, none, none, none, none]) ⟨rfl, trivial⟩ ?_
      exact l_Mo_rate_b19 C HR  hf
theorem c_Mo_rate (E : EE) {G : Hp} {l0 : Nat} {l1 : Int32} {l2 : Int32} {r : Int32} {G' : Hp} (h : f_Mo_rate G l0 l1 l2 = some (r, G')) : gCt E y_Mo_rate cX10_rate 6 (some .int) 4 92 0 0 [.ref (E.2.1 + l0), .int l1, .int l2] G (some (.int r)) G' := gCt_of (own := "FavoursGoOffModel") (ini := false) [some (.ref (E.2.1 + l0)), some (.int l1), some (.int l2), none, none, none] (by decide +kernel) rfl (fun h => by cases h) (Nat.le_of_ble_eq_true rfl) ⟨rfl, ⟨rfl, ⟨rfl, trivial⟩⟩⟩ (fun X C HR => l_Mo_rate C HR h)
set_option maxRecDepth 20000 in
theorem l_Mo_set_b19 {E : EE} {X : CT} {G : Hp} (C : gCx E X cX10_set "FavoursGoOffModel" (some .int) 2 45 0 0 false 4) {r : Int32} {G' : Hp} (HR : gRet E X cX10_set (some .int) 0 0 (some (.int r)) G') {l0 : Nat} (hf : f_Mo_set_b19 G l0 = some (r, G')) : gV E X 0 0 G 19 [some (.ref (E.2.1 + l0)), none, none, none] [] := by
  unfold f_Mo_set_b19 at hf
  refine g_aload_n C dX10_set_19 rfl ?_
  refine g_bipush (v := (-2 : Int32)) C dX10_set_20 (by decide) ?_
  obtain ⟨x1, G2, hg, h1, hf⟩ := vH_ok hf
  refine g_invV (As := [.int (-2 : Int32)]) (st := []) C (c_Mo_bad E h1) (rfl : vwCl[10]? = some (y_Mo_bad.cls, TX10, 24)) (by decide) hg ml_Mo_80 cm_Mo_bad.1 cm_Mo_bad.2.1 cm_Mo_bad.2.2.1 cm_Mo_bad.2.2.2.1 cm_Mo_bad.2.2.2.2 rfl ⟨by omega, by omega, by omega, by omega⟩ (by exact Nat.le_of_ble_eq_true rfl) rfl dX10_set_22 ?_
  obtain ⟨rfl, rfl⟩ := rH_ok hf
  exact g_iret HR dX10_set_25
set_option maxRecDepth 20000 in
theorem l_Mo_set {E : EE} {X : CT} {G : Hp} (C : gCx E X cX10_set "FavoursGoOffModel" (some .int) 2 45 0 0 false 4) {r : Int32} {G' : Hp} (HR : gRet E X cX10_set (some .int) 0 0 (some (.int r)) G') {l0 : Nat} {l1 : Int32} {l2 : Int32} (hf : f_Mo_set G l0 l1 l2 = some (r, G')) : gV E X 0 0 G 0 [some (.ref (E.2.1 + l0)), some (.int l1), some (.int l2), none] [] := by
  unfold f_Mo_set at hf
  refine g_iload_n C dX10_set_0 rfl ?_
  obtain ⟨x1, h1, hf⟩ := cP_ok hf
  refine g_invS (As := [.int l1]) (st := []) C (c_Mo_isThing E h1) ml_Mo_90 cm_Mo_isThing.1 cm_Mo_isThing.2.1 cm_Mo_isThing.2.2.1 cm_Mo_isThing.2.2.2 rfl ⟨by omega, by omega, by omega, by omega⟩ (by exact Nat.le_of_ble_eq_true rfl) rfl dX10_set_1 ?_
  refine g_if_eq (tgt := 19) C dX10_set_4 (by decide) (fun hc => ?_) (fun hc => ?_)
  · have hf := iteT hf hc
    refine g_sub (lv' := [some (.ref (E.2.1 + l0)), none, none, none]) ⟨rfl, trivial⟩ ?_
    exact l_Mo_set_b19 C HR  hf
  · have hf := iteF hf hc
    refine g_iload_n C dX10_set_7 rfl ?_
    refine g_i2l C dX10_set_8 ?_
    refine g_lconst (v := (1 : Int64)) C dX10_set_9 (by decide) ?_
    refine g_ldc2 (v := (99 : Int64)) C dX10_set_10 kl_Mo_72 ?_
    obtain ⟨x2, h1, hf⟩ := cP_ok hf
    refine g_invS (As := [.long l2.toInt64, .long (1 : Int64), .long (99 : Int64)]) (st := []) C (c_Mo_in E h1) ml_Mo_68 cm_Mo_in.1 cm_Mo_in.2.1 cm_Mo_in.2.2.1 cm_Mo_in.2.2.2 rfl ⟨by omega, by omega, by omega, by omega⟩ (by exact Nat.le_of_ble_eq_true rfl) rfl dX10_set_13 ?_
    refine g_if_ne (tgt := 26) C dX10_set_16 (by decide) (fun hc => ?_) (fun hc => ?_)
    · have hf := iteF hf hc
      refine g_aload_n C dX10_set_26 rfl ?_
      obtain ⟨x3, hg, hf⟩ := gR_ok hf
      refine g_getR C fl_Mo_7 dX10_set_27 hg ?_
      refine g_sipush (v := (154 : Int32)) C dX10_set_30 (by decide) ?_
      refine g_iload_n C dX10_set_33 rfl ?_
      refine g_iadd C dX10_set_34 ?_
      obtain ⟨x4, hx4, hg, hf⟩ := aI_ok hf
      refine e_iald C dX10_set_35 hx4 hg ?_
      refine g_istore_n (lv' := [some (.ref (E.2.1 + l0)), some (.int l1), some (.int l2), some (.int x4)]) C dX10_set_36 (by decide) rfl ?_
      refine g_aload_n C dX10_set_37 rfl ?_
      obtain ⟨x5, hg, hf⟩ := gR_ok hf
      refine g_getR C fl_Mo_7 dX10_set_38 hg ?_
      refine g_sipush (v := (154 : Int32)) C dX10_set_41 (by decide) ?_
      refine g_iload_n C dX10_set_44 rfl ?_
      refine g_iadd C dX10_set_45 ?_
      refine g_iload_n C dX10_set_46 rfl ?_
      obtain ⟨G6, hG6, hg, hf⟩ := sI_ok hf
      refine e_iast C dX10_set_47 hG6 hg ?_
      refine g_iload_n C dX10_set_48 rfl ?_
      obtain ⟨rfl, rfl⟩ := rH_ok hf
      exact g_iret HR dX10_set_49
    · have hf := iteT hf hc
      refine g_sub (lv' := [some (.ref (E.2.1 + l0)), none, none, none]) ⟨rfl, trivial⟩ ?_
      exact l_Mo_set_b19 C HR  hf
theorem c_Mo_set (E : EE) {G : Hp} {l0 : Nat} {l1 : Int32} {l2 : Int32} {r : Int32} {G' : Hp} (h : f_Mo_set G l0 l1 l2 = some (r, G')) : gCt E y_Mo_set cX10_set 4 (some .int) 2 45 0 0 [.ref (E.2.1 + l0), .int l1, .int l2] G (some (.int r)) G' := gCt_of (own := "FavoursGoOffModel") (ini := false) [some (.ref (E.2.1 + l0)), some (.int l1), some (.int l2), none] (by decide +kernel) rfl (fun h => by cases h) (Nat.le_of_ble_eq_true rfl) ⟨rfl, ⟨rfl, ⟨rfl, trivial⟩⟩⟩ (fun X C HR => l_Mo_set C HR h)
