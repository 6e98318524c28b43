/-! ===== each method does as its function says ===== -/
set_option maxRecDepth 20000 in
theorem l_Mo_takes_b23 {E : EE} {X : CT} {G : Hp} (C : gCx E X cX10_takes "FavoursGoOffModel" (some .boolean) 4 89 0 0 false 4) {r : Int32} {G' : Hp} (HR : gRet E X cX10_takes (some .boolean) 0 0 (some (.int r)) G') (hf : f_Mo_takes_b23 G = some (r, G')) : gV E X 0 0 G 23 [none, none, none, none] [] := by
  unfold f_Mo_takes_b23 at hf
  refine g_iconst (v := (0 : Int32)) C dX10_takes_23 (by decide) ?_
  obtain ⟨rfl, rfl⟩ := rH_ok hf
  exact g_zret HR (Or.inl rfl) dX10_takes_24
set_option maxRecDepth 20000 in
theorem l_Mo_takes {E : EE} {X : CT} {G : Hp} (C : gCx E X cX10_takes "FavoursGoOffModel" (some .boolean) 4 89 0 0 false 4) {r : Int32} {G' : Hp} (HR : gRet E X cX10_takes (some .boolean) 0 0 (some (.int r)) G') {l0 : Nat} {l1 : Int32} {l2 : Int32} {l3 : Int32} (hf : f_Mo_takes G l0 l1 l2 l3 = some (r, G')) : gV E X 0 0 G 0 [some (.ref (E.2.1 + l0)), some (.int l1), some (.int l2), some (.int l3)] [] := by
  unfold f_Mo_takes at hf
  refine g_aload_n C dX10_takes_0 rfl ?_
  obtain ⟨x1, hx1, hg, hf⟩ := gI_ok hf
  refine e_getI C fl_Mo_218 dX10_takes_1 hx1 hg ?_
  refine g_iconst (v := (2 : Int32)) C dX10_takes_4 (by decide) ?_
  refine g_icmp_ne (tgt := 23) C dX10_takes_5 (by decide) (fun hc => ?_) (fun hc => ?_)
  · have hf := iteF hf hc
    refine g_sub (lv' := [none, none, none, none]) trivial ?_
    exact l_Mo_takes_b23 C HR  hf
  · have hf := iteT hf hc
    refine g_aload_n C dX10_takes_8 rfl ?_
    obtain ⟨x2, hx2, hg, hf⟩ := gI_ok hf
    refine e_getI C fl_Mo_221 dX10_takes_9 hx2 hg ?_
    refine g_i2l C dX10_takes_12 ?_
    refine g_iload_n C dX10_takes_13 rfl ?_
    refine g_i2l C dX10_takes_14 ?_
    refine g_iload_n C dX10_takes_15 rfl ?_
    refine g_i2l C dX10_takes_16 ?_
    obtain ⟨x3, h1, hf⟩ := cP_ok hf
    refine g_invS (As := [.long x2.toInt64, .long l2.toInt64, .long l3.toInt64]) (st := []) C (c_Mo_in E h1) ml_Mo_68 cm_Mo_in.1 cm_Mo_in.2.1 cm_Mo_in.2.2.1 cm_Mo_in.2.2.2 rfl ⟨by omega, by omega, by omega, by omega⟩ (by exact Nat.le_of_ble_eq_true rfl) rfl dX10_takes_17 ?_
    refine g_if_ne (tgt := 25) C dX10_takes_20 (by decide) (fun hc => ?_) (fun hc => ?_)
    · have hf := iteF hf hc
      refine g_aload_n C dX10_takes_25 rfl ?_
      obtain ⟨x4, hg, hf⟩ := gR_ok hf
      refine g_getR C fl_Mo_54 dX10_takes_26 hg ?_
      refine g_iload_n C dX10_takes_29 rfl ?_
      refine g_aload_n C dX10_takes_30 rfl ?_
      obtain ⟨x5, hx5, hg, hf⟩ := gI_ok hf
      refine e_getI C fl_Mo_221 dX10_takes_31 hx5 hg ?_
      obtain ⟨G6, hG6, hg, hf⟩ := sI_ok hf
      refine e_iast C dX10_takes_34 hG6 hg ?_
      refine g_aload_n C dX10_takes_35 rfl ?_
      obtain ⟨G7, hg, h1, hf⟩ := vP_ok hf
      refine g_invV (As := []) (st := []) C (c_Mo_goOn E h1) (rfl : vwCl[10]? = some (y_Mo_goOn.cls, TX10, 24)) (by decide) hg ml_Mo_233 cm_Mo_goOn.1 cm_Mo_goOn.2.1 cm_Mo_goOn.2.2.1 cm_Mo_goOn.2.2.2.1 cm_Mo_goOn.2.2.2.2 rfl ⟨by omega, by omega, by omega, by omega⟩ (by exact Nat.le_of_ble_eq_true rfl) rfl dX10_takes_36 ?_
      refine g_iconst (v := (1 : Int32)) C dX10_takes_39 (by decide) ?_
      obtain ⟨rfl, rfl⟩ := rH_ok hf
      exact g_zret HR (Or.inr rfl) dX10_takes_40
    · have hf := iteT hf hc
      refine g_sub (lv' := [none, none, none, none]) trivial ?_
      exact l_Mo_takes_b23 C HR  hf
theorem c_Mo_takes (E : EE) {G : Hp} {l0 : Nat} {l1 : Int32} {l2 : Int32} {l3 : Int32} {r : Int32} {G' : Hp} (h : f_Mo_takes G l0 l1 l2 l3 = some (r, G')) : gCt E y_Mo_takes cX10_takes 4 (some .boolean) 4 89 0 0 [.ref (E.2.1 + l0), .int l1, .int l2, .int l3] G (some (.int r)) G' := gCt_of (own := "FavoursGoOffModel") (ini := false) [some (.ref (E.2.1 + l0)), some (.int l1), some (.int l2), some (.int l3)] (by decide +kernel) rfl (fun h => by cases h) (Nat.le_of_ble_eq_true rfl) ⟨rfl, ⟨rfl, ⟨rfl, ⟨rfl, trivial⟩⟩⟩⟩ (fun X C HR => l_Mo_takes C HR h)
set_option maxRecDepth 20000 in
theorem l_Mo_readsStrong_b32 {E : EE} {X : CT} {G : Hp} (C : gCx E X cX10_readsStrong "FavoursGoOffModel" (some .boolean) 5 112 0 0 false 1) {r : Int32} {G' : Hp} (HR : gRet E X cX10_readsStrong (some .boolean) 0 0 (some (.int r)) G') (hf : f_Mo_readsStrong_b32 G = some (r, G')) : gV E X 0 0 G 32 [none] [] := by
  unfold f_Mo_readsStrong_b32 at hf
  refine g_iconst (v := (0 : Int32)) C dX10_readsStrong_32 (by decide) ?_
  obtain ⟨rfl, rfl⟩ := rH_ok hf
  exact g_zret HR (Or.inl rfl) dX10_readsStrong_33
set_option maxRecDepth 20000 in
theorem l_Mo_readsStrong {E : EE} {X : CT} {G : Hp} (C : gCx E X cX10_readsStrong "FavoursGoOffModel" (some .boolean) 5 112 0 0 false 1) {r : Int32} {G' : Hp} (HR : gRet E X cX10_readsStrong (some .boolean) 0 0 (some (.int r)) G') {l0 : Nat} (hf : f_Mo_readsStrong G l0 = some (r, G')) : gV E X 0 0 G 0 [some (.ref (E.2.1 + l0))] [] := by
  unfold f_Mo_readsStrong at hf
  refine g_aload_n C dX10_readsStrong_0 rfl ?_
  obtain ⟨G1, hg, h1, hf⟩ := vP_ok hf
  refine g_invV (As := []) (st := []) C (c_Mo_goOn E h1) (rfl : vwCl[10]? = some (y_Mo_goOn.cls, TX10, 24)) (by decide) hg ml_Mo_233 cm_Mo_goOn.1 cm_Mo_goOn.2.1 cm_Mo_goOn.2.2.1 cm_Mo_goOn.2.2.2.1 cm_Mo_goOn.2.2.2.2 rfl ⟨by omega, by omega, by omega, by omega⟩ (by exact Nat.le_of_ble_eq_true rfl) rfl dX10_readsStrong_1 ?_
  refine g_aload_n C dX10_readsStrong_4 rfl ?_
  refine g_iconst (v := (0 : Int32)) C dX10_readsStrong_5 (by decide) ?_
  refine g_iconst (v := (0 : Int32)) C dX10_readsStrong_6 (by decide) ?_
  refine g_aload_n C dX10_readsStrong_7 rfl ?_
  obtain ⟨x2, hg, hf⟩ := gR_ok hf
  refine g_getR C fl_Mo_51 dX10_readsStrong_8 hg ?_
  refine g_iconst (v := (1 : Int32)) C dX10_readsStrong_11 (by decide) ?_
  obtain ⟨x3, hx3, hg, hf⟩ := aI_ok hf
  refine e_iald C dX10_readsStrong_12 hx3 hg ?_
  refine g_iconst (v := (1 : Int32)) C dX10_readsStrong_13 (by decide) ?_
  refine g_isub C dX10_readsStrong_14 ?_
  obtain ⟨x4, G5, hg, h1, hf⟩ := vH_ok hf
  refine g_invV (As := [.int (0 : Int32), .int (0 : Int32), .int (x3 - (1 : Int32))]) (st := []) C (c_Mo_takes E h1) (rfl : vwCl[10]? = some (y_Mo_takes.cls, TX10, 24)) (by decide) hg ml_Mo_236 cm_Mo_takes.1 cm_Mo_takes.2.1 cm_Mo_takes.2.2.1 cm_Mo_takes.2.2.2.1 cm_Mo_takes.2.2.2.2 rfl ⟨by omega, by omega, by omega, by omega⟩ (by exact Nat.le_of_ble_eq_true rfl) rfl dX10_readsStrong_15 ?_
  refine g_if_eq (tgt := 32) C dX10_readsStrong_18 (by decide) (fun hc => ?_) (fun hc => ?_)
  · have hf := iteT hf hc
    refine g_sub (lv' := [none]) trivial ?_
    exact l_Mo_readsStrong_b32 C HR  hf
  · have hf := iteF hf hc
    refine g_aload_n C dX10_readsStrong_21 rfl ?_
    refine g_iconst (v := (1 : Int32)) C dX10_readsStrong_22 (by decide) ?_
    refine g_iconst (v := (0 : Int32)) C dX10_readsStrong_23 (by decide) ?_
    refine g_bipush (v := (99 : Int32)) C dX10_readsStrong_24 (by decide) ?_
    obtain ⟨x6, G7, hg, h1, hf⟩ := vH_ok hf
    refine g_invV (As := [.int (1 : Int32), .int (0 : Int32), .int (99 : Int32)]) (st := []) C (c_Mo_takes E h1) (rfl : vwCl[10]? = some (y_Mo_takes.cls, TX10, 24)) (by decide) hg ml_Mo_236 cm_Mo_takes.1 cm_Mo_takes.2.1 cm_Mo_takes.2.2.1 cm_Mo_takes.2.2.2.1 cm_Mo_takes.2.2.2.2 rfl ⟨by omega, by omega, by omega, by omega⟩ (by exact Nat.le_of_ble_eq_true rfl) rfl dX10_readsStrong_26 ?_
    refine g_if_ne (tgt := 34) C dX10_readsStrong_29 (by decide) (fun hc => ?_) (fun hc => ?_)
    · have hf := iteF hf hc
      refine g_aload_n C dX10_readsStrong_34 rfl ?_
      obtain ⟨x8, hg, hf⟩ := gR_ok hf
      refine g_getR C fl_Mo_51 dX10_readsStrong_35 hg ?_
      refine g_iconst (v := (2 : Int32)) C dX10_readsStrong_38 (by decide) ?_
      refine g_aload_n C dX10_readsStrong_39 rfl ?_
      obtain ⟨x9, hg, hf⟩ := gR_ok hf
      refine g_getR C fl_Mo_54 dX10_readsStrong_40 hg ?_
      refine g_iconst (v := (0 : Int32)) C dX10_readsStrong_43 (by decide) ?_
      obtain ⟨x10, hx10, hg, hf⟩ := aI_ok hf
      refine e_iald C dX10_readsStrong_44 hx10 hg ?_
      refine g_iadd C dX10_readsStrong_45 ?_
      refine g_aload_n C dX10_readsStrong_46 rfl ?_
      obtain ⟨x11, hg, hf⟩ := gR_ok hf
      refine g_getR C fl_Mo_54 dX10_readsStrong_47 hg ?_
      refine g_iconst (v := (1 : Int32)) C dX10_readsStrong_50 (by decide) ?_
      obtain ⟨x12, hx12, hg, hf⟩ := aI_ok hf
      refine e_iald C dX10_readsStrong_51 hx12 hg ?_
      obtain ⟨G13, hG13, hg, hf⟩ := sI_ok hf
      refine e_iast C dX10_readsStrong_52 hG13 hg ?_
      refine g_iconst (v := (1 : Int32)) C dX10_readsStrong_53 (by decide) ?_
      obtain ⟨rfl, rfl⟩ := rH_ok hf
      exact g_zret HR (Or.inr rfl) dX10_readsStrong_54
    · have hf := iteT hf hc
      refine g_sub (lv' := [none]) trivial ?_
      exact l_Mo_readsStrong_b32 C HR  hf
theorem c_Mo_readsStrong (E : EE) {G : Hp} {l0 : Nat} {r : Int32} {G' : Hp} (h : f_Mo_readsStrong G l0 = some (r, G')) : gCt E y_Mo_readsStrong cX10_readsStrong 1 (some .boolean) 5 112 0 0 [.ref (E.2.1 + l0)] G (some (.int r)) G' := gCt_of (own := "FavoursGoOffModel") (ini := false) [some (.ref (E.2.1 + l0))] (by decide +kernel) rfl (fun h => by cases h) (Nat.le_of_ble_eq_true rfl) ⟨rfl, trivial⟩ (fun X C HR => l_Mo_readsStrong C HR h)
set_option maxRecDepth 20000 in
theorem l_Mo_readsFavour_b48 {E : EE} {X : CT} {G : Hp} (C : gCx E X cX10_readsFavour "FavoursGoOffModel" (some .boolean) 5 112 0 0 false 2) {r : Int32} {G' : Hp} (HR : gRet E X cX10_readsFavour (some .boolean) 0 0 (some (.int r)) G') (hf : f_Mo_readsFavour_b48 G = some (r, G')) : gV E X 0 0 G 48 [none, none] [] := by
  unfold f_Mo_readsFavour_b48 at hf
  refine g_iconst (v := (0 : Int32)) C dX10_readsFavour_48 (by decide) ?_
  obtain ⟨rfl, rfl⟩ := rH_ok hf
  exact g_zret HR (Or.inl rfl) dX10_readsFavour_49
set_option maxRecDepth 20000 in
theorem l_Mo_readsFavour_b88 {E : EE} {X : CT} {G : Hp} (C : gCx E X cX10_readsFavour "FavoursGoOffModel" (some .boolean) 5 112 0 0 false 2) {r : Int32} {G' : Hp} (HR : gRet E X cX10_readsFavour (some .boolean) 0 0 (some (.int r)) G') (hf : f_Mo_readsFavour_b88 G = some (r, G')) : gV E X 0 0 G 88 [none, none] [] := by
  unfold f_Mo_readsFavour_b88 at hf
  refine g_iconst (v := (0 : Int32)) C dX10_readsFavour_88 (by decide) ?_
  obtain ⟨rfl, rfl⟩ := rH_ok hf
  exact g_zret HR (Or.inl rfl) dX10_readsFavour_89
set_option maxRecDepth 20000 in
theorem l_Mo_readsFavour_b122 {E : EE} {X : CT} {G : Hp} (C : gCx E X cX10_readsFavour "FavoursGoOffModel" (some .boolean) 5 112 0 0 false 2) {r : Int32} {G' : Hp} (HR : gRet E X cX10_readsFavour (some .boolean) 0 0 (some (.int r)) G') (hf : f_Mo_readsFavour_b122 G = some (r, G')) : gV E X 0 0 G 122 [none, none] [] := by
  unfold f_Mo_readsFavour_b122 at hf
  refine g_iconst (v := (0 : Int32)) C dX10_readsFavour_122 (by decide) ?_
  obtain ⟨rfl, rfl⟩ := rH_ok hf
  exact g_zret HR (Or.inl rfl) dX10_readsFavour_123
set_option maxRecDepth 20000 in
theorem l_Mo_readsFavour_b71 {E : EE} {X : CT} {G : Hp} (C : gCx E X cX10_readsFavour "FavoursGoOffModel" (some .boolean) 5 112 0 0 false 2) {r : Int32} {G' : Hp} (HR : gRet E X cX10_readsFavour (some .boolean) 0 0 (some (.int r)) G') {l0 : Nat} {l1 : Int32} (hf : f_Mo_readsFavour_b71 G l0 l1 = some (r, G')) : gV E X 0 0 G 71 [some (.ref (E.2.1 + l0)), some (.int l1)] [] := by
  unfold f_Mo_readsFavour_b71 at hf
  refine g_aload_n C dX10_readsFavour_71 rfl ?_
  refine g_iconst (v := (2 : Int32)) C dX10_readsFavour_72 (by decide) ?_
  refine g_iconst (v := (0 : Int32)) C dX10_readsFavour_73 (by decide) ?_
  refine g_aload_n C dX10_readsFavour_74 rfl ?_
  obtain ⟨x1, hg, hf⟩ := gR_ok hf
  refine g_getR C fl_Mo_51 dX10_readsFavour_75 hg ?_
  refine g_iconst (v := (1 : Int32)) C dX10_readsFavour_78 (by decide) ?_
  obtain ⟨x2, hx2, hg, hf⟩ := aI_ok hf
  refine e_iald C dX10_readsFavour_79 hx2 hg ?_
  refine g_iconst (v := (1 : Int32)) C dX10_readsFavour_80 (by decide) ?_
  refine g_isub C dX10_readsFavour_81 ?_
  obtain ⟨x3, G4, hg, h1, hf⟩ := vH_ok hf
  refine g_invV (As := [.int (2 : Int32), .int (0 : Int32), .int (x2 - (1 : Int32))]) (st := []) C (c_Mo_takes E h1) (rfl : vwCl[10]? = some (y_Mo_takes.cls, TX10, 24)) (by decide) hg ml_Mo_236 cm_Mo_takes.1 cm_Mo_takes.2.1 cm_Mo_takes.2.2.1 cm_Mo_takes.2.2.2.1 cm_Mo_takes.2.2.2.2 rfl ⟨by omega, by omega, by omega, by omega⟩ (by exact Nat.le_of_ble_eq_true rfl) rfl dX10_readsFavour_82 ?_
  refine g_if_ne (tgt := 90) C dX10_readsFavour_85 (by decide) (fun hc => ?_) (fun hc => ?_)
  · have hf := iteF hf hc
    refine g_aload_n C dX10_readsFavour_90 rfl ?_
    refine g_iconst (v := (3 : Int32)) C dX10_readsFavour_91 (by decide) ?_
    refine g_iconst (v := (0 : Int32)) C dX10_readsFavour_92 (by decide) ?_
    refine g_iconst (v := (3 : Int32)) C dX10_readsFavour_93 (by decide) ?_
    obtain ⟨x5, G6, hg, h1, hf⟩ := vH_ok hf
    refine g_invV (As := [.int (3 : Int32), .int (0 : Int32), .int (3 : Int32)]) (st := []) C (c_Mo_takes E h1) (rfl : vwCl[10]? = some (y_Mo_takes.cls, TX10, 24)) (by decide) hg ml_Mo_236 cm_Mo_takes.1 cm_Mo_takes.2.1 cm_Mo_takes.2.2.1 cm_Mo_takes.2.2.2.1 cm_Mo_takes.2.2.2.2 rfl ⟨by omega, by omega, by omega, by omega⟩ (by exact Nat.le_of_ble_eq_true rfl) rfl dX10_readsFavour_94 ?_
    refine g_if_eq (tgt := 122) C dX10_readsFavour_97 (by decide) (fun hc => ?_) (fun hc => ?_)
    · have hf := iteT hf hc
      refine g_sub (lv' := [none, none]) trivial ?_
      exact l_Mo_readsFavour_b122 C HR  hf
    · have hf := iteF hf hc
      refine g_aload_n C dX10_readsFavour_100 rfl ?_
      refine g_iconst (v := (4 : Int32)) C dX10_readsFavour_101 (by decide) ?_
      refine g_iconst (v := (1 : Int32)) C dX10_readsFavour_102 (by decide) ?_
      refine g_bipush (v := (40 : Int32)) C dX10_readsFavour_103 (by decide) ?_
      obtain ⟨x7, G8, hg, h1, hf⟩ := vH_ok hf
      refine g_invV (As := [.int (4 : Int32), .int (1 : Int32), .int (40 : Int32)]) (st := []) C (c_Mo_takes E h1) (rfl : vwCl[10]? = some (y_Mo_takes.cls, TX10, 24)) (by decide) hg ml_Mo_236 cm_Mo_takes.1 cm_Mo_takes.2.1 cm_Mo_takes.2.2.1 cm_Mo_takes.2.2.2.1 cm_Mo_takes.2.2.2.2 rfl ⟨by omega, by omega, by omega, by omega⟩ (by exact Nat.le_of_ble_eq_true rfl) rfl dX10_readsFavour_105 ?_
      refine g_if_eq (tgt := 122) C dX10_readsFavour_108 (by decide) (fun hc => ?_) (fun hc => ?_)
      · have hf := iteT hf hc
        refine g_sub (lv' := [none, none]) trivial ?_
        exact l_Mo_readsFavour_b122 C HR  hf
      · have hf := iteF hf hc
        refine g_aload_n C dX10_readsFavour_111 rfl ?_
        refine g_iconst (v := (5 : Int32)) C dX10_readsFavour_112 (by decide) ?_
        refine g_iconst (v := (0 : Int32)) C dX10_readsFavour_113 (by decide) ?_
        refine g_bipush (v := (99 : Int32)) C dX10_readsFavour_114 (by decide) ?_
        obtain ⟨x9, G10, hg, h1, hf⟩ := vH_ok hf
        refine g_invV (As := [.int (5 : Int32), .int (0 : Int32), .int (99 : Int32)]) (st := []) C (c_Mo_takes E h1) (rfl : vwCl[10]? = some (y_Mo_takes.cls, TX10, 24)) (by decide) hg ml_Mo_236 cm_Mo_takes.1 cm_Mo_takes.2.1 cm_Mo_takes.2.2.1 cm_Mo_takes.2.2.2.1 cm_Mo_takes.2.2.2.2 rfl ⟨by omega, by omega, by omega, by omega⟩ (by exact Nat.le_of_ble_eq_true rfl) rfl dX10_readsFavour_116 ?_
        refine g_if_ne (tgt := 124) C dX10_readsFavour_119 (by decide) (fun hc => ?_) (fun hc => ?_)
        · have hf := iteF hf hc
          refine g_aload_n C dX10_readsFavour_124 rfl ?_
          obtain ⟨x11, hg, hf⟩ := gR_ok hf
          refine g_getR C fl_Mo_51 dX10_readsFavour_125 hg ?_
          refine g_iload_n C dX10_readsFavour_128 rfl ?_
          refine g_aload_n C dX10_readsFavour_129 rfl ?_
          obtain ⟨x12, hg, hf⟩ := gR_ok hf
          refine g_getR C fl_Mo_54 dX10_readsFavour_130 hg ?_
          refine g_iconst (v := (0 : Int32)) C dX10_readsFavour_133 (by decide) ?_
          obtain ⟨x13, hx13, hg, hf⟩ := aI_ok hf
          refine e_iald C dX10_readsFavour_134 hx13 hg ?_
          refine g_aload_n C dX10_readsFavour_135 rfl ?_
          obtain ⟨x14, hg, hf⟩ := gR_ok hf
          refine g_getR C fl_Mo_54 dX10_readsFavour_136 hg ?_
          refine g_iconst (v := (1 : Int32)) C dX10_readsFavour_139 (by decide) ?_
          obtain ⟨x15, hx15, hg, hf⟩ := aI_ok hf
          refine e_iald C dX10_readsFavour_140 hx15 hg ?_
          refine g_aload_n C dX10_readsFavour_141 rfl ?_
          obtain ⟨x16, hg, hf⟩ := gR_ok hf
          refine g_getR C fl_Mo_54 dX10_readsFavour_142 hg ?_
          refine g_iconst (v := (2 : Int32)) C dX10_readsFavour_145 (by decide) ?_
          obtain ⟨x17, hx17, hg, hf⟩ := aI_ok hf
          refine e_iald C dX10_readsFavour_146 hx17 hg ?_
          refine g_aload_n C dX10_readsFavour_147 rfl ?_
          obtain ⟨x18, hg, hf⟩ := gR_ok hf
          refine g_getR C fl_Mo_54 dX10_readsFavour_148 hg ?_
          refine g_iconst (v := (3 : Int32)) C dX10_readsFavour_151 (by decide) ?_
          obtain ⟨x19, hx19, hg, hf⟩ := aI_ok hf
          refine e_iald C dX10_readsFavour_152 hx19 hg ?_
          refine g_aload_n C dX10_readsFavour_153 rfl ?_
          obtain ⟨x20, hg, hf⟩ := gR_ok hf
          refine g_getR C fl_Mo_54 dX10_readsFavour_154 hg ?_
          refine g_iconst (v := (4 : Int32)) C dX10_readsFavour_157 (by decide) ?_
          obtain ⟨x21, hx21, hg, hf⟩ := aI_ok hf
          refine e_iald C dX10_readsFavour_158 hx21 hg ?_
          refine g_aload_n C dX10_readsFavour_159 rfl ?_
          obtain ⟨x22, hg, hf⟩ := gR_ok hf
          refine g_getR C fl_Mo_54 dX10_readsFavour_160 hg ?_
          refine g_iconst (v := (5 : Int32)) C dX10_readsFavour_163 (by decide) ?_
          obtain ⟨x23, hx23, hg, hf⟩ := aI_ok hf
          refine e_iald C dX10_readsFavour_164 hx23 hg ?_
          refine g_iconst (v := (0 : Int32)) C dX10_readsFavour_165 (by decide) ?_
          obtain ⟨G24, h1, hf⟩ := cP_ok hf
          refine g_invS (As := [.ref (E.2.1 + x11), .int l1, .int x13, .int x15, .int x17, .int x19, .int x21, .int x23, .int (0 : Int32)]) (st := []) C (c_Mo_layFavour E h1) ml_Mo_104 cm_Mo_layFavour.1 cm_Mo_layFavour.2.1 cm_Mo_layFavour.2.2.1 cm_Mo_layFavour.2.2.2 rfl ⟨by omega, by omega, by omega, by omega⟩ (by exact Nat.le_of_ble_eq_true rfl) rfl dX10_readsFavour_166 ?_
          refine g_aload_n C dX10_readsFavour_169 rfl ?_
          obtain ⟨x25, hg, hf⟩ := gR_ok hf
          refine g_getR C fl_Mo_51 dX10_readsFavour_170 hg ?_
          refine g_sipush (v := (158 : Int32)) C dX10_readsFavour_173 (by decide) ?_
          refine g_dup2 C dX10_readsFavour_176 rfl rfl ?_
          obtain ⟨x26, hx26, hg, hf⟩ := aI_ok hf
          refine e_iald C dX10_readsFavour_177 hx26 hg ?_
          refine g_iconst (v := (1 : Int32)) C dX10_readsFavour_178 (by decide) ?_
          refine g_iadd C dX10_readsFavour_179 ?_
          obtain ⟨G27, hG27, hg, hf⟩ := sI_ok hf
          refine e_iast C dX10_readsFavour_180 hG27 hg ?_
          refine g_iconst (v := (1 : Int32)) C dX10_readsFavour_181 (by decide) ?_
          obtain ⟨rfl, rfl⟩ := rH_ok hf
          exact g_zret HR (Or.inr rfl) dX10_readsFavour_182
        · have hf := iteT hf hc
          refine g_sub (lv' := [none, none]) trivial ?_
          exact l_Mo_readsFavour_b122 C HR  hf
  · have hf := iteT hf hc
    refine g_sub (lv' := [none, none]) trivial ?_
    exact l_Mo_readsFavour_b88 C HR  hf
set_option maxRecDepth 20000 in
theorem l_Mo_readsFavour {E : EE} {X : CT} {G : Hp} (C : gCx E X cX10_readsFavour "FavoursGoOffModel" (some .boolean) 5 112 0 0 false 2) {r : Int32} {G' : Hp} (HR : gRet E X cX10_readsFavour (some .boolean) 0 0 (some (.int r)) G') {l0 : Nat} (hf : f_Mo_readsFavour G l0 = some (r, G')) : gV E X 0 0 G 0 [some (.ref (E.2.1 + l0)), none] [] := by
  unfold f_Mo_readsFavour at hf
  refine g_aload_n C dX10_readsFavour_0 rfl ?_
  obtain ⟨x1, hg, hf⟩ := gR_ok hf
  refine g_getR C fl_Mo_51 dX10_readsFavour_1 hg ?_
  refine g_sipush (v := (158 : Int32)) C dX10_readsFavour_4 (by decide) ?_
  obtain ⟨x2, hx2, hg, hf⟩ := aI_ok hf
  refine e_iald C dX10_readsFavour_7 hx2 hg ?_
  refine g_istore_n (lv' := [some (.ref (E.2.1 + l0)), some (.int x2)]) C dX10_readsFavour_8 (by decide) rfl ?_
  refine g_iload_n C dX10_readsFavour_9 rfl ?_
  refine g_bipush (v := (12 : Int32)) C dX10_readsFavour_10 (by decide) ?_
  refine g_icmp_ne (tgt := 17) C dX10_readsFavour_12 (by decide) (fun hc => ?_) (fun hc => ?_)
  · have hf := iteF hf hc
    refine g_aload_n C dX10_readsFavour_17 rfl ?_
    obtain ⟨G3, hg, h1, hf⟩ := vP_ok hf
    refine g_invV (As := []) (st := []) C (c_Mo_goOn E h1) (rfl : vwCl[10]? = some (y_Mo_goOn.cls, TX10, 24)) (by decide) hg ml_Mo_233 cm_Mo_goOn.1 cm_Mo_goOn.2.1 cm_Mo_goOn.2.2.1 cm_Mo_goOn.2.2.2.1 cm_Mo_goOn.2.2.2.2 rfl ⟨by omega, by omega, by omega, by omega⟩ (by exact Nat.le_of_ble_eq_true rfl) rfl dX10_readsFavour_18 ?_
    refine g_aload_n C dX10_readsFavour_21 rfl ?_
    refine g_iconst (v := (0 : Int32)) C dX10_readsFavour_22 (by decide) ?_
    refine g_iconst (v := (0 : Int32)) C dX10_readsFavour_23 (by decide) ?_
    refine g_iconst (v := (4 : Int32)) C dX10_readsFavour_24 (by decide) ?_
    obtain ⟨x4, G5, hg, h1, hf⟩ := vH_ok hf
    refine g_invV (As := [.int (0 : Int32), .int (0 : Int32), .int (4 : Int32)]) (st := []) C (c_Mo_takes E h1) (rfl : vwCl[10]? = some (y_Mo_takes.cls, TX10, 24)) (by decide) hg ml_Mo_236 cm_Mo_takes.1 cm_Mo_takes.2.1 cm_Mo_takes.2.2.1 cm_Mo_takes.2.2.2.1 cm_Mo_takes.2.2.2.2 rfl ⟨by omega, by omega, by omega, by omega⟩ (by exact Nat.le_of_ble_eq_true rfl) rfl dX10_readsFavour_25 ?_
    refine g_if_eq (tgt := 48) C dX10_readsFavour_28 (by decide) (fun hc => ?_) (fun hc => ?_)
    · have hf := iteT hf hc
      refine g_sub (lv' := [none, none]) trivial ?_
      exact l_Mo_readsFavour_b48 C HR  hf
    · have hf := iteF hf hc
      refine g_aload_n C dX10_readsFavour_31 rfl ?_
      refine g_iconst (v := (1 : Int32)) C dX10_readsFavour_32 (by decide) ?_
      refine g_iconst (v := (0 : Int32)) C dX10_readsFavour_33 (by decide) ?_
      refine g_aload_n C dX10_readsFavour_34 rfl ?_
      obtain ⟨x6, hg, hf⟩ := gR_ok hf
      refine g_getR C fl_Mo_51 dX10_readsFavour_35 hg ?_
      refine g_iconst (v := (1 : Int32)) C dX10_readsFavour_38 (by decide) ?_
      obtain ⟨x7, hx7, hg, hf⟩ := aI_ok hf
      refine e_iald C dX10_readsFavour_39 hx7 hg ?_
      refine g_iconst (v := (1 : Int32)) C dX10_readsFavour_40 (by decide) ?_
      refine g_isub C dX10_readsFavour_41 ?_
      obtain ⟨x8, G9, hg, h1, hf⟩ := vH_ok hf
      refine g_invV (As := [.int (1 : Int32), .int (0 : Int32), .int (x7 - (1 : Int32))]) (st := []) C (c_Mo_takes E h1) (rfl : vwCl[10]? = some (y_Mo_takes.cls, TX10, 24)) (by decide) hg ml_Mo_236 cm_Mo_takes.1 cm_Mo_takes.2.1 cm_Mo_takes.2.2.1 cm_Mo_takes.2.2.2.1 cm_Mo_takes.2.2.2.2 rfl ⟨by omega, by omega, by omega, by omega⟩ (by exact Nat.le_of_ble_eq_true rfl) rfl dX10_readsFavour_42 ?_
      refine g_if_ne (tgt := 50) C dX10_readsFavour_45 (by decide) (fun hc => ?_) (fun hc => ?_)
      · have hf := iteF hf hc
        refine g_aload_n C dX10_readsFavour_50 rfl ?_
        obtain ⟨x10, hx10, hg, hf⟩ := gI_ok hf
        refine e_getI C fl_Mo_218 dX10_readsFavour_51 hx10 hg ?_
        refine g_iconst (v := (2 : Int32)) C dX10_readsFavour_54 (by decide) ?_
        refine g_icmp_ne (tgt := 71) C dX10_readsFavour_55 (by decide) (fun hc => ?_) (fun hc => ?_)
        · have hf := iteF hf hc
          refine g_sub (lv' := [some (.ref (E.2.1 + l0)), some (.int x2)]) ⟨rfl, ⟨rfl, trivial⟩⟩ ?_
          exact l_Mo_readsFavour_b71 C HR  hf
        · have hf := iteT hf hc
          refine g_aload_n C dX10_readsFavour_58 rfl ?_
          obtain ⟨x11, hx11, hg, hf⟩ := gI_ok hf
          refine e_getI C fl_Mo_221 dX10_readsFavour_59 hx11 hg ?_
          refine g_aload_n C dX10_readsFavour_62 rfl ?_
          obtain ⟨x12, hg, hf⟩ := gR_ok hf
          refine g_getR C fl_Mo_54 dX10_readsFavour_63 hg ?_
          refine g_iconst (v := (1 : Int32)) C dX10_readsFavour_66 (by decide) ?_
          obtain ⟨x13, hx13, hg, hf⟩ := aI_ok hf
          refine e_iald C dX10_readsFavour_67 hx13 hg ?_
          refine g_icmp_eq (tgt := 88) C dX10_readsFavour_68 (by decide) (fun hc => ?_) (fun hc => ?_)
          · have hf := iteT hf hc
            refine g_sub (lv' := [none, none]) trivial ?_
            exact l_Mo_readsFavour_b88 C HR  hf
          · have hf := iteF hf hc
            refine g_sub (lv' := [some (.ref (E.2.1 + l0)), some (.int x2)]) ⟨rfl, ⟨rfl, trivial⟩⟩ ?_
            exact l_Mo_readsFavour_b71 C HR  hf
      · have hf := iteT hf hc
        refine g_sub (lv' := [none, none]) trivial ?_
        exact l_Mo_readsFavour_b48 C HR  hf
  · have hf := iteT hf hc
    refine g_iconst (v := (0 : Int32)) C dX10_readsFavour_15 (by decide) ?_
    obtain ⟨rfl, rfl⟩ := rH_ok hf
    exact g_zret HR (Or.inl rfl) dX10_readsFavour_16
theorem c_Mo_readsFavour (E : EE) {G : Hp} {l0 : Nat} {r : Int32} {G' : Hp} (h : f_Mo_readsFavour G l0 = some (r, G')) : gCt E y_Mo_readsFavour cX10_readsFavour 2 (some .boolean) 5 112 0 0 [.ref (E.2.1 + l0)] G (some (.int r)) G' := gCt_of (own := "FavoursGoOffModel") (ini := false) [some (.ref (E.2.1 + l0)), none] (by decide +kernel) rfl (fun h => by cases h) (Nat.le_of_ble_eq_true rfl) ⟨rfl, trivial⟩ (fun X C HR => l_Mo_readsFavour C HR h)
set_option maxRecDepth 20000 in
theorem l_Mo_readsNeed_b69 {E : EE} {X : CT} {G : Hp} (C : gCx E X cX10_readsNeed "FavoursGoOffModel" (some .boolean) 5 112 0 0 false 2) {r : Int32} {G' : Hp} (HR : gRet E X cX10_readsNeed (some .boolean) 0 0 (some (.int r)) G') (hf : f_Mo_readsNeed_b69 G = some (r, G')) : gV E X 0 0 G 69 [none, none] [] := by
  unfold f_Mo_readsNeed_b69 at hf
  refine g_iconst (v := (0 : Int32)) C dX10_readsNeed_69 (by decide) ?_
  obtain ⟨rfl, rfl⟩ := rH_ok hf
  exact g_zret HR (Or.inl rfl) dX10_readsNeed_70
set_option maxRecDepth 20000 in
theorem l_Mo_readsNeed {E : EE} {X : CT} {G : Hp} (C : gCx E X cX10_readsNeed "FavoursGoOffModel" (some .boolean) 5 112 0 0 false 2) {r : Int32} {G' : Hp} (HR : gRet E X cX10_readsNeed (some .boolean) 0 0 (some (.int r)) G') {l0 : Nat} (hf : f_Mo_readsNeed G l0 = some (r, G')) : gV E X 0 0 G 0 [some (.ref (E.2.1 + l0)), none] [] := by
  unfold f_Mo_readsNeed at hf
  refine g_aload_n C dX10_readsNeed_0 rfl ?_
  obtain ⟨x1, hg, hf⟩ := gR_ok hf
  refine g_getR C fl_Mo_51 dX10_readsNeed_1 hg ?_
  refine g_sipush (v := (159 : Int32)) C dX10_readsNeed_4 (by decide) ?_
  obtain ⟨x2, hx2, hg, hf⟩ := aI_ok hf
  refine e_iald C dX10_readsNeed_7 hx2 hg ?_
  refine g_istore_n (lv' := [some (.ref (E.2.1 + l0)), some (.int x2)]) C dX10_readsNeed_8 (by decide) rfl ?_
  refine g_iload_n C dX10_readsNeed_9 rfl ?_
  refine g_iconst (v := (5 : Int32)) C dX10_readsNeed_10 (by decide) ?_
  refine g_icmp_ne (tgt := 16) C dX10_readsNeed_11 (by decide) (fun hc => ?_) (fun hc => ?_)
  · have hf := iteF hf hc
    refine g_aload_n C dX10_readsNeed_16 rfl ?_
    obtain ⟨G3, hg, h1, hf⟩ := vP_ok hf
    refine g_invV (As := []) (st := []) C (c_Mo_goOn E h1) (rfl : vwCl[10]? = some (y_Mo_goOn.cls, TX10, 24)) (by decide) hg ml_Mo_233 cm_Mo_goOn.1 cm_Mo_goOn.2.1 cm_Mo_goOn.2.2.1 cm_Mo_goOn.2.2.2.1 cm_Mo_goOn.2.2.2.2 rfl ⟨by omega, by omega, by omega, by omega⟩ (by exact Nat.le_of_ble_eq_true rfl) rfl dX10_readsNeed_17 ?_
    refine g_aload_n C dX10_readsNeed_20 rfl ?_
    refine g_iconst (v := (0 : Int32)) C dX10_readsNeed_21 (by decide) ?_
    refine g_iconst (v := (0 : Int32)) C dX10_readsNeed_22 (by decide) ?_
    refine g_aload_n C dX10_readsNeed_23 rfl ?_
    obtain ⟨x4, hg, hf⟩ := gR_ok hf
    refine g_getR C fl_Mo_51 dX10_readsNeed_24 hg ?_
    refine g_iconst (v := (1 : Int32)) C dX10_readsNeed_27 (by decide) ?_
    obtain ⟨x5, hx5, hg, hf⟩ := aI_ok hf
    refine e_iald C dX10_readsNeed_28 hx5 hg ?_
    refine g_iconst (v := (1 : Int32)) C dX10_readsNeed_29 (by decide) ?_
    refine g_isub C dX10_readsNeed_30 ?_
    obtain ⟨x6, G7, hg, h1, hf⟩ := vH_ok hf
    refine g_invV (As := [.int (0 : Int32), .int (0 : Int32), .int (x5 - (1 : Int32))]) (st := []) C (c_Mo_takes E h1) (rfl : vwCl[10]? = some (y_Mo_takes.cls, TX10, 24)) (by decide) hg ml_Mo_236 cm_Mo_takes.1 cm_Mo_takes.2.1 cm_Mo_takes.2.2.1 cm_Mo_takes.2.2.2.1 cm_Mo_takes.2.2.2.2 rfl ⟨by omega, by omega, by omega, by omega⟩ (by exact Nat.le_of_ble_eq_true rfl) rfl dX10_readsNeed_31 ?_
    refine g_if_eq (tgt := 69) C dX10_readsNeed_34 (by decide) (fun hc => ?_) (fun hc => ?_)
    · have hf := iteT hf hc
      refine g_sub (lv' := [none, none]) trivial ?_
      exact l_Mo_readsNeed_b69 C HR  hf
    · have hf := iteF hf hc
      refine g_aload_n C dX10_readsNeed_37 rfl ?_
      refine g_iconst (v := (1 : Int32)) C dX10_readsNeed_38 (by decide) ?_
      refine g_iconst (v := (0 : Int32)) C dX10_readsNeed_39 (by decide) ?_
      refine g_iconst (v := (3 : Int32)) C dX10_readsNeed_40 (by decide) ?_
      obtain ⟨x8, G9, hg, h1, hf⟩ := vH_ok hf
      refine g_invV (As := [.int (1 : Int32), .int (0 : Int32), .int (3 : Int32)]) (st := []) C (c_Mo_takes E h1) (rfl : vwCl[10]? = some (y_Mo_takes.cls, TX10, 24)) (by decide) hg ml_Mo_236 cm_Mo_takes.1 cm_Mo_takes.2.1 cm_Mo_takes.2.2.1 cm_Mo_takes.2.2.2.1 cm_Mo_takes.2.2.2.2 rfl ⟨by omega, by omega, by omega, by omega⟩ (by exact Nat.le_of_ble_eq_true rfl) rfl dX10_readsNeed_41 ?_
      refine g_if_eq (tgt := 69) C dX10_readsNeed_44 (by decide) (fun hc => ?_) (fun hc => ?_)
      · have hf := iteT hf hc
        refine g_sub (lv' := [none, none]) trivial ?_
        exact l_Mo_readsNeed_b69 C HR  hf
      · have hf := iteF hf hc
        refine g_aload_n C dX10_readsNeed_47 rfl ?_
        refine g_iconst (v := (2 : Int32)) C dX10_readsNeed_48 (by decide) ?_
        refine g_iconst (v := (1 : Int32)) C dX10_readsNeed_49 (by decide) ?_
        refine g_bipush (v := (40 : Int32)) C dX10_readsNeed_50 (by decide) ?_
        obtain ⟨x10, G11, hg, h1, hf⟩ := vH_ok hf
        refine g_invV (As := [.int (2 : Int32), .int (1 : Int32), .int (40 : Int32)]) (st := []) C (c_Mo_takes E h1) (rfl : vwCl[10]? = some (y_Mo_takes.cls, TX10, 24)) (by decide) hg ml_Mo_236 cm_Mo_takes.1 cm_Mo_takes.2.1 cm_Mo_takes.2.2.1 cm_Mo_takes.2.2.2.1 cm_Mo_takes.2.2.2.2 rfl ⟨by omega, by omega, by omega, by omega⟩ (by exact Nat.le_of_ble_eq_true rfl) rfl dX10_readsNeed_52 ?_
        refine g_if_eq (tgt := 69) C dX10_readsNeed_55 (by decide) (fun hc => ?_) (fun hc => ?_)
        · have hf := iteT hf hc
          refine g_sub (lv' := [none, none]) trivial ?_
          exact l_Mo_readsNeed_b69 C HR  hf
        · have hf := iteF hf hc
          refine g_aload_n C dX10_readsNeed_58 rfl ?_
          refine g_iconst (v := (3 : Int32)) C dX10_readsNeed_59 (by decide) ?_
          refine g_iconst (v := (0 : Int32)) C dX10_readsNeed_60 (by decide) ?_
          refine g_bipush (v := (99 : Int32)) C dX10_readsNeed_61 (by decide) ?_
          obtain ⟨x12, G13, hg, h1, hf⟩ := vH_ok hf
          refine g_invV (As := [.int (3 : Int32), .int (0 : Int32), .int (99 : Int32)]) (st := []) C (c_Mo_takes E h1) (rfl : vwCl[10]? = some (y_Mo_takes.cls, TX10, 24)) (by decide) hg ml_Mo_236 cm_Mo_takes.1 cm_Mo_takes.2.1 cm_Mo_takes.2.2.1 cm_Mo_takes.2.2.2.1 cm_Mo_takes.2.2.2.2 rfl ⟨by omega, by omega, by omega, by omega⟩ (by exact Nat.le_of_ble_eq_true rfl) rfl dX10_readsNeed_63 ?_
          refine g_if_ne (tgt := 71) C dX10_readsNeed_66 (by decide) (fun hc => ?_) (fun hc => ?_)
          · have hf := iteF hf hc
            refine g_aload_n C dX10_readsNeed_71 rfl ?_
            obtain ⟨x14, hg, hf⟩ := gR_ok hf
            refine g_getR C fl_Mo_51 dX10_readsNeed_72 hg ?_
            refine g_iload_n C dX10_readsNeed_75 rfl ?_
            refine g_aload_n C dX10_readsNeed_76 rfl ?_
            obtain ⟨x15, hg, hf⟩ := gR_ok hf
            refine g_getR C fl_Mo_54 dX10_readsNeed_77 hg ?_
            refine g_iconst (v := (0 : Int32)) C dX10_readsNeed_80 (by decide) ?_
            obtain ⟨x16, hx16, hg, hf⟩ := aI_ok hf
            refine e_iald C dX10_readsNeed_81 hx16 hg ?_
            refine g_aload_n C dX10_readsNeed_82 rfl ?_
            obtain ⟨x17, hg, hf⟩ := gR_ok hf
            refine g_getR C fl_Mo_54 dX10_readsNeed_83 hg ?_
            refine g_iconst (v := (1 : Int32)) C dX10_readsNeed_86 (by decide) ?_
            obtain ⟨x18, hx18, hg, hf⟩ := aI_ok hf
            refine e_iald C dX10_readsNeed_87 hx18 hg ?_
            refine g_aload_n C dX10_readsNeed_88 rfl ?_
            obtain ⟨x19, hg, hf⟩ := gR_ok hf
            refine g_getR C fl_Mo_54 dX10_readsNeed_89 hg ?_
            refine g_iconst (v := (2 : Int32)) C dX10_readsNeed_92 (by decide) ?_
            obtain ⟨x20, hx20, hg, hf⟩ := aI_ok hf
            refine e_iald C dX10_readsNeed_93 hx20 hg ?_
            refine g_aload_n C dX10_readsNeed_94 rfl ?_
            obtain ⟨x21, hg, hf⟩ := gR_ok hf
            refine g_getR C fl_Mo_54 dX10_readsNeed_95 hg ?_
            refine g_iconst (v := (3 : Int32)) C dX10_readsNeed_98 (by decide) ?_
            obtain ⟨x22, hx22, hg, hf⟩ := aI_ok hf
            refine e_iald C dX10_readsNeed_99 hx22 hg ?_
            obtain ⟨G23, h1, hf⟩ := cP_ok hf
            refine g_invS (As := [.ref (E.2.1 + x14), .int x2, .int x16, .int x18, .int x20, .int x22]) (st := []) C (c_Mo_layNeed E h1) ml_Mo_108 cm_Mo_layNeed.1 cm_Mo_layNeed.2.1 cm_Mo_layNeed.2.2.1 cm_Mo_layNeed.2.2.2 rfl ⟨by omega, by omega, by omega, by omega⟩ (by exact Nat.le_of_ble_eq_true rfl) rfl dX10_readsNeed_100 ?_
            refine g_aload_n C dX10_readsNeed_103 rfl ?_
            obtain ⟨x24, hg, hf⟩ := gR_ok hf
            refine g_getR C fl_Mo_51 dX10_readsNeed_104 hg ?_
            refine g_sipush (v := (159 : Int32)) C dX10_readsNeed_107 (by decide) ?_
            refine g_dup2 C dX10_readsNeed_110 rfl rfl ?_
            obtain ⟨x25, hx25, hg, hf⟩ := aI_ok hf
            refine e_iald C dX10_readsNeed_111 hx25 hg ?_
            refine g_iconst (v := (1 : Int32)) C dX10_readsNeed_112 (by decide) ?_
            refine g_iadd C dX10_readsNeed_113 ?_
            obtain ⟨G26, hG26, hg, hf⟩ := sI_ok hf
            refine e_iast C dX10_readsNeed_114 hG26 hg ?_
            refine g_iconst (v := (1 : Int32)) C dX10_readsNeed_115 (by decide) ?_
            obtain ⟨rfl, rfl⟩ := rH_ok hf
            exact g_zret HR (Or.inr rfl) dX10_readsNeed_116
          · have hf := iteT hf hc
            refine g_sub (lv' := [none, none]) trivial ?_
            exact l_Mo_readsNeed_b69 C HR  hf
  · have hf := iteT hf hc
    refine g_iconst (v := (0 : Int32)) C dX10_readsNeed_14 (by decide) ?_
    obtain ⟨rfl, rfl⟩ := rH_ok hf
    exact g_zret HR (Or.inl rfl) dX10_readsNeed_15
theorem c_Mo_readsNeed (E : EE) {G : Hp} {l0 : Nat} {r : Int32} {G' : Hp} (h : f_Mo_readsNeed G l0 = some (r, G')) : gCt E y_Mo_readsNeed cX10_readsNeed 2 (some .boolean) 5 112 0 0 [.ref (E.2.1 + l0)] G (some (.int r)) G' := gCt_of (own := "FavoursGoOffModel") (ini := false) [some (.ref (E.2.1 + l0)), none] (by decide +kernel) rfl (fun h => by cases h) (Nat.le_of_ble_eq_true rfl) ⟨rfl, trivial⟩ (fun X C HR => l_Mo_readsNeed C HR h)
set_option maxRecDepth 20000 in
theorem l_Mo_readsItem_b130 {E : EE} {X : CT} {G : Hp} (C : gCx E X cX10_readsItem "FavoursGoOffModel" (some .boolean) 6 133 0 0 false 3) {r : Int32} {G' : Hp} (HR : gRet E X cX10_readsItem (some .boolean) 0 0 (some (.int r)) G') {s0 : Int32} (hf : f_Mo_readsItem_b130 G s0 = some (r, G')) : gV E X 0 0 G 130 [none, none, none] [.int s0] := by
  unfold f_Mo_readsItem_b130 at hf
  obtain ⟨hv, hf⟩ := zR_ok hf
  obtain ⟨rfl, rfl⟩ := rH_ok hf
  exact g_zret HR hv dX10_readsItem_130
set_option maxRecDepth 20000 in
theorem l_Mo_readsItem_b129 {E : EE} {X : CT} {G : Hp} (C : gCx E X cX10_readsItem "FavoursGoOffModel" (some .boolean) 6 133 0 0 false 3) {r : Int32} {G' : Hp} (HR : gRet E X cX10_readsItem (some .boolean) 0 0 (some (.int r)) G') (hf : f_Mo_readsItem_b129 G = some (r, G')) : gV E X 0 0 G 129 [none, none, none] [] := by
  unfold f_Mo_readsItem_b129 at hf
  refine g_iconst (v := (0 : Int32)) C dX10_readsItem_129 (by decide) ?_
  refine g_sub (lv' := [none, none, none]) trivial ?_
  exact l_Mo_readsItem_b130 C HR  hf
set_option maxRecDepth 20000 in
theorem l_Mo_readsItem {E : EE} {X : CT} {G : Hp} (C : gCx E X cX10_readsItem "FavoursGoOffModel" (some .boolean) 6 133 0 0 false 3) {r : Int32} {G' : Hp} (HR : gRet E X cX10_readsItem (some .boolean) 0 0 (some (.int r)) G') {l0 : Nat} {l1 : Int32} (hf : f_Mo_readsItem G l0 l1 = some (r, G')) : gV E X 0 0 G 0 [some (.ref (E.2.1 + l0)), some (.int l1), none] [] := by
  unfold f_Mo_readsItem at hf
  refine g_iload_n C dX10_readsItem_0 rfl ?_
  refine g_if_eq (tgt := 53) C dX10_readsItem_1 (by decide) (fun hc => ?_) (fun hc => ?_)
  · have hf := iteT hf hc
    refine g_aload_n C dX10_readsItem_53 rfl ?_
    refine g_bipush (v := (115 : Int32)) C dX10_readsItem_54 (by decide) ?_
    refine g_bipush (v := (116 : Int32)) C dX10_readsItem_56 (by decide) ?_
    refine g_bipush (v := (114 : Int32)) C dX10_readsItem_58 (by decide) ?_
    refine g_bipush (v := (111 : Int32)) C dX10_readsItem_60 (by decide) ?_
    refine g_bipush (v := (110 : Int32)) C dX10_readsItem_62 (by decide) ?_
    refine g_bipush (v := (103 : Int32)) C dX10_readsItem_64 (by decide) ?_
    obtain ⟨x1, hg, h1, hf⟩ := vP_ok hf
    refine g_invV (As := [.int (115 : Int32), .int (116 : Int32), .int (114 : Int32), .int (111 : Int32), .int (110 : Int32), .int (103 : Int32)]) (st := []) C (c_Mo_isWord E h1) (rfl : vwCl[10]? = some (y_Mo_isWord.cls, TX10, 24)) (by decide) hg ml_Mo_240 cm_Mo_isWord.1 cm_Mo_isWord.2.1 cm_Mo_isWord.2.2.1 cm_Mo_isWord.2.2.2.1 cm_Mo_isWord.2.2.2.2 rfl ⟨by omega, by omega, by omega, by omega⟩ (by exact Nat.le_of_ble_eq_true rfl) rfl dX10_readsItem_66 ?_
    refine g_if_eq (tgt := 77) C dX10_readsItem_69 (by decide) (fun hc => ?_) (fun hc => ?_)
    · have hf := iteT hf hc
      refine g_aload_n C dX10_readsItem_77 rfl ?_
      refine g_bipush (v := (102 : Int32)) C dX10_readsItem_78 (by decide) ?_
      refine g_bipush (v := (97 : Int32)) C dX10_readsItem_80 (by decide) ?_
      refine g_bipush (v := (118 : Int32)) C dX10_readsItem_82 (by decide) ?_
      refine g_bipush (v := (111 : Int32)) C dX10_readsItem_84 (by decide) ?_
      refine g_bipush (v := (117 : Int32)) C dX10_readsItem_86 (by decide) ?_
      refine g_bipush (v := (114 : Int32)) C dX10_readsItem_88 (by decide) ?_
      obtain ⟨x2, hg, h1, hf⟩ := vP_ok hf
      refine g_invV (As := [.int (102 : Int32), .int (97 : Int32), .int (118 : Int32), .int (111 : Int32), .int (117 : Int32), .int (114 : Int32)]) (st := []) C (c_Mo_isWord E h1) (rfl : vwCl[10]? = some (y_Mo_isWord.cls, TX10, 24)) (by decide) hg ml_Mo_240 cm_Mo_isWord.1 cm_Mo_isWord.2.1 cm_Mo_isWord.2.2.1 cm_Mo_isWord.2.2.2.1 cm_Mo_isWord.2.2.2.2 rfl ⟨by omega, by omega, by omega, by omega⟩ (by exact Nat.le_of_ble_eq_true rfl) rfl dX10_readsItem_90 ?_
      refine g_if_eq (tgt := 101) C dX10_readsItem_93 (by decide) (fun hc => ?_) (fun hc => ?_)
      · have hf := iteT hf hc
        refine g_aload_n C dX10_readsItem_101 rfl ?_
        refine g_bipush (v := (110 : Int32)) C dX10_readsItem_102 (by decide) ?_
        refine g_bipush (v := (101 : Int32)) C dX10_readsItem_104 (by decide) ?_
        refine g_bipush (v := (101 : Int32)) C dX10_readsItem_106 (by decide) ?_
        refine g_bipush (v := (100 : Int32)) C dX10_readsItem_108 (by decide) ?_
        refine g_iconst (v := (0 : Int32)) C dX10_readsItem_110 (by decide) ?_
        refine g_iconst (v := (0 : Int32)) C dX10_readsItem_111 (by decide) ?_
        obtain ⟨x3, hg, h1, hf⟩ := vP_ok hf
        refine g_invV (As := [.int (110 : Int32), .int (101 : Int32), .int (101 : Int32), .int (100 : Int32), .int (0 : Int32), .int (0 : Int32)]) (st := []) C (c_Mo_isWord E h1) (rfl : vwCl[10]? = some (y_Mo_isWord.cls, TX10, 24)) (by decide) hg ml_Mo_240 cm_Mo_isWord.1 cm_Mo_isWord.2.1 cm_Mo_isWord.2.2.1 cm_Mo_isWord.2.2.2.1 cm_Mo_isWord.2.2.2.2 rfl ⟨by omega, by omega, by omega, by omega⟩ (by exact Nat.le_of_ble_eq_true rfl) rfl dX10_readsItem_112 ?_
        refine g_if_eq (tgt := 129) C dX10_readsItem_115 (by decide) (fun hc => ?_) (fun hc => ?_)
        · have hf := iteT hf hc
          refine g_sub (lv' := [none, none, none]) trivial ?_
          exact l_Mo_readsItem_b129 C HR  hf
        · have hf := iteF hf hc
          refine g_aload_n C dX10_readsItem_118 rfl ?_
          obtain ⟨x4, G5, hg, h1, hf⟩ := vH_ok hf
          refine g_invV (As := []) (st := []) C (c_Mo_readsNeed E h1) (rfl : vwCl[10]? = some (y_Mo_readsNeed.cls, TX10, 24)) (by decide) hg ml_Mo_251 cm_Mo_readsNeed.1 cm_Mo_readsNeed.2.1 cm_Mo_readsNeed.2.2.1 cm_Mo_readsNeed.2.2.2.1 cm_Mo_readsNeed.2.2.2.2 rfl ⟨by omega, by omega, by omega, by omega⟩ (by exact Nat.le_of_ble_eq_true rfl) rfl dX10_readsItem_119 ?_
          refine g_if_eq (tgt := 129) C dX10_readsItem_122 (by decide) (fun hc => ?_) (fun hc => ?_)
          · have hf := iteT hf hc
            refine g_sub (lv' := [none, none, none]) trivial ?_
            exact l_Mo_readsItem_b129 C HR  hf
          · have hf := iteF hf hc
            refine g_iconst (v := (1 : Int32)) C dX10_readsItem_125 (by decide) ?_
            refine g_goto (tgt := 130) C dX10_readsItem_126 (by decide) ?_
            refine g_sub (lv' := [none, none, none]) trivial ?_
            exact l_Mo_readsItem_b130 C HR  hf
      · have hf := iteF hf hc
        refine g_aload_n C dX10_readsItem_96 rfl ?_
        obtain ⟨x6, G7, hg, h1, hf⟩ := vH_ok hf
        refine g_invV (As := []) (st := []) C (c_Mo_readsFavour E h1) (rfl : vwCl[10]? = some (y_Mo_readsFavour.cls, TX10, 24)) (by decide) hg ml_Mo_248 cm_Mo_readsFavour.1 cm_Mo_readsFavour.2.1 cm_Mo_readsFavour.2.2.1 cm_Mo_readsFavour.2.2.2.1 cm_Mo_readsFavour.2.2.2.2 rfl ⟨by omega, by omega, by omega, by omega⟩ (by exact Nat.le_of_ble_eq_true rfl) rfl dX10_readsItem_97 ?_
        obtain ⟨hv, hf⟩ := zR_ok hf
        obtain ⟨rfl, rfl⟩ := rH_ok hf
        exact g_zret HR hv dX10_readsItem_100
    · have hf := iteF hf hc
      refine g_aload_n C dX10_readsItem_72 rfl ?_
      obtain ⟨x8, G9, hg, h1, hf⟩ := vH_ok hf
      refine g_invV (As := []) (st := []) C (c_Mo_readsStrong E h1) (rfl : vwCl[10]? = some (y_Mo_readsStrong.cls, TX10, 24)) (by decide) hg ml_Mo_244 cm_Mo_readsStrong.1 cm_Mo_readsStrong.2.1 cm_Mo_readsStrong.2.2.1 cm_Mo_readsStrong.2.2.2.1 cm_Mo_readsStrong.2.2.2.2 rfl ⟨by omega, by omega, by omega, by omega⟩ (by exact Nat.le_of_ble_eq_true rfl) rfl dX10_readsItem_73 ?_
      obtain ⟨hv, hf⟩ := zR_ok hf
      obtain ⟨rfl, rfl⟩ := rH_ok hf
      exact g_zret HR hv dX10_readsItem_76
  · have hf := iteF hf hc
    refine g_aload_n C dX10_readsItem_4 rfl ?_
    refine g_bipush (v := (112 : Int32)) C dX10_readsItem_5 (by decide) ?_
    refine g_bipush (v := (101 : Int32)) C dX10_readsItem_7 (by decide) ?_
    refine g_bipush (v := (111 : Int32)) C dX10_readsItem_9 (by decide) ?_
    refine g_bipush (v := (112 : Int32)) C dX10_readsItem_11 (by decide) ?_
    refine g_bipush (v := (108 : Int32)) C dX10_readsItem_13 (by decide) ?_
    refine g_bipush (v := (101 : Int32)) C dX10_readsItem_15 (by decide) ?_
    obtain ⟨x10, hg, h1, hf⟩ := vP_ok hf
    refine g_invV (As := [.int (112 : Int32), .int (101 : Int32), .int (111 : Int32), .int (112 : Int32), .int (108 : Int32), .int (101 : Int32)]) (st := []) C (c_Mo_isWord E h1) (rfl : vwCl[10]? = some (y_Mo_isWord.cls, TX10, 24)) (by decide) hg ml_Mo_240 cm_Mo_isWord.1 cm_Mo_isWord.2.1 cm_Mo_isWord.2.2.1 cm_Mo_isWord.2.2.2.1 cm_Mo_isWord.2.2.2.2 rfl ⟨by omega, by omega, by omega, by omega⟩ (by exact Nat.le_of_ble_eq_true rfl) rfl dX10_readsItem_17 ?_
    refine g_if_ne (tgt := 25) C dX10_readsItem_20 (by decide) (fun hc => ?_) (fun hc => ?_)
    · have hf := iteF hf hc
      refine g_aload_n C dX10_readsItem_25 rfl ?_
      obtain ⟨G11, hg, h1, hf⟩ := vP_ok hf
      refine g_invV (As := []) (st := []) C (c_Mo_goOn E h1) (rfl : vwCl[10]? = some (y_Mo_goOn.cls, TX10, 24)) (by decide) hg ml_Mo_233 cm_Mo_goOn.1 cm_Mo_goOn.2.1 cm_Mo_goOn.2.2.1 cm_Mo_goOn.2.2.2.1 cm_Mo_goOn.2.2.2.2 rfl ⟨by omega, by omega, by omega, by omega⟩ (by exact Nat.le_of_ble_eq_true rfl) rfl dX10_readsItem_26 ?_
      refine g_aload_n C dX10_readsItem_29 rfl ?_
      refine g_iconst (v := (0 : Int32)) C dX10_readsItem_30 (by decide) ?_
      refine g_iconst (v := (2 : Int32)) C dX10_readsItem_31 (by decide) ?_
      refine g_bipush (v := (6 : Int32)) C dX10_readsItem_32 (by decide) ?_
      obtain ⟨x12, G13, hg, h1, hf⟩ := vH_ok hf
      refine g_invV (As := [.int (0 : Int32), .int (2 : Int32), .int (6 : Int32)]) (st := []) C (c_Mo_takes E h1) (rfl : vwCl[10]? = some (y_Mo_takes.cls, TX10, 24)) (by decide) hg ml_Mo_236 cm_Mo_takes.1 cm_Mo_takes.2.1 cm_Mo_takes.2.2.1 cm_Mo_takes.2.2.2.1 cm_Mo_takes.2.2.2.2 rfl ⟨by omega, by omega, by omega, by omega⟩ (by exact Nat.le_of_ble_eq_true rfl) rfl dX10_readsItem_34 ?_
      refine g_istore_n (lv' := [some (.ref (E.2.1 + l0)), some (.int l1), some (.int x12)]) C dX10_readsItem_37 (by decide) rfl ?_
      refine g_aload_n C dX10_readsItem_38 rfl ?_
      obtain ⟨x14, hg, hf⟩ := gR_ok hf
      refine g_getR C fl_Mo_51 dX10_readsItem_39 hg ?_
      refine g_aload_n C dX10_readsItem_42 rfl ?_
      obtain ⟨x15, hg, hf⟩ := gR_ok hf
      refine g_getR C fl_Mo_54 dX10_readsItem_43 hg ?_
      refine g_iconst (v := (0 : Int32)) C dX10_readsItem_46 (by decide) ?_
      obtain ⟨x16, hx16, hg, hf⟩ := aI_ok hf
      refine e_iald C dX10_readsItem_47 hx16 hg ?_
      obtain ⟨G17, h1, hf⟩ := cP_ok hf
      refine g_invS (As := [.ref (E.2.1 + x14), .int x16]) (st := []) C (c_Mo_begin E h1) ml_Mo_57 cm_Mo_begin.1 cm_Mo_begin.2.1 cm_Mo_begin.2.2.1 cm_Mo_begin.2.2.2 rfl ⟨by omega, by omega, by omega, by omega⟩ (by exact Nat.le_of_ble_eq_true rfl) rfl dX10_readsItem_48 ?_
      refine g_iload_n C dX10_readsItem_51 rfl ?_
      obtain ⟨hv, hf⟩ := zR_ok hf
      obtain ⟨rfl, rfl⟩ := rH_ok hf
      exact g_zret HR hv dX10_readsItem_52
    · have hf := iteT hf hc
      refine g_iconst (v := (0 : Int32)) C dX10_readsItem_23 (by decide) ?_
      obtain ⟨rfl, rfl⟩ := rH_ok hf
      exact g_zret HR (Or.inl rfl) dX10_readsItem_24
theorem c_Mo_readsItem (E : EE) {G : Hp} {l0 : Nat} {l1 : Int32} {r : Int32} {G' : Hp} (h : f_Mo_readsItem G l0 l1 = some (r, G')) : gCt E y_Mo_readsItem cX10_readsItem 3 (some .boolean) 6 133 0 0 [.ref (E.2.1 + l0), .int l1] G (some (.int r)) G' := gCt_of (own := "FavoursGoOffModel") (ini := false) [some (.ref (E.2.1 + l0)), some (.int l1), none] (by decide +kernel) rfl (fun h => by cases h) (Nat.le_of_ble_eq_true rfl) ⟨rfl, ⟨rfl, trivial⟩⟩ (fun X C HR => l_Mo_readsItem C HR h)
set_option maxRecDepth 20000 in
theorem l_Mo_read_b42 {E : EE} {X : CT} {G : Hp} (C : gCx E X cX10_read "FavoursGoOffModel" (some .int) 7 155 0 0 false 3) {r : Int32} {G' : Hp} (HR : gRet E X cX10_read (some .int) 0 0 (some (.int r)) G') {l0 : Nat} (hf : f_Mo_read_b42 G l0 = some (r, G')) : gV E X 0 0 G 42 [some (.ref (E.2.1 + l0)), none, none] [] := by
  unfold f_Mo_read_b42 at hf
  refine g_bipush (v := (-10 : Int32)) C dX10_read_42 (by decide) ?_
  refine g_aload_n C dX10_read_44 rfl ?_
  obtain ⟨x1, hx1, hg, hf⟩ := gI_ok hf
  refine e_getI C fl_Mo_212 dX10_read_45 hx1 hg ?_
  refine g_isub C dX10_read_48 ?_
  obtain ⟨rfl, rfl⟩ := rH_ok hf
  exact g_iret HR dX10_read_49
set_option maxRecDepth 20000 in
theorem l_Mo_read_b28 {E : EE} {X : CT} {G : Hp} (C : gCx E X cX10_read "FavoursGoOffModel" (some .int) 7 155 0 0 false 3) {r : Int32} {G' : Hp} (HR : gRet E X cX10_read (some .int) 0 0 (some (.int r)) G') {k7 : Hp → Nat → Int32 → Option (Int32 × Hp)} (K7 : ∀ {G : Hp} {l0 : Nat} {l1 : Int32}, k7 G l0 l1 = some (r, G') → gV E X 0 0 G 7 [some (.ref (E.2.1 + l0)), some (.int l1), none] []) {l0 : Nat} {l1 : Int32} {s0 : Nat} {s1 : Int32} (hf : f_Mo_read_b28 k7 G l0 l1 s0 s1 = some (r, G')) : gV E X 0 0 G 28 [some (.ref (E.2.1 + l0)), some (.int l1), none] [.int s1, .ref (E.2.1 + s0)] := by
  unfold f_Mo_read_b28 at hf
  obtain ⟨x1, G2, hg, h1, hf⟩ := vH_ok hf
  refine g_invV (As := [.int s1]) (st := []) C (c_Mo_readsItem E h1) (rfl : vwCl[10]? = some (y_Mo_readsItem.cls, TX10, 24)) (by decide) hg ml_Mo_254 cm_Mo_readsItem.1 cm_Mo_readsItem.2.1 cm_Mo_readsItem.2.2.1 cm_Mo_readsItem.2.2.2.1 cm_Mo_readsItem.2.2.2.2 rfl ⟨by omega, by omega, by omega, by omega⟩ (by exact Nat.le_of_ble_eq_true rfl) rfl dX10_read_28 ?_
  refine g_if_eq (tgt := 42) C dX10_read_31 (by decide) (fun hc => ?_) (fun hc => ?_)
  · have hf := iteT hf hc
    refine g_sub (lv' := [some (.ref (E.2.1 + l0)), none, none]) ⟨rfl, trivial⟩ ?_
    exact l_Mo_read_b42 C HR  hf
  · have hf := iteF hf hc
    refine g_aload_n C dX10_read_34 rfl ?_
    obtain ⟨x3, hx3, hg, hf⟩ := gI_ok hf
    refine e_getI C fl_Mo_218 dX10_read_35 hx3 hg ?_
    refine g_iconst (v := (3 : Int32)) C dX10_read_38 (by decide) ?_
    refine g_icmp_eq (tgt := 50) C dX10_read_39 (by decide) (fun hc => ?_) (fun hc => ?_)
    · have hf := iteT hf hc
      refine g_aload_n C dX10_read_50 rfl ?_
      obtain ⟨G4, hg, h1, hf⟩ := vP_ok hf
      refine g_invV (As := []) (st := []) C (c_Mo_goOn E h1) (rfl : vwCl[10]? = some (y_Mo_goOn.cls, TX10, 24)) (by decide) hg ml_Mo_233 cm_Mo_goOn.1 cm_Mo_goOn.2.1 cm_Mo_goOn.2.2.1 cm_Mo_goOn.2.2.2.1 cm_Mo_goOn.2.2.2.2 rfl ⟨by omega, by omega, by omega, by omega⟩ (by exact Nat.le_of_ble_eq_true rfl) rfl dX10_read_51 ?_
      refine g_iinc (v := (l1 + 1)) (lv' := [some (.ref (E.2.1 + l0)), some (.int (l1 + 1)), none]) C dX10_read_54 (by decide) rfl rfl rfl ?_
      refine g_goto (tgt := 7) C dX10_read_57 (by decide) ?_
      refine g_sub (lv' := [some (.ref (E.2.1 + l0)), some (.int (l1 + 1)), none]) ⟨rfl, ⟨rfl, trivial⟩⟩ ?_
      exact K7 hf
    · have hf := iteF hf hc
      refine g_sub (lv' := [some (.ref (E.2.1 + l0)), none, none]) ⟨rfl, trivial⟩ ?_
      exact l_Mo_read_b42 C HR  hf
set_option maxRecDepth 20000 in
theorem l_Mo_read_b18 {E : EE} {X : CT} {G : Hp} (C : gCx E X cX10_read "FavoursGoOffModel" (some .int) 7 155 0 0 false 3) {r : Int32} {G' : Hp} (HR : gRet E X cX10_read (some .int) 0 0 (some (.int r)) G') {k7 : Hp → Nat → Int32 → Option (Int32 × Hp)} (K7 : ∀ {G : Hp} {l0 : Nat} {l1 : Int32}, k7 G l0 l1 = some (r, G') → gV E X 0 0 G 7 [some (.ref (E.2.1 + l0)), some (.int l1), none] []) {l0 : Nat} {l1 : Int32} (hf : f_Mo_read_b18 k7 G l0 l1 = some (r, G')) : gV E X 0 0 G 18 [some (.ref (E.2.1 + l0)), some (.int l1), none] [] := by
  unfold f_Mo_read_b18 at hf
  refine g_aload_n C dX10_read_18 rfl ?_
  refine g_iload_n C dX10_read_19 rfl ?_
  refine g_if_ne (tgt := 27) C dX10_read_20 (by decide) (fun hc => ?_) (fun hc => ?_)
  · have hf := iteF hf hc
    refine g_iconst (v := (0 : Int32)) C dX10_read_27 (by decide) ?_
    refine g_sub (lv' := [some (.ref (E.2.1 + l0)), some (.int l1), none]) ⟨rfl, ⟨rfl, trivial⟩⟩ ?_
    exact l_Mo_read_b28 C HR K7 hf
  · have hf := iteT hf hc
    refine g_iconst (v := (1 : Int32)) C dX10_read_23 (by decide) ?_
    refine g_goto (tgt := 28) C dX10_read_24 (by decide) ?_
    refine g_sub (lv' := [some (.ref (E.2.1 + l0)), some (.int l1), none]) ⟨rfl, ⟨rfl, trivial⟩⟩ ?_
    exact l_Mo_read_b28 C HR K7 hf
set_option maxRecDepth 20000 in
theorem l_Mo_read_b103 {E : EE} {X : CT} {G : Hp} (C : gCx E X cX10_read "FavoursGoOffModel" (some .int) 7 155 0 0 false 3) {r : Int32} {G' : Hp} (HR : gRet E X cX10_read (some .int) 0 0 (some (.int r)) G') {k62 : Hp → Nat → Int32 → Int32 → Option (Int32 × Hp)} (K62 : ∀ {G : Hp} {l0 : Nat} {l1 : Int32} {l2 : Int32}, k62 G l0 l1 l2 = some (r, G') → gV E X 0 0 G 62 [some (.ref (E.2.1 + l0)), some (.int l1), some (.int l2)] []) {l0 : Nat} {l1 : Int32} {l2 : Int32} {s0 : Nat} {s1 : Int32} {s2 : Int32} (hf : f_Mo_read_b103 k62 G l0 l1 l2 s0 s1 s2 = some (r, G')) : gV E X 0 0 G 103 [some (.ref (E.2.1 + l0)), some (.int l1), some (.int l2)] [.int s2, .int s1, .ref (E.2.1 + s0)] := by
  unfold f_Mo_read_b103 at hf
  obtain ⟨G1, hG1, hg, hf⟩ := sI_ok hf
  refine e_iast C dX10_read_103 hG1 hg ?_
  refine g_iinc (v := (l2 + 1)) (lv' := [some (.ref (E.2.1 + l0)), some (.int l1), some (.int (l2 + 1))]) C dX10_read_104 (by decide) rfl rfl rfl ?_
  refine g_goto (tgt := 62) C dX10_read_107 (by decide) ?_
  refine g_sub (lv' := [some (.ref (E.2.1 + l0)), some (.int l1), some (.int (l2 + 1))]) ⟨rfl, ⟨rfl, ⟨rfl, trivial⟩⟩⟩ ?_
  exact K62 hf
set_option maxRecDepth 20000 in
theorem l_Mo_read_b62k {E : EE} {X : CT} {G : Hp} (C : gCx E X cX10_read "FavoursGoOffModel" (some .int) 7 155 0 0 false 3) {r : Int32} {G' : Hp} (HR : gRet E X cX10_read (some .int) 0 0 (some (.int r)) G') {k62 : Hp → Nat → Int32 → Int32 → Option (Int32 × Hp)} (K62 : ∀ {G : Hp} {l0 : Nat} {l1 : Int32} {l2 : Int32}, k62 G l0 l1 l2 = some (r, G') → gV E X 0 0 G 62 [some (.ref (E.2.1 + l0)), some (.int l1), some (.int l2)] []) {l0 : Nat} {l1 : Int32} {l2 : Int32} (hf : f_Mo_read_b62_k k62 G l0 l1 l2 = some (r, G')) : gV E X 0 0 G 62 [some (.ref (E.2.1 + l0)), some (.int l1), some (.int l2)] [] := by
  unfold f_Mo_read_b62_k at hf
  refine g_iload_n C dX10_read_62 rfl ?_
  refine g_sipush (v := (161 : Int32)) C dX10_read_63 (by decide) ?_
  refine g_icmp_ge (tgt := 110) C dX10_read_66 (by decide) (fun hc => ?_) (fun hc => ?_)
  · have hf := iteT hf hc
    refine g_aload_n C dX10_read_110 rfl ?_
    obtain ⟨x1, hg, hf⟩ := gR_ok hf
    refine g_getR C fl_Mo_7 dX10_read_111 hg ?_
    refine g_sipush (v := (161 : Int32)) C dX10_read_114 (by decide) ?_
    refine g_iconst (v := (0 : Int32)) C dX10_read_117 (by decide) ?_
    obtain ⟨G2, hG2, hg, hf⟩ := sI_ok hf
    refine e_iast C dX10_read_118 hG2 hg ?_
    refine g_iload_n C dX10_read_119 rfl ?_
    obtain ⟨rfl, rfl⟩ := rH_ok hf
    exact g_iret HR dX10_read_120
  · have hf := iteF hf hc
    refine g_aload_n C dX10_read_69 rfl ?_
    obtain ⟨x3, hg, hf⟩ := gR_ok hf
    refine g_getR C fl_Mo_7 dX10_read_70 hg ?_
    refine g_iload_n C dX10_read_73 rfl ?_
    refine g_iload_n C dX10_read_74 rfl ?_
    refine g_i2l C dX10_read_75 ?_
    refine g_ldc2 (v := (154 : Int64)) C dX10_read_76 kl_Mo_258 ?_
    refine g_ldc2 (v := (157 : Int64)) C dX10_read_79 kl_Mo_260 ?_
    obtain ⟨x4, h1, hf⟩ := cP_ok hf
    refine g_invS (As := [.long l2.toInt64, .long (154 : Int64), .long (157 : Int64)]) (st := [.int l2, .ref (E.2.1 + x3)]) C (c_Mo_in E h1) ml_Mo_68 cm_Mo_in.1 cm_Mo_in.2.1 cm_Mo_in.2.2.1 cm_Mo_in.2.2.2 rfl ⟨by omega, by omega, by omega, by omega⟩ (by exact Nat.le_of_ble_eq_true rfl) rfl dX10_read_82 ?_
    refine g_if_eq (tgt := 97) C dX10_read_85 (by decide) (fun hc => ?_) (fun hc => ?_)
    · have hf := iteT hf hc
      refine g_aload_n C dX10_read_97 rfl ?_
      obtain ⟨x5, hg, hf⟩ := gR_ok hf
      refine g_getR C fl_Mo_51 dX10_read_98 hg ?_
      refine g_iload_n C dX10_read_101 rfl ?_
      obtain ⟨x6, hx6, hg, hf⟩ := aI_ok hf
      refine e_iald C dX10_read_102 hx6 hg ?_
      refine g_sub (lv' := [some (.ref (E.2.1 + l0)), some (.int l1), some (.int l2)]) ⟨rfl, ⟨rfl, ⟨rfl, trivial⟩⟩⟩ ?_
      exact l_Mo_read_b103 C HR K62 hf
    · have hf := iteF hf hc
      refine g_aload_n C dX10_read_88 rfl ?_
      obtain ⟨x7, hg, hf⟩ := gR_ok hf
      refine g_getR C fl_Mo_7 dX10_read_89 hg ?_
      refine g_iload_n C dX10_read_92 rfl ?_
      obtain ⟨x8, hx8, hg, hf⟩ := aI_ok hf
      refine e_iald C dX10_read_93 hx8 hg ?_
      refine g_goto (tgt := 103) C dX10_read_94 (by decide) ?_
      refine g_sub (lv' := [some (.ref (E.2.1 + l0)), some (.int l1), some (.int l2)]) ⟨rfl, ⟨rfl, ⟨rfl, trivial⟩⟩⟩ ?_
      exact l_Mo_read_b103 C HR K62 hf
theorem l_Mo_read_b62 {E : EE} {X : CT} (C : gCx E X cX10_read "FavoursGoOffModel" (some .int) 7 155 0 0 false 3) {r : Int32} {G' : Hp} (HR : gRet E X cX10_read (some .int) 0 0 (some (.int r)) G') : ∀ (nn : Nat) {G : Hp} {l0 : Nat} {l1 : Int32} {l2 : Int32}, f_Mo_read_b62 nn G l0 l1 l2 = some (r, G') → gV E X 0 0 G 62 [some (.ref (E.2.1 + l0)), some (.int l1), some (.int l2)] []
  | 0, _, _, _, _, hf => by have h0 : (none : Option (Int32 × Hp)) = some (r, G') := hf; cases h0
  | nn + 1, _, _, _, _, hf => l_Mo_read_b62k C HR (fun h => l_Mo_read_b62 C HR nn h) hf
set_option maxRecDepth 20000 in
theorem l_Mo_read_b7k {E : EE} {X : CT} {G : Hp} (C : gCx E X cX10_read "FavoursGoOffModel" (some .int) 7 155 0 0 false 3) {r : Int32} {G' : Hp} (HR : gRet E X cX10_read (some .int) 0 0 (some (.int r)) G') {k7 : Hp → Nat → Int32 → Option (Int32 × Hp)} (K7 : ∀ {G : Hp} {l0 : Nat} {l1 : Int32}, k7 G l0 l1 = some (r, G') → gV E X 0 0 G 7 [some (.ref (E.2.1 + l0)), some (.int l1), none] []) {l0 : Nat} {l1 : Int32} (hf : f_Mo_read_b7_k k7 G l0 l1 = some (r, G')) : gV E X 0 0 G 7 [some (.ref (E.2.1 + l0)), some (.int l1), none] [] := by
  unfold f_Mo_read_b7_k at hf
  refine g_aload_n C dX10_read_7 rfl ?_
  obtain ⟨x1, hx1, hg, hf⟩ := gI_ok hf
  refine e_getI C fl_Mo_218 dX10_read_8 hx1 hg ?_
  refine g_if_ne (tgt := 18) C dX10_read_11 (by decide) (fun hc => ?_) (fun hc => ?_)
  · have hf := iteF hf hc
    refine g_sub (lv' := [some (.ref (E.2.1 + l0)), some (.int l1), none]) ⟨rfl, ⟨rfl, trivial⟩⟩ ?_
    exact l_Mo_read_b18 C HR K7 hf
  · have hf := iteT hf hc
    refine g_iload_n C dX10_read_14 rfl ?_
    refine g_if_ne (tgt := 60) C dX10_read_15 (by decide) (fun hc => ?_) (fun hc => ?_)
    · have hf := iteF hf hc
      refine g_iconst (v := (0 : Int32)) C dX10_read_60 (by decide) ?_
      refine g_istore_n (lv' := [some (.ref (E.2.1 + l0)), some (.int l1), some (.int (0 : Int32))]) C dX10_read_61 (by decide) rfl ?_
      refine g_sub (lv' := [some (.ref (E.2.1 + l0)), some (.int l1), some (.int (0 : Int32))]) ⟨rfl, ⟨rfl, ⟨rfl, trivial⟩⟩⟩ ?_
      exact l_Mo_read_b62 C HR  FU hf
    · have hf := iteT hf hc
      refine g_sub (lv' := [some (.ref (E.2.1 + l0)), some (.int l1), none]) ⟨rfl, ⟨rfl, trivial⟩⟩ ?_
      exact l_Mo_read_b18 C HR K7 hf
theorem l_Mo_read_b7 {E : EE} {X : CT} (C : gCx E X cX10_read "FavoursGoOffModel" (some .int) 7 155 0 0 false 3) {r : Int32} {G' : Hp} (HR : gRet E X cX10_read (some .int) 0 0 (some (.int r)) G') : ∀ (nn : Nat) {G : Hp} {l0 : Nat} {l1 : Int32}, f_Mo_read_b7 nn G l0 l1 = some (r, G') → gV E X 0 0 G 7 [some (.ref (E.2.1 + l0)), some (.int l1), none] []
  | 0, _, _, _, hf => by have h0 : (none : Option (Int32 × Hp)) = some (r, G') := hf; cases h0
  | nn + 1, _, _, _, hf => l_Mo_read_b7k C HR (fun h => l_Mo_read_b7 C HR nn h) hf
set_option maxRecDepth 20000 in
theorem l_Mo_read {E : EE} {X : CT} {G : Hp} (C : gCx E X cX10_read "FavoursGoOffModel" (some .int) 7 155 0 0 false 3) {r : Int32} {G' : Hp} (HR : gRet E X cX10_read (some .int) 0 0 (some (.int r)) G') {l0 : Nat} (hf : f_Mo_read G l0 = some (r, G')) : gV E X 0 0 G 0 [some (.ref (E.2.1 + l0)), none, none] [] := by
  unfold f_Mo_read at hf
  refine g_aload_n C dX10_read_0 rfl ?_
  refine g_iconst (v := (0 : Int32)) C dX10_read_1 (by decide) ?_
  obtain ⟨G1, hg, h1, hf⟩ := vP_ok hf
  refine g_invV (As := [.int (0 : Int32)]) (st := []) C (c_Mo_lookAt E h1) (rfl : vwCl[10]? = some (y_Mo_lookAt.cls, TX10, 24)) (by decide) hg ml_Mo_230 cm_Mo_lookAt.1 cm_Mo_lookAt.2.1 cm_Mo_lookAt.2.2.1 cm_Mo_lookAt.2.2.2.1 cm_Mo_lookAt.2.2.2.2 rfl ⟨by omega, by omega, by omega, by omega⟩ (by exact Nat.le_of_ble_eq_true rfl) rfl dX10_read_2 ?_
  refine g_iconst (v := (0 : Int32)) C dX10_read_5 (by decide) ?_
  refine g_istore_n (lv' := [some (.ref (E.2.1 + l0)), some (.int (0 : Int32)), none]) C dX10_read_6 (by decide) rfl ?_
  refine g_sub (lv' := [some (.ref (E.2.1 + l0)), some (.int (0 : Int32)), none]) ⟨rfl, ⟨rfl, trivial⟩⟩ ?_
  exact l_Mo_read_b7 C HR  FU hf
theorem c_Mo_read (E : EE) {G : Hp} {l0 : Nat} {r : Int32} {G' : Hp} (h : f_Mo_read G l0 = some (r, G')) : gCt E y_Mo_read cX10_read 3 (some .int) 7 155 0 0 [.ref (E.2.1 + l0)] G (some (.int r)) G' := gCt_of (own := "FavoursGoOffModel") (ini := false) [some (.ref (E.2.1 + l0)), none, none] (by decide +kernel) rfl (fun h => by cases h) (Nat.le_of_ble_eq_true rfl) ⟨rfl, trivial⟩ (fun X C HR => l_Mo_read C HR h)
set_option maxRecDepth 20000 in
theorem l_Mo_part_b30 {E : EE} {X : CT} {G : Hp} (C : gCx E X cX10_part "FavoursGoOffModel" (some .long) 1 21 0 0 false 2) {r : Int64} {G' : Hp} (HR : gRet E X cX10_part (some .long) 0 0 (some (.long r)) G') {s0 : Int64} (hf : f_Mo_part_b30 G s0 = some (r, G')) : gV E X 0 0 G 30 [none, none] [.long s0] := by
  unfold f_Mo_part_b30 at hf
  obtain ⟨rfl, rfl⟩ := rH_ok hf
  exact g_lret HR dX10_part_30
set_option maxRecDepth 20000 in
theorem l_Mo_part {E : EE} {X : CT} {G : Hp} (C : gCx E X cX10_part "FavoursGoOffModel" (some .long) 1 21 0 0 false 2) {r : Int64} {G' : Hp} (HR : gRet E X cX10_part (some .long) 0 0 (some (.long r)) G') {l0 : Nat} {l1 : Int32} (hf : f_Mo_part G l0 l1 = some (r, G')) : gV E X 0 0 G 0 [some (.ref (E.2.1 + l0)), some (.int l1)] [] := by
  unfold f_Mo_part at hf
  refine g_iload_n C dX10_part_0 rfl ?_
  refine g_if_ne (tgt := 11) C dX10_part_1 (by decide) (fun hc => ?_) (fun hc => ?_)
  · have hf := iteF hf hc
    refine g_iload_n C dX10_part_11 rfl ?_
    refine g_iconst (v := (1 : Int32)) C dX10_part_12 (by decide) ?_
    refine g_icmp_ne (tgt := 23) C dX10_part_13 (by decide) (fun hc => ?_) (fun hc => ?_)
    · have hf := iteF hf hc
      refine g_aload_n C dX10_part_23 rfl ?_
      refine g_bipush (v := (-2 : Int32)) C dX10_part_24 (by decide) ?_
      obtain ⟨x1, G2, hg, h1, hf⟩ := vH_ok hf
      refine g_invV (As := [.int (-2 : Int32)]) (st := []) C (c_Mo_bad E h1) (rfl : vwCl[10]? = some (y_Mo_bad.cls, TX10, 24)) (by decide) hg ml_Mo_80 cm_Mo_bad.1 cm_Mo_bad.2.1 cm_Mo_bad.2.2.1 cm_Mo_bad.2.2.2.1 cm_Mo_bad.2.2.2.2 rfl ⟨by omega, by omega, by omega, by omega⟩ (by exact Nat.le_of_ble_eq_true rfl) rfl dX10_part_26 ?_
      refine g_i2l C dX10_part_29 ?_
      refine g_sub (lv' := [none, none]) trivial ?_
      exact l_Mo_part_b30 C HR  hf
    · have hf := iteT hf hc
      refine g_aload_n C dX10_part_16 rfl ?_
      obtain ⟨x3, hx3, hg, hf⟩ := gL_ok hf
      refine e_getL C fl_Mo_23 dX10_part_17 hx3 hg ?_
      refine g_goto (tgt := 30) C dX10_part_20 (by decide) ?_
      refine g_sub (lv' := [none, none]) trivial ?_
      exact l_Mo_part_b30 C HR  hf
  · have hf := iteT hf hc
    refine g_aload_n C dX10_part_4 rfl ?_
    obtain ⟨x4, hx4, hg, hf⟩ := gL_ok hf
    refine e_getL C fl_Mo_61 dX10_part_5 hx4 hg ?_
    refine g_goto (tgt := 30) C dX10_part_8 (by decide) ?_
    refine g_sub (lv' := [none, none]) trivial ?_
    exact l_Mo_part_b30 C HR  hf
theorem c_Mo_part (E : EE) {G : Hp} {l0 : Nat} {l1 : Int32} {r : Int64} {G' : Hp} (h : f_Mo_part G l0 l1 = some (r, G')) : gCt E y_Mo_part cX10_part 2 (some .long) 1 21 0 0 [.ref (E.2.1 + l0), .int l1] G (some (.long r)) G' := gCt_of (own := "FavoursGoOffModel") (ini := false) [some (.ref (E.2.1 + l0)), some (.int l1)] (by decide +kernel) rfl (fun h => by cases h) (Nat.le_of_ble_eq_true rfl) ⟨rfl, ⟨rfl, trivial⟩⟩ (fun X C HR => l_Mo_part C HR h)
set_option maxRecDepth 20000 in
theorem l_Mo_image_b19k {E : EE} {X : CT} {G : Hp} (C : gCx E X cX10_image "FavoursGoOffModel" (some .int) 1 25 0 0 false 3) {r : Int32} {G' : Hp} (HR : gRet E X cX10_image (some .int) 0 0 (some (.int r)) G') {k19 : Hp → Nat → Int32 → Int32 → Option (Int32 × Hp)} (K19 : ∀ {G : Hp} {l0 : Nat} {l1 : Int32} {l2 : Int32}, k19 G l0 l1 l2 = some (r, G') → gV E X 0 0 G 19 [some (.ref (E.2.1 + l0)), some (.int l1), some (.int l2)] []) {l0 : Nat} {l1 : Int32} {l2 : Int32} (hf : f_Mo_image_b19_k k19 G l0 l1 l2 = some (r, G')) : gV E X 0 0 G 19 [some (.ref (E.2.1 + l0)), some (.int l1), some (.int l2)] [] := by
  unfold f_Mo_image_b19_k at hf
  refine g_iload_n C dX10_image_19 rfl ?_
  refine g_sipush (v := (484 : Int32)) C dX10_image_20 (by decide) ?_
  refine g_icmp_ge (tgt := 50) C dX10_image_23 (by decide) (fun hc => ?_) (fun hc => ?_)
  · have hf := iteT hf hc
    refine g_aload_n C dX10_image_50 rfl ?_
    obtain ⟨x1, hg, hf⟩ := gR_ok hf
    refine g_getR C fl_Mo_16 dX10_image_51 hg ?_
    refine g_iload_n C dX10_image_54 rfl ?_
    refine g_iconst (v := (1 : Int32)) C dX10_image_55 (by decide) ?_
    obtain ⟨G2, hG2, hg, hf⟩ := sI_ok hf
    refine e_zast C dX10_image_56 hG2 hg (by decide) ?_
    refine g_iconst (v := (1 : Int32)) C dX10_image_57 (by decide) ?_
    obtain ⟨rfl, rfl⟩ := rH_ok hf
    exact g_iret HR dX10_image_58
  · have hf := iteF hf hc
    refine g_aload_n C dX10_image_26 rfl ?_
    obtain ⟨x3, hg, hf⟩ := gR_ok hf
    refine g_getR C fl_Mo_13 dX10_image_27 hg ?_
    refine g_sipush (v := (484 : Int32)) C dX10_image_30 (by decide) ?_
    refine g_iload_n C dX10_image_33 rfl ?_
    refine g_imul C dX10_image_34 ?_
    refine g_iload_n C dX10_image_35 rfl ?_
    refine g_iadd C dX10_image_36 ?_
    refine g_aload_n C dX10_image_37 rfl ?_
    obtain ⟨x4, hg, hf⟩ := gR_ok hf
    refine g_getR C fl_Mo_7 dX10_image_38 hg ?_
    refine g_iload_n C dX10_image_41 rfl ?_
    obtain ⟨x5, hx5, hg, hf⟩ := aI_ok hf
    refine e_iald C dX10_image_42 hx5 hg ?_
    obtain ⟨G6, hG6, hg, hf⟩ := sI_ok hf
    refine e_iast C dX10_image_43 hG6 hg ?_
    refine g_iinc (v := (l2 + 1)) (lv' := [some (.ref (E.2.1 + l0)), some (.int l1), some (.int (l2 + 1))]) C dX10_image_44 (by decide) rfl rfl rfl ?_
    refine g_goto (tgt := 19) C dX10_image_47 (by decide) ?_
    refine g_sub (lv' := [some (.ref (E.2.1 + l0)), some (.int l1), some (.int (l2 + 1))]) ⟨rfl, ⟨rfl, ⟨rfl, trivial⟩⟩⟩ ?_
    exact K19 hf
theorem l_Mo_image_b19 {E : EE} {X : CT} (C : gCx E X cX10_image "FavoursGoOffModel" (some .int) 1 25 0 0 false 3) {r : Int32} {G' : Hp} (HR : gRet E X cX10_image (some .int) 0 0 (some (.int r)) G') : ∀ (nn : Nat) {G : Hp} {l0 : Nat} {l1 : Int32} {l2 : Int32}, f_Mo_image_b19 nn G l0 l1 l2 = some (r, G') → gV E X 0 0 G 19 [some (.ref (E.2.1 + l0)), some (.int l1), some (.int l2)] []
  | 0, _, _, _, _, hf => by have h0 : (none : Option (Int32 × Hp)) = some (r, G') := hf; cases h0
  | nn + 1, _, _, _, _, hf => l_Mo_image_b19k C HR (fun h => l_Mo_image_b19 C HR nn h) hf
set_option maxRecDepth 20000 in
theorem l_Mo_image {E : EE} {X : CT} {G : Hp} (C : gCx E X cX10_image "FavoursGoOffModel" (some .int) 1 25 0 0 false 3) {r : Int32} {G' : Hp} (HR : gRet E X cX10_image (some .int) 0 0 (some (.int r)) G') {l0 : Nat} {l1 : Int32} (hf : f_Mo_image G l0 l1 = some (r, G')) : gV E X 0 0 G 0 [some (.ref (E.2.1 + l0)), some (.int l1), none] [] := by
  unfold f_Mo_image at hf
  refine g_iload_n C dX10_image_0 rfl ?_
  refine g_i2l C dX10_image_1 ?_
  refine g_lconst (v := (0 : Int64)) C dX10_image_2 (by decide) ?_
  refine g_lconst (v := (1 : Int64)) C dX10_image_3 (by decide) ?_
  obtain ⟨x1, h1, hf⟩ := cP_ok hf
  refine g_invS (As := [.long l1.toInt64, .long (0 : Int64), .long (1 : Int64)]) (st := []) C (c_Mo_in E h1) ml_Mo_68 cm_Mo_in.1 cm_Mo_in.2.1 cm_Mo_in.2.2.1 cm_Mo_in.2.2.2 rfl ⟨by omega, by omega, by omega, by omega⟩ (by exact Nat.le_of_ble_eq_true rfl) rfl dX10_image_4 ?_
  refine g_if_ne (tgt := 17) C dX10_image_7 (by decide) (fun hc => ?_) (fun hc => ?_)
  · have hf := iteF hf hc
    refine g_iconst (v := (0 : Int32)) C dX10_image_17 (by decide) ?_
    refine g_istore_n (lv' := [some (.ref (E.2.1 + l0)), some (.int l1), some (.int (0 : Int32))]) C dX10_image_18 (by decide) rfl ?_
    refine g_sub (lv' := [some (.ref (E.2.1 + l0)), some (.int l1), some (.int (0 : Int32))]) ⟨rfl, ⟨rfl, ⟨rfl, trivial⟩⟩⟩ ?_
    exact l_Mo_image_b19 C HR  FU hf
  · have hf := iteT hf hc
    refine g_aload_n C dX10_image_10 rfl ?_
    refine g_bipush (v := (-2 : Int32)) C dX10_image_11 (by decide) ?_
    obtain ⟨x2, G3, hg, h1, hf⟩ := vH_ok hf
    refine g_invV (As := [.int (-2 : Int32)]) (st := []) C (c_Mo_bad E h1) (rfl : vwCl[10]? = some (y_Mo_bad.cls, TX10, 24)) (by decide) hg ml_Mo_80 cm_Mo_bad.1 cm_Mo_bad.2.1 cm_Mo_bad.2.2.1 cm_Mo_bad.2.2.2.1 cm_Mo_bad.2.2.2.2 rfl ⟨by omega, by omega, by omega, by omega⟩ (by exact Nat.le_of_ble_eq_true rfl) rfl dX10_image_13 ?_
    obtain ⟨rfl, rfl⟩ := rH_ok hf
    exact g_iret HR dX10_image_16
theorem c_Mo_image (E : EE) {G : Hp} {l0 : Nat} {l1 : Int32} {r : Int32} {G' : Hp} (h : f_Mo_image G l0 l1 = some (r, G')) : gCt E y_Mo_image cX10_image 3 (some .int) 1 25 0 0 [.ref (E.2.1 + l0), .int l1] G (some (.int r)) G' := gCt_of (own := "FavoursGoOffModel") (ini := false) [some (.ref (E.2.1 + l0)), some (.int l1), none] (by decide +kernel) rfl (fun h => by cases h) (Nat.le_of_ble_eq_true rfl) ⟨rfl, ⟨rfl, trivial⟩⟩ (fun X C HR => l_Mo_image C HR h)
set_option maxRecDepth 20000 in
theorem l_Mo_from_b35k {E : EE} {X : CT} {G : Hp} (C : gCx E X cX10_from "FavoursGoOffModel" (some .int) 1 25 0 0 false 3) {r : Int32} {G' : Hp} (HR : gRet E X cX10_from (some .int) 0 0 (some (.int r)) G') {k35 : Hp → Nat → Int32 → Int32 → Option (Int32 × Hp)} (K35 : ∀ {G : Hp} {l0 : Nat} {l1 : Int32} {l2 : Int32}, k35 G l0 l1 l2 = some (r, G') → gV E X 0 0 G 35 [some (.ref (E.2.1 + l0)), some (.int l1), some (.int l2)] []) {l0 : Nat} {l1 : Int32} {l2 : Int32} (hf : f_Mo_from_b35_k k35 G l0 l1 l2 = some (r, G')) : gV E X 0 0 G 35 [some (.ref (E.2.1 + l0)), some (.int l1), some (.int l2)] [] := by
  unfold f_Mo_from_b35_k at hf
  refine g_iload_n C dX10_from_35 rfl ?_
  refine g_sipush (v := (484 : Int32)) C dX10_from_36 (by decide) ?_
  refine g_icmp_ge (tgt := 66) C dX10_from_39 (by decide) (fun hc => ?_) (fun hc => ?_)
  · have hf := iteT hf hc
    refine g_iconst (v := (1 : Int32)) C dX10_from_66 (by decide) ?_
    obtain ⟨rfl, rfl⟩ := rH_ok hf
    exact g_iret HR dX10_from_67
  · have hf := iteF hf hc
    refine g_aload_n C dX10_from_42 rfl ?_
    obtain ⟨x1, hg, hf⟩ := gR_ok hf
    refine g_getR C fl_Mo_7 dX10_from_43 hg ?_
    refine g_iload_n C dX10_from_46 rfl ?_
    refine g_aload_n C dX10_from_47 rfl ?_
    obtain ⟨x2, hg, hf⟩ := gR_ok hf
    refine g_getR C fl_Mo_13 dX10_from_48 hg ?_
    refine g_sipush (v := (484 : Int32)) C dX10_from_51 (by decide) ?_
    refine g_iload_n C dX10_from_54 rfl ?_
    refine g_imul C dX10_from_55 ?_
    refine g_iload_n C dX10_from_56 rfl ?_
    refine g_iadd C dX10_from_57 ?_
    obtain ⟨x3, hx3, hg, hf⟩ := aI_ok hf
    refine e_iald C dX10_from_58 hx3 hg ?_
    obtain ⟨G4, hG4, hg, hf⟩ := sI_ok hf
    refine e_iast C dX10_from_59 hG4 hg ?_
    refine g_iinc (v := (l2 + 1)) (lv' := [some (.ref (E.2.1 + l0)), some (.int l1), some (.int (l2 + 1))]) C dX10_from_60 (by decide) rfl rfl rfl ?_
    refine g_goto (tgt := 35) C dX10_from_63 (by decide) ?_
    refine g_sub (lv' := [some (.ref (E.2.1 + l0)), some (.int l1), some (.int (l2 + 1))]) ⟨rfl, ⟨rfl, ⟨rfl, trivial⟩⟩⟩ ?_
    exact K35 hf
theorem l_Mo_from_b35 {E : EE} {X : CT} (C : gCx E X cX10_from "FavoursGoOffModel" (some .int) 1 25 0 0 false 3) {r : Int32} {G' : Hp} (HR : gRet E X cX10_from (some .int) 0 0 (some (.int r)) G') : ∀ (nn : Nat) {G : Hp} {l0 : Nat} {l1 : Int32} {l2 : Int32}, f_Mo_from_b35 nn G l0 l1 l2 = some (r, G') → gV E X 0 0 G 35 [some (.ref (E.2.1 + l0)), some (.int l1), some (.int l2)] []
  | 0, _, _, _, _, hf => by have h0 : (none : Option (Int32 × Hp)) = some (r, G') := hf; cases h0
  | nn + 1, _, _, _, _, hf => l_Mo_from_b35k C HR (fun h => l_Mo_from_b35 C HR nn h) hf
set_option maxRecDepth 20000 in
theorem l_Mo_from {E : EE} {X : CT} {G : Hp} (C : gCx E X cX10_from "FavoursGoOffModel" (some .int) 1 25 0 0 false 3) {r : Int32} {G' : Hp} (HR : gRet E X cX10_from (some .int) 0 0 (some (.int r)) G') {l0 : Nat} {l1 : Int32} (hf : f_Mo_from G l0 l1 = some (r, G')) : gV E X 0 0 G 0 [some (.ref (E.2.1 + l0)), some (.int l1), none] [] := by
  unfold f_Mo_from at hf
  refine g_iload_n C dX10_from_0 rfl ?_
  refine g_i2l C dX10_from_1 ?_
  refine g_lconst (v := (0 : Int64)) C dX10_from_2 (by decide) ?_
  refine g_lconst (v := (1 : Int64)) C dX10_from_3 (by decide) ?_
  obtain ⟨x1, h1, hf⟩ := cP_ok hf
  refine g_invS (As := [.long l1.toInt64, .long (0 : Int64), .long (1 : Int64)]) (st := []) C (c_Mo_in E h1) ml_Mo_68 cm_Mo_in.1 cm_Mo_in.2.1 cm_Mo_in.2.2.1 cm_Mo_in.2.2.2 rfl ⟨by omega, by omega, by omega, by omega⟩ (by exact Nat.le_of_ble_eq_true rfl) rfl dX10_from_4 ?_
  refine g_if_ne (tgt := 17) C dX10_from_7 (by decide) (fun hc => ?_) (fun hc => ?_)
  · have hf := iteF hf hc
    refine g_aload_n C dX10_from_17 rfl ?_
    obtain ⟨x2, hg, hf⟩ := gR_ok hf
    refine g_getR C fl_Mo_16 dX10_from_18 hg ?_
    refine g_iload_n C dX10_from_21 rfl ?_
    obtain ⟨x3, hx3, hg, hf⟩ := aI_ok hf
    refine e_zald C dX10_from_22 hx3 hg ?_
    refine g_if_ne (tgt := 33) C dX10_from_23 (by decide) (fun hc => ?_) (fun hc => ?_)
    · have hf := iteF hf hc
      refine g_iconst (v := (0 : Int32)) C dX10_from_33 (by decide) ?_
      refine g_istore_n (lv' := [some (.ref (E.2.1 + l0)), some (.int l1), some (.int (0 : Int32))]) C dX10_from_34 (by decide) rfl ?_
      refine g_sub (lv' := [some (.ref (E.2.1 + l0)), some (.int l1), some (.int (0 : Int32))]) ⟨rfl, ⟨rfl, ⟨rfl, trivial⟩⟩⟩ ?_
      exact l_Mo_from_b35 C HR  FU hf
    · have hf := iteT hf hc
      refine g_aload_n C dX10_from_26 rfl ?_
      refine g_bipush (v := (-3 : Int32)) C dX10_from_27 (by decide) ?_
      obtain ⟨x4, G5, hg, h1, hf⟩ := vH_ok hf
      refine g_invV (As := [.int (-3 : Int32)]) (st := []) C (c_Mo_no E h1) (rfl : vwCl[10]? = some (y_Mo_no.cls, TX10, 24)) (by decide) hg ml_Mo_128 cm_Mo_no.1 cm_Mo_no.2.1 cm_Mo_no.2.2.1 cm_Mo_no.2.2.2.1 cm_Mo_no.2.2.2.2 rfl ⟨by omega, by omega, by omega, by omega⟩ (by exact Nat.le_of_ble_eq_true rfl) rfl dX10_from_29 ?_
      obtain ⟨rfl, rfl⟩ := rH_ok hf
      exact g_iret HR dX10_from_32
  · have hf := iteT hf hc
    refine g_aload_n C dX10_from_10 rfl ?_
    refine g_bipush (v := (-2 : Int32)) C dX10_from_11 (by decide) ?_
    obtain ⟨x6, G7, hg, h1, hf⟩ := vH_ok hf
    refine g_invV (As := [.int (-2 : Int32)]) (st := []) C (c_Mo_bad E h1) (rfl : vwCl[10]? = some (y_Mo_bad.cls, TX10, 24)) (by decide) hg ml_Mo_80 cm_Mo_bad.1 cm_Mo_bad.2.1 cm_Mo_bad.2.2.1 cm_Mo_bad.2.2.2.1 cm_Mo_bad.2.2.2.2 rfl ⟨by omega, by omega, by omega, by omega⟩ (by exact Nat.le_of_ble_eq_true rfl) rfl dX10_from_13 ?_
    obtain ⟨rfl, rfl⟩ := rH_ok hf
    exact g_iret HR dX10_from_16
theorem c_Mo_from (E : EE) {G : Hp} {l0 : Nat} {l1 : Int32} {r : Int32} {G' : Hp} (h : f_Mo_from G l0 l1 = some (r, G')) : gCt E y_Mo_from cX10_from 3 (some .int) 1 25 0 0 [.ref (E.2.1 + l0), .int l1] G (some (.int r)) G' := gCt_of (own := "FavoursGoOffModel") (ini := false) [some (.ref (E.2.1 + l0)), some (.int l1), none] (by decide +kernel) rfl (fun h => by cases h) (Nat.le_of_ble_eq_true rfl) ⟨rfl, ⟨rfl, trivial⟩⟩ (fun X C HR => l_Mo_from C HR h)
set_option maxRecDepth 20000 in
theorem l_Mo_status_b26 {E : EE} {X : CT} {G : Hp} (C : gCx E X cX10_status "FavoursGoOffModel" (some .int) 1 25 0 0 false 2) {r : Int32} {G' : Hp} (HR : gRet E X cX10_status (some .int) 0 0 (some (.int r)) G') {s0 : Int32} (hf : f_Mo_status_b26 G s0 = some (r, G')) : gV E X 0 0 G 26 [none, none] [.int s0] := by
  unfold f_Mo_status_b26 at hf
  obtain ⟨rfl, rfl⟩ := rH_ok hf
  exact g_iret HR dX10_status_26
set_option maxRecDepth 20000 in
theorem l_Mo_status {E : EE} {X : CT} {G : Hp} (C : gCx E X cX10_status "FavoursGoOffModel" (some .int) 1 25 0 0 false 2) {r : Int32} {G' : Hp} (HR : gRet E X cX10_status (some .int) 0 0 (some (.int r)) G') {l0 : Nat} {l1 : Int32} (hf : f_Mo_status G l0 l1 = some (r, G')) : gV E X 0 0 G 0 [some (.ref (E.2.1 + l0)), some (.int l1)] [] := by
  unfold f_Mo_status at hf
  refine g_iload_n C dX10_status_0 rfl ?_
  refine g_i2l C dX10_status_1 ?_
  refine g_lconst (v := (0 : Int64)) C dX10_status_2 (by decide) ?_
  refine g_ldc2 (v := (2 : Int64)) C dX10_status_3 kl_Mo_76 ?_
  obtain ⟨x1, h1, hf⟩ := cP_ok hf
  refine g_invS (As := [.long l1.toInt64, .long (0 : Int64), .long (2 : Int64)]) (st := []) C (c_Mo_in E h1) ml_Mo_68 cm_Mo_in.1 cm_Mo_in.2.1 cm_Mo_in.2.2.1 cm_Mo_in.2.2.2 rfl ⟨by omega, by omega, by omega, by omega⟩ (by exact Nat.le_of_ble_eq_true rfl) rfl dX10_status_6 ?_
  refine g_if_eq (tgt := 21) C dX10_status_9 (by decide) (fun hc => ?_) (fun hc => ?_)
  · have hf := iteT hf hc
    refine g_aload_n C dX10_status_21 rfl ?_
    refine g_iconst (v := (-1 : Int32)) C dX10_status_22 (by decide) ?_
    obtain ⟨x2, G3, hg, h1, hf⟩ := vH_ok hf
    refine g_invV (As := [.int (-1 : Int32)]) (st := []) C (c_Mo_bad E h1) (rfl : vwCl[10]? = some (y_Mo_bad.cls, TX10, 24)) (by decide) hg ml_Mo_80 cm_Mo_bad.1 cm_Mo_bad.2.1 cm_Mo_bad.2.2.1 cm_Mo_bad.2.2.2.1 cm_Mo_bad.2.2.2.2 rfl ⟨by omega, by omega, by omega, by omega⟩ (by exact Nat.le_of_ble_eq_true rfl) rfl dX10_status_23 ?_
    refine g_sub (lv' := [none, none]) trivial ?_
    exact l_Mo_status_b26 C HR  hf
  · have hf := iteF hf hc
    refine g_aload_n C dX10_status_12 rfl ?_
    obtain ⟨x4, hg, hf⟩ := gR_ok hf
    refine g_getR C fl_Mo_20 dX10_status_13 hg ?_
    refine g_iload_n C dX10_status_16 rfl ?_
    obtain ⟨x5, hx5, hg, hf⟩ := aI_ok hf
    refine e_iald C dX10_status_17 hx5 hg ?_
    refine g_goto (tgt := 26) C dX10_status_18 (by decide) ?_
    refine g_sub (lv' := [none, none]) trivial ?_
    exact l_Mo_status_b26 C HR  hf
theorem c_Mo_status (E : EE) {G : Hp} {l0 : Nat} {l1 : Int32} {r : Int32} {G' : Hp} (h : f_Mo_status G l0 l1 = some (r, G')) : gCt E y_Mo_status cX10_status 2 (some .int) 1 25 0 0 [.ref (E.2.1 + l0), .int l1] G (some (.int r)) G' := gCt_of (own := "FavoursGoOffModel") (ini := false) [some (.ref (E.2.1 + l0)), some (.int l1)] (by decide +kernel) rfl (fun h => by cases h) (Nat.le_of_ble_eq_true rfl) ⟨rfl, ⟨rfl, trivial⟩⟩ (fun X C HR => l_Mo_status C HR h)
set_option maxRecDepth 20000 in
theorem l_Mo_counted_b91 {E : EE} {X : CT} {G : Hp} (C : gCx E X cX10_counted "FavoursGoOffModel" (some .int) 1 20 0 0 false 2) {r : Int32} (HR : gRet E X cX10_counted (some .int) 0 0 (some (.int r)) G) {s0 : Int32} (hf : f_Mo_counted_b91 G s0 = some r) : gV E X 0 0 G 91 [none, none] [.int s0] := by
  unfold f_Mo_counted_b91 at hf
  obtain rfl := rP_ok hf
  exact g_iret HR dX10_counted_91
set_option maxRecDepth 20000 in
theorem l_Mo_counted {E : EE} {X : CT} {G : Hp} (C : gCx E X cX10_counted "FavoursGoOffModel" (some .int) 1 20 0 0 false 2) {r : Int32} (HR : gRet E X cX10_counted (some .int) 0 0 (some (.int r)) G) {l0 : Nat} {l1 : Int32} (hf : f_Mo_counted G l0 l1 = some r) : gV E X 0 0 G 0 [some (.ref (E.2.1 + l0)), some (.int l1)] [] := by
  unfold f_Mo_counted at hf
  refine g_iload_n C dX10_counted_0 rfl ?_
  refine g_if_ne (tgt := 11) C dX10_counted_1 (by decide) (fun hc => ?_) (fun hc => ?_)
  · have hf := iteF hf hc
    refine g_iload_n C dX10_counted_11 rfl ?_
    refine g_iconst (v := (1 : Int32)) C dX10_counted_12 (by decide) ?_
    refine g_icmp_ne (tgt := 27) C dX10_counted_13 (by decide) (fun hc => ?_) (fun hc => ?_)
    · have hf := iteF hf hc
      refine g_iload_n C dX10_counted_27 rfl ?_
      refine g_iconst (v := (2 : Int32)) C dX10_counted_28 (by decide) ?_
      refine g_icmp_ne (tgt := 43) C dX10_counted_29 (by decide) (fun hc => ?_) (fun hc => ?_)
      · have hf := iteF hf hc
        refine g_iload_n C dX10_counted_43 rfl ?_
        refine g_iconst (v := (3 : Int32)) C dX10_counted_44 (by decide) ?_
        refine g_icmp_ne (tgt := 59) C dX10_counted_45 (by decide) (fun hc => ?_) (fun hc => ?_)
        · have hf := iteF hf hc
          refine g_iload_n C dX10_counted_59 rfl ?_
          refine g_iconst (v := (4 : Int32)) C dX10_counted_60 (by decide) ?_
          refine g_icmp_ne (tgt := 71) C dX10_counted_61 (by decide) (fun hc => ?_) (fun hc => ?_)
          · have hf := iteF hf hc
            refine g_iload_n C dX10_counted_71 rfl ?_
            refine g_iconst (v := (5 : Int32)) C dX10_counted_72 (by decide) ?_
            refine g_icmp_ne (tgt := 87) C dX10_counted_73 (by decide) (fun hc => ?_) (fun hc => ?_)
            · have hf := iteF hf hc
              refine g_aload_n C dX10_counted_87 rfl ?_
              obtain ⟨x1, hx1, hg, hf⟩ := gI_ok hf
              refine e_getI C fl_Mo_199 dX10_counted_88 hx1 hg ?_
              refine g_sub (lv' := [none, none]) trivial ?_
              exact l_Mo_counted_b91 C HR  hf
            · have hf := iteT hf hc
              refine g_aload_n C dX10_counted_76 rfl ?_
              obtain ⟨x2, hg, hf⟩ := gR_ok hf
              refine g_getR C fl_Mo_7 dX10_counted_77 hg ?_
              refine g_sipush (v := (161 : Int32)) C dX10_counted_80 (by decide) ?_
              obtain ⟨x3, hx3, hg, hf⟩ := aI_ok hf
              refine e_iald C dX10_counted_83 hx3 hg ?_
              refine g_goto (tgt := 91) C dX10_counted_84 (by decide) ?_
              refine g_sub (lv' := [none, none]) trivial ?_
              exact l_Mo_counted_b91 C HR  hf
          · have hf := iteT hf hc
            refine g_aload_n C dX10_counted_64 rfl ?_
            obtain ⟨x4, hg, h1, hf⟩ := vP_ok hf
            refine g_invV (As := []) (st := []) C (c_Mo_day E h1) (rfl : vwCl[10]? = some (y_Mo_day.cls, TX10, 24)) (by decide) hg ml_Mo_101 cm_Mo_day.1 cm_Mo_day.2.1 cm_Mo_day.2.2.1 cm_Mo_day.2.2.2.1 cm_Mo_day.2.2.2.2 rfl ⟨by omega, by omega, by omega, by omega⟩ (by exact Nat.le_of_ble_eq_true rfl) rfl dX10_counted_65 ?_
            refine g_goto (tgt := 91) C dX10_counted_68 (by decide) ?_
            refine g_sub (lv' := [none, none]) trivial ?_
            exact l_Mo_counted_b91 C HR  hf
        · have hf := iteT hf hc
          refine g_aload_n C dX10_counted_48 rfl ?_
          obtain ⟨x5, hg, hf⟩ := gR_ok hf
          refine g_getR C fl_Mo_7 dX10_counted_49 hg ?_
          refine g_sipush (v := (160 : Int32)) C dX10_counted_52 (by decide) ?_
          obtain ⟨x6, hx6, hg, hf⟩ := aI_ok hf
          refine e_iald C dX10_counted_55 hx6 hg ?_
          refine g_goto (tgt := 91) C dX10_counted_56 (by decide) ?_
          refine g_sub (lv' := [none, none]) trivial ?_
          exact l_Mo_counted_b91 C HR  hf
      · have hf := iteT hf hc
        refine g_aload_n C dX10_counted_32 rfl ?_
        obtain ⟨x7, hg, hf⟩ := gR_ok hf
        refine g_getR C fl_Mo_7 dX10_counted_33 hg ?_
        refine g_sipush (v := (159 : Int32)) C dX10_counted_36 (by decide) ?_
        obtain ⟨x8, hx8, hg, hf⟩ := aI_ok hf
        refine e_iald C dX10_counted_39 hx8 hg ?_
        refine g_goto (tgt := 91) C dX10_counted_40 (by decide) ?_
        refine g_sub (lv' := [none, none]) trivial ?_
        exact l_Mo_counted_b91 C HR  hf
    · have hf := iteT hf hc
      refine g_aload_n C dX10_counted_16 rfl ?_
      obtain ⟨x9, hg, hf⟩ := gR_ok hf
      refine g_getR C fl_Mo_7 dX10_counted_17 hg ?_
      refine g_sipush (v := (158 : Int32)) C dX10_counted_20 (by decide) ?_
      obtain ⟨x10, hx10, hg, hf⟩ := aI_ok hf
      refine e_iald C dX10_counted_23 hx10 hg ?_
      refine g_goto (tgt := 91) C dX10_counted_24 (by decide) ?_
      refine g_sub (lv' := [none, none]) trivial ?_
      exact l_Mo_counted_b91 C HR  hf
  · have hf := iteT hf hc
    refine g_aload_n C dX10_counted_4 rfl ?_
    obtain ⟨x11, hg, h1, hf⟩ := vP_ok hf
    refine g_invV (As := []) (st := []) C (c_Mo_many E h1) (rfl : vwCl[10]? = some (y_Mo_many.cls, TX10, 24)) (by decide) hg ml_Mo_64 cm_Mo_many.1 cm_Mo_many.2.1 cm_Mo_many.2.2.1 cm_Mo_many.2.2.2.1 cm_Mo_many.2.2.2.2 rfl ⟨by omega, by omega, by omega, by omega⟩ (by exact Nat.le_of_ble_eq_true rfl) rfl dX10_counted_5 ?_
    refine g_goto (tgt := 91) C dX10_counted_8 (by decide) ?_
    refine g_sub (lv' := [none, none]) trivial ?_
    exact l_Mo_counted_b91 C HR  hf
theorem c_Mo_counted (E : EE) {G : Hp} {l0 : Nat} {l1 : Int32} {r : Int32} (h : f_Mo_counted G l0 l1 = some r) : gCt E y_Mo_counted cX10_counted 2 (some .int) 1 20 0 0 [.ref (E.2.1 + l0), .int l1] G (some (.int r)) G := gCt_of (own := "FavoursGoOffModel") (ini := false) [some (.ref (E.2.1 + l0)), some (.int l1)] (by decide +kernel) rfl (fun h => by cases h) (Nat.le_of_ble_eq_true rfl) ⟨rfl, ⟨rfl, trivial⟩⟩ (fun X C HR => l_Mo_counted C HR h)
set_option maxRecDepth 20000 in
theorem l_Mo_count_b26 {E : EE} {X : CT} {G : Hp} (C : gCx E X cX10_count "FavoursGoOffModel" (some .int) 2 41 0 0 false 2) {r : Int32} {G' : Hp} (HR : gRet E X cX10_count (some .int) 0 0 (some (.int r)) G') {s0 : Int32} (hf : f_Mo_count_b26 G s0 = some (r, G')) : gV E X 0 0 G 26 [none, none] [.int s0] := by
  unfold f_Mo_count_b26 at hf
  obtain ⟨rfl, rfl⟩ := rH_ok hf
  exact g_iret HR dX10_count_26
set_option maxRecDepth 20000 in
theorem l_Mo_count {E : EE} {X : CT} {G : Hp} (C : gCx E X cX10_count "FavoursGoOffModel" (some .int) 2 41 0 0 false 2) {r : Int32} {G' : Hp} (HR : gRet E X cX10_count (some .int) 0 0 (some (.int r)) G') {l0 : Nat} {l1 : Int32} (hf : f_Mo_count G l0 l1 = some (r, G')) : gV E X 0 0 G 0 [some (.ref (E.2.1 + l0)), some (.int l1)] [] := by
  unfold f_Mo_count at hf
  refine g_iload_n C dX10_count_0 rfl ?_
  refine g_i2l C dX10_count_1 ?_
  refine g_lconst (v := (0 : Int64)) C dX10_count_2 (by decide) ?_
  refine g_ldc2 (v := (6 : Int64)) C dX10_count_3 kl_Mo_78 ?_
  obtain ⟨x1, h1, hf⟩ := cP_ok hf
  refine g_invS (As := [.long l1.toInt64, .long (0 : Int64), .long (6 : Int64)]) (st := []) C (c_Mo_in E h1) ml_Mo_68 cm_Mo_in.1 cm_Mo_in.2.1 cm_Mo_in.2.2.1 cm_Mo_in.2.2.2 rfl ⟨by omega, by omega, by omega, by omega⟩ (by exact Nat.le_of_ble_eq_true rfl) rfl dX10_count_6 ?_
  refine g_if_eq (tgt := 20) C dX10_count_9 (by decide) (fun hc => ?_) (fun hc => ?_)
  · have hf := iteT hf hc
    refine g_aload_n C dX10_count_20 rfl ?_
    refine g_bipush (v := (-2 : Int32)) C dX10_count_21 (by decide) ?_
    obtain ⟨x2, G3, hg, h1, hf⟩ := vH_ok hf
    refine g_invV (As := [.int (-2 : Int32)]) (st := []) C (c_Mo_bad E h1) (rfl : vwCl[10]? = some (y_Mo_bad.cls, TX10, 24)) (by decide) hg ml_Mo_80 cm_Mo_bad.1 cm_Mo_bad.2.1 cm_Mo_bad.2.2.1 cm_Mo_bad.2.2.2.1 cm_Mo_bad.2.2.2.2 rfl ⟨by omega, by omega, by omega, by omega⟩ (by exact Nat.le_of_ble_eq_true rfl) rfl dX10_count_23 ?_
    refine g_sub (lv' := [none, none]) trivial ?_
    exact l_Mo_count_b26 C HR  hf
  · have hf := iteF hf hc
    refine g_aload_n C dX10_count_12 rfl ?_
    refine g_iload_n C dX10_count_13 rfl ?_
    obtain ⟨x4, hg, h1, hf⟩ := vP_ok hf
    refine g_invV (As := [.int l1]) (st := []) C (c_Mo_counted E h1) (rfl : vwCl[10]? = some (y_Mo_counted.cls, TX10, 24)) (by decide) hg ml_Mo_262 cm_Mo_counted.1 cm_Mo_counted.2.1 cm_Mo_counted.2.2.1 cm_Mo_counted.2.2.2.1 cm_Mo_counted.2.2.2.2 rfl ⟨by omega, by omega, by omega, by omega⟩ (by exact Nat.le_of_ble_eq_true rfl) rfl dX10_count_14 ?_
    refine g_goto (tgt := 26) C dX10_count_17 (by decide) ?_
    refine g_sub (lv' := [none, none]) trivial ?_
    exact l_Mo_count_b26 C HR  hf
theorem c_Mo_count (E : EE) {G : Hp} {l0 : Nat} {l1 : Int32} {r : Int32} {G' : Hp} (h : f_Mo_count G l0 l1 = some (r, G')) : gCt E y_Mo_count cX10_count 2 (some .int) 2 41 0 0 [.ref (E.2.1 + l0), .int l1] G (some (.int r)) G' := gCt_of (own := "FavoursGoOffModel") (ini := false) [some (.ref (E.2.1 + l0)), some (.int l1)] (by decide +kernel) rfl (fun h => by cases h) (Nat.le_of_ble_eq_true rfl) ⟨rfl, ⟨rfl, trivial⟩⟩ (fun X C HR => l_Mo_count C HR h)
set_option maxRecDepth 20000 in
theorem l_Mo_sums_b6k {E : EE} {X : CT} {G : Hp} (C : gCx E X cX10_sums "FavoursGoOffModel" (some .long) 0 0 0 0 false 8) {r : Int64} (HR : gRet E X cX10_sums (some .long) 0 0 (some (.long r)) G) {k6 : Nat → Int32 → Int32 → Int64 → Int32 → Option Int64} (K6 : ∀ {l0 : Nat} {l3 : Int32} {l4 : Int32} {l5 : Int64} {l7 : Int32}, k6 l0 l3 l4 l5 l7 = some r → gV E X 0 0 G 6 [some (.ref (E.2.1 + l0)), none, none, some (.int l3), some (.int l4), some (.long l5), none, some (.int l7)] []) {l0 : Nat} {l3 : Int32} {l4 : Int32} {l5 : Int64} {l7 : Int32} (hf : f_Mo_sums_b6_k G k6 l0 l3 l4 l5 l7 = some r) : gV E X 0 0 G 6 [some (.ref (E.2.1 + l0)), none, none, some (.int l3), some (.int l4), some (.long l5), none, some (.int l7)] [] := by
  unfold f_Mo_sums_b6_k at hf
  refine g_iload C dX10_sums_6 rfl ?_
  refine g_iload C dX10_sums_8 rfl ?_
  refine g_icmp_ge (tgt := 38) C dX10_sums_10 (by decide) (fun hc => ?_) (fun hc => ?_)
  · have hf := iteT hf hc
    refine g_lload C dX10_sums_38 rfl ?_
    obtain rfl := rP_ok hf
    exact g_lret HR dX10_sums_40
  · have hf := iteF hf hc
    refine g_ldc2 (v := (31 : Int64)) C dX10_sums_13 kl_Mo_265 ?_
    refine g_lload C dX10_sums_16 rfl ?_
    refine g_lmul C dX10_sums_18 ?_
    refine g_aload_n C dX10_sums_19 rfl ?_
    obtain ⟨x1, hg, hf⟩ := gR_ok hf
    refine g_getR C fl_Mo_7 dX10_sums_20 hg ?_
    refine g_iload_n C dX10_sums_23 rfl ?_
    refine g_iload C dX10_sums_24 rfl ?_
    refine g_iadd C dX10_sums_26 ?_
    obtain ⟨x2, hx2, hg, hf⟩ := aI_ok hf
    refine e_iald C dX10_sums_27 hx2 hg ?_
    refine g_i2l C dX10_sums_28 ?_
    refine g_ladd C dX10_sums_29 ?_
    obtain ⟨x3, hx3, hf⟩ := lt_ok hf
    refine e_topl hx3 ?_
    refine g_lstore (lv' := [some (.ref (E.2.1 + l0)), none, none, some (.int l3), some (.int l4), some (.long x3), none, some (.int l7)]) C dX10_sums_30 (by decide) rfl ?_
    refine g_iinc (v := (l7 + 1)) (lv' := [some (.ref (E.2.1 + l0)), none, none, some (.int l3), some (.int l4), some (.long x3), none, some (.int (l7 + 1))]) C dX10_sums_32 (by decide) rfl rfl rfl ?_
    refine g_goto (tgt := 6) C dX10_sums_35 (by decide) ?_
    refine g_sub (lv' := [some (.ref (E.2.1 + l0)), none, none, some (.int l3), some (.int l4), some (.long x3), none, some (.int (l7 + 1))]) ⟨rfl, ⟨rfl, ⟨rfl, ⟨rfl, ⟨rfl, trivial⟩⟩⟩⟩⟩ ?_
    exact K6 hf
theorem l_Mo_sums_b6 {E : EE} {X : CT} {G : Hp} (C : gCx E X cX10_sums "FavoursGoOffModel" (some .long) 0 0 0 0 false 8) {r : Int64} (HR : gRet E X cX10_sums (some .long) 0 0 (some (.long r)) G) : ∀ (nn : Nat) {l0 : Nat} {l3 : Int32} {l4 : Int32} {l5 : Int64} {l7 : Int32}, f_Mo_sums_b6 G nn l0 l3 l4 l5 l7 = some r → gV E X 0 0 G 6 [some (.ref (E.2.1 + l0)), none, none, some (.int l3), some (.int l4), some (.long l5), none, some (.int l7)] []
  | 0, _, _, _, _, _, hf => by have h0 : (none : Option Int64) = some r := hf; cases h0
  | nn + 1, _, _, _, _, _, hf => l_Mo_sums_b6k C HR (fun h => l_Mo_sums_b6 C HR nn h) hf
set_option maxRecDepth 20000 in
theorem l_Mo_sums {E : EE} {X : CT} {G : Hp} (C : gCx E X cX10_sums "FavoursGoOffModel" (some .long) 0 0 0 0 false 8) {r : Int64} (HR : gRet E X cX10_sums (some .long) 0 0 (some (.long r)) G) {l0 : Nat} {l1 : Int64} {l3 : Int32} {l4 : Int32} (hf : f_Mo_sums G l0 l1 l3 l4 = some r) : gV E X 0 0 G 0 [some (.ref (E.2.1 + l0)), some (.long l1), none, some (.int l3), some (.int l4), none, none, none] [] := by
  unfold f_Mo_sums at hf
  refine g_lload_n C dX10_sums_0 rfl ?_
  refine g_lstore (lv' := [some (.ref (E.2.1 + l0)), some (.long l1), none, some (.int l3), some (.int l4), some (.long l1), none, none]) C dX10_sums_1 (by decide) rfl ?_
  refine g_iconst (v := (0 : Int32)) C dX10_sums_3 (by decide) ?_
  refine g_istore (lv' := [some (.ref (E.2.1 + l0)), some (.long l1), none, some (.int l3), some (.int l4), some (.long l1), none, some (.int (0 : Int32))]) C dX10_sums_4 (by decide) rfl ?_
  refine g_sub (lv' := [some (.ref (E.2.1 + l0)), none, none, some (.int l3), some (.int l4), some (.long l1), none, some (.int (0 : Int32))]) ⟨rfl, ⟨rfl, ⟨rfl, ⟨rfl, ⟨rfl, trivial⟩⟩⟩⟩⟩ ?_
  exact l_Mo_sums_b6 C HR  FU hf
theorem c_Mo_sums (E : EE) {G : Hp} {l0 : Nat} {l1 : Int64} {l3 : Int32} {l4 : Int32} {r : Int64} (h : f_Mo_sums G l0 l1 l3 l4 = some r) : gCt E y_Mo_sums cX10_sums 8 (some .long) 0 0 0 0 [.ref (E.2.1 + l0), .long l1, .int l3, .int l4] G (some (.long r)) G := gCt_of (own := "FavoursGoOffModel") (ini := false) [some (.ref (E.2.1 + l0)), some (.long l1), none, some (.int l3), some (.int l4), none, none, none] (by decide +kernel) rfl (fun h => by cases h) (Nat.le_of_ble_eq_true rfl) ⟨rfl, ⟨rfl, ⟨rfl, ⟨rfl, trivial⟩⟩⟩⟩ (fun X C HR => l_Mo_sums C HR h)
set_option maxRecDepth 20000 in
theorem l_Mo_digest_b33k {E : EE} {X : CT} {G : Hp} (C : gCx E X cX10_digest "FavoursGoOffModel" (some .long) 2 41 0 0 false 4) {r : Int64} (HR : gRet E X cX10_digest (some .long) 0 0 (some (.long r)) G) {k33 : Nat → Int64 → Int32 → Option Int64} (K33 : ∀ {l0 : Nat} {l1 : Int64} {l3 : Int32}, k33 l0 l1 l3 = some r → gV E X 0 0 G 33 [some (.ref (E.2.1 + l0)), some (.long l1), none, some (.int l3)] []) {l0 : Nat} {l1 : Int64} {l3 : Int32} (hf : f_Mo_digest_b33_k G k33 l0 l1 l3 = some r) : gV E X 0 0 G 33 [some (.ref (E.2.1 + l0)), some (.long l1), none, some (.int l3)] [] := by
  unfold f_Mo_digest_b33_k at hf
  refine g_iload_n C dX10_digest_33 rfl ?_
  refine g_aload_n C dX10_digest_34 rfl ?_
  obtain ⟨x1, hg, h1, hf⟩ := vP_ok hf
  refine g_invV (As := []) (st := [.int l3]) C (c_Mo_many E h1) (rfl : vwCl[10]? = some (y_Mo_many.cls, TX10, 24)) (by decide) hg ml_Mo_64 cm_Mo_many.1 cm_Mo_many.2.1 cm_Mo_many.2.2.1 cm_Mo_many.2.2.2.1 cm_Mo_many.2.2.2.2 rfl ⟨by omega, by omega, by omega, by omega⟩ (by exact Nat.le_of_ble_eq_true rfl) rfl dX10_digest_35 ?_
  refine g_icmp_ge (tgt := 78) C dX10_digest_38 (by decide) (fun hc => ?_) (fun hc => ?_)
  · have hf := iteT hf hc
    refine g_aload_n C dX10_digest_78 rfl ?_
    refine g_lload_n C dX10_digest_79 rfl ?_
    refine g_bipush (v := (14 : Int32)) C dX10_digest_80 (by decide) ?_
    refine g_bipush (v := (7 : Int32)) C dX10_digest_82 (by decide) ?_
    refine g_aload_n C dX10_digest_84 rfl ?_
    obtain ⟨x2, hg, hf⟩ := gR_ok hf
    refine g_getR C fl_Mo_7 dX10_digest_85 hg ?_
    refine g_sipush (v := (158 : Int32)) C dX10_digest_88 (by decide) ?_
    obtain ⟨x3, hx3, hg, hf⟩ := aI_ok hf
    refine e_iald C dX10_digest_91 hx3 hg ?_
    refine g_imul C dX10_digest_92 ?_
    obtain ⟨x4, hg, h1, hf⟩ := vP_ok hf
    refine g_invV (As := [.long l1, .int (14 : Int32), .int ((7 : Int32) * x3)]) (st := []) C (c_Mo_sums E h1) (rfl : vwCl[10]? = some (y_Mo_sums.cls, TX10, 24)) (by decide) hg ml_Mo_269 cm_Mo_sums.1 cm_Mo_sums.2.1 cm_Mo_sums.2.2.1 cm_Mo_sums.2.2.2.1 cm_Mo_sums.2.2.2.2 rfl ⟨by omega, by omega, by omega, by omega⟩ (by exact Nat.le_of_ble_eq_true rfl) rfl dX10_digest_93 ?_
    refine g_lstore_n (lv' := [some (.ref (E.2.1 + l0)), some (.long x4), none, some (.int l3)]) C dX10_digest_96 (by decide) rfl ?_
    refine g_aload_n C dX10_digest_97 rfl ?_
    refine g_lload_n C dX10_digest_98 rfl ?_
    refine g_bipush (v := (98 : Int32)) C dX10_digest_99 (by decide) ?_
    refine g_iconst (v := (4 : Int32)) C dX10_digest_101 (by decide) ?_
    refine g_aload_n C dX10_digest_102 rfl ?_
    obtain ⟨x5, hg, hf⟩ := gR_ok hf
    refine g_getR C fl_Mo_7 dX10_digest_103 hg ?_
    refine g_sipush (v := (159 : Int32)) C dX10_digest_106 (by decide) ?_
    obtain ⟨x6, hx6, hg, hf⟩ := aI_ok hf
    refine e_iald C dX10_digest_109 hx6 hg ?_
    refine g_imul C dX10_digest_110 ?_
    obtain ⟨x7, hg, h1, hf⟩ := vP_ok hf
    refine g_invV (As := [.long x4, .int (98 : Int32), .int ((4 : Int32) * x6)]) (st := []) C (c_Mo_sums E h1) (rfl : vwCl[10]? = some (y_Mo_sums.cls, TX10, 24)) (by decide) hg ml_Mo_269 cm_Mo_sums.1 cm_Mo_sums.2.1 cm_Mo_sums.2.2.1 cm_Mo_sums.2.2.2.1 cm_Mo_sums.2.2.2.2 rfl ⟨by omega, by omega, by omega, by omega⟩ (by exact Nat.le_of_ble_eq_true rfl) rfl dX10_digest_111 ?_
    refine g_lstore_n (lv' := [some (.ref (E.2.1 + l0)), some (.long x7), none, some (.int l3)]) C dX10_digest_114 (by decide) rfl ?_
    refine g_aload_n C dX10_digest_115 rfl ?_
    refine g_lload_n C dX10_digest_116 rfl ?_
    refine g_bipush (v := (118 : Int32)) C dX10_digest_117 (by decide) ?_
    refine g_iconst (v := (3 : Int32)) C dX10_digest_119 (by decide) ?_
    refine g_aload_n C dX10_digest_120 rfl ?_
    obtain ⟨x8, hg, hf⟩ := gR_ok hf
    refine g_getR C fl_Mo_7 dX10_digest_121 hg ?_
    refine g_sipush (v := (160 : Int32)) C dX10_digest_124 (by decide) ?_
    obtain ⟨x9, hx9, hg, hf⟩ := aI_ok hf
    refine e_iald C dX10_digest_127 hx9 hg ?_
    refine g_imul C dX10_digest_128 ?_
    obtain ⟨x10, hg, h1, hf⟩ := vP_ok hf
    refine g_invV (As := [.long x7, .int (118 : Int32), .int ((3 : Int32) * x9)]) (st := []) C (c_Mo_sums E h1) (rfl : vwCl[10]? = some (y_Mo_sums.cls, TX10, 24)) (by decide) hg ml_Mo_269 cm_Mo_sums.1 cm_Mo_sums.2.1 cm_Mo_sums.2.2.1 cm_Mo_sums.2.2.2.1 cm_Mo_sums.2.2.2.2 rfl ⟨by omega, by omega, by omega, by omega⟩ (by exact Nat.le_of_ble_eq_true rfl) rfl dX10_digest_129 ?_
    refine g_lstore_n (lv' := [some (.ref (E.2.1 + l0)), some (.long x10), none, some (.int l3)]) C dX10_digest_132 (by decide) rfl ?_
    refine g_aload_n C dX10_digest_133 rfl ?_
    refine g_lload_n C dX10_digest_134 rfl ?_
    refine g_sipush (v := (154 : Int32)) C dX10_digest_135 (by decide) ?_
    refine g_iconst (v := (4 : Int32)) C dX10_digest_138 (by decide) ?_
    obtain ⟨x11, hg, h1, hf⟩ := vP_ok hf
    refine g_invV (As := [.long x10, .int (154 : Int32), .int (4 : Int32)]) (st := []) C (c_Mo_sums E h1) (rfl : vwCl[10]? = some (y_Mo_sums.cls, TX10, 24)) (by decide) hg ml_Mo_269 cm_Mo_sums.1 cm_Mo_sums.2.1 cm_Mo_sums.2.2.1 cm_Mo_sums.2.2.2.1 cm_Mo_sums.2.2.2.2 rfl ⟨by omega, by omega, by omega, by omega⟩ (by exact Nat.le_of_ble_eq_true rfl) rfl dX10_digest_139 ?_
    refine g_lstore_n (lv' := [some (.ref (E.2.1 + l0)), some (.long x11), none, some (.int l3)]) C dX10_digest_142 (by decide) rfl ?_
    refine g_ldc2 (v := (31 : Int64)) C dX10_digest_143 kl_Mo_265 ?_
    refine g_ldc2 (v := (31 : Int64)) C dX10_digest_146 kl_Mo_265 ?_
    refine g_lload_n C dX10_digest_149 rfl ?_
    refine g_lmul C dX10_digest_150 ?_
    refine g_aload_n C dX10_digest_151 rfl ?_
    obtain ⟨x12, hx12, hg, hf⟩ := gL_ok hf
    refine e_getL C fl_Mo_61 dX10_digest_152 hx12 hg ?_
    refine g_ladd C dX10_digest_155 ?_
    refine g_lmul C dX10_digest_156 ?_
    refine g_aload_n C dX10_digest_157 rfl ?_
    obtain ⟨x13, hx13, hg, hf⟩ := gL_ok hf
    refine e_getL C fl_Mo_23 dX10_digest_158 hx13 hg ?_
    refine g_ladd C dX10_digest_161 ?_
    obtain rfl := rP_ok hf
    exact g_lret HR dX10_digest_162
  · have hf := iteF hf hc
    refine g_ldc2 (v := (31 : Int64)) C dX10_digest_41 kl_Mo_265 ?_
    refine g_ldc2 (v := (31 : Int64)) C dX10_digest_44 kl_Mo_265 ?_
    refine g_lload_n C dX10_digest_47 rfl ?_
    refine g_lmul C dX10_digest_48 ?_
    refine g_aload_n C dX10_digest_49 rfl ?_
    obtain ⟨x14, hg, hf⟩ := gR_ok hf
    refine g_getR C fl_Mo_7 dX10_digest_50 hg ?_
    refine g_iconst (v := (2 : Int32)) C dX10_digest_53 (by decide) ?_
    refine g_iload_n C dX10_digest_54 rfl ?_
    refine g_iadd C dX10_digest_55 ?_
    obtain ⟨x15, hx15, hg, hf⟩ := aI_ok hf
    refine e_iald C dX10_digest_56 hx15 hg ?_
    refine g_i2l C dX10_digest_57 ?_
    refine g_ladd C dX10_digest_58 ?_
    refine g_lmul C dX10_digest_59 ?_
    refine g_aload_n C dX10_digest_60 rfl ?_
    obtain ⟨x16, hg, hf⟩ := gR_ok hf
    refine g_getR C fl_Mo_7 dX10_digest_61 hg ?_
    refine g_bipush (v := (8 : Int32)) C dX10_digest_64 (by decide) ?_
    refine g_iload_n C dX10_digest_66 rfl ?_
    refine g_iadd C dX10_digest_67 ?_
    obtain ⟨x17, hx17, hg, hf⟩ := aI_ok hf
    refine e_iald C dX10_digest_68 hx17 hg ?_
    refine g_i2l C dX10_digest_69 ?_
    refine g_ladd C dX10_digest_70 ?_
    obtain ⟨x18, hx18, hf⟩ := lt_ok hf
    refine e_topl hx18 ?_
    refine g_lstore_n (lv' := [some (.ref (E.2.1 + l0)), some (.long x18), none, some (.int l3)]) C dX10_digest_71 (by decide) rfl ?_
    refine g_iinc (v := (l3 + 1)) (lv' := [some (.ref (E.2.1 + l0)), some (.long x18), none, some (.int (l3 + 1))]) C dX10_digest_72 (by decide) rfl rfl rfl ?_
    refine g_goto (tgt := 33) C dX10_digest_75 (by decide) ?_
    refine g_sub (lv' := [some (.ref (E.2.1 + l0)), some (.long x18), none, some (.int (l3 + 1))]) ⟨rfl, ⟨rfl, ⟨rfl, trivial⟩⟩⟩ ?_
    exact K33 hf
theorem l_Mo_digest_b33 {E : EE} {X : CT} {G : Hp} (C : gCx E X cX10_digest "FavoursGoOffModel" (some .long) 2 41 0 0 false 4) {r : Int64} (HR : gRet E X cX10_digest (some .long) 0 0 (some (.long r)) G) : ∀ (nn : Nat) {l0 : Nat} {l1 : Int64} {l3 : Int32}, f_Mo_digest_b33 G nn l0 l1 l3 = some r → gV E X 0 0 G 33 [some (.ref (E.2.1 + l0)), some (.long l1), none, some (.int l3)] []
  | 0, _, _, _, hf => by have h0 : (none : Option Int64) = some r := hf; cases h0
  | nn + 1, _, _, _, hf => l_Mo_digest_b33k C HR (fun h => l_Mo_digest_b33 C HR nn h) hf
set_option maxRecDepth 20000 in
theorem l_Mo_digest_b6k {E : EE} {X : CT} {G : Hp} (C : gCx E X cX10_digest "FavoursGoOffModel" (some .long) 2 41 0 0 false 4) {r : Int64} (HR : gRet E X cX10_digest (some .long) 0 0 (some (.long r)) G) {k6 : Nat → Int64 → Int32 → Option Int64} (K6 : ∀ {l0 : Nat} {l1 : Int64} {l3 : Int32}, k6 l0 l1 l3 = some r → gV E X 0 0 G 6 [some (.ref (E.2.1 + l0)), some (.long l1), none, some (.int l3)] []) {l0 : Nat} {l1 : Int64} {l3 : Int32} (hf : f_Mo_digest_b6_k G k6 l0 l1 l3 = some r) : gV E X 0 0 G 6 [some (.ref (E.2.1 + l0)), some (.long l1), none, some (.int l3)] [] := by
  unfold f_Mo_digest_b6_k at hf
  refine g_iload_n C dX10_digest_6 rfl ?_
  refine g_bipush (v := (7 : Int32)) C dX10_digest_7 (by decide) ?_
  refine g_icmp_ge (tgt := 31) C dX10_digest_9 (by decide) (fun hc => ?_) (fun hc => ?_)
  · have hf := iteT hf hc
    refine g_iconst (v := (0 : Int32)) C dX10_digest_31 (by decide) ?_
    refine g_istore_n (lv' := [some (.ref (E.2.1 + l0)), some (.long l1), none, some (.int (0 : Int32))]) C dX10_digest_32 (by decide) rfl ?_
    refine g_sub (lv' := [some (.ref (E.2.1 + l0)), some (.long l1), none, some (.int (0 : Int32))]) ⟨rfl, ⟨rfl, ⟨rfl, trivial⟩⟩⟩ ?_
    exact l_Mo_digest_b33 C HR  FU hf
  · have hf := iteF hf hc
    refine g_ldc2 (v := (31 : Int64)) C dX10_digest_12 kl_Mo_265 ?_
    refine g_lload_n C dX10_digest_15 rfl ?_
    refine g_lmul C dX10_digest_16 ?_
    refine g_aload_n C dX10_digest_17 rfl ?_
    refine g_iload_n C dX10_digest_18 rfl ?_
    obtain ⟨x1, hg, h1, hf⟩ := vP_ok hf
    refine g_invV (As := [.int l3]) (st := [.long ((31 : Int64) * l1)]) C (c_Mo_counted E h1) (rfl : vwCl[10]? = some (y_Mo_counted.cls, TX10, 24)) (by decide) hg ml_Mo_262 cm_Mo_counted.1 cm_Mo_counted.2.1 cm_Mo_counted.2.2.1 cm_Mo_counted.2.2.2.1 cm_Mo_counted.2.2.2.2 rfl ⟨by omega, by omega, by omega, by omega⟩ (by exact Nat.le_of_ble_eq_true rfl) rfl dX10_digest_19 ?_
    refine g_i2l C dX10_digest_22 ?_
    refine g_ladd C dX10_digest_23 ?_
    obtain ⟨x2, hx2, hf⟩ := lt_ok hf
    refine e_topl hx2 ?_
    refine g_lstore_n (lv' := [some (.ref (E.2.1 + l0)), some (.long x2), none, some (.int l3)]) C dX10_digest_24 (by decide) rfl ?_
    refine g_iinc (v := (l3 + 1)) (lv' := [some (.ref (E.2.1 + l0)), some (.long x2), none, some (.int (l3 + 1))]) C dX10_digest_25 (by decide) rfl rfl rfl ?_
    refine g_goto (tgt := 6) C dX10_digest_28 (by decide) ?_
    refine g_sub (lv' := [some (.ref (E.2.1 + l0)), some (.long x2), none, some (.int (l3 + 1))]) ⟨rfl, ⟨rfl, ⟨rfl, trivial⟩⟩⟩ ?_
    exact K6 hf
theorem l_Mo_digest_b6 {E : EE} {X : CT} {G : Hp} (C : gCx E X cX10_digest "FavoursGoOffModel" (some .long) 2 41 0 0 false 4) {r : Int64} (HR : gRet E X cX10_digest (some .long) 0 0 (some (.long r)) G) : ∀ (nn : Nat) {l0 : Nat} {l1 : Int64} {l3 : Int32}, f_Mo_digest_b6 G nn l0 l1 l3 = some r → gV E X 0 0 G 6 [some (.ref (E.2.1 + l0)), some (.long l1), none, some (.int l3)] []
  | 0, _, _, _, hf => by have h0 : (none : Option Int64) = some r := hf; cases h0
  | nn + 1, _, _, _, hf => l_Mo_digest_b6k C HR (fun h => l_Mo_digest_b6 C HR nn h) hf
set_option maxRecDepth 20000 in
theorem l_Mo_digest {E : EE} {X : CT} {G : Hp} (C : gCx E X cX10_digest "FavoursGoOffModel" (some .long) 2 41 0 0 false 4) {r : Int64} (HR : gRet E X cX10_digest (some .long) 0 0 (some (.long r)) G) {l0 : Nat} (hf : f_Mo_digest G l0 = some r) : gV E X 0 0 G 0 [some (.ref (E.2.1 + l0)), none, none, none] [] := by
  unfold f_Mo_digest at hf
  refine g_ldc2 (v := (683 : Int64)) C dX10_digest_0 kl_Mo_267 ?_
  refine g_lstore_n (lv' := [some (.ref (E.2.1 + l0)), some (.long (683 : Int64)), none, none]) C dX10_digest_3 (by decide) rfl ?_
  refine g_iconst (v := (0 : Int32)) C dX10_digest_4 (by decide) ?_
  refine g_istore_n (lv' := [some (.ref (E.2.1 + l0)), some (.long (683 : Int64)), none, some (.int (0 : Int32))]) C dX10_digest_5 (by decide) rfl ?_
  refine g_sub (lv' := [some (.ref (E.2.1 + l0)), some (.long (683 : Int64)), none, some (.int (0 : Int32))]) ⟨rfl, ⟨rfl, ⟨rfl, trivial⟩⟩⟩ ?_
  exact l_Mo_digest_b6 C HR  FU hf
theorem c_Mo_digest (E : EE) {G : Hp} {l0 : Nat} {r : Int64} (h : f_Mo_digest G l0 = some r) : gCt E y_Mo_digest cX10_digest 4 (some .long) 2 41 0 0 [.ref (E.2.1 + l0)] G (some (.long r)) G := gCt_of (own := "FavoursGoOffModel") (ini := false) [some (.ref (E.2.1 + l0)), none, none, none] (by decide +kernel) rfl (fun h => by cases h) (Nat.le_of_ble_eq_true rfl) ⟨rfl, trivial⟩ (fun X C HR => l_Mo_digest C HR h)
