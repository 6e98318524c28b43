/-! ===== each method does as its function says ===== -/
set_option maxRecDepth 20000 in
theorem l_Fa_fire_b16 {E : EE} {X : CT} {G : Hp} (C : gCx E X cX9_fire "FavoursGoOff" (some .int) 5 118 0 0 false 3) {r : Int32} {G' : Hp} (HR : gRet E X cX9_fire (some .int) 0 0 (some (.int r)) G') {l0 : Nat} (hf : f_Fa_fire_b16 G l0 = some (r, G')) : gV E X 0 0 G 16 [some (.ref (E.2.1 + l0)), none, none] [] := by
  unfold f_Fa_fire_b16 at hf
  refine g_aload_n C dX9_fire_16 rfl ?_
  refine g_bipush (v := (-2 : Int32)) C dX9_fire_17 (by decide) ?_
  obtain ⟨x1, G2, hg, h1, hf⟩ := vH_ok hf
  refine g_invV (As := [.int (-2 : Int32)]) (st := []) C (c_Fa_bad E h1) (rfl : vwCl[9]? = some (y_Fa_bad.cls, TX9, 13)) (by decide) hg ml_Fa_83 cm_Fa_bad.1 cm_Fa_bad.2.1 cm_Fa_bad.2.2.1 cm_Fa_bad.2.2.2.1 cm_Fa_bad.2.2.2.2 rfl ⟨by omega, by omega, by omega, by omega⟩ (by exact Nat.le_of_ble_eq_true rfl) rfl dX9_fire_19 ?_
  obtain ⟨rfl, rfl⟩ := rH_ok hf
  exact g_iret HR dX9_fire_22
set_option maxRecDepth 20000 in
theorem l_Fa_fire_b70 {E : EE} {X : CT} {G : Hp} (C : gCx E X cX9_fire "FavoursGoOff" (some .int) 5 118 0 0 false 3) {r : Int32} {G' : Hp} (HR : gRet E X cX9_fire (some .int) 0 0 (some (.int r)) G') {s0 : Int32} (hf : f_Fa_fire_b70 G s0 = some (r, G')) : gV E X 0 0 G 70 [none, none, none] [.int s0] := by
  unfold f_Fa_fire_b70 at hf
  obtain ⟨rfl, rfl⟩ := rH_ok hf
  exact g_iret HR dX9_fire_70
set_option maxRecDepth 20000 in
theorem l_Fa_fire {E : EE} {X : CT} {G : Hp} (C : gCx E X cX9_fire "FavoursGoOff" (some .int) 5 118 0 0 false 3) {r : Int32} {G' : Hp} (HR : gRet E X cX9_fire (some .int) 0 0 (some (.int r)) G') {l0 : Nat} {l1 : Int32} {l2 : Int32} (hf : f_Fa_fire G l0 l1 l2 = some (r, G')) : gV E X 0 0 G 0 [some (.ref (E.2.1 + l0)), some (.int l1), some (.int l2)] [] := by
  unfold f_Fa_fire at hf
  refine g_iload_n C dX9_fire_0 rfl ?_
  obtain ⟨x1, h1, hf⟩ := cP_ok hf
  refine g_invS (As := [.int l1]) (st := []) C (c_Fa_isDay E h1) ml_Fa_119 cm_Fa_isDay.1 cm_Fa_isDay.2.1 cm_Fa_isDay.2.2.1 cm_Fa_isDay.2.2.2 rfl ⟨by omega, by omega, by omega, by omega⟩ (by exact Nat.le_of_ble_eq_true rfl) rfl dX9_fire_1 ?_
  refine g_if_eq (tgt := 16) C dX9_fire_4 (by decide) (fun hc => ?_) (fun hc => ?_)
  · have hf := iteT hf hc
    refine g_sub (lv' := [some (.ref (E.2.1 + l0)), none, none]) ⟨rfl, trivial⟩ ?_
    exact l_Fa_fire_b16 C HR  hf
  · have hf := iteF hf hc
    refine g_iload_n C dX9_fire_7 rfl ?_
    refine g_iconst (v := (0 : Int32)) C dX9_fire_8 (by decide) ?_
    refine g_iconst (v := (1 : Int32)) C dX9_fire_9 (by decide) ?_
    obtain ⟨x2, h1, hf⟩ := cP_ok hf
    refine g_invS (As := [.int l2, .int (0 : Int32), .int (1 : Int32)]) (st := []) C (c_Fa_isWithin E h1) ml_Fa_79 cm_Fa_isWithin.1 cm_Fa_isWithin.2.1 cm_Fa_isWithin.2.2.1 cm_Fa_isWithin.2.2.2 rfl ⟨by omega, by omega, by omega, by omega⟩ (by exact Nat.le_of_ble_eq_true rfl) rfl dX9_fire_10 ?_
    refine g_if_ne (tgt := 23) C dX9_fire_13 (by decide) (fun hc => ?_) (fun hc => ?_)
    · have hf := iteF hf hc
      refine g_aload_n C dX9_fire_23 rfl ?_
      obtain ⟨x3, hg, hf⟩ := gR_ok hf
      refine g_getR C fl_Fa_44 dX9_fire_24 hg ?_
      refine g_aload_n C dX9_fire_27 rfl ?_
      obtain ⟨x4, hg, hf⟩ := gR_ok hf
      refine g_getR C fl_Fa_26 dX9_fire_28 hg ?_
      refine g_iload_n C dX9_fire_31 rfl ?_
      obtain ⟨G5, hg, h1, hf⟩ := vP_ok hf
      refine g_invV (As := [.ref (E.2.1 + x4), .int l1]) (st := []) C (c_De_addUp E h1) (rfl : vwCl[1]? = some (y_De_addUp.cls, TX1, 6)) (by decide) hg ml_Fa_199 cm_De_addUp.1 cm_De_addUp.2.1 cm_De_addUp.2.2.1 cm_De_addUp.2.2.2.1 cm_De_addUp.2.2.2.2 rfl ⟨by omega, by omega, by omega, by omega⟩ (by exact Nat.le_of_ble_eq_true rfl) rfl dX9_fire_32 ?_
      refine g_aload_n C dX9_fire_35 rfl ?_
      obtain ⟨x6, hg, hf⟩ := gR_ok hf
      refine g_getR C fl_Fa_44 dX9_fire_36 hg ?_
      refine g_aload_n C dX9_fire_39 rfl ?_
      obtain ⟨x7, hg, hf⟩ := gR_ok hf
      refine g_getR C fl_Fa_26 dX9_fire_40 hg ?_
      obtain ⟨x8, hg, hf⟩ := gR_ok hf
      refine g_getR C fl_Fa_87 dX9_fire_43 hg ?_
      obtain ⟨G9, hg, h1, hf⟩ := vP_ok hf
      refine g_invV (As := [.ref (E.2.1 + x8)]) (st := []) C (c_De_callAllIn E h1) (rfl : vwCl[1]? = some (y_De_callAllIn.cls, TX1, 6)) (by decide) hg ml_Fa_234 cm_De_callAllIn.1 cm_De_callAllIn.2.1 cm_De_callAllIn.2.2.1 cm_De_callAllIn.2.2.2.1 cm_De_callAllIn.2.2.2.2 rfl ⟨by omega, by omega, by omega, by omega⟩ (by exact Nat.le_of_ble_eq_true rfl) rfl dX9_fire_46 ?_
      refine g_iload_n C dX9_fire_49 rfl ?_
      refine g_if_ne (tgt := 63) C dX9_fire_50 (by decide) (fun hc => ?_) (fun hc => ?_)
      · have hf := iteF hf hc
        refine g_aload_n C dX9_fire_63 rfl ?_
        obtain ⟨x10, hg, hf⟩ := gR_ok hf
        refine g_getR C fl_Fa_44 dX9_fire_64 hg ?_
        obtain ⟨x11, hx11, hg, hf⟩ := gI_ok hf
        refine e_getI C fl_Fa_241 dX9_fire_67 hx11 hg ?_
        refine g_sub (lv' := [none, none, none]) trivial ?_
        exact l_Fa_fire_b70 C HR  hf
      · have hf := iteT hf hc
        refine g_aload_n C dX9_fire_53 rfl ?_
        obtain ⟨x12, hg, hf⟩ := gR_ok hf
        refine g_getR C fl_Fa_44 dX9_fire_54 hg ?_
        obtain ⟨x13, hx13, hg, hf⟩ := gI_ok hf
        refine e_getI C fl_Fa_238 dX9_fire_57 hx13 hg ?_
        refine g_goto (tgt := 70) C dX9_fire_60 (by decide) ?_
        refine g_sub (lv' := [none, none, none]) trivial ?_
        exact l_Fa_fire_b70 C HR  hf
    · have hf := iteT hf hc
      refine g_sub (lv' := [some (.ref (E.2.1 + l0)), none, none]) ⟨rfl, trivial⟩ ?_
      exact l_Fa_fire_b16 C HR  hf
theorem c_Fa_fire (E : EE) {G : Hp} {l0 : Nat} {l1 : Int32} {l2 : Int32} {r : Int32} {G' : Hp} (h : f_Fa_fire G l0 l1 l2 = some (r, G')) : gCt E y_Fa_fire cX9_fire 3 (some .int) 5 118 0 0 [.ref (E.2.1 + l0), .int l1, .int l2] G (some (.int r)) G' := gCt_of (own := "FavoursGoOff") (ini := false) [some (.ref (E.2.1 + l0)), some (.int l1), some (.int l2)] (by decide +kernel) rfl (fun h => by cases h) (Nat.le_of_ble_eq_true rfl) ⟨rfl, ⟨rfl, ⟨rfl, trivial⟩⟩⟩ (fun X C HR => l_Fa_fire C HR h)
set_option maxRecDepth 20000 in
theorem l_Fa_heldRate {E : EE} {X : CT} {G : Hp} (C : gCx E X cX9_heldRate "FavoursGoOff" (some .int) 1 30 0 0 false 1) {r : Int32} (HR : gRet E X cX9_heldRate (some .int) 0 0 (some (.int r)) G) {l0 : Int32} (hf : f_Fa_heldRate G l0 = some r) : gV E X 0 0 G 0 [some (.int l0)] [] := by
  unfold f_Fa_heldRate at hf
  refine g_iconst (v := (1 : Int32)) C dX9_heldRate_0 (by decide) ?_
  refine g_bipush (v := (99 : Int32)) C dX9_heldRate_1 (by decide) ?_
  refine g_iload_n C dX9_heldRate_3 rfl ?_
  refine e_min C ml_Fa_324 cm_min (by omega) (Nat.le_trans (m := 30) (by exact Nat.le_of_ble_eq_true rfl) (by omega)) ⟨by omega, by omega⟩ dX9_heldRate_4 ?_
  refine e_max C ml_Fa_256 cm_max (by omega) (Nat.le_trans (m := 30) (by exact Nat.le_of_ble_eq_true rfl) (by omega)) ⟨by omega, by omega⟩ dX9_heldRate_7 ?_
  obtain rfl := rP_ok hf
  exact g_iret HR dX9_heldRate_10
theorem c_Fa_heldRate (E : EE) {G : Hp} {l0 : Int32} {r : Int32} (h : f_Fa_heldRate G l0 = some r) : gCt E y_Fa_heldRate cX9_heldRate 1 (some .int) 1 30 0 0 [.int l0] G (some (.int r)) G := gCt_of (own := "FavoursGoOff") (ini := false) [some (.int l0)] (by decide +kernel) rfl (fun h => by cases h) (Nat.le_of_ble_eq_true rfl) ⟨rfl, trivial⟩ (fun X C HR => l_Fa_heldRate C HR h)
set_option maxRecDepth 20000 in
theorem l_Fa_rate_b17 {E : EE} {X : CT} {G : Hp} (C : gCx E X cX9_rate "FavoursGoOff" (some .int) 5 116 0 0 false 3) {r : Int32} {G' : Hp} (HR : gRet E X cX9_rate (some .int) 0 0 (some (.int r)) G') {l0 : Nat} (hf : f_Fa_rate_b17 G l0 = some (r, G')) : gV E X 0 0 G 17 [some (.ref (E.2.1 + l0)), none, none] [] := by
  unfold f_Fa_rate_b17 at hf
  refine g_aload_n C dX9_rate_17 rfl ?_
  refine g_bipush (v := (-2 : Int32)) C dX9_rate_18 (by decide) ?_
  obtain ⟨x1, G2, hg, h1, hf⟩ := vH_ok hf
  refine g_invV (As := [.int (-2 : Int32)]) (st := []) C (c_Fa_bad E h1) (rfl : vwCl[9]? = some (y_Fa_bad.cls, TX9, 13)) (by decide) hg ml_Fa_83 cm_Fa_bad.1 cm_Fa_bad.2.1 cm_Fa_bad.2.2.1 cm_Fa_bad.2.2.2.1 cm_Fa_bad.2.2.2.2 rfl ⟨by omega, by omega, by omega, by omega⟩ (by exact Nat.le_of_ble_eq_true rfl) rfl dX9_rate_20 ?_
  obtain ⟨rfl, rfl⟩ := rH_ok hf
  exact g_iret HR dX9_rate_23
set_option maxRecDepth 20000 in
theorem l_Fa_rate {E : EE} {X : CT} {G : Hp} (C : gCx E X cX9_rate "FavoursGoOff" (some .int) 5 116 0 0 false 3) {r : Int32} {G' : Hp} (HR : gRet E X cX9_rate (some .int) 0 0 (some (.int r)) G') {l0 : Nat} {l1 : Int32} {l2 : Int32} (hf : f_Fa_rate G l0 l1 l2 = some (r, G')) : gV E X 0 0 G 0 [some (.ref (E.2.1 + l0)), some (.int l1), some (.int l2)] [] := by
  unfold f_Fa_rate at hf
  refine g_iload_n C dX9_rate_0 rfl ?_
  obtain ⟨x1, h1, hf⟩ := cP_ok hf
  refine g_invS (As := [.int l1]) (st := []) C (c_Fa_isThing E h1) ml_Fa_116 cm_Fa_isThing.1 cm_Fa_isThing.2.1 cm_Fa_isThing.2.2.1 cm_Fa_isThing.2.2.2 rfl ⟨by omega, by omega, by omega, by omega⟩ (by exact Nat.le_of_ble_eq_true rfl) rfl dX9_rate_1 ?_
  refine g_if_eq (tgt := 17) C dX9_rate_4 (by decide) (fun hc => ?_) (fun hc => ?_)
  · have hf := iteT hf hc
    refine g_sub (lv' := [some (.ref (E.2.1 + l0)), none, none]) ⟨rfl, trivial⟩ ?_
    exact l_Fa_rate_b17 C HR  hf
  · have hf := iteF hf hc
    refine g_iload_n C dX9_rate_7 rfl ?_
    refine g_iconst (v := (0 : Int32)) C dX9_rate_8 (by decide) ?_
    refine g_bipush (v := (99 : Int32)) C dX9_rate_9 (by decide) ?_
    obtain ⟨x2, h1, hf⟩ := cP_ok hf
    refine g_invS (As := [.int l2, .int (0 : Int32), .int (99 : Int32)]) (st := []) C (c_Fa_isWithin E h1) ml_Fa_79 cm_Fa_isWithin.1 cm_Fa_isWithin.2.1 cm_Fa_isWithin.2.2.1 cm_Fa_isWithin.2.2.2 rfl ⟨by omega, by omega, by omega, by omega⟩ (by exact Nat.le_of_ble_eq_true rfl) rfl dX9_rate_11 ?_
    refine g_if_ne (tgt := 24) C dX9_rate_14 (by decide) (fun hc => ?_) (fun hc => ?_)
    · have hf := iteF hf hc
      refine g_aload_n C dX9_rate_24 rfl ?_
      obtain ⟨x3, hg, hf⟩ := gR_ok hf
      refine g_getR C fl_Fa_26 dX9_rate_25 hg ?_
      refine g_iload_n C dX9_rate_28 rfl ?_
      obtain ⟨x4, hg, h1, hf⟩ := vP_ok hf
      refine g_invV (As := [.int l1]) (st := []) C (c_St_rateNow E h1) (rfl : vwCl[6]? = some (y_St_rateNow.cls, TX6, 6)) (by decide) hg ml_Fa_244 cm_St_rateNow.1 cm_St_rateNow.2.1 cm_St_rateNow.2.2.1 cm_St_rateNow.2.2.2.1 cm_St_rateNow.2.2.2.2 rfl ⟨by omega, by omega, by omega, by omega⟩ (by exact Nat.le_of_ble_eq_true rfl) rfl dX9_rate_29 ?_
      refine g_iload_n C dX9_rate_32 rfl ?_
      refine g_aload_n C dX9_rate_33 rfl ?_
      obtain ⟨x5, hg, hf⟩ := gR_ok hf
      refine g_getR C fl_Fa_26 dX9_rate_34 hg ?_
      refine g_iload_n C dX9_rate_37 rfl ?_
      obtain ⟨x6, hg, h1, hf⟩ := vP_ok hf
      refine g_invV (As := [.int l1]) (st := [.int l2, .int x4]) C (c_St_drift E h1) (rfl : vwCl[6]? = some (y_St_drift.cls, TX6, 6)) (by decide) hg ml_Fa_247 cm_St_drift.1 cm_St_drift.2.1 cm_St_drift.2.2.1 cm_St_drift.2.2.2.1 cm_St_drift.2.2.2.2 rfl ⟨by omega, by omega, by omega, by omega⟩ (by exact Nat.le_of_ble_eq_true rfl) rfl dX9_rate_38 ?_
      refine g_imul C dX9_rate_41 ?_
      refine g_iadd C dX9_rate_42 ?_
      obtain ⟨x7, h1, hf⟩ := cP_ok hf
      refine g_invS (As := [.int (x4 + (l2 * x6))]) (st := []) C (c_Fa_heldRate E h1) ml_Fa_250 cm_Fa_heldRate.1 cm_Fa_heldRate.2.1 cm_Fa_heldRate.2.2.1 cm_Fa_heldRate.2.2.2 rfl ⟨by omega, by omega, by omega, by omega⟩ (by exact Nat.le_of_ble_eq_true rfl) rfl dX9_rate_43 ?_
      obtain ⟨rfl, rfl⟩ := rH_ok hf
      exact g_iret HR dX9_rate_46
    · have hf := iteT hf hc
      refine g_sub (lv' := [some (.ref (E.2.1 + l0)), none, none]) ⟨rfl, trivial⟩ ?_
      exact l_Fa_rate_b17 C HR  hf
theorem c_Fa_rate (E : EE) {G : Hp} {l0 : Nat} {l1 : Int32} {l2 : Int32} {r : Int32} {G' : Hp} (h : f_Fa_rate G l0 l1 l2 = some (r, G')) : gCt E y_Fa_rate cX9_rate 3 (some .int) 5 116 0 0 [.ref (E.2.1 + l0), .int l1, .int l2] G (some (.int r)) G' := gCt_of (own := "FavoursGoOff") (ini := false) [some (.ref (E.2.1 + l0)), some (.int l1), some (.int l2)] (by decide +kernel) rfl (fun h => by cases h) (Nat.le_of_ble_eq_true rfl) ⟨rfl, ⟨rfl, ⟨rfl, trivial⟩⟩⟩ (fun X C HR => l_Fa_rate C HR h)
set_option maxRecDepth 20000 in
theorem l_Fa_set_b17 {E : EE} {X : CT} {G : Hp} (C : gCx E X cX9_set "FavoursGoOff" (some .int) 3 69 0 0 false 4) {r : Int32} {G' : Hp} (HR : gRet E X cX9_set (some .int) 0 0 (some (.int r)) G') {l0 : Nat} (hf : f_Fa_set_b17 G l0 = some (r, G')) : gV E X 0 0 G 17 [some (.ref (E.2.1 + l0)), none, none, none] [] := by
  unfold f_Fa_set_b17 at hf
  refine g_aload_n C dX9_set_17 rfl ?_
  refine g_bipush (v := (-2 : Int32)) C dX9_set_18 (by decide) ?_
  obtain ⟨x1, G2, hg, h1, hf⟩ := vH_ok hf
  refine g_invV (As := [.int (-2 : Int32)]) (st := []) C (c_Fa_bad E h1) (rfl : vwCl[9]? = some (y_Fa_bad.cls, TX9, 13)) (by decide) hg ml_Fa_83 cm_Fa_bad.1 cm_Fa_bad.2.1 cm_Fa_bad.2.2.1 cm_Fa_bad.2.2.2.1 cm_Fa_bad.2.2.2.2 rfl ⟨by omega, by omega, by omega, by omega⟩ (by exact Nat.le_of_ble_eq_true rfl) rfl dX9_set_20 ?_
  obtain ⟨rfl, rfl⟩ := rH_ok hf
  exact g_iret HR dX9_set_23
set_option maxRecDepth 20000 in
theorem l_Fa_set {E : EE} {X : CT} {G : Hp} (C : gCx E X cX9_set "FavoursGoOff" (some .int) 3 69 0 0 false 4) {r : Int32} {G' : Hp} (HR : gRet E X cX9_set (some .int) 0 0 (some (.int r)) G') {l0 : Nat} {l1 : Int32} {l2 : Int32} (hf : f_Fa_set G l0 l1 l2 = some (r, G')) : gV E X 0 0 G 0 [some (.ref (E.2.1 + l0)), some (.int l1), some (.int l2), none] [] := by
  unfold f_Fa_set at hf
  refine g_iload_n C dX9_set_0 rfl ?_
  obtain ⟨x1, h1, hf⟩ := cP_ok hf
  refine g_invS (As := [.int l1]) (st := []) C (c_Fa_isThing E h1) ml_Fa_116 cm_Fa_isThing.1 cm_Fa_isThing.2.1 cm_Fa_isThing.2.2.1 cm_Fa_isThing.2.2.2 rfl ⟨by omega, by omega, by omega, by omega⟩ (by exact Nat.le_of_ble_eq_true rfl) rfl dX9_set_1 ?_
  refine g_if_eq (tgt := 17) C dX9_set_4 (by decide) (fun hc => ?_) (fun hc => ?_)
  · have hf := iteT hf hc
    refine g_sub (lv' := [some (.ref (E.2.1 + l0)), none, none, none]) ⟨rfl, trivial⟩ ?_
    exact l_Fa_set_b17 C HR  hf
  · have hf := iteF hf hc
    refine g_iload_n C dX9_set_7 rfl ?_
    refine g_iconst (v := (1 : Int32)) C dX9_set_8 (by decide) ?_
    refine g_bipush (v := (99 : Int32)) C dX9_set_9 (by decide) ?_
    obtain ⟨x2, h1, hf⟩ := cP_ok hf
    refine g_invS (As := [.int l2, .int (1 : Int32), .int (99 : Int32)]) (st := []) C (c_Fa_isWithin E h1) ml_Fa_79 cm_Fa_isWithin.1 cm_Fa_isWithin.2.1 cm_Fa_isWithin.2.2.1 cm_Fa_isWithin.2.2.2 rfl ⟨by omega, by omega, by omega, by omega⟩ (by exact Nat.le_of_ble_eq_true rfl) rfl dX9_set_11 ?_
    refine g_if_ne (tgt := 24) C dX9_set_14 (by decide) (fun hc => ?_) (fun hc => ?_)
    · have hf := iteF hf hc
      refine g_aload_n C dX9_set_24 rfl ?_
      obtain ⟨x3, hg, hf⟩ := gR_ok hf
      refine g_getR C fl_Fa_26 dX9_set_25 hg ?_
      refine g_iload_n C dX9_set_28 rfl ?_
      obtain ⟨x4, hg, h1, hf⟩ := vP_ok hf
      refine g_invV (As := [.int l1]) (st := []) C (c_St_rateNow E h1) (rfl : vwCl[6]? = some (y_St_rateNow.cls, TX6, 6)) (by decide) hg ml_Fa_244 cm_St_rateNow.1 cm_St_rateNow.2.1 cm_St_rateNow.2.2.1 cm_St_rateNow.2.2.2.1 cm_St_rateNow.2.2.2.2 rfl ⟨by omega, by omega, by omega, by omega⟩ (by exact Nat.le_of_ble_eq_true rfl) rfl dX9_set_29 ?_
      refine g_istore_n (lv' := [some (.ref (E.2.1 + l0)), some (.int l1), some (.int l2), some (.int x4)]) C dX9_set_32 (by decide) rfl ?_
      refine g_aload_n C dX9_set_33 rfl ?_
      obtain ⟨x5, hg, hf⟩ := gR_ok hf
      refine g_getR C fl_Fa_26 dX9_set_34 hg ?_
      refine g_iload_n C dX9_set_37 rfl ?_
      refine g_iload_n C dX9_set_38 rfl ?_
      obtain ⟨G6, hg, h1, hf⟩ := vP_ok hf
      refine g_invV (As := [.int l1, .int l2]) (st := []) C (c_St_setRate E h1) (rfl : vwCl[6]? = some (y_St_setRate.cls, TX6, 6)) (by decide) hg ml_Fa_75 cm_St_setRate.1 cm_St_setRate.2.1 cm_St_setRate.2.2.1 cm_St_setRate.2.2.2.1 cm_St_setRate.2.2.2.2 rfl ⟨by omega, by omega, by omega, by omega⟩ (by exact Nat.le_of_ble_eq_true rfl) rfl dX9_set_39 ?_
      refine g_iload_n C dX9_set_42 rfl ?_
      obtain ⟨rfl, rfl⟩ := rH_ok hf
      exact g_iret HR dX9_set_43
    · have hf := iteT hf hc
      refine g_sub (lv' := [some (.ref (E.2.1 + l0)), none, none, none]) ⟨rfl, trivial⟩ ?_
      exact l_Fa_set_b17 C HR  hf
theorem c_Fa_set (E : EE) {G : Hp} {l0 : Nat} {l1 : Int32} {l2 : Int32} {r : Int32} {G' : Hp} (h : f_Fa_set G l0 l1 l2 = some (r, G')) : gCt E y_Fa_set cX9_set 4 (some .int) 3 69 0 0 [.ref (E.2.1 + l0), .int l1, .int l2] G (some (.int r)) G' := gCt_of (own := "FavoursGoOff") (ini := false) [some (.ref (E.2.1 + l0)), some (.int l1), some (.int l2), none] (by decide +kernel) rfl (fun h => by cases h) (Nat.le_of_ble_eq_true rfl) ⟨rfl, ⟨rfl, ⟨rfl, trivial⟩⟩⟩ (fun X C HR => l_Fa_set C HR h)
set_option maxRecDepth 20000 in
theorem l_Fa_lastChange_b2k {E : EE} {X : CT} {G : Hp} (C : gCx E X cX9_lastChange "FavoursGoOff" (some .int) 2 50 0 0 false 3) {r : Int32} (HR : gRet E X cX9_lastChange (some .int) 0 0 (some (.int r)) G) {k2 : Int32 → Int32 → Int32 → Option Int32} (K2 : ∀ {l0 : Int32} {l1 : Int32} {l2 : Int32}, k2 l0 l1 l2 = some r → gV E X 0 0 G 2 [some (.int l0), some (.int l1), some (.int l2)] []) {l0 : Int32} {l1 : Int32} {l2 : Int32} (hf : f_Fa_lastChange_b2_k G k2 l0 l1 l2 = some r) : gV E X 0 0 G 2 [some (.int l0), some (.int l1), some (.int l2)] [] := by
  unfold f_Fa_lastChange_b2_k at hf
  refine g_iload_n C dX9_lastChange_2 rfl ?_
  refine g_bipush (v := (99 : Int32)) C dX9_lastChange_3 (by decide) ?_
  refine g_icmp_gt (tgt := 37) C dX9_lastChange_5 (by decide) (fun hc => ?_) (fun hc => ?_)
  · have hf := iteT hf hc
    refine g_iconst (v := (-1 : Int32)) C dX9_lastChange_37 (by decide) ?_
    obtain rfl := rP_ok hf
    exact g_iret HR dX9_lastChange_38
  · have hf := iteF hf hc
    refine g_iload_n C dX9_lastChange_8 rfl ?_
    refine g_iload_n C dX9_lastChange_9 rfl ?_
    refine g_iload_n C dX9_lastChange_10 rfl ?_
    refine g_imul C dX9_lastChange_11 ?_
    refine g_iadd C dX9_lastChange_12 ?_
    obtain ⟨x1, h1, hf⟩ := cP_ok hf
    refine g_invS (As := [.int (l0 + (l2 * l1))]) (st := []) C (c_Fa_heldRate E h1) ml_Fa_250 cm_Fa_heldRate.1 cm_Fa_heldRate.2.1 cm_Fa_heldRate.2.2.1 cm_Fa_heldRate.2.2.2 rfl ⟨by omega, by omega, by omega, by omega⟩ (by exact Nat.le_of_ble_eq_true rfl) rfl dX9_lastChange_13 ?_
    refine g_iload_n C dX9_lastChange_16 rfl ?_
    refine g_iload_n C dX9_lastChange_17 rfl ?_
    refine g_iconst (v := (1 : Int32)) C dX9_lastChange_18 (by decide) ?_
    refine g_iadd C dX9_lastChange_19 ?_
    refine g_iload_n C dX9_lastChange_20 rfl ?_
    refine g_imul C dX9_lastChange_21 ?_
    refine g_iadd C dX9_lastChange_22 ?_
    obtain ⟨x2, h1, hf⟩ := cP_ok hf
    refine g_invS (As := [.int (l0 + ((l2 + (1 : Int32)) * l1))]) (st := [.int x1]) C (c_Fa_heldRate E h1) ml_Fa_250 cm_Fa_heldRate.1 cm_Fa_heldRate.2.1 cm_Fa_heldRate.2.2.1 cm_Fa_heldRate.2.2.2 rfl ⟨by omega, by omega, by omega, by omega⟩ (by exact Nat.le_of_ble_eq_true rfl) rfl dX9_lastChange_23 ?_
    refine g_icmp_ne (tgt := 31) C dX9_lastChange_26 (by decide) (fun hc => ?_) (fun hc => ?_)
    · have hf := iteF hf hc
      refine g_iinc (v := (l2 + 1)) (lv' := [some (.int l0), some (.int l1), some (.int (l2 + 1))]) C dX9_lastChange_31 (by decide) rfl rfl rfl ?_
      refine g_goto (tgt := 2) C dX9_lastChange_34 (by decide) ?_
      refine g_sub (lv' := [some (.int l0), some (.int l1), some (.int (l2 + 1))]) ⟨rfl, ⟨rfl, ⟨rfl, trivial⟩⟩⟩ ?_
      exact K2 hf
    · have hf := iteT hf hc
      refine g_iload_n C dX9_lastChange_29 rfl ?_
      obtain rfl := rP_ok hf
      exact g_iret HR dX9_lastChange_30
theorem l_Fa_lastChange_b2 {E : EE} {X : CT} {G : Hp} (C : gCx E X cX9_lastChange "FavoursGoOff" (some .int) 2 50 0 0 false 3) {r : Int32} (HR : gRet E X cX9_lastChange (some .int) 0 0 (some (.int r)) G) : ∀ (nn : Nat) {l0 : Int32} {l1 : Int32} {l2 : Int32}, f_Fa_lastChange_b2 G nn l0 l1 l2 = some r → gV E X 0 0 G 2 [some (.int l0), some (.int l1), some (.int l2)] []
  | 0, _, _, _, hf => by have h0 : (none : Option Int32) = some r := hf; cases h0
  | nn + 1, _, _, _, hf => l_Fa_lastChange_b2k C HR (fun h => l_Fa_lastChange_b2 C HR nn h) hf
set_option maxRecDepth 20000 in
theorem l_Fa_lastChange {E : EE} {X : CT} {G : Hp} (C : gCx E X cX9_lastChange "FavoursGoOff" (some .int) 2 50 0 0 false 3) {r : Int32} (HR : gRet E X cX9_lastChange (some .int) 0 0 (some (.int r)) G) {l0 : Int32} {l1 : Int32} (hf : f_Fa_lastChange G l0 l1 = some r) : gV E X 0 0 G 0 [some (.int l0), some (.int l1), none] [] := by
  unfold f_Fa_lastChange at hf
  refine g_iconst (v := (0 : Int32)) C dX9_lastChange_0 (by decide) ?_
  refine g_istore_n (lv' := [some (.int l0), some (.int l1), some (.int (0 : Int32))]) C dX9_lastChange_1 (by decide) rfl ?_
  refine g_sub (lv' := [some (.int l0), some (.int l1), some (.int (0 : Int32))]) ⟨rfl, ⟨rfl, ⟨rfl, trivial⟩⟩⟩ ?_
  exact l_Fa_lastChange_b2 C HR  FU hf
theorem c_Fa_lastChange (E : EE) {G : Hp} {l0 : Int32} {l1 : Int32} {r : Int32} (h : f_Fa_lastChange G l0 l1 = some r) : gCt E y_Fa_lastChange cX9_lastChange 3 (some .int) 2 50 0 0 [.int l0, .int l1] G (some (.int r)) G := gCt_of (own := "FavoursGoOff") (ini := false) [some (.int l0), some (.int l1), none] (by decide +kernel) rfl (fun h => by cases h) (Nat.le_of_ble_eq_true rfl) ⟨rfl, ⟨rfl, trivial⟩⟩ (fun X C HR => l_Fa_lastChange C HR h)
set_option maxRecDepth 20000 in
theorem l_Fa_settles_b4k {E : EE} {X : CT} {G : Hp} (C : gCx E X cX9_settles "FavoursGoOff" (some .int) 5 116 0 0 false 4) {r : Int32} (HR : gRet E X cX9_settles (some .int) 0 0 (some (.int r)) G) {k4 : Nat → Int32 → Int32 → Option Int32} (K4 : ∀ {l0 : Nat} {l1 : Int32} {l2 : Int32}, k4 l0 l1 l2 = some r → gV E X 0 0 G 4 [some (.ref (E.2.1 + l0)), some (.int l1), some (.int l2), none] []) {l0 : Nat} {l1 : Int32} {l2 : Int32} (hf : f_Fa_settles_b4_k G k4 l0 l1 l2 = some r) : gV E X 0 0 G 4 [some (.ref (E.2.1 + l0)), some (.int l1), some (.int l2), none] [] := by
  unfold f_Fa_settles_b4_k at hf
  refine g_iload_n C dX9_settles_4 rfl ?_
  refine g_iconst (v := (4 : Int32)) C dX9_settles_5 (by decide) ?_
  refine g_icmp_ge (tgt := 48) C dX9_settles_6 (by decide) (fun hc => ?_) (fun hc => ?_)
  · have hf := iteT hf hc
    refine g_iload_n C dX9_settles_48 rfl ?_
    obtain rfl := rP_ok hf
    exact g_iret HR dX9_settles_49
  · have hf := iteF hf hc
    refine g_aload_n C dX9_settles_9 rfl ?_
    obtain ⟨x1, hg, hf⟩ := gR_ok hf
    refine g_getR C fl_Fa_26 dX9_settles_10 hg ?_
    refine g_iload_n C dX9_settles_13 rfl ?_
    obtain ⟨x2, hg, h1, hf⟩ := vP_ok hf
    refine g_invV (As := [.int l2]) (st := []) C (c_St_rateNow E h1) (rfl : vwCl[6]? = some (y_St_rateNow.cls, TX6, 6)) (by decide) hg ml_Fa_244 cm_St_rateNow.1 cm_St_rateNow.2.1 cm_St_rateNow.2.2.1 cm_St_rateNow.2.2.2.1 cm_St_rateNow.2.2.2.2 rfl ⟨by omega, by omega, by omega, by omega⟩ (by exact Nat.le_of_ble_eq_true rfl) rfl dX9_settles_14 ?_
    refine g_aload_n C dX9_settles_17 rfl ?_
    obtain ⟨x3, hg, hf⟩ := gR_ok hf
    refine g_getR C fl_Fa_26 dX9_settles_18 hg ?_
    refine g_iload_n C dX9_settles_21 rfl ?_
    obtain ⟨x4, hg, h1, hf⟩ := vP_ok hf
    refine g_invV (As := [.int l2]) (st := [.int x2]) C (c_St_drift E h1) (rfl : vwCl[6]? = some (y_St_drift.cls, TX6, 6)) (by decide) hg ml_Fa_247 cm_St_drift.1 cm_St_drift.2.1 cm_St_drift.2.2.1 cm_St_drift.2.2.2.1 cm_St_drift.2.2.2.2 rfl ⟨by omega, by omega, by omega, by omega⟩ (by exact Nat.le_of_ble_eq_true rfl) rfl dX9_settles_22 ?_
    obtain ⟨x5, h1, hf⟩ := cP_ok hf
    refine g_invS (As := [.int x2, .int x4]) (st := []) C (c_Fa_lastChange E h1) ml_Fa_253 cm_Fa_lastChange.1 cm_Fa_lastChange.2.1 cm_Fa_lastChange.2.2.1 cm_Fa_lastChange.2.2.2 rfl ⟨by omega, by omega, by omega, by omega⟩ (by exact Nat.le_of_ble_eq_true rfl) rfl dX9_settles_25 ?_
    refine g_istore_n (lv' := [some (.ref (E.2.1 + l0)), some (.int l1), some (.int l2), some (.int x5)]) C dX9_settles_28 (by decide) rfl ?_
    refine g_iload_n C dX9_settles_29 rfl ?_
    refine g_iconst (v := (-1 : Int32)) C dX9_settles_30 (by decide) ?_
    refine g_icmp_ne (tgt := 36) C dX9_settles_31 (by decide) (fun hc => ?_) (fun hc => ?_)
    · have hf := iteF hf hc
      refine g_iload_n C dX9_settles_36 rfl ?_
      refine g_iload_n C dX9_settles_37 rfl ?_
      refine e_max C ml_Fa_256 cm_max (by omega) (Nat.le_trans (m := 30) (by exact Nat.le_of_ble_eq_true rfl) (by omega)) ⟨by omega, by omega⟩ dX9_settles_38 ?_
      obtain ⟨x6, hx6, hf⟩ := lt_ok hf
      refine e_top hx6 ?_
      refine g_istore_n (lv' := [some (.ref (E.2.1 + l0)), some (.int x6), some (.int l2), some (.int x5)]) C dX9_settles_41 (by decide) rfl ?_
      refine g_iinc (v := (l2 + 1)) (lv' := [some (.ref (E.2.1 + l0)), some (.int x6), some (.int (l2 + 1)), some (.int x5)]) C dX9_settles_42 (by decide) rfl rfl rfl ?_
      refine g_goto (tgt := 4) C dX9_settles_45 (by decide) ?_
      refine g_sub (lv' := [some (.ref (E.2.1 + l0)), some (.int x6), some (.int (l2 + 1)), none]) ⟨rfl, ⟨rfl, ⟨rfl, trivial⟩⟩⟩ ?_
      exact K4 hf
    · have hf := iteT hf hc
      refine g_iconst (v := (-1 : Int32)) C dX9_settles_34 (by decide) ?_
      obtain rfl := rP_ok hf
      exact g_iret HR dX9_settles_35
theorem l_Fa_settles_b4 {E : EE} {X : CT} {G : Hp} (C : gCx E X cX9_settles "FavoursGoOff" (some .int) 5 116 0 0 false 4) {r : Int32} (HR : gRet E X cX9_settles (some .int) 0 0 (some (.int r)) G) : ∀ (nn : Nat) {l0 : Nat} {l1 : Int32} {l2 : Int32}, f_Fa_settles_b4 G nn l0 l1 l2 = some r → gV E X 0 0 G 4 [some (.ref (E.2.1 + l0)), some (.int l1), some (.int l2), none] []
  | 0, _, _, _, hf => by have h0 : (none : Option Int32) = some r := hf; cases h0
  | nn + 1, _, _, _, hf => l_Fa_settles_b4k C HR (fun h => l_Fa_settles_b4 C HR nn h) hf
set_option maxRecDepth 20000 in
theorem l_Fa_settles {E : EE} {X : CT} {G : Hp} (C : gCx E X cX9_settles "FavoursGoOff" (some .int) 5 116 0 0 false 4) {r : Int32} (HR : gRet E X cX9_settles (some .int) 0 0 (some (.int r)) G) {l0 : Nat} (hf : f_Fa_settles G l0 = some r) : gV E X 0 0 G 0 [some (.ref (E.2.1 + l0)), none, none, none] [] := by
  unfold f_Fa_settles at hf
  refine g_iconst (v := (0 : Int32)) C dX9_settles_0 (by decide) ?_
  refine g_istore_n (lv' := [some (.ref (E.2.1 + l0)), some (.int (0 : Int32)), none, none]) C dX9_settles_1 (by decide) rfl ?_
  refine g_iconst (v := (0 : Int32)) C dX9_settles_2 (by decide) ?_
  refine g_istore_n (lv' := [some (.ref (E.2.1 + l0)), some (.int (0 : Int32)), some (.int (0 : Int32)), none]) C dX9_settles_3 (by decide) rfl ?_
  refine g_sub (lv' := [some (.ref (E.2.1 + l0)), some (.int (0 : Int32)), some (.int (0 : Int32)), none]) ⟨rfl, ⟨rfl, ⟨rfl, trivial⟩⟩⟩ ?_
  exact l_Fa_settles_b4 C HR  FU hf
theorem c_Fa_settles (E : EE) {G : Hp} {l0 : Nat} {r : Int32} (h : f_Fa_settles G l0 = some r) : gCt E y_Fa_settles cX9_settles 4 (some .int) 5 116 0 0 [.ref (E.2.1 + l0)] G (some (.int r)) G := gCt_of (own := "FavoursGoOff") (ini := false) [some (.ref (E.2.1 + l0)), none, none, none] (by decide +kernel) rfl (fun h => by cases h) (Nat.le_of_ble_eq_true rfl) ⟨rfl, trivial⟩ (fun X C HR => l_Fa_settles C HR h)
set_option maxRecDepth 20000 in
theorem l_Fa_told_b47 {E : EE} {X : CT} {G : Hp} (C : gCx E X cX9_told "FavoursGoOff" (some .int) 3 71 0 0 false 4) {r : Int32} {G' : Hp} (HR : gRet E X cX9_told (some .int) 0 0 (some (.int r)) G') {l0 : Nat} (hf : f_Fa_told_b47 G l0 = some (r, G')) : gV E X 0 0 G 47 [some (.ref (E.2.1 + l0)), none, none, none] [] := by
  unfold f_Fa_told_b47 at hf
  refine g_aload_n C dX9_told_47 rfl ?_
  refine g_bipush (v := (-2 : Int32)) C dX9_told_48 (by decide) ?_
  obtain ⟨x1, G2, hg, h1, hf⟩ := vH_ok hf
  refine g_invV (As := [.int (-2 : Int32)]) (st := []) C (c_Fa_bad E h1) (rfl : vwCl[9]? = some (y_Fa_bad.cls, TX9, 13)) (by decide) hg ml_Fa_83 cm_Fa_bad.1 cm_Fa_bad.2.1 cm_Fa_bad.2.2.1 cm_Fa_bad.2.2.2.1 cm_Fa_bad.2.2.2.2 rfl ⟨by omega, by omega, by omega, by omega⟩ (by exact Nat.le_of_ble_eq_true rfl) rfl dX9_told_50 ?_
  obtain ⟨rfl, rfl⟩ := rH_ok hf
  exact g_iret HR dX9_told_53
set_option maxRecDepth 20000 in
theorem l_Fa_told {E : EE} {X : CT} {G : Hp} (C : gCx E X cX9_told "FavoursGoOff" (some .int) 3 71 0 0 false 4) {r : Int32} {G' : Hp} (HR : gRet E X cX9_told (some .int) 0 0 (some (.int r)) G') {l0 : Nat} {l1 : Int32} {l2 : Int32} {l3 : Int32} (hf : f_Fa_told G l0 l1 l2 l3 = some (r, G')) : gV E X 0 0 G 0 [some (.ref (E.2.1 + l0)), some (.int l1), some (.int l2), some (.int l3)] [] := by
  unfold f_Fa_told at hf
  refine g_aload_n C dX9_told_0 rfl ?_
  obtain ⟨x1, hg, hf⟩ := gR_ok hf
  refine g_getR C fl_Fa_26 dX9_told_1 hg ?_
  obtain ⟨x2, hg, hf⟩ := gR_ok hf
  refine g_getR C fl_Fa_122 dX9_told_4 hg ?_
  refine g_iload_n C dX9_told_7 rfl ?_
  obtain ⟨x3, hg, h1, hf⟩ := vP_ok hf
  refine g_invV (As := [.int l1]) (st := []) C (c_Ta_has E h1) (rfl : vwCl[7]? = some (y_Ta_has.cls, TX7, 3)) (by decide) hg ml_Fa_104 cm_Ta_has.1 cm_Ta_has.2.1 cm_Ta_has.2.2.1 cm_Ta_has.2.2.2.1 cm_Ta_has.2.2.2.2 rfl ⟨by omega, by omega, by omega, by omega⟩ (by exact Nat.le_of_ble_eq_true rfl) rfl dX9_told_8 ?_
  refine g_if_eq (tgt := 47) C dX9_told_11 (by decide) (fun hc => ?_) (fun hc => ?_)
  · have hf := iteT hf hc
    refine g_sub (lv' := [some (.ref (E.2.1 + l0)), none, none, none]) ⟨rfl, trivial⟩ ?_
    exact l_Fa_told_b47 C HR  hf
  · have hf := iteF hf hc
    refine g_aload_n C dX9_told_14 rfl ?_
    obtain ⟨x4, hg, hf⟩ := gR_ok hf
    refine g_getR C fl_Fa_26 dX9_told_15 hg ?_
    obtain ⟨x5, hg, hf⟩ := gR_ok hf
    refine g_getR C fl_Fa_87 dX9_told_18 hg ?_
    refine g_iload_n C dX9_told_21 rfl ?_
    obtain ⟨x6, hg, h1, hf⟩ := vP_ok hf
    refine g_invV (As := [.int l2]) (st := []) C (c_Ta_has E h1) (rfl : vwCl[7]? = some (y_Ta_has.cls, TX7, 3)) (by decide) hg ml_Fa_104 cm_Ta_has.1 cm_Ta_has.2.1 cm_Ta_has.2.2.1 cm_Ta_has.2.2.2.1 cm_Ta_has.2.2.2.2 rfl ⟨by omega, by omega, by omega, by omega⟩ (by exact Nat.le_of_ble_eq_true rfl) rfl dX9_told_22 ?_
    refine g_if_eq (tgt := 47) C dX9_told_25 (by decide) (fun hc => ?_) (fun hc => ?_)
    · have hf := iteT hf hc
      refine g_sub (lv' := [some (.ref (E.2.1 + l0)), none, none, none]) ⟨rfl, trivial⟩ ?_
      exact l_Fa_told_b47 C HR  hf
    · have hf := iteF hf hc
      refine g_aload_n C dX9_told_28 rfl ?_
      obtain ⟨x7, hg, hf⟩ := gR_ok hf
      refine g_getR C fl_Fa_26 dX9_told_29 hg ?_
      obtain ⟨x8, hg, hf⟩ := gR_ok hf
      refine g_getR C fl_Fa_87 dX9_told_32 hg ?_
      refine g_iload_n C dX9_told_35 rfl ?_
      obtain ⟨x9, hg, h1, hf⟩ := vP_ok hf
      refine g_invV (As := [.int l3]) (st := []) C (c_Ta_has E h1) (rfl : vwCl[7]? = some (y_Ta_has.cls, TX7, 3)) (by decide) hg ml_Fa_104 cm_Ta_has.1 cm_Ta_has.2.1 cm_Ta_has.2.2.1 cm_Ta_has.2.2.2.1 cm_Ta_has.2.2.2.2 rfl ⟨by omega, by omega, by omega, by omega⟩ (by exact Nat.le_of_ble_eq_true rfl) rfl dX9_told_36 ?_
      refine g_if_eq (tgt := 47) C dX9_told_39 (by decide) (fun hc => ?_) (fun hc => ?_)
      · have hf := iteT hf hc
        refine g_sub (lv' := [some (.ref (E.2.1 + l0)), none, none, none]) ⟨rfl, trivial⟩ ?_
        exact l_Fa_told_b47 C HR  hf
      · have hf := iteF hf hc
        refine g_iload_n C dX9_told_42 rfl ?_
        refine g_iload_n C dX9_told_43 rfl ?_
        refine g_icmp_ne (tgt := 54) C dX9_told_44 (by decide) (fun hc => ?_) (fun hc => ?_)
        · have hf := iteF hf hc
          refine g_aload_n C dX9_told_54 rfl ?_
          obtain ⟨x10, hg, hf⟩ := gR_ok hf
          refine g_getR C fl_Fa_26 dX9_told_55 hg ?_
          obtain ⟨x11, hg, hf⟩ := gR_ok hf
          refine g_getR C fl_Fa_261 dX9_told_58 hg ?_
          obtain ⟨x12, hg, h1, hf⟩ := vP_ok hf
          refine g_invV (As := []) (st := []) C (c_Ta_isFull E h1) (rfl : vwCl[7]? = some (y_Ta_isFull.cls, TX7, 3)) (by decide) hg ml_Fa_125 cm_Ta_isFull.1 cm_Ta_isFull.2.1 cm_Ta_isFull.2.2.1 cm_Ta_isFull.2.2.2.1 cm_Ta_isFull.2.2.2.2 rfl ⟨by omega, by omega, by omega, by omega⟩ (by exact Nat.le_of_ble_eq_true rfl) rfl dX9_told_61 ?_
          refine g_if_eq (tgt := 72) C dX9_told_64 (by decide) (fun hc => ?_) (fun hc => ?_)
          · have hf := iteT hf hc
            refine g_aload_n C dX9_told_72 rfl ?_
            obtain ⟨x13, hg, hf⟩ := gR_ok hf
            refine g_getR C fl_Fa_26 dX9_told_73 hg ?_
            refine g_iload_n C dX9_told_76 rfl ?_
            refine g_iload_n C dX9_told_77 rfl ?_
            refine g_iload_n C dX9_told_78 rfl ?_
            obtain ⟨x14, G15, hg, h1, hf⟩ := vH_ok hf
            refine g_invV (As := [.int l1, .int l2, .int l3]) (st := []) C (c_St_addPass E h1) (rfl : vwCl[6]? = some (y_St_addPass.cls, TX6, 6)) (by decide) hg ml_Fa_264 cm_St_addPass.1 cm_St_addPass.2.1 cm_St_addPass.2.2.1 cm_St_addPass.2.2.2.1 cm_St_addPass.2.2.2.2 rfl ⟨by omega, by omega, by omega, by omega⟩ (by exact Nat.le_of_ble_eq_true rfl) rfl dX9_told_79 ?_
            obtain ⟨rfl, rfl⟩ := rH_ok hf
            exact g_iret HR dX9_told_82
          · have hf := iteF hf hc
            refine g_aload_n C dX9_told_67 rfl ?_
            obtain ⟨x16, G17, hg, h1, hf⟩ := vH_ok hf
            refine g_invV (As := []) (st := []) C (c_Fa_full E h1) (rfl : vwCl[9]? = some (y_Fa_full.cls, TX9, 13)) (by decide) hg ml_Fa_129 cm_Fa_full.1 cm_Fa_full.2.1 cm_Fa_full.2.2.1 cm_Fa_full.2.2.2.1 cm_Fa_full.2.2.2.2 rfl ⟨by omega, by omega, by omega, by omega⟩ (by exact Nat.le_of_ble_eq_true rfl) rfl dX9_told_68 ?_
            obtain ⟨rfl, rfl⟩ := rH_ok hf
            exact g_iret HR dX9_told_71
        · have hf := iteT hf hc
          refine g_sub (lv' := [some (.ref (E.2.1 + l0)), none, none, none]) ⟨rfl, trivial⟩ ?_
          exact l_Fa_told_b47 C HR  hf
theorem c_Fa_told (E : EE) {G : Hp} {l0 : Nat} {l1 : Int32} {l2 : Int32} {l3 : Int32} {r : Int32} {G' : Hp} (h : f_Fa_told G l0 l1 l2 l3 = some (r, G')) : gCt E y_Fa_told cX9_told 4 (some .int) 3 71 0 0 [.ref (E.2.1 + l0), .int l1, .int l2, .int l3] G (some (.int r)) G' := gCt_of (own := "FavoursGoOff") (ini := false) [some (.ref (E.2.1 + l0)), some (.int l1), some (.int l2), some (.int l3)] (by decide +kernel) rfl (fun h => by cases h) (Nat.le_of_ble_eq_true rfl) ⟨rfl, ⟨rfl, ⟨rfl, ⟨rfl, trivial⟩⟩⟩⟩ (fun X C HR => l_Fa_told C HR h)
set_option maxRecDepth 20000 in
theorem l_Fa_forged_b2k {E : EE} {X : CT} {G : Hp} (C : gCx E X cX9_forged "FavoursGoOff" (some .int) 3 71 0 0 false 2) {r : Int32} (HR : gRet E X cX9_forged (some .int) 0 0 (some (.int r)) G) {k2 : Nat → Int32 → Option Int32} (K2 : ∀ {l0 : Nat} {l1 : Int32}, k2 l0 l1 = some r → gV E X 0 0 G 2 [some (.ref (E.2.1 + l0)), some (.int l1)] []) {l0 : Nat} {l1 : Int32} (hf : f_Fa_forged_b2_k G k2 l0 l1 = some r) : gV E X 0 0 G 2 [some (.ref (E.2.1 + l0)), some (.int l1)] [] := by
  unfold f_Fa_forged_b2_k at hf
  refine g_iload_n C dX9_forged_2 rfl ?_
  refine g_aload_n C dX9_forged_3 rfl ?_
  obtain ⟨x1, hg, hf⟩ := gR_ok hf
  refine g_getR C fl_Fa_26 dX9_forged_4 hg ?_
  obtain ⟨x2, hg, hf⟩ := gR_ok hf
  refine g_getR C fl_Fa_261 dX9_forged_7 hg ?_
  obtain ⟨x3, hx3, hg, hf⟩ := gI_ok hf
  refine e_getI C fl_Fa_91 dX9_forged_10 hx3 hg ?_
  refine g_icmp_ge (tgt := 47) C dX9_forged_13 (by decide) (fun hc => ?_) (fun hc => ?_)
  · have hf := iteT hf hc
    refine g_iconst (v := (-1 : Int32)) C dX9_forged_47 (by decide) ?_
    obtain rfl := rP_ok hf
    exact g_iret HR dX9_forged_48
  · have hf := iteF hf hc
    refine g_aload_n C dX9_forged_16 rfl ?_
    obtain ⟨x4, hg, hf⟩ := gR_ok hf
    refine g_getR C fl_Fa_26 dX9_forged_17 hg ?_
    obtain ⟨x5, hg, hf⟩ := gR_ok hf
    refine g_getR C fl_Fa_261 dX9_forged_20 hg ?_
    refine g_iload_n C dX9_forged_23 rfl ?_
    refine g_iconst (v := (1 : Int32)) C dX9_forged_24 (by decide) ?_
    obtain ⟨x6, hg, h1, hf⟩ := vP_ok hf
    refine g_invV (As := [.int l1, .int (1 : Int32)]) (st := []) C (c_Ta_at E h1) (rfl : vwCl[7]? = some (y_Ta_at.cls, TX7, 3)) (by decide) hg ml_Fa_108 cm_Ta_at.1 cm_Ta_at.2.1 cm_Ta_at.2.2.1 cm_Ta_at.2.2.2.1 cm_Ta_at.2.2.2.2 rfl ⟨by omega, by omega, by omega, by omega⟩ (by exact Nat.le_of_ble_eq_true rfl) rfl dX9_forged_25 ?_
    refine g_aload_n C dX9_forged_28 rfl ?_
    obtain ⟨x7, hg, hf⟩ := gR_ok hf
    refine g_getR C fl_Fa_26 dX9_forged_29 hg ?_
    refine g_iload_n C dX9_forged_32 rfl ?_
    obtain ⟨x8, hg, h1, hf⟩ := vP_ok hf
    refine g_invV (As := [.int l1]) (st := [.int x6]) C (c_St_holderAhead E h1) (rfl : vwCl[6]? = some (y_St_holderAhead.cls, TX6, 6)) (by decide) hg ml_Fa_268 cm_St_holderAhead.1 cm_St_holderAhead.2.1 cm_St_holderAhead.2.2.1 cm_St_holderAhead.2.2.2.1 cm_St_holderAhead.2.2.2.2 rfl ⟨by omega, by omega, by omega, by omega⟩ (by exact Nat.le_of_ble_eq_true rfl) rfl dX9_forged_33 ?_
    refine g_icmp_eq (tgt := 41) C dX9_forged_36 (by decide) (fun hc => ?_) (fun hc => ?_)
    · have hf := iteT hf hc
      refine g_iinc (v := (l1 + 1)) (lv' := [some (.ref (E.2.1 + l0)), some (.int (l1 + 1))]) C dX9_forged_41 (by decide) rfl rfl rfl ?_
      refine g_goto (tgt := 2) C dX9_forged_44 (by decide) ?_
      refine g_sub (lv' := [some (.ref (E.2.1 + l0)), some (.int (l1 + 1))]) ⟨rfl, ⟨rfl, trivial⟩⟩ ?_
      exact K2 hf
    · have hf := iteF hf hc
      refine g_iload_n C dX9_forged_39 rfl ?_
      obtain rfl := rP_ok hf
      exact g_iret HR dX9_forged_40
theorem l_Fa_forged_b2 {E : EE} {X : CT} {G : Hp} (C : gCx E X cX9_forged "FavoursGoOff" (some .int) 3 71 0 0 false 2) {r : Int32} (HR : gRet E X cX9_forged (some .int) 0 0 (some (.int r)) G) : ∀ (nn : Nat) {l0 : Nat} {l1 : Int32}, f_Fa_forged_b2 G nn l0 l1 = some r → gV E X 0 0 G 2 [some (.ref (E.2.1 + l0)), some (.int l1)] []
  | 0, _, _, hf => by have h0 : (none : Option Int32) = some r := hf; cases h0
  | nn + 1, _, _, hf => l_Fa_forged_b2k C HR (fun h => l_Fa_forged_b2 C HR nn h) hf
set_option maxRecDepth 20000 in
theorem l_Fa_forged {E : EE} {X : CT} {G : Hp} (C : gCx E X cX9_forged "FavoursGoOff" (some .int) 3 71 0 0 false 2) {r : Int32} (HR : gRet E X cX9_forged (some .int) 0 0 (some (.int r)) G) {l0 : Nat} (hf : f_Fa_forged G l0 = some r) : gV E X 0 0 G 0 [some (.ref (E.2.1 + l0)), none] [] := by
  unfold f_Fa_forged at hf
  refine g_iconst (v := (0 : Int32)) C dX9_forged_0 (by decide) ?_
  refine g_istore_n (lv' := [some (.ref (E.2.1 + l0)), some (.int (0 : Int32))]) C dX9_forged_1 (by decide) rfl ?_
  refine g_sub (lv' := [some (.ref (E.2.1 + l0)), some (.int (0 : Int32))]) ⟨rfl, ⟨rfl, trivial⟩⟩ ?_
  exact l_Fa_forged_b2 C HR  FU hf
theorem c_Fa_forged (E : EE) {G : Hp} {l0 : Nat} {r : Int32} (h : f_Fa_forged G l0 = some r) : gCt E y_Fa_forged cX9_forged 2 (some .int) 3 71 0 0 [.ref (E.2.1 + l0)] G (some (.int r)) G := gCt_of (own := "FavoursGoOff") (ini := false) [some (.ref (E.2.1 + l0)), none] (by decide +kernel) rfl (fun h => by cases h) (Nat.le_of_ble_eq_true rfl) ⟨rfl, trivial⟩ (fun X C HR => l_Fa_forged C HR h)
set_option maxRecDepth 20000 in
theorem l_Fa_forget {E : EE} {X : CT} {G : Hp} (C : gCx E X cX9_forget "FavoursGoOff" (some .int) 1 21 0 0 false 1) {r : Int32} {G' : Hp} (HR : gRet E X cX9_forget (some .int) 0 0 (some (.int r)) G') {l0 : Nat} (hf : f_Fa_forget G l0 = some (r, G')) : gV E X 0 0 G 0 [some (.ref (E.2.1 + l0))] [] := by
  unfold f_Fa_forget at hf
  refine g_aload_n C dX9_forget_0 rfl ?_
  obtain ⟨x1, hg, hf⟩ := gR_ok hf
  refine g_getR C fl_Fa_26 dX9_forget_1 hg ?_
  obtain ⟨x2, hg, hf⟩ := gR_ok hf
  refine g_getR C fl_Fa_261 dX9_forget_4 hg ?_
  obtain ⟨x3, G4, hg, h1, hf⟩ := vH_ok hf
  refine g_invV (As := []) (st := []) C (c_Ta_empty E h1) (rfl : vwCl[7]? = some (y_Ta_empty.cls, TX7, 3)) (by decide) hg ml_Fa_147 cm_Ta_empty.1 cm_Ta_empty.2.1 cm_Ta_empty.2.2.1 cm_Ta_empty.2.2.2.1 cm_Ta_empty.2.2.2.2 rfl ⟨by omega, by omega, by omega, by omega⟩ (by exact Nat.le_of_ble_eq_true rfl) rfl dX9_forget_7 ?_
  obtain ⟨rfl, rfl⟩ := rH_ok hf
  exact g_iret HR dX9_forget_10
theorem c_Fa_forget (E : EE) {G : Hp} {l0 : Nat} {r : Int32} {G' : Hp} (h : f_Fa_forget G l0 = some (r, G')) : gCt E y_Fa_forget cX9_forget 1 (some .int) 1 21 0 0 [.ref (E.2.1 + l0)] G (some (.int r)) G' := gCt_of (own := "FavoursGoOff") (ini := false) [some (.ref (E.2.1 + l0))] (by decide +kernel) rfl (fun h => by cases h) (Nat.le_of_ble_eq_true rfl) ⟨rfl, trivial⟩ (fun X C HR => l_Fa_forget C HR h)
set_option maxRecDepth 20000 in
theorem l_Fa_goesOff_b19k {E : EE} {X : CT} {G : Hp} (C : gCx E X cX9_goesOff "FavoursGoOff" (some .int) 4 93 0 0 false 4) {r : Int32} {G' : Hp} (HR : gRet E X cX9_goesOff (some .int) 0 0 (some (.int r)) G') {k19 : Hp → Nat → Int32 → Int32 → Int32 → Option (Int32 × Hp)} (K19 : ∀ {G : Hp} {l0 : Nat} {l1 : Int32} {l2 : Int32} {l3 : Int32}, k19 G l0 l1 l2 l3 = some (r, G') → gV E X 0 0 G 19 [some (.ref (E.2.1 + l0)), some (.int l1), some (.int l2), some (.int l3)] []) {l0 : Nat} {l1 : Int32} {l2 : Int32} {l3 : Int32} (hf : f_Fa_goesOff_b19_k k19 G l0 l1 l2 l3 = some (r, G')) : gV E X 0 0 G 19 [some (.ref (E.2.1 + l0)), some (.int l1), some (.int l2), some (.int l3)] [] := by
  unfold f_Fa_goesOff_b19_k at hf
  refine g_iload_n C dX9_goesOff_19 rfl ?_
  refine g_aload_n C dX9_goesOff_20 rfl ?_
  obtain ⟨x1, hg, hf⟩ := gR_ok hf
  refine g_getR C fl_Fa_26 dX9_goesOff_21 hg ?_
  obtain ⟨x2, hg, hf⟩ := gR_ok hf
  refine g_getR C fl_Fa_122 dX9_goesOff_24 hg ?_
  obtain ⟨x3, hx3, hg, hf⟩ := gI_ok hf
  refine e_getI C fl_Fa_91 dX9_goesOff_27 hx3 hg ?_
  refine g_icmp_ge (tgt := 64) C dX9_goesOff_30 (by decide) (fun hc => ?_) (fun hc => ?_)
  · have hf := iteT hf hc
    refine g_iload_n C dX9_goesOff_64 rfl ?_
    obtain ⟨rfl, rfl⟩ := rH_ok hf
    exact g_iret HR dX9_goesOff_65
  · have hf := iteF hf hc
    refine g_iload_n C dX9_goesOff_33 rfl ?_
    refine g_iconst (v := (0 : Int32)) C dX9_goesOff_34 (by decide) ?_
    refine g_aload_n C dX9_goesOff_35 rfl ?_
    obtain ⟨x4, hg, hf⟩ := gR_ok hf
    refine g_getR C fl_Fa_26 dX9_goesOff_36 hg ?_
    refine g_iload_n C dX9_goesOff_39 rfl ?_
    obtain ⟨x5, hg, h1, hf⟩ := vP_ok hf
    refine g_invV (As := [.int l3]) (st := [.int (0 : Int32), .int l2]) C (c_St_valueNow E h1) (rfl : vwCl[6]? = some (y_St_valueNow.cls, TX6, 6)) (by decide) hg ml_Fa_174 cm_St_valueNow.1 cm_St_valueNow.2.1 cm_St_valueNow.2.2.1 cm_St_valueNow.2.2.2.1 cm_St_valueNow.2.2.2.2 rfl ⟨by omega, by omega, by omega, by omega⟩ (by exact Nat.le_of_ble_eq_true rfl) rfl dX9_goesOff_40 ?_
    refine g_aload_n C dX9_goesOff_43 rfl ?_
    obtain ⟨x6, hg, hf⟩ := gR_ok hf
    refine g_getR C fl_Fa_26 dX9_goesOff_44 hg ?_
    refine g_iload_n C dX9_goesOff_47 rfl ?_
    refine g_iload_n C dX9_goesOff_48 rfl ?_
    obtain ⟨x7, hg, h1, hf⟩ := vP_ok hf
    refine g_invV (As := [.int l3, .int l1]) (st := [.int x5, .int (0 : Int32), .int l2]) C (c_St_valueOn E h1) (rfl : vwCl[6]? = some (y_St_valueOn.cls, TX6, 6)) (by decide) hg ml_Fa_171 cm_St_valueOn.1 cm_St_valueOn.2.1 cm_St_valueOn.2.2.1 cm_St_valueOn.2.2.2.1 cm_St_valueOn.2.2.2.2 rfl ⟨by omega, by omega, by omega, by omega⟩ (by exact Nat.le_of_ble_eq_true rfl) rfl dX9_goesOff_49 ?_
    refine g_isub C dX9_goesOff_52 ?_
    refine e_max C ml_Fa_256 cm_max (by omega) (Nat.le_trans (m := 30) (by exact Nat.le_of_ble_eq_true rfl) (by omega)) ⟨by omega, by omega⟩ dX9_goesOff_53 ?_
    refine g_iadd C dX9_goesOff_56 ?_
    obtain ⟨x8, hx8, hf⟩ := lt_ok hf
    refine e_top hx8 ?_
    refine g_istore_n (lv' := [some (.ref (E.2.1 + l0)), some (.int l1), some (.int x8), some (.int l3)]) C dX9_goesOff_57 (by decide) rfl ?_
    refine g_iinc (v := (l3 + 1)) (lv' := [some (.ref (E.2.1 + l0)), some (.int l1), some (.int x8), some (.int (l3 + 1))]) C dX9_goesOff_58 (by decide) rfl rfl rfl ?_
    refine g_goto (tgt := 19) C dX9_goesOff_61 (by decide) ?_
    refine g_sub (lv' := [some (.ref (E.2.1 + l0)), some (.int l1), some (.int x8), some (.int (l3 + 1))]) ⟨rfl, ⟨rfl, ⟨rfl, ⟨rfl, trivial⟩⟩⟩⟩ ?_
    exact K19 hf
theorem l_Fa_goesOff_b19 {E : EE} {X : CT} (C : gCx E X cX9_goesOff "FavoursGoOff" (some .int) 4 93 0 0 false 4) {r : Int32} {G' : Hp} (HR : gRet E X cX9_goesOff (some .int) 0 0 (some (.int r)) G') : ∀ (nn : Nat) {G : Hp} {l0 : Nat} {l1 : Int32} {l2 : Int32} {l3 : Int32}, f_Fa_goesOff_b19 nn G l0 l1 l2 l3 = some (r, G') → gV E X 0 0 G 19 [some (.ref (E.2.1 + l0)), some (.int l1), some (.int l2), some (.int l3)] []
  | 0, _, _, _, _, _, hf => by have h0 : (none : Option (Int32 × Hp)) = some (r, G') := hf; cases h0
  | nn + 1, _, _, _, _, _, hf => l_Fa_goesOff_b19k C HR (fun h => l_Fa_goesOff_b19 C HR nn h) hf
set_option maxRecDepth 20000 in
theorem l_Fa_goesOff {E : EE} {X : CT} {G : Hp} (C : gCx E X cX9_goesOff "FavoursGoOff" (some .int) 4 93 0 0 false 4) {r : Int32} {G' : Hp} (HR : gRet E X cX9_goesOff (some .int) 0 0 (some (.int r)) G') {l0 : Nat} {l1 : Int32} (hf : f_Fa_goesOff G l0 l1 = some (r, G')) : gV E X 0 0 G 0 [some (.ref (E.2.1 + l0)), some (.int l1), none, none] [] := by
  unfold f_Fa_goesOff at hf
  refine g_aload_n C dX9_goesOff_0 rfl ?_
  refine g_iload_n C dX9_goesOff_1 rfl ?_
  obtain ⟨x1, hg, h1, hf⟩ := vP_ok hf
  refine g_invV (As := [.int l1]) (st := []) C (c_Fa_isDayToCome E h1) (rfl : vwCl[9]? = some (y_Fa_isDayToCome.cls, TX9, 13)) (by decide) hg ml_Fa_137 cm_Fa_isDayToCome.1 cm_Fa_isDayToCome.2.1 cm_Fa_isDayToCome.2.2.1 cm_Fa_isDayToCome.2.2.2.1 cm_Fa_isDayToCome.2.2.2.2 rfl ⟨by omega, by omega, by omega, by omega⟩ (by exact Nat.le_of_ble_eq_true rfl) rfl dX9_goesOff_2 ?_
  refine g_if_ne (tgt := 15) C dX9_goesOff_5 (by decide) (fun hc => ?_) (fun hc => ?_)
  · have hf := iteF hf hc
    refine g_iconst (v := (0 : Int32)) C dX9_goesOff_15 (by decide) ?_
    refine g_istore_n (lv' := [some (.ref (E.2.1 + l0)), some (.int l1), some (.int (0 : Int32)), none]) C dX9_goesOff_16 (by decide) rfl ?_
    refine g_iconst (v := (0 : Int32)) C dX9_goesOff_17 (by decide) ?_
    refine g_istore_n (lv' := [some (.ref (E.2.1 + l0)), some (.int l1), some (.int (0 : Int32)), some (.int (0 : Int32))]) C dX9_goesOff_18 (by decide) rfl ?_
    refine g_sub (lv' := [some (.ref (E.2.1 + l0)), some (.int l1), some (.int (0 : Int32)), some (.int (0 : Int32))]) ⟨rfl, ⟨rfl, ⟨rfl, ⟨rfl, trivial⟩⟩⟩⟩ ?_
    exact l_Fa_goesOff_b19 C HR  FU hf
  · have hf := iteT hf hc
    refine g_aload_n C dX9_goesOff_8 rfl ?_
    refine g_bipush (v := (-2 : Int32)) C dX9_goesOff_9 (by decide) ?_
    obtain ⟨x2, G3, hg, h1, hf⟩ := vH_ok hf
    refine g_invV (As := [.int (-2 : Int32)]) (st := []) C (c_Fa_bad E h1) (rfl : vwCl[9]? = some (y_Fa_bad.cls, TX9, 13)) (by decide) hg ml_Fa_83 cm_Fa_bad.1 cm_Fa_bad.2.1 cm_Fa_bad.2.2.1 cm_Fa_bad.2.2.2.1 cm_Fa_bad.2.2.2.2 rfl ⟨by omega, by omega, by omega, by omega⟩ (by exact Nat.le_of_ble_eq_true rfl) rfl dX9_goesOff_11 ?_
    obtain ⟨rfl, rfl⟩ := rH_ok hf
    exact g_iret HR dX9_goesOff_14
theorem c_Fa_goesOff (E : EE) {G : Hp} {l0 : Nat} {l1 : Int32} {r : Int32} {G' : Hp} (h : f_Fa_goesOff G l0 l1 = some (r, G')) : gCt E y_Fa_goesOff cX9_goesOff 4 (some .int) 4 93 0 0 [.ref (E.2.1 + l0), .int l1] G (some (.int r)) G' := gCt_of (own := "FavoursGoOff") (ini := false) [some (.ref (E.2.1 + l0)), some (.int l1), none, none] (by decide +kernel) rfl (fun h => by cases h) (Nat.le_of_ble_eq_true rfl) ⟨rfl, ⟨rfl, trivial⟩⟩ (fun X C HR => l_Fa_goesOff C HR h)
set_option maxRecDepth 20000 in
theorem l_Fa_choices_b5k {E : EE} {X : CT} {G : Hp} (C : gCx E X cX9_choices "FavoursGoOff" (some .long) 0 0 0 0 false 5) {r : Int64} (HR : gRet E X cX9_choices (some .long) 0 0 (some (.long r)) G) {k5 : Int32 → Int32 → Int64 → Int32 → Option Int64} (K5 : ∀ {l0 : Int32} {l1 : Int32} {l2 : Int64} {l4 : Int32}, k5 l0 l1 l2 l4 = some r → gV E X 0 0 G 5 [some (.int l0), some (.int l1), some (.long l2), none, some (.int l4)] []) {l0 : Int32} {l1 : Int32} {l2 : Int64} {l4 : Int32} (hf : f_Fa_choices_b5_k G k5 l0 l1 l2 l4 = some r) : gV E X 0 0 G 5 [some (.int l0), some (.int l1), some (.long l2), none, some (.int l4)] [] := by
  unfold f_Fa_choices_b5_k at hf
  refine g_iload C dX9_choices_5 rfl ?_
  refine g_iload_n C dX9_choices_7 rfl ?_
  refine g_icmp_gt (tgt := 31) C dX9_choices_8 (by decide) (fun hc => ?_) (fun hc => ?_)
  · have hf := iteT hf hc
    refine g_lload_n C dX9_choices_31 rfl ?_
    obtain rfl := rP_ok hf
    exact g_lret HR dX9_choices_32
  · have hf := iteF hf hc
    refine g_lload_n C dX9_choices_11 rfl ?_
    refine g_iload_n C dX9_choices_12 rfl ?_
    refine g_iload_n C dX9_choices_13 rfl ?_
    refine g_isub C dX9_choices_14 ?_
    refine g_iload C dX9_choices_15 rfl ?_
    refine g_iadd C dX9_choices_17 ?_
    refine g_i2l C dX9_choices_18 ?_
    refine g_lmul C dX9_choices_19 ?_
    refine g_iload C dX9_choices_20 rfl ?_
    refine g_i2l C dX9_choices_22 ?_
    obtain ⟨hy, hf⟩ := dL_ok hf
    refine g_ldiv C dX9_choices_23 hy ?_
    obtain ⟨x1, hx1, hf⟩ := lt_ok hf
    refine e_topl hx1 ?_
    refine g_lstore_n (lv' := [some (.int l0), some (.int l1), some (.long x1), none, some (.int l4)]) C dX9_choices_24 (by decide) rfl ?_
    refine g_iinc (v := (l4 + 1)) (lv' := [some (.int l0), some (.int l1), some (.long x1), none, some (.int (l4 + 1))]) C dX9_choices_25 (by decide) rfl rfl rfl ?_
    refine g_goto (tgt := 5) C dX9_choices_28 (by decide) ?_
    refine g_sub (lv' := [some (.int l0), some (.int l1), some (.long x1), none, some (.int (l4 + 1))]) ⟨rfl, ⟨rfl, ⟨rfl, ⟨rfl, trivial⟩⟩⟩⟩ ?_
    exact K5 hf
theorem l_Fa_choices_b5 {E : EE} {X : CT} {G : Hp} (C : gCx E X cX9_choices "FavoursGoOff" (some .long) 0 0 0 0 false 5) {r : Int64} (HR : gRet E X cX9_choices (some .long) 0 0 (some (.long r)) G) : ∀ (nn : Nat) {l0 : Int32} {l1 : Int32} {l2 : Int64} {l4 : Int32}, f_Fa_choices_b5 G nn l0 l1 l2 l4 = some r → gV E X 0 0 G 5 [some (.int l0), some (.int l1), some (.long l2), none, some (.int l4)] []
  | 0, _, _, _, _, hf => by have h0 : (none : Option Int64) = some r := hf; cases h0
  | nn + 1, _, _, _, _, hf => l_Fa_choices_b5k C HR (fun h => l_Fa_choices_b5 C HR nn h) hf
set_option maxRecDepth 20000 in
theorem l_Fa_choices {E : EE} {X : CT} {G : Hp} (C : gCx E X cX9_choices "FavoursGoOff" (some .long) 0 0 0 0 false 5) {r : Int64} (HR : gRet E X cX9_choices (some .long) 0 0 (some (.long r)) G) {l0 : Int32} {l1 : Int32} (hf : f_Fa_choices G l0 l1 = some r) : gV E X 0 0 G 0 [some (.int l0), some (.int l1), none, none, none] [] := by
  unfold f_Fa_choices at hf
  refine g_lconst (v := (1 : Int64)) C dX9_choices_0 (by decide) ?_
  refine g_lstore_n (lv' := [some (.int l0), some (.int l1), some (.long (1 : Int64)), none, none]) C dX9_choices_1 (by decide) rfl ?_
  refine g_iconst (v := (1 : Int32)) C dX9_choices_2 (by decide) ?_
  refine g_istore (lv' := [some (.int l0), some (.int l1), some (.long (1 : Int64)), none, some (.int (1 : Int32))]) C dX9_choices_3 (by decide) rfl ?_
  refine g_sub (lv' := [some (.int l0), some (.int l1), some (.long (1 : Int64)), none, some (.int (1 : Int32))]) ⟨rfl, ⟨rfl, ⟨rfl, ⟨rfl, trivial⟩⟩⟩⟩ ?_
  exact l_Fa_choices_b5 C HR  FU hf
theorem c_Fa_choices (E : EE) {G : Hp} {l0 : Int32} {l1 : Int32} {r : Int64} (h : f_Fa_choices G l0 l1 = some r) : gCt E y_Fa_choices cX9_choices 5 (some .long) 0 0 0 0 [.int l0, .int l1] G (some (.long r)) G := gCt_of (own := "FavoursGoOff") (ini := false) [some (.int l0), some (.int l1), none, none, none] (by decide +kernel) rfl (fun h => by cases h) (Nat.le_of_ble_eq_true rfl) ⟨rfl, ⟨rfl, trivial⟩⟩ (fun X C HR => l_Fa_choices C HR h)
set_option maxRecDepth 20000 in
theorem l_Fa_power_b5k {E : EE} {X : CT} {G : Hp} (C : gCx E X cX9_power "FavoursGoOff" (some .long) 0 0 0 0 false 5) {r : Int64} (HR : gRet E X cX9_power (some .long) 0 0 (some (.long r)) G) {k5 : Int32 → Int32 → Int64 → Int32 → Option Int64} (K5 : ∀ {l0 : Int32} {l1 : Int32} {l2 : Int64} {l4 : Int32}, k5 l0 l1 l2 l4 = some r → gV E X 0 0 G 5 [some (.int l0), some (.int l1), some (.long l2), none, some (.int l4)] []) {l0 : Int32} {l1 : Int32} {l2 : Int64} {l4 : Int32} (hf : f_Fa_power_b5_k G k5 l0 l1 l2 l4 = some r) : gV E X 0 0 G 5 [some (.int l0), some (.int l1), some (.long l2), none, some (.int l4)] [] := by
  unfold f_Fa_power_b5_k at hf
  refine g_iload C dX9_power_5 rfl ?_
  refine g_iload_n C dX9_power_7 rfl ?_
  refine g_icmp_ge (tgt := 22) C dX9_power_8 (by decide) (fun hc => ?_) (fun hc => ?_)
  · have hf := iteT hf hc
    refine g_lload_n C dX9_power_22 rfl ?_
    obtain rfl := rP_ok hf
    exact g_lret HR dX9_power_23
  · have hf := iteF hf hc
    refine g_lload_n C dX9_power_11 rfl ?_
    refine g_iload_n C dX9_power_12 rfl ?_
    refine g_i2l C dX9_power_13 ?_
    refine g_lmul C dX9_power_14 ?_
    obtain ⟨x1, hx1, hf⟩ := lt_ok hf
    refine e_topl hx1 ?_
    refine g_lstore_n (lv' := [some (.int l0), some (.int l1), some (.long x1), none, some (.int l4)]) C dX9_power_15 (by decide) rfl ?_
    refine g_iinc (v := (l4 + 1)) (lv' := [some (.int l0), some (.int l1), some (.long x1), none, some (.int (l4 + 1))]) C dX9_power_16 (by decide) rfl rfl rfl ?_
    refine g_goto (tgt := 5) C dX9_power_19 (by decide) ?_
    refine g_sub (lv' := [some (.int l0), some (.int l1), some (.long x1), none, some (.int (l4 + 1))]) ⟨rfl, ⟨rfl, ⟨rfl, ⟨rfl, trivial⟩⟩⟩⟩ ?_
    exact K5 hf
theorem l_Fa_power_b5 {E : EE} {X : CT} {G : Hp} (C : gCx E X cX9_power "FavoursGoOff" (some .long) 0 0 0 0 false 5) {r : Int64} (HR : gRet E X cX9_power (some .long) 0 0 (some (.long r)) G) : ∀ (nn : Nat) {l0 : Int32} {l1 : Int32} {l2 : Int64} {l4 : Int32}, f_Fa_power_b5 G nn l0 l1 l2 l4 = some r → gV E X 0 0 G 5 [some (.int l0), some (.int l1), some (.long l2), none, some (.int l4)] []
  | 0, _, _, _, _, hf => by have h0 : (none : Option Int64) = some r := hf; cases h0
  | nn + 1, _, _, _, _, hf => l_Fa_power_b5k C HR (fun h => l_Fa_power_b5 C HR nn h) hf
set_option maxRecDepth 20000 in
theorem l_Fa_power {E : EE} {X : CT} {G : Hp} (C : gCx E X cX9_power "FavoursGoOff" (some .long) 0 0 0 0 false 5) {r : Int64} (HR : gRet E X cX9_power (some .long) 0 0 (some (.long r)) G) {l0 : Int32} {l1 : Int32} (hf : f_Fa_power G l0 l1 = some r) : gV E X 0 0 G 0 [some (.int l0), some (.int l1), none, none, none] [] := by
  unfold f_Fa_power at hf
  refine g_lconst (v := (1 : Int64)) C dX9_power_0 (by decide) ?_
  refine g_lstore_n (lv' := [some (.int l0), some (.int l1), some (.long (1 : Int64)), none, none]) C dX9_power_1 (by decide) rfl ?_
  refine g_iconst (v := (0 : Int32)) C dX9_power_2 (by decide) ?_
  refine g_istore (lv' := [some (.int l0), some (.int l1), some (.long (1 : Int64)), none, some (.int (0 : Int32))]) C dX9_power_3 (by decide) rfl ?_
  refine g_sub (lv' := [some (.int l0), some (.int l1), some (.long (1 : Int64)), none, some (.int (0 : Int32))]) ⟨rfl, ⟨rfl, ⟨rfl, ⟨rfl, trivial⟩⟩⟩⟩ ?_
  exact l_Fa_power_b5 C HR  FU hf
theorem c_Fa_power (E : EE) {G : Hp} {l0 : Int32} {l1 : Int32} {r : Int64} (h : f_Fa_power G l0 l1 = some r) : gCt E y_Fa_power cX9_power 5 (some .long) 0 0 0 0 [.int l0, .int l1] G (some (.long r)) G := gCt_of (own := "FavoursGoOff") (ini := false) [some (.int l0), some (.int l1), none, none, none] (by decide +kernel) rfl (fun h => by cases h) (Nat.le_of_ble_eq_true rfl) ⟨rfl, ⟨rfl, trivial⟩⟩ (fun X C HR => l_Fa_power C HR h)
set_option maxRecDepth 20000 in
theorem l_Fa_kept_b19 {E : EE} {X : CT} {G : Hp} (C : gCx E X cX9_kept "FavoursGoOff" (some .int) 13 600 0 0 false 7) {r : Int32} {G' : Hp} (HR : gRet E X cX9_kept (some .int) 0 0 (some (.int r)) G') {l0 : Nat} (hf : f_Fa_kept_b19 G l0 = some (r, G')) : gV E X 0 0 G 19 [some (.ref (E.2.1 + l0)), none, none, none, none, none, none] [] := by
  unfold f_Fa_kept_b19 at hf
  refine g_aload_n C dX9_kept_19 rfl ?_
  refine g_bipush (v := (-2 : Int32)) C dX9_kept_20 (by decide) ?_
  obtain ⟨x1, G2, hg, h1, hf⟩ := vH_ok hf
  refine g_invV (As := [.int (-2 : Int32)]) (st := []) C (c_Fa_bad E h1) (rfl : vwCl[9]? = some (y_Fa_bad.cls, TX9, 13)) (by decide) hg ml_Fa_83 cm_Fa_bad.1 cm_Fa_bad.2.1 cm_Fa_bad.2.2.1 cm_Fa_bad.2.2.2.1 cm_Fa_bad.2.2.2.2 rfl ⟨by omega, by omega, by omega, by omega⟩ (by exact Nat.le_of_ble_eq_true rfl) rfl dX9_kept_22 ?_
  obtain ⟨rfl, rfl⟩ := rH_ok hf
  exact g_iret HR dX9_kept_25
set_option maxRecDepth 20000 in
theorem l_Fa_kept_b51k {E : EE} {X : CT} {G : Hp} (C : gCx E X cX9_kept "FavoursGoOff" (some .int) 13 600 0 0 false 7) {r : Int32} {G' : Hp} (HR : gRet E X cX9_kept (some .int) 0 0 (some (.int r)) G') {k51 : Hp → Nat → Int32 → Int32 → Int64 → Int32 → Option (Int32 × Hp)} (K51 : ∀ {G : Hp} {l0 : Nat} {l1 : Int32} {l3 : Int32} {l4 : Int64} {l6 : Int32}, k51 G l0 l1 l3 l4 l6 = some (r, G') → gV E X 0 0 G 51 [some (.ref (E.2.1 + l0)), some (.int l1), none, some (.int l3), some (.long l4), none, some (.int l6)] []) {l0 : Nat} {l1 : Int32} {l3 : Int32} {l4 : Int64} {l6 : Int32} (hf : f_Fa_kept_b51_k k51 G l0 l1 l3 l4 l6 = some (r, G')) : gV E X 0 0 G 51 [some (.ref (E.2.1 + l0)), some (.int l1), none, some (.int l3), some (.long l4), none, some (.int l6)] [] := by
  unfold f_Fa_kept_b51_k at hf
  refine g_iload C dX9_kept_51 rfl ?_
  refine g_iload_n C dX9_kept_53 rfl ?_
  refine g_icmp_gt (tgt := 93) C dX9_kept_54 (by decide) (fun hc => ?_) (fun hc => ?_)
  · have hf := iteT hf hc
    refine g_aload_n C dX9_kept_93 rfl ?_
    obtain ⟨x1, hg, hf⟩ := gR_ok hf
    refine g_getR C fl_Fa_65 dX9_kept_94 hg ?_
    refine g_lload C dX9_kept_97 rfl ?_
    refine g_bipush (v := (10 : Int32)) C dX9_kept_99 (by decide) ?_
    refine g_iload_n C dX9_kept_101 rfl ?_
    obtain ⟨x2, h1, hf⟩ := cP_ok hf
    refine g_invS (As := [.int (10 : Int32), .int l3]) (st := [.long l4, .ref (E.2.1 + x1)]) C (c_Fa_power E h1) ml_Fa_275 cm_Fa_power.1 cm_Fa_power.2.1 cm_Fa_power.2.2.1 cm_Fa_power.2.2.2 rfl ⟨by omega, by omega, by omega, by omega⟩ (by exact Nat.le_of_ble_eq_true rfl) rfl dX9_kept_102 ?_
    obtain ⟨G3, hg, h1, hf⟩ := vP_ok hf
    refine g_invV (As := [.long l4, .long x2]) (st := []) C (c_Fr_become E h1) (rfl : vwCl[2]? = some (y_Fr_become.cls, TX2, 2)) (by decide) hg ml_Fa_278 cm_Fr_become.1 cm_Fr_become.2.1 cm_Fr_become.2.2.1 cm_Fr_become.2.2.2.1 cm_Fr_become.2.2.2.2 rfl ⟨by omega, by omega, by omega, by omega⟩ (by exact Nat.le_of_ble_eq_true rfl) rfl dX9_kept_105 ?_
    refine g_iconst (v := (1 : Int32)) C dX9_kept_108 (by decide) ?_
    obtain ⟨rfl, rfl⟩ := rH_ok hf
    exact g_iret HR dX9_kept_109
  · have hf := iteF hf hc
    refine g_lload C dX9_kept_57 rfl ?_
    refine g_iload_n C dX9_kept_59 rfl ?_
    refine g_iload C dX9_kept_60 rfl ?_
    obtain ⟨x4, h1, hf⟩ := cP_ok hf
    refine g_invS (As := [.int l3, .int l6]) (st := [.long l4]) C (c_Fa_choices E h1) ml_Fa_271 cm_Fa_choices.1 cm_Fa_choices.2.1 cm_Fa_choices.2.2.1 cm_Fa_choices.2.2.2 rfl ⟨by omega, by omega, by omega, by omega⟩ (by exact Nat.le_of_ble_eq_true rfl) rfl dX9_kept_62 ?_
    refine g_iload_n C dX9_kept_65 rfl ?_
    refine g_iload C dX9_kept_66 rfl ?_
    obtain ⟨x5, h1, hf⟩ := cP_ok hf
    refine g_invS (As := [.int l1, .int l6]) (st := [.long x4, .long l4]) C (c_Fa_power E h1) ml_Fa_275 cm_Fa_power.1 cm_Fa_power.2.1 cm_Fa_power.2.2.1 cm_Fa_power.2.2.2 rfl ⟨by omega, by omega, by omega, by omega⟩ (by exact Nat.le_of_ble_eq_true rfl) rfl dX9_kept_68 ?_
    refine g_lmul C dX9_kept_71 ?_
    refine g_bipush (v := (10 : Int32)) C dX9_kept_72 (by decide) ?_
    refine g_iload_n C dX9_kept_74 rfl ?_
    refine g_isub C dX9_kept_75 ?_
    refine g_iload_n C dX9_kept_76 rfl ?_
    refine g_iload C dX9_kept_77 rfl ?_
    refine g_isub C dX9_kept_79 ?_
    obtain ⟨x6, h1, hf⟩ := cP_ok hf
    refine g_invS (As := [.int ((10 : Int32) - l1), .int (l3 - l6)]) (st := [.long (x4 * x5), .long l4]) C (c_Fa_power E h1) ml_Fa_275 cm_Fa_power.1 cm_Fa_power.2.1 cm_Fa_power.2.2.1 cm_Fa_power.2.2.2 rfl ⟨by omega, by omega, by omega, by omega⟩ (by exact Nat.le_of_ble_eq_true rfl) rfl dX9_kept_80 ?_
    refine g_lmul C dX9_kept_83 ?_
    refine g_ladd C dX9_kept_84 ?_
    obtain ⟨x7, hx7, hf⟩ := lt_ok hf
    refine e_topl hx7 ?_
    refine g_lstore (lv' := [some (.ref (E.2.1 + l0)), some (.int l1), none, some (.int l3), some (.long x7), none, some (.int l6)]) C dX9_kept_85 (by decide) rfl ?_
    refine g_iinc (v := (l6 + 1)) (lv' := [some (.ref (E.2.1 + l0)), some (.int l1), none, some (.int l3), some (.long x7), none, some (.int (l6 + 1))]) C dX9_kept_87 (by decide) rfl rfl rfl ?_
    refine g_goto (tgt := 51) C dX9_kept_90 (by decide) ?_
    refine g_sub (lv' := [some (.ref (E.2.1 + l0)), some (.int l1), none, some (.int l3), some (.long x7), none, some (.int (l6 + 1))]) ⟨rfl, ⟨rfl, ⟨rfl, ⟨rfl, ⟨rfl, trivial⟩⟩⟩⟩⟩ ?_
    exact K51 hf
theorem l_Fa_kept_b51 {E : EE} {X : CT} (C : gCx E X cX9_kept "FavoursGoOff" (some .int) 13 600 0 0 false 7) {r : Int32} {G' : Hp} (HR : gRet E X cX9_kept (some .int) 0 0 (some (.int r)) G') : ∀ (nn : Nat) {G : Hp} {l0 : Nat} {l1 : Int32} {l3 : Int32} {l4 : Int64} {l6 : Int32}, f_Fa_kept_b51 nn G l0 l1 l3 l4 l6 = some (r, G') → gV E X 0 0 G 51 [some (.ref (E.2.1 + l0)), some (.int l1), none, some (.int l3), some (.long l4), none, some (.int l6)] []
  | 0, _, _, _, _, _, _, hf => by have h0 : (none : Option (Int32 × Hp)) = some (r, G') := hf; cases h0
  | nn + 1, _, _, _, _, _, _, hf => l_Fa_kept_b51k C HR (fun h => l_Fa_kept_b51 C HR nn h) hf
set_option maxRecDepth 20000 in
theorem l_Fa_kept {E : EE} {X : CT} {G : Hp} (C : gCx E X cX9_kept "FavoursGoOff" (some .int) 13 600 0 0 false 7) {r : Int32} {G' : Hp} (HR : gRet E X cX9_kept (some .int) 0 0 (some (.int r)) G') {l0 : Nat} {l1 : Int32} {l2 : Int32} (hf : f_Fa_kept G l0 l1 l2 = some (r, G')) : gV E X 0 0 G 0 [some (.ref (E.2.1 + l0)), some (.int l1), some (.int l2), none, none, none, none] [] := by
  unfold f_Fa_kept at hf
  refine g_iload_n C dX9_kept_0 rfl ?_
  refine g_iconst (v := (0 : Int32)) C dX9_kept_1 (by decide) ?_
  refine g_bipush (v := (10 : Int32)) C dX9_kept_2 (by decide) ?_
  obtain ⟨x1, h1, hf⟩ := cP_ok hf
  refine g_invS (As := [.int l1, .int (0 : Int32), .int (10 : Int32)]) (st := []) C (c_Fa_isWithin E h1) ml_Fa_79 cm_Fa_isWithin.1 cm_Fa_isWithin.2.1 cm_Fa_isWithin.2.2.1 cm_Fa_isWithin.2.2.2 rfl ⟨by omega, by omega, by omega, by omega⟩ (by exact Nat.le_of_ble_eq_true rfl) rfl dX9_kept_4 ?_
  refine g_if_eq (tgt := 19) C dX9_kept_7 (by decide) (fun hc => ?_) (fun hc => ?_)
  · have hf := iteT hf hc
    refine g_sub (lv' := [some (.ref (E.2.1 + l0)), none, none, none, none, none, none]) ⟨rfl, trivial⟩ ?_
    exact l_Fa_kept_b19 C HR  hf
  · have hf := iteF hf hc
    refine g_iload_n C dX9_kept_10 rfl ?_
    refine g_iconst (v := (0 : Int32)) C dX9_kept_11 (by decide) ?_
    refine g_iconst (v := (5 : Int32)) C dX9_kept_12 (by decide) ?_
    obtain ⟨x2, h1, hf⟩ := cP_ok hf
    refine g_invS (As := [.int l2, .int (0 : Int32), .int (5 : Int32)]) (st := []) C (c_Fa_isWithin E h1) ml_Fa_79 cm_Fa_isWithin.1 cm_Fa_isWithin.2.1 cm_Fa_isWithin.2.2.1 cm_Fa_isWithin.2.2.2 rfl ⟨by omega, by omega, by omega, by omega⟩ (by exact Nat.le_of_ble_eq_true rfl) rfl dX9_kept_13 ?_
    refine g_if_ne (tgt := 26) C dX9_kept_16 (by decide) (fun hc => ?_) (fun hc => ?_)
    · have hf := iteF hf hc
      refine g_aload_n C dX9_kept_26 rfl ?_
      obtain ⟨x3, hg, hf⟩ := gR_ok hf
      refine g_getR C fl_Fa_58 dX9_kept_27 hg ?_
      refine g_aload_n C dX9_kept_30 rfl ?_
      obtain ⟨x4, hg, hf⟩ := gR_ok hf
      refine g_getR C fl_Fa_26 dX9_kept_31 hg ?_
      obtain ⟨G5, hg, h1, hf⟩ := vP_ok hf
      refine g_invV (As := [.ref (E.2.1 + x4)]) (st := []) C (c_Pl_make E h1) (rfl : vwCl[4]? = some (y_Pl_make.cls, TX4, 13)) (by decide) hg ml_Fa_222 cm_Pl_make.1 cm_Pl_make.2.1 cm_Pl_make.2.2.1 cm_Pl_make.2.2.2.1 cm_Pl_make.2.2.2.2 rfl ⟨by omega, by omega, by omega, by omega⟩ (by exact Nat.le_of_ble_eq_true rfl) rfl dX9_kept_34 ?_
      refine g_aload_n C dX9_kept_37 rfl ?_
      obtain ⟨x6, hg, hf⟩ := gR_ok hf
      refine g_getR C fl_Fa_58 dX9_kept_38 hg ?_
      obtain ⟨x7, hx7, hg, hf⟩ := gI_ok hf
      refine e_getI C fl_Fa_225 dX9_kept_41 hx7 hg ?_
      refine g_istore_n (lv' := [some (.ref (E.2.1 + l0)), some (.int l1), some (.int l2), some (.int x7), none, none, none]) C dX9_kept_44 (by decide) rfl ?_
      refine g_lconst (v := (0 : Int64)) C dX9_kept_45 (by decide) ?_
      refine g_lstore (lv' := [some (.ref (E.2.1 + l0)), some (.int l1), some (.int l2), some (.int x7), some (.long (0 : Int64)), none, none]) C dX9_kept_46 (by decide) rfl ?_
      refine g_iload_n C dX9_kept_48 rfl ?_
      refine g_istore (lv' := [some (.ref (E.2.1 + l0)), some (.int l1), some (.int l2), some (.int x7), some (.long (0 : Int64)), none, some (.int l2)]) C dX9_kept_49 (by decide) rfl ?_
      refine g_sub (lv' := [some (.ref (E.2.1 + l0)), some (.int l1), none, some (.int x7), some (.long (0 : Int64)), none, some (.int l2)]) ⟨rfl, ⟨rfl, ⟨rfl, ⟨rfl, ⟨rfl, trivial⟩⟩⟩⟩⟩ ?_
      exact l_Fa_kept_b51 C HR  FU hf
    · have hf := iteT hf hc
      refine g_sub (lv' := [some (.ref (E.2.1 + l0)), none, none, none, none, none, none]) ⟨rfl, trivial⟩ ?_
      exact l_Fa_kept_b19 C HR  hf
theorem c_Fa_kept (E : EE) {G : Hp} {l0 : Nat} {l1 : Int32} {l2 : Int32} {r : Int32} {G' : Hp} (h : f_Fa_kept G l0 l1 l2 = some (r, G')) : gCt E y_Fa_kept cX9_kept 7 (some .int) 13 600 0 0 [.ref (E.2.1 + l0), .int l1, .int l2] G (some (.int r)) G' := gCt_of (own := "FavoursGoOff") (ini := false) [some (.ref (E.2.1 + l0)), some (.int l1), some (.int l2), none, none, none, none] (by decide +kernel) rfl (fun h => by cases h) (Nat.le_of_ble_eq_true rfl) ⟨rfl, ⟨rfl, ⟨rfl, trivial⟩⟩⟩ (fun X C HR => l_Fa_kept C HR h)
set_option maxRecDepth 20000 in
theorem l_Fa_part_b38 {E : EE} {X : CT} {G : Hp} (C : gCx E X cX9_part "FavoursGoOff" (some .long) 1 22 0 0 false 2) {r : Int64} {G' : Hp} (HR : gRet E X cX9_part (some .long) 0 0 (some (.long r)) G') {s0 : Int64} (hf : f_Fa_part_b38 G s0 = some (r, G')) : gV E X 0 0 G 38 [none, none] [.long s0] := by
  unfold f_Fa_part_b38 at hf
  obtain ⟨rfl, rfl⟩ := rH_ok hf
  exact g_lret HR dX9_part_38
set_option maxRecDepth 20000 in
theorem l_Fa_part {E : EE} {X : CT} {G : Hp} (C : gCx E X cX9_part "FavoursGoOff" (some .long) 1 22 0 0 false 2) {r : Int64} {G' : Hp} (HR : gRet E X cX9_part (some .long) 0 0 (some (.long r)) G') {l0 : Nat} {l1 : Int32} (hf : f_Fa_part G l0 l1 = some (r, G')) : gV E X 0 0 G 0 [some (.ref (E.2.1 + l0)), some (.int l1)] [] := by
  unfold f_Fa_part at hf
  refine g_iload_n C dX9_part_0 rfl ?_
  refine g_iconst (v := (0 : Int32)) C dX9_part_1 (by decide) ?_
  refine g_iconst (v := (1 : Int32)) C dX9_part_2 (by decide) ?_
  obtain ⟨x1, h1, hf⟩ := cP_ok hf
  refine g_invS (As := [.int l1, .int (0 : Int32), .int (1 : Int32)]) (st := []) C (c_Fa_isWithin E h1) ml_Fa_79 cm_Fa_isWithin.1 cm_Fa_isWithin.2.1 cm_Fa_isWithin.2.2.1 cm_Fa_isWithin.2.2.2 rfl ⟨by omega, by omega, by omega, by omega⟩ (by exact Nat.le_of_ble_eq_true rfl) rfl dX9_part_3 ?_
  refine g_if_ne (tgt := 17) C dX9_part_6 (by decide) (fun hc => ?_) (fun hc => ?_)
  · have hf := iteF hf hc
    refine g_iload_n C dX9_part_17 rfl ?_
    refine g_if_ne (tgt := 31) C dX9_part_18 (by decide) (fun hc => ?_) (fun hc => ?_)
    · have hf := iteF hf hc
      refine g_aload_n C dX9_part_31 rfl ?_
      obtain ⟨x2, hg, hf⟩ := gR_ok hf
      refine g_getR C fl_Fa_65 dX9_part_32 hg ?_
      obtain ⟨x3, hx3, hg, hf⟩ := gL_ok hf
      refine e_getL C fl_Fa_286 dX9_part_35 hx3 hg ?_
      refine g_sub (lv' := [none, none]) trivial ?_
      exact l_Fa_part_b38 C HR  hf
    · have hf := iteT hf hc
      refine g_aload_n C dX9_part_21 rfl ?_
      obtain ⟨x4, hg, hf⟩ := gR_ok hf
      refine g_getR C fl_Fa_65 dX9_part_22 hg ?_
      obtain ⟨x5, hx5, hg, hf⟩ := gL_ok hf
      refine e_getL C fl_Fa_282 dX9_part_25 hx5 hg ?_
      refine g_goto (tgt := 38) C dX9_part_28 (by decide) ?_
      refine g_sub (lv' := [none, none]) trivial ?_
      exact l_Fa_part_b38 C HR  hf
  · have hf := iteT hf hc
    refine g_aload_n C dX9_part_9 rfl ?_
    refine g_bipush (v := (-2 : Int32)) C dX9_part_10 (by decide) ?_
    obtain ⟨x6, G7, hg, h1, hf⟩ := vH_ok hf
    refine g_invV (As := [.int (-2 : Int32)]) (st := []) C (c_Fa_bad E h1) (rfl : vwCl[9]? = some (y_Fa_bad.cls, TX9, 13)) (by decide) hg ml_Fa_83 cm_Fa_bad.1 cm_Fa_bad.2.1 cm_Fa_bad.2.2.1 cm_Fa_bad.2.2.2.1 cm_Fa_bad.2.2.2.2 rfl ⟨by omega, by omega, by omega, by omega⟩ (by exact Nat.le_of_ble_eq_true rfl) rfl dX9_part_12 ?_
    refine g_i2l C dX9_part_15 ?_
    obtain ⟨rfl, rfl⟩ := rH_ok hf
    exact g_lret HR dX9_part_16
theorem c_Fa_part (E : EE) {G : Hp} {l0 : Nat} {l1 : Int32} {r : Int64} {G' : Hp} (h : f_Fa_part G l0 l1 = some (r, G')) : gCt E y_Fa_part cX9_part 2 (some .long) 1 22 0 0 [.ref (E.2.1 + l0), .int l1] G (some (.long r)) G' := gCt_of (own := "FavoursGoOff") (ini := false) [some (.ref (E.2.1 + l0)), some (.int l1)] (by decide +kernel) rfl (fun h => by cases h) (Nat.le_of_ble_eq_true rfl) ⟨rfl, ⟨rfl, trivial⟩⟩ (fun X C HR => l_Fa_part C HR h)
set_option maxRecDepth 20000 in
theorem l_Fa_imageAt_b15 {E : EE} {X : CT} {G : Hp} (C : gCx E X cX9_imageAt "FavoursGoOff" (some (.object "FavoursGoOff$History")) 0 0 0 0 false 2) {r : Nat} (HR : gRet E X cX9_imageAt (some (.object "FavoursGoOff$History")) 0 0 (some (.ref (E.2.1 + r))) G) {s0 : Nat} (hf : f_Fa_imageAt_b15 G s0 = some r) : gV E X 0 0 G 15 [none, none] [.ref (E.2.1 + s0)] := by
  unfold f_Fa_imageAt_b15 at hf
  obtain rfl := rP_ok hf
  exact g_aret HR dX9_imageAt_15
set_option maxRecDepth 20000 in
theorem l_Fa_imageAt {E : EE} {X : CT} {G : Hp} (C : gCx E X cX9_imageAt "FavoursGoOff" (some (.object "FavoursGoOff$History")) 0 0 0 0 false 2) {r : Nat} (HR : gRet E X cX9_imageAt (some (.object "FavoursGoOff$History")) 0 0 (some (.ref (E.2.1 + r))) G) {l0 : Nat} {l1 : Int32} (hf : f_Fa_imageAt G l0 l1 = some r) : gV E X 0 0 G 0 [some (.ref (E.2.1 + l0)), some (.int l1)] [] := by
  unfold f_Fa_imageAt at hf
  refine g_iload_n C dX9_imageAt_0 rfl ?_
  refine g_if_ne (tgt := 11) C dX9_imageAt_1 (by decide) (fun hc => ?_) (fun hc => ?_)
  · have hf := iteF hf hc
    refine g_aload_n C dX9_imageAt_11 rfl ?_
    obtain ⟨x1, hg, hf⟩ := gR_ok hf
    refine g_getR C fl_Fa_19 dX9_imageAt_12 hg ?_
    refine g_sub (lv' := [none, none]) trivial ?_
    exact l_Fa_imageAt_b15 C HR  hf
  · have hf := iteT hf hc
    refine g_aload_n C dX9_imageAt_4 rfl ?_
    obtain ⟨x2, hg, hf⟩ := gR_ok hf
    refine g_getR C fl_Fa_16 dX9_imageAt_5 hg ?_
    refine g_goto (tgt := 15) C dX9_imageAt_8 (by decide) ?_
    refine g_sub (lv' := [none, none]) trivial ?_
    exact l_Fa_imageAt_b15 C HR  hf
theorem c_Fa_imageAt (E : EE) {G : Hp} {l0 : Nat} {l1 : Int32} {r : Nat} (h : f_Fa_imageAt G l0 l1 = some r) : gCt E y_Fa_imageAt cX9_imageAt 2 (some (.object "FavoursGoOff$History")) 0 0 0 0 [.ref (E.2.1 + l0), .int l1] G (some (.ref (E.2.1 + r))) G := gCt_of (own := "FavoursGoOff") (ini := false) [some (.ref (E.2.1 + l0)), some (.int l1)] (by decide +kernel) rfl (fun h => by cases h) (Nat.le_of_ble_eq_true rfl) ⟨rfl, ⟨rfl, trivial⟩⟩ (fun X C HR => l_Fa_imageAt C HR h)
set_option maxRecDepth 20000 in
theorem l_Fa_image {E : EE} {X : CT} {G : Hp} (C : gCx E X cX9_image "FavoursGoOff" (some .int) 5 114 0 0 false 2) {r : Int32} {G' : Hp} (HR : gRet E X cX9_image (some .int) 0 0 (some (.int r)) G') {l0 : Nat} {l1 : Int32} (hf : f_Fa_image G l0 l1 = some (r, G')) : gV E X 0 0 G 0 [some (.ref (E.2.1 + l0)), some (.int l1)] [] := by
  unfold f_Fa_image at hf
  refine g_iload_n C dX9_image_0 rfl ?_
  refine g_iconst (v := (0 : Int32)) C dX9_image_1 (by decide) ?_
  refine g_iconst (v := (1 : Int32)) C dX9_image_2 (by decide) ?_
  obtain ⟨x1, h1, hf⟩ := cP_ok hf
  refine g_invS (As := [.int l1, .int (0 : Int32), .int (1 : Int32)]) (st := []) C (c_Fa_isWithin E h1) ml_Fa_79 cm_Fa_isWithin.1 cm_Fa_isWithin.2.1 cm_Fa_isWithin.2.2.1 cm_Fa_isWithin.2.2.2 rfl ⟨by omega, by omega, by omega, by omega⟩ (by exact Nat.le_of_ble_eq_true rfl) rfl dX9_image_3 ?_
  refine g_if_ne (tgt := 16) C dX9_image_6 (by decide) (fun hc => ?_) (fun hc => ?_)
  · have hf := iteF hf hc
    refine g_aload_n C dX9_image_16 rfl ?_
    refine g_iload_n C dX9_image_17 rfl ?_
    obtain ⟨x2, hg, h1, hf⟩ := vP_ok hf
    refine g_invV (As := [.int l1]) (st := []) C (c_Fa_imageAt E h1) (rfl : vwCl[9]? = some (y_Fa_imageAt.cls, TX9, 13)) (by decide) hg ml_Fa_289 cm_Fa_imageAt.1 cm_Fa_imageAt.2.1 cm_Fa_imageAt.2.2.1 cm_Fa_imageAt.2.2.2.1 cm_Fa_imageAt.2.2.2.2 rfl ⟨by omega, by omega, by omega, by omega⟩ (by exact Nat.le_of_ble_eq_true rfl) rfl dX9_image_18 ?_
    refine g_aload_n C dX9_image_21 rfl ?_
    obtain ⟨x3, hg, hf⟩ := gR_ok hf
    refine g_getR C fl_Fa_10 dX9_image_22 hg ?_
    obtain ⟨G4, hg, h1, hf⟩ := vP_ok hf
    refine g_invV (As := [.ref (E.2.1 + x3)]) (st := []) C (c_Hi_copyFrom E h1) (rfl : vwCl[3]? = some (y_Hi_copyFrom.cls, TX3, 5)) (by decide) hg ml_Fa_293 cm_Hi_copyFrom.1 cm_Hi_copyFrom.2.1 cm_Hi_copyFrom.2.2.1 cm_Hi_copyFrom.2.2.2.1 cm_Hi_copyFrom.2.2.2.2 rfl ⟨by omega, by omega, by omega, by omega⟩ (by exact Nat.le_of_ble_eq_true rfl) rfl dX9_image_25 ?_
    refine g_aload_n C dX9_image_28 rfl ?_
    refine g_iload_n C dX9_image_29 rfl ?_
    obtain ⟨x5, hg, h1, hf⟩ := vP_ok hf
    refine g_invV (As := [.int l1]) (st := []) C (c_Fa_imageAt E h1) (rfl : vwCl[9]? = some (y_Fa_imageAt.cls, TX9, 13)) (by decide) hg ml_Fa_289 cm_Fa_imageAt.1 cm_Fa_imageAt.2.1 cm_Fa_imageAt.2.2.1 cm_Fa_imageAt.2.2.2.1 cm_Fa_imageAt.2.2.2.2 rfl ⟨by omega, by omega, by omega, by omega⟩ (by exact Nat.le_of_ble_eq_true rfl) rfl dX9_image_30 ?_
    refine g_iconst (v := (1 : Int32)) C dX9_image_33 (by decide) ?_
    obtain ⟨G6, hG6, hg, hf⟩ := pI_ok hf
    refine e_putI C fl_Fa_297 dX9_image_34 hG6 hg (Or.inl rfl) (by decide) (by decide) ?_
    refine g_iconst (v := (1 : Int32)) C dX9_image_37 (by decide) ?_
    obtain ⟨rfl, rfl⟩ := rH_ok hf
    exact g_iret HR dX9_image_38
  · have hf := iteT hf hc
    refine g_aload_n C dX9_image_9 rfl ?_
    refine g_bipush (v := (-2 : Int32)) C dX9_image_10 (by decide) ?_
    obtain ⟨x7, G8, hg, h1, hf⟩ := vH_ok hf
    refine g_invV (As := [.int (-2 : Int32)]) (st := []) C (c_Fa_bad E h1) (rfl : vwCl[9]? = some (y_Fa_bad.cls, TX9, 13)) (by decide) hg ml_Fa_83 cm_Fa_bad.1 cm_Fa_bad.2.1 cm_Fa_bad.2.2.1 cm_Fa_bad.2.2.2.1 cm_Fa_bad.2.2.2.2 rfl ⟨by omega, by omega, by omega, by omega⟩ (by exact Nat.le_of_ble_eq_true rfl) rfl dX9_image_12 ?_
    obtain ⟨rfl, rfl⟩ := rH_ok hf
    exact g_iret HR dX9_image_15
theorem c_Fa_image (E : EE) {G : Hp} {l0 : Nat} {l1 : Int32} {r : Int32} {G' : Hp} (h : f_Fa_image G l0 l1 = some (r, G')) : gCt E y_Fa_image cX9_image 2 (some .int) 5 114 0 0 [.ref (E.2.1 + l0), .int l1] G (some (.int r)) G' := gCt_of (own := "FavoursGoOff") (ini := false) [some (.ref (E.2.1 + l0)), some (.int l1)] (by decide +kernel) rfl (fun h => by cases h) (Nat.le_of_ble_eq_true rfl) ⟨rfl, ⟨rfl, trivial⟩⟩ (fun X C HR => l_Fa_image C HR h)
set_option maxRecDepth 20000 in
theorem l_Fa_from {E : EE} {X : CT} {G : Hp} (C : gCx E X cX9_from "FavoursGoOff" (some .int) 5 114 0 0 false 2) {r : Int32} {G' : Hp} (HR : gRet E X cX9_from (some .int) 0 0 (some (.int r)) G') {l0 : Nat} {l1 : Int32} (hf : f_Fa_from G l0 l1 = some (r, G')) : gV E X 0 0 G 0 [some (.ref (E.2.1 + l0)), some (.int l1)] [] := by
  unfold f_Fa_from at hf
  refine g_iload_n C dX9_from_0 rfl ?_
  refine g_iconst (v := (0 : Int32)) C dX9_from_1 (by decide) ?_
  refine g_iconst (v := (1 : Int32)) C dX9_from_2 (by decide) ?_
  obtain ⟨x1, h1, hf⟩ := cP_ok hf
  refine g_invS (As := [.int l1, .int (0 : Int32), .int (1 : Int32)]) (st := []) C (c_Fa_isWithin E h1) ml_Fa_79 cm_Fa_isWithin.1 cm_Fa_isWithin.2.1 cm_Fa_isWithin.2.2.1 cm_Fa_isWithin.2.2.2 rfl ⟨by omega, by omega, by omega, by omega⟩ (by exact Nat.le_of_ble_eq_true rfl) rfl dX9_from_3 ?_
  refine g_if_ne (tgt := 16) C dX9_from_6 (by decide) (fun hc => ?_) (fun hc => ?_)
  · have hf := iteF hf hc
    refine g_aload_n C dX9_from_16 rfl ?_
    refine g_iload_n C dX9_from_17 rfl ?_
    obtain ⟨x2, hg, h1, hf⟩ := vP_ok hf
    refine g_invV (As := [.int l1]) (st := []) C (c_Fa_imageAt E h1) (rfl : vwCl[9]? = some (y_Fa_imageAt.cls, TX9, 13)) (by decide) hg ml_Fa_289 cm_Fa_imageAt.1 cm_Fa_imageAt.2.1 cm_Fa_imageAt.2.2.1 cm_Fa_imageAt.2.2.2.1 cm_Fa_imageAt.2.2.2.2 rfl ⟨by omega, by omega, by omega, by omega⟩ (by exact Nat.le_of_ble_eq_true rfl) rfl dX9_from_18 ?_
    obtain ⟨x3, hx3, hg, hf⟩ := gI_ok hf
    refine e_getI C fl_Fa_297 dX9_from_21 hx3 hg ?_
    refine g_if_ne (tgt := 34) C dX9_from_24 (by decide) (fun hc => ?_) (fun hc => ?_)
    · have hf := iteF hf hc
      refine g_aload_n C dX9_from_34 rfl ?_
      obtain ⟨x4, hg, hf⟩ := gR_ok hf
      refine g_getR C fl_Fa_10 dX9_from_35 hg ?_
      refine g_aload_n C dX9_from_38 rfl ?_
      refine g_iload_n C dX9_from_39 rfl ?_
      obtain ⟨x5, hg, h1, hf⟩ := vP_ok hf
      refine g_invV (As := [.int l1]) (st := [.ref (E.2.1 + x4)]) C (c_Fa_imageAt E h1) (rfl : vwCl[9]? = some (y_Fa_imageAt.cls, TX9, 13)) (by decide) hg ml_Fa_289 cm_Fa_imageAt.1 cm_Fa_imageAt.2.1 cm_Fa_imageAt.2.2.1 cm_Fa_imageAt.2.2.2.1 cm_Fa_imageAt.2.2.2.2 rfl ⟨by omega, by omega, by omega, by omega⟩ (by exact Nat.le_of_ble_eq_true rfl) rfl dX9_from_40 ?_
      obtain ⟨G6, hg, h1, hf⟩ := vP_ok hf
      refine g_invV (As := [.ref (E.2.1 + x5)]) (st := []) C (c_Hi_copyFrom E h1) (rfl : vwCl[3]? = some (y_Hi_copyFrom.cls, TX3, 5)) (by decide) hg ml_Fa_293 cm_Hi_copyFrom.1 cm_Hi_copyFrom.2.1 cm_Hi_copyFrom.2.2.1 cm_Hi_copyFrom.2.2.2.1 cm_Hi_copyFrom.2.2.2.2 rfl ⟨by omega, by omega, by omega, by omega⟩ (by exact Nat.le_of_ble_eq_true rfl) rfl dX9_from_43 ?_
      refine g_aload_n C dX9_from_46 rfl ?_
      obtain ⟨x7, hg, hf⟩ := gR_ok hf
      refine g_getR C fl_Fa_58 dX9_from_47 hg ?_
      refine g_iconst (v := (1 : Int32)) C dX9_from_50 (by decide) ?_
      obtain ⟨G8, hG8, hg, hf⟩ := pI_ok hf
      refine e_putI C fl_Fa_100 dX9_from_51 hG8 hg (Or.inl rfl) (by decide) (by decide) ?_
      refine g_iconst (v := (1 : Int32)) C dX9_from_54 (by decide) ?_
      obtain ⟨rfl, rfl⟩ := rH_ok hf
      exact g_iret HR dX9_from_55
    · have hf := iteT hf hc
      refine g_aload_n C dX9_from_27 rfl ?_
      refine g_bipush (v := (-3 : Int32)) C dX9_from_28 (by decide) ?_
      obtain ⟨x9, G10, hg, h1, hf⟩ := vH_ok hf
      refine g_invV (As := [.int (-3 : Int32)]) (st := []) C (c_Fa_no E h1) (rfl : vwCl[9]? = some (y_Fa_no.cls, TX9, 13)) (by decide) hg ml_Fa_177 cm_Fa_no.1 cm_Fa_no.2.1 cm_Fa_no.2.2.1 cm_Fa_no.2.2.2.1 cm_Fa_no.2.2.2.2 rfl ⟨by omega, by omega, by omega, by omega⟩ (by exact Nat.le_of_ble_eq_true rfl) rfl dX9_from_30 ?_
      obtain ⟨rfl, rfl⟩ := rH_ok hf
      exact g_iret HR dX9_from_33
  · have hf := iteT hf hc
    refine g_aload_n C dX9_from_9 rfl ?_
    refine g_bipush (v := (-2 : Int32)) C dX9_from_10 (by decide) ?_
    obtain ⟨x11, G12, hg, h1, hf⟩ := vH_ok hf
    refine g_invV (As := [.int (-2 : Int32)]) (st := []) C (c_Fa_bad E h1) (rfl : vwCl[9]? = some (y_Fa_bad.cls, TX9, 13)) (by decide) hg ml_Fa_83 cm_Fa_bad.1 cm_Fa_bad.2.1 cm_Fa_bad.2.2.1 cm_Fa_bad.2.2.2.1 cm_Fa_bad.2.2.2.2 rfl ⟨by omega, by omega, by omega, by omega⟩ (by exact Nat.le_of_ble_eq_true rfl) rfl dX9_from_12 ?_
    obtain ⟨rfl, rfl⟩ := rH_ok hf
    exact g_iret HR dX9_from_15
theorem c_Fa_from (E : EE) {G : Hp} {l0 : Nat} {l1 : Int32} {r : Int32} {G' : Hp} (h : f_Fa_from G l0 l1 = some (r, G')) : gCt E y_Fa_from cX9_from 2 (some .int) 5 114 0 0 [.ref (E.2.1 + l0), .int l1] G (some (.int r)) G' := gCt_of (own := "FavoursGoOff") (ini := false) [some (.ref (E.2.1 + l0)), some (.int l1)] (by decide +kernel) rfl (fun h => by cases h) (Nat.le_of_ble_eq_true rfl) ⟨rfl, ⟨rfl, trivial⟩⟩ (fun X C HR => l_Fa_from C HR h)
set_option maxRecDepth 20000 in
theorem l_Fa_status {E : EE} {X : CT} {G : Hp} (C : gCx E X cX9_status "FavoursGoOff" (some .int) 1 21 0 0 false 2) {r : Int32} {G' : Hp} (HR : gRet E X cX9_status (some .int) 0 0 (some (.int r)) G') {l0 : Nat} {l1 : Int32} (hf : f_Fa_status G l0 l1 = some (r, G')) : gV E X 0 0 G 0 [some (.ref (E.2.1 + l0)), some (.int l1)] [] := by
  unfold f_Fa_status at hf
  refine g_iload_n C dX9_status_0 rfl ?_
  by_cases hc0 : l1 = 0
  · have hf := iteT hf hc0
    refine g_tabIn (tgt := 28) C dX9_status_1 0 (by rw [hc0]; rfl) (by decide) (by decide) rfl (by decide) ?_
    refine g_aload_n C dX9_status_28 rfl ?_
    obtain ⟨x1, hx1, hg, hf⟩ := gI_ok hf
    refine e_getI C fl_Fa_300 dX9_status_29 hx1 hg ?_
    obtain ⟨rfl, rfl⟩ := rH_ok hf
    exact g_iret HR dX9_status_32
  · have hf := iteF hf hc0
    by_cases hc1 : l1 = 1
    · have hf := iteT hf hc1
      refine g_tabIn (tgt := 33) C dX9_status_1 1 (by rw [hc1]; rfl) (by decide) (by decide) rfl (by decide) ?_
      refine g_aload_n C dX9_status_33 rfl ?_
      obtain ⟨x2, hx2, hg, hf⟩ := gI_ok hf
      refine e_getI C fl_Fa_303 dX9_status_34 hx2 hg ?_
      obtain ⟨rfl, rfl⟩ := rH_ok hf
      exact g_iret HR dX9_status_37
    · have hf := iteF hf hc1
      by_cases hc2 : l1 = 2
      · have hf := iteT hf hc2
        refine g_tabIn (tgt := 38) C dX9_status_1 2 (by rw [hc2]; rfl) (by decide) (by decide) rfl (by decide) ?_
        refine g_aload_n C dX9_status_38 rfl ?_
        obtain ⟨x3, hx3, hg, hf⟩ := gI_ok hf
        refine e_getI C fl_Fa_306 dX9_status_39 hx3 hg ?_
        obtain ⟨rfl, rfl⟩ := rH_ok hf
        exact g_iret HR dX9_status_42
      · have hf := iteF hf hc2
        have hi0 : ¬ l1.toInt = 0 := fun h => hc0 (Int32.toInt_inj.mp (h.trans rfl))
        have hi1 : ¬ l1.toInt = 1 := fun h => hc1 (Int32.toInt_inj.mp (h.trans rfl))
        have hi2 : ¬ l1.toInt = 2 := fun h => hc2 (Int32.toInt_inj.mp (h.trans rfl))
        refine g_tabOut (tgt := 43) C dX9_status_1 (by omega) (by decide) ?_
        refine g_aload_n C dX9_status_43 rfl ?_
        refine g_iconst (v := (-1 : Int32)) C dX9_status_44 (by decide) ?_
        obtain ⟨x4, G5, hg, h1, hf⟩ := vH_ok hf
        refine g_invV (As := [.int (-1 : Int32)]) (st := []) C (c_Fa_bad E h1) (rfl : vwCl[9]? = some (y_Fa_bad.cls, TX9, 13)) (by decide) hg ml_Fa_83 cm_Fa_bad.1 cm_Fa_bad.2.1 cm_Fa_bad.2.2.1 cm_Fa_bad.2.2.2.1 cm_Fa_bad.2.2.2.2 rfl ⟨by omega, by omega, by omega, by omega⟩ (by exact Nat.le_of_ble_eq_true rfl) rfl dX9_status_45 ?_
        obtain ⟨rfl, rfl⟩ := rH_ok hf
        exact g_iret HR dX9_status_48
theorem c_Fa_status (E : EE) {G : Hp} {l0 : Nat} {l1 : Int32} {r : Int32} {G' : Hp} (h : f_Fa_status G l0 l1 = some (r, G')) : gCt E y_Fa_status cX9_status 2 (some .int) 1 21 0 0 [.ref (E.2.1 + l0), .int l1] G (some (.int r)) G' := gCt_of (own := "FavoursGoOff") (ini := false) [some (.ref (E.2.1 + l0)), some (.int l1)] (by decide +kernel) rfl (fun h => by cases h) (Nat.le_of_ble_eq_true rfl) ⟨rfl, ⟨rfl, trivial⟩⟩ (fun X C HR => l_Fa_status C HR h)
set_option maxRecDepth 20000 in
theorem l_Fa_howMany {E : EE} {X : CT} {G : Hp} (C : gCx E X cX9_howMany "FavoursGoOff" (some .int) 0 0 0 0 false 2) {r : Int32} (HR : gRet E X cX9_howMany (some .int) 0 0 (some (.int r)) G) {l0 : Nat} {l1 : Int32} (hf : f_Fa_howMany G l0 l1 = some r) : gV E X 0 0 G 0 [some (.ref (E.2.1 + l0)), some (.int l1)] [] := by
  unfold f_Fa_howMany at hf
  refine g_iload_n C dX9_howMany_0 rfl ?_
  by_cases hc0 : l1 = 0
  · have hf := iteT hf hc0
    refine g_tabIn (tgt := 40) C dX9_howMany_1 0 (by rw [hc0]; rfl) (by decide) (by decide) rfl (by decide) ?_
    refine g_aload_n C dX9_howMany_40 rfl ?_
    obtain ⟨x1, hg, hf⟩ := gR_ok hf
    refine g_getR C fl_Fa_26 dX9_howMany_41 hg ?_
    obtain ⟨x2, hg, hf⟩ := gR_ok hf
    refine g_getR C fl_Fa_87 dX9_howMany_44 hg ?_
    obtain ⟨x3, hx3, hg, hf⟩ := gI_ok hf
    refine e_getI C fl_Fa_91 dX9_howMany_47 hx3 hg ?_
    obtain rfl := rP_ok hf
    exact g_iret HR dX9_howMany_50
  · have hf := iteF hf hc0
    by_cases hc1 : l1 = 1
    · have hf := iteT hf hc1
      refine g_tabIn (tgt := 51) C dX9_howMany_1 1 (by rw [hc1]; rfl) (by decide) (by decide) rfl (by decide) ?_
      refine g_aload_n C dX9_howMany_51 rfl ?_
      obtain ⟨x4, hg, hf⟩ := gR_ok hf
      refine g_getR C fl_Fa_26 dX9_howMany_52 hg ?_
      obtain ⟨x5, hg, hf⟩ := gR_ok hf
      refine g_getR C fl_Fa_122 dX9_howMany_55 hg ?_
      obtain ⟨x6, hx6, hg, hf⟩ := gI_ok hf
      refine e_getI C fl_Fa_91 dX9_howMany_58 hx6 hg ?_
      obtain rfl := rP_ok hf
      exact g_iret HR dX9_howMany_61
    · have hf := iteF hf hc1
      by_cases hc2 : l1 = 2
      · have hf := iteT hf hc2
        refine g_tabIn (tgt := 62) C dX9_howMany_1 2 (by rw [hc2]; rfl) (by decide) (by decide) rfl (by decide) ?_
        refine g_aload_n C dX9_howMany_62 rfl ?_
        obtain ⟨x7, hg, hf⟩ := gR_ok hf
        refine g_getR C fl_Fa_26 dX9_howMany_63 hg ?_
        obtain ⟨x8, hg, hf⟩ := gR_ok hf
        refine g_getR C fl_Fa_140 dX9_howMany_66 hg ?_
        obtain ⟨x9, hx9, hg, hf⟩ := gI_ok hf
        refine e_getI C fl_Fa_91 dX9_howMany_69 hx9 hg ?_
        obtain rfl := rP_ok hf
        exact g_iret HR dX9_howMany_72
      · have hf := iteF hf hc2
        by_cases hc3 : l1 = 3
        · have hf := iteT hf hc3
          refine g_tabIn (tgt := 73) C dX9_howMany_1 3 (by rw [hc3]; rfl) (by decide) (by decide) rfl (by decide) ?_
          refine g_aload_n C dX9_howMany_73 rfl ?_
          obtain ⟨x10, hg, hf⟩ := gR_ok hf
          refine g_getR C fl_Fa_26 dX9_howMany_74 hg ?_
          obtain ⟨x11, hg, hf⟩ := gR_ok hf
          refine g_getR C fl_Fa_261 dX9_howMany_77 hg ?_
          obtain ⟨x12, hx12, hg, hf⟩ := gI_ok hf
          refine e_getI C fl_Fa_91 dX9_howMany_80 hx12 hg ?_
          obtain rfl := rP_ok hf
          exact g_iret HR dX9_howMany_83
        · have hf := iteF hf hc3
          by_cases hc4 : l1 = 4
          · have hf := iteT hf hc4
            refine g_tabIn (tgt := 84) C dX9_howMany_1 4 (by rw [hc4]; rfl) (by decide) (by decide) rfl (by decide) ?_
            refine g_aload_n C dX9_howMany_84 rfl ?_
            obtain ⟨x13, hg, hf⟩ := gR_ok hf
            refine g_getR C fl_Fa_26 dX9_howMany_85 hg ?_
            obtain ⟨x14, hx14, hg, hf⟩ := gI_ok hf
            refine e_getI C fl_Fa_187 dX9_howMany_88 hx14 hg ?_
            obtain rfl := rP_ok hf
            exact g_iret HR dX9_howMany_91
          · have hf := iteF hf hc4
            by_cases hc5 : l1 = 5
            · have hf := iteT hf hc5
              refine g_tabIn (tgt := 92) C dX9_howMany_1 5 (by rw [hc5]; rfl) (by decide) (by decide) rfl (by decide) ?_
              refine g_aload_n C dX9_howMany_92 rfl ?_
              obtain ⟨x15, hg, hf⟩ := gR_ok hf
              refine g_getR C fl_Fa_10 dX9_howMany_93 hg ?_
              obtain ⟨x16, hx16, hg, hf⟩ := gI_ok hf
              refine e_getI C fl_Fa_97 dX9_howMany_96 hx16 hg ?_
              obtain rfl := rP_ok hf
              exact g_iret HR dX9_howMany_99
            · have hf := iteF hf hc5
              have hi0 : ¬ l1.toInt = 0 := fun h => hc0 (Int32.toInt_inj.mp (h.trans rfl))
              have hi1 : ¬ l1.toInt = 1 := fun h => hc1 (Int32.toInt_inj.mp (h.trans rfl))
              have hi2 : ¬ l1.toInt = 2 := fun h => hc2 (Int32.toInt_inj.mp (h.trans rfl))
              have hi3 : ¬ l1.toInt = 3 := fun h => hc3 (Int32.toInt_inj.mp (h.trans rfl))
              have hi4 : ¬ l1.toInt = 4 := fun h => hc4 (Int32.toInt_inj.mp (h.trans rfl))
              have hi5 : ¬ l1.toInt = 5 := fun h => hc5 (Int32.toInt_inj.mp (h.trans rfl))
              refine g_tabOut (tgt := 100) C dX9_howMany_1 (by omega) (by decide) ?_
              refine g_aload_n C dX9_howMany_100 rfl ?_
              obtain ⟨x17, hg, hf⟩ := gR_ok hf
              refine g_getR C fl_Fa_40 dX9_howMany_101 hg ?_
              obtain ⟨x18, hx18, hg, hf⟩ := gI_ok hf
              refine e_getI C fl_Fa_150 dX9_howMany_104 hx18 hg ?_
              obtain rfl := rP_ok hf
              exact g_iret HR dX9_howMany_107
theorem c_Fa_howMany (E : EE) {G : Hp} {l0 : Nat} {l1 : Int32} {r : Int32} (h : f_Fa_howMany G l0 l1 = some r) : gCt E y_Fa_howMany cX9_howMany 2 (some .int) 0 0 0 0 [.ref (E.2.1 + l0), .int l1] G (some (.int r)) G := gCt_of (own := "FavoursGoOff") (ini := false) [some (.ref (E.2.1 + l0)), some (.int l1)] (by decide +kernel) rfl (fun h => by cases h) (Nat.le_of_ble_eq_true rfl) ⟨rfl, ⟨rfl, trivial⟩⟩ (fun X C HR => l_Fa_howMany C HR h)
set_option maxRecDepth 20000 in
theorem l_Fa_count_b24 {E : EE} {X : CT} {G : Hp} (C : gCx E X cX9_count "FavoursGoOff" (some .int) 1 22 0 0 false 2) {r : Int32} {G' : Hp} (HR : gRet E X cX9_count (some .int) 0 0 (some (.int r)) G') {s0 : Int32} (hf : f_Fa_count_b24 G s0 = some (r, G')) : gV E X 0 0 G 24 [none, none] [.int s0] := by
  unfold f_Fa_count_b24 at hf
  obtain ⟨rfl, rfl⟩ := rH_ok hf
  exact g_iret HR dX9_count_24
set_option maxRecDepth 20000 in
theorem l_Fa_count {E : EE} {X : CT} {G : Hp} (C : gCx E X cX9_count "FavoursGoOff" (some .int) 1 22 0 0 false 2) {r : Int32} {G' : Hp} (HR : gRet E X cX9_count (some .int) 0 0 (some (.int r)) G') {l0 : Nat} {l1 : Int32} (hf : f_Fa_count G l0 l1 = some (r, G')) : gV E X 0 0 G 0 [some (.ref (E.2.1 + l0)), some (.int l1)] [] := by
  unfold f_Fa_count at hf
  refine g_iload_n C dX9_count_0 rfl ?_
  refine g_iconst (v := (0 : Int32)) C dX9_count_1 (by decide) ?_
  refine g_bipush (v := (6 : Int32)) C dX9_count_2 (by decide) ?_
  obtain ⟨x1, h1, hf⟩ := cP_ok hf
  refine g_invS (As := [.int l1, .int (0 : Int32), .int (6 : Int32)]) (st := []) C (c_Fa_isWithin E h1) ml_Fa_79 cm_Fa_isWithin.1 cm_Fa_isWithin.2.1 cm_Fa_isWithin.2.2.1 cm_Fa_isWithin.2.2.2 rfl ⟨by omega, by omega, by omega, by omega⟩ (by exact Nat.le_of_ble_eq_true rfl) rfl dX9_count_4 ?_
  refine g_if_eq (tgt := 18) C dX9_count_7 (by decide) (fun hc => ?_) (fun hc => ?_)
  · have hf := iteT hf hc
    refine g_aload_n C dX9_count_18 rfl ?_
    refine g_bipush (v := (-2 : Int32)) C dX9_count_19 (by decide) ?_
    obtain ⟨x2, G3, hg, h1, hf⟩ := vH_ok hf
    refine g_invV (As := [.int (-2 : Int32)]) (st := []) C (c_Fa_bad E h1) (rfl : vwCl[9]? = some (y_Fa_bad.cls, TX9, 13)) (by decide) hg ml_Fa_83 cm_Fa_bad.1 cm_Fa_bad.2.1 cm_Fa_bad.2.2.1 cm_Fa_bad.2.2.2.1 cm_Fa_bad.2.2.2.2 rfl ⟨by omega, by omega, by omega, by omega⟩ (by exact Nat.le_of_ble_eq_true rfl) rfl dX9_count_21 ?_
    refine g_sub (lv' := [none, none]) trivial ?_
    exact l_Fa_count_b24 C HR  hf
  · have hf := iteF hf hc
    refine g_aload_n C dX9_count_10 rfl ?_
    refine g_iload_n C dX9_count_11 rfl ?_
    obtain ⟨x4, hg, h1, hf⟩ := vP_ok hf
    refine g_invV (As := [.int l1]) (st := []) C (c_Fa_howMany E h1) (rfl : vwCl[9]? = some (y_Fa_howMany.cls, TX9, 13)) (by decide) hg ml_Fa_309 cm_Fa_howMany.1 cm_Fa_howMany.2.1 cm_Fa_howMany.2.2.1 cm_Fa_howMany.2.2.2.1 cm_Fa_howMany.2.2.2.2 rfl ⟨by omega, by omega, by omega, by omega⟩ (by exact Nat.le_of_ble_eq_true rfl) rfl dX9_count_12 ?_
    refine g_goto (tgt := 24) C dX9_count_15 (by decide) ?_
    refine g_sub (lv' := [none, none]) trivial ?_
    exact l_Fa_count_b24 C HR  hf
theorem c_Fa_count (E : EE) {G : Hp} {l0 : Nat} {l1 : Int32} {r : Int32} {G' : Hp} (h : f_Fa_count G l0 l1 = some (r, G')) : gCt E y_Fa_count cX9_count 2 (some .int) 1 22 0 0 [.ref (E.2.1 + l0), .int l1] G (some (.int r)) G' := gCt_of (own := "FavoursGoOff") (ini := false) [some (.ref (E.2.1 + l0)), some (.int l1)] (by decide +kernel) rfl (fun h => by cases h) (Nat.le_of_ble_eq_true rfl) ⟨rfl, ⟨rfl, trivial⟩⟩ (fun X C HR => l_Fa_count C HR h)
set_option maxRecDepth 20000 in
theorem l_Fa_digest_b81k {E : EE} {X : CT} {G : Hp} (C : gCx E X cX9_digest "FavoursGoOff" (some .long) 3 67 0 0 false 4) {r : Int64} (HR : gRet E X cX9_digest (some .long) 0 0 (some (.long r)) G) {k81 : Nat → Int64 → Int32 → Option Int64} (K81 : ∀ {l0 : Nat} {l1 : Int64} {l3 : Int32}, k81 l0 l1 l3 = some r → gV E X 0 0 G 81 [some (.ref (E.2.1 + l0)), some (.long l1), none, some (.int l3)] []) {l0 : Nat} {l1 : Int64} {l3 : Int32} (hf : f_Fa_digest_b81_k G k81 l0 l1 l3 = some r) : gV E X 0 0 G 81 [some (.ref (E.2.1 + l0)), some (.long l1), none, some (.int l3)] [] := by
  unfold f_Fa_digest_b81_k at hf
  refine g_iload_n C dX9_digest_81 rfl ?_
  refine g_iconst (v := (4 : Int32)) C dX9_digest_82 (by decide) ?_
  refine g_icmp_ge (tgt := 108) C dX9_digest_83 (by decide) (fun hc => ?_) (fun hc => ?_)
  · have hf := iteT hf hc
    refine g_ldc2 (v := (31 : Int64)) C dX9_digest_108 kl_Fa_314 ?_
    refine g_lload_n C dX9_digest_111 rfl ?_
    refine g_lmul C dX9_digest_112 ?_
    refine g_aload_n C dX9_digest_113 rfl ?_
    obtain ⟨x1, hg, hf⟩ := gR_ok hf
    refine g_getR C fl_Fa_65 dX9_digest_114 hg ?_
    obtain ⟨x2, hx2, hg, hf⟩ := gL_ok hf
    refine e_getL C fl_Fa_282 dX9_digest_117 hx2 hg ?_
    refine g_ladd C dX9_digest_120 ?_
    obtain ⟨x3, hx3, hf⟩ := lt_ok hf
    refine e_topl hx3 ?_
    refine g_lstore_n (lv' := [some (.ref (E.2.1 + l0)), some (.long x3), none, some (.int l3)]) C dX9_digest_121 (by decide) rfl ?_
    refine g_ldc2 (v := (31 : Int64)) C dX9_digest_122 kl_Fa_314 ?_
    refine g_lload_n C dX9_digest_125 rfl ?_
    refine g_lmul C dX9_digest_126 ?_
    refine g_aload_n C dX9_digest_127 rfl ?_
    obtain ⟨x4, hg, hf⟩ := gR_ok hf
    refine g_getR C fl_Fa_65 dX9_digest_128 hg ?_
    obtain ⟨x5, hx5, hg, hf⟩ := gL_ok hf
    refine e_getL C fl_Fa_286 dX9_digest_131 hx5 hg ?_
    refine g_ladd C dX9_digest_134 ?_
    obtain rfl := rP_ok hf
    exact g_lret HR dX9_digest_135
  · have hf := iteF hf hc
    refine g_ldc2 (v := (31 : Int64)) C dX9_digest_86 kl_Fa_314 ?_
    refine g_lload_n C dX9_digest_89 rfl ?_
    refine g_lmul C dX9_digest_90 ?_
    refine g_aload_n C dX9_digest_91 rfl ?_
    obtain ⟨x6, hg, hf⟩ := gR_ok hf
    refine g_getR C fl_Fa_26 dX9_digest_92 hg ?_
    refine g_iload_n C dX9_digest_95 rfl ?_
    obtain ⟨x7, hg, h1, hf⟩ := vP_ok hf
    refine g_invV (As := [.int l3]) (st := [.long ((31 : Int64) * l1)]) C (c_St_rateNow E h1) (rfl : vwCl[6]? = some (y_St_rateNow.cls, TX6, 6)) (by decide) hg ml_Fa_244 cm_St_rateNow.1 cm_St_rateNow.2.1 cm_St_rateNow.2.2.1 cm_St_rateNow.2.2.2.1 cm_St_rateNow.2.2.2.2 rfl ⟨by omega, by omega, by omega, by omega⟩ (by exact Nat.le_of_ble_eq_true rfl) rfl dX9_digest_96 ?_
    refine g_i2l C dX9_digest_99 ?_
    refine g_ladd C dX9_digest_100 ?_
    obtain ⟨x8, hx8, hf⟩ := lt_ok hf
    refine e_topl hx8 ?_
    refine g_lstore_n (lv' := [some (.ref (E.2.1 + l0)), some (.long x8), none, some (.int l3)]) C dX9_digest_101 (by decide) rfl ?_
    refine g_iinc (v := (l3 + 1)) (lv' := [some (.ref (E.2.1 + l0)), some (.long x8), none, some (.int (l3 + 1))]) C dX9_digest_102 (by decide) rfl rfl rfl ?_
    refine g_goto (tgt := 81) C dX9_digest_105 (by decide) ?_
    refine g_sub (lv' := [some (.ref (E.2.1 + l0)), some (.long x8), none, some (.int (l3 + 1))]) ⟨rfl, ⟨rfl, ⟨rfl, trivial⟩⟩⟩ ?_
    exact K81 hf
theorem l_Fa_digest_b81 {E : EE} {X : CT} {G : Hp} (C : gCx E X cX9_digest "FavoursGoOff" (some .long) 3 67 0 0 false 4) {r : Int64} (HR : gRet E X cX9_digest (some .long) 0 0 (some (.long r)) G) : ∀ (nn : Nat) {l0 : Nat} {l1 : Int64} {l3 : Int32}, f_Fa_digest_b81 G nn l0 l1 l3 = some r → gV E X 0 0 G 81 [some (.ref (E.2.1 + l0)), some (.long l1), none, some (.int l3)] []
  | 0, _, _, _, hf => by have h0 : (none : Option Int64) = some r := hf; cases h0
  | nn + 1, _, _, _, hf => l_Fa_digest_b81k C HR (fun h => l_Fa_digest_b81 C HR nn h) hf
set_option maxRecDepth 20000 in
theorem l_Fa_digest_b6k {E : EE} {X : CT} {G : Hp} (C : gCx E X cX9_digest "FavoursGoOff" (some .long) 3 67 0 0 false 4) {r : Int64} (HR : gRet E X cX9_digest (some .long) 0 0 (some (.long r)) G) {k6 : Nat → Int64 → Int32 → Option Int64} (K6 : ∀ {l0 : Nat} {l1 : Int64} {l3 : Int32}, k6 l0 l1 l3 = some r → gV E X 0 0 G 6 [some (.ref (E.2.1 + l0)), some (.long l1), none, some (.int l3)] []) {l0 : Nat} {l1 : Int64} {l3 : Int32} (hf : f_Fa_digest_b6_k G k6 l0 l1 l3 = some r) : gV E X 0 0 G 6 [some (.ref (E.2.1 + l0)), some (.long l1), none, some (.int l3)] [] := by
  unfold f_Fa_digest_b6_k at hf
  refine g_iload_n C dX9_digest_6 rfl ?_
  refine g_bipush (v := (6 : Int32)) C dX9_digest_7 (by decide) ?_
  refine g_icmp_gt (tgt := 31) C dX9_digest_9 (by decide) (fun hc => ?_) (fun hc => ?_)
  · have hf := iteT hf hc
    refine g_aload_n C dX9_digest_31 rfl ?_
    obtain ⟨x1, hg, hf⟩ := gR_ok hf
    refine g_getR C fl_Fa_26 dX9_digest_32 hg ?_
    obtain ⟨x2, hg, hf⟩ := gR_ok hf
    refine g_getR C fl_Fa_87 dX9_digest_35 hg ?_
    refine g_lload_n C dX9_digest_38 rfl ?_
    obtain ⟨x3, hg, h1, hf⟩ := vP_ok hf
    refine g_invV (As := [.long l1]) (st := []) C (c_Ta_mixedInto E h1) (rfl : vwCl[7]? = some (y_Ta_mixedInto.cls, TX7, 3)) (by decide) hg ml_Fa_316 cm_Ta_mixedInto.1 cm_Ta_mixedInto.2.1 cm_Ta_mixedInto.2.2.1 cm_Ta_mixedInto.2.2.2.1 cm_Ta_mixedInto.2.2.2.2 rfl ⟨by omega, by omega, by omega, by omega⟩ (by exact Nat.le_of_ble_eq_true rfl) rfl dX9_digest_39 ?_
    refine g_lstore_n (lv' := [some (.ref (E.2.1 + l0)), some (.long x3), none, some (.int l3)]) C dX9_digest_42 (by decide) rfl ?_
    refine g_aload_n C dX9_digest_43 rfl ?_
    obtain ⟨x4, hg, hf⟩ := gR_ok hf
    refine g_getR C fl_Fa_26 dX9_digest_44 hg ?_
    obtain ⟨x5, hg, hf⟩ := gR_ok hf
    refine g_getR C fl_Fa_122 dX9_digest_47 hg ?_
    refine g_lload_n C dX9_digest_50 rfl ?_
    obtain ⟨x6, hg, h1, hf⟩ := vP_ok hf
    refine g_invV (As := [.long x3]) (st := []) C (c_Ta_mixedInto E h1) (rfl : vwCl[7]? = some (y_Ta_mixedInto.cls, TX7, 3)) (by decide) hg ml_Fa_316 cm_Ta_mixedInto.1 cm_Ta_mixedInto.2.1 cm_Ta_mixedInto.2.2.1 cm_Ta_mixedInto.2.2.2.1 cm_Ta_mixedInto.2.2.2.2 rfl ⟨by omega, by omega, by omega, by omega⟩ (by exact Nat.le_of_ble_eq_true rfl) rfl dX9_digest_51 ?_
    refine g_lstore_n (lv' := [some (.ref (E.2.1 + l0)), some (.long x6), none, some (.int l3)]) C dX9_digest_54 (by decide) rfl ?_
    refine g_aload_n C dX9_digest_55 rfl ?_
    obtain ⟨x7, hg, hf⟩ := gR_ok hf
    refine g_getR C fl_Fa_26 dX9_digest_56 hg ?_
    obtain ⟨x8, hg, hf⟩ := gR_ok hf
    refine g_getR C fl_Fa_140 dX9_digest_59 hg ?_
    refine g_lload_n C dX9_digest_62 rfl ?_
    obtain ⟨x9, hg, h1, hf⟩ := vP_ok hf
    refine g_invV (As := [.long x6]) (st := []) C (c_Ta_mixedInto E h1) (rfl : vwCl[7]? = some (y_Ta_mixedInto.cls, TX7, 3)) (by decide) hg ml_Fa_316 cm_Ta_mixedInto.1 cm_Ta_mixedInto.2.1 cm_Ta_mixedInto.2.2.1 cm_Ta_mixedInto.2.2.2.1 cm_Ta_mixedInto.2.2.2.2 rfl ⟨by omega, by omega, by omega, by omega⟩ (by exact Nat.le_of_ble_eq_true rfl) rfl dX9_digest_63 ?_
    refine g_lstore_n (lv' := [some (.ref (E.2.1 + l0)), some (.long x9), none, some (.int l3)]) C dX9_digest_66 (by decide) rfl ?_
    refine g_aload_n C dX9_digest_67 rfl ?_
    obtain ⟨x10, hg, hf⟩ := gR_ok hf
    refine g_getR C fl_Fa_26 dX9_digest_68 hg ?_
    obtain ⟨x11, hg, hf⟩ := gR_ok hf
    refine g_getR C fl_Fa_261 dX9_digest_71 hg ?_
    refine g_lload_n C dX9_digest_74 rfl ?_
    obtain ⟨x12, hg, h1, hf⟩ := vP_ok hf
    refine g_invV (As := [.long x9]) (st := []) C (c_Ta_mixedInto E h1) (rfl : vwCl[7]? = some (y_Ta_mixedInto.cls, TX7, 3)) (by decide) hg ml_Fa_316 cm_Ta_mixedInto.1 cm_Ta_mixedInto.2.1 cm_Ta_mixedInto.2.2.1 cm_Ta_mixedInto.2.2.2.1 cm_Ta_mixedInto.2.2.2.2 rfl ⟨by omega, by omega, by omega, by omega⟩ (by exact Nat.le_of_ble_eq_true rfl) rfl dX9_digest_75 ?_
    refine g_lstore_n (lv' := [some (.ref (E.2.1 + l0)), some (.long x12), none, some (.int l3)]) C dX9_digest_78 (by decide) rfl ?_
    refine g_iconst (v := (0 : Int32)) C dX9_digest_79 (by decide) ?_
    refine g_istore_n (lv' := [some (.ref (E.2.1 + l0)), some (.long x12), none, some (.int (0 : Int32))]) C dX9_digest_80 (by decide) rfl ?_
    refine g_sub (lv' := [some (.ref (E.2.1 + l0)), some (.long x12), none, some (.int (0 : Int32))]) ⟨rfl, ⟨rfl, ⟨rfl, trivial⟩⟩⟩ ?_
    exact l_Fa_digest_b81 C HR  FU hf
  · have hf := iteF hf hc
    refine g_ldc2 (v := (31 : Int64)) C dX9_digest_12 kl_Fa_314 ?_
    refine g_lload_n C dX9_digest_15 rfl ?_
    refine g_lmul C dX9_digest_16 ?_
    refine g_aload_n C dX9_digest_17 rfl ?_
    refine g_iload_n C dX9_digest_18 rfl ?_
    obtain ⟨x13, hg, h1, hf⟩ := vP_ok hf
    refine g_invV (As := [.int l3]) (st := [.long ((31 : Int64) * l1)]) C (c_Fa_howMany E h1) (rfl : vwCl[9]? = some (y_Fa_howMany.cls, TX9, 13)) (by decide) hg ml_Fa_309 cm_Fa_howMany.1 cm_Fa_howMany.2.1 cm_Fa_howMany.2.2.1 cm_Fa_howMany.2.2.2.1 cm_Fa_howMany.2.2.2.2 rfl ⟨by omega, by omega, by omega, by omega⟩ (by exact Nat.le_of_ble_eq_true rfl) rfl dX9_digest_19 ?_
    refine g_i2l C dX9_digest_22 ?_
    refine g_ladd C dX9_digest_23 ?_
    obtain ⟨x14, hx14, hf⟩ := lt_ok hf
    refine e_topl hx14 ?_
    refine g_lstore_n (lv' := [some (.ref (E.2.1 + l0)), some (.long x14), none, some (.int l3)]) C dX9_digest_24 (by decide) rfl ?_
    refine g_iinc (v := (l3 + 1)) (lv' := [some (.ref (E.2.1 + l0)), some (.long x14), none, some (.int (l3 + 1))]) C dX9_digest_25 (by decide) rfl rfl rfl ?_
    refine g_goto (tgt := 6) C dX9_digest_28 (by decide) ?_
    refine g_sub (lv' := [some (.ref (E.2.1 + l0)), some (.long x14), none, some (.int (l3 + 1))]) ⟨rfl, ⟨rfl, ⟨rfl, trivial⟩⟩⟩ ?_
    exact K6 hf
theorem l_Fa_digest_b6 {E : EE} {X : CT} {G : Hp} (C : gCx E X cX9_digest "FavoursGoOff" (some .long) 3 67 0 0 false 4) {r : Int64} (HR : gRet E X cX9_digest (some .long) 0 0 (some (.long r)) G) : ∀ (nn : Nat) {l0 : Nat} {l1 : Int64} {l3 : Int32}, f_Fa_digest_b6 G nn l0 l1 l3 = some r → gV E X 0 0 G 6 [some (.ref (E.2.1 + l0)), some (.long l1), none, some (.int l3)] []
  | 0, _, _, _, hf => by have h0 : (none : Option Int64) = some r := hf; cases h0
  | nn + 1, _, _, _, hf => l_Fa_digest_b6k C HR (fun h => l_Fa_digest_b6 C HR nn h) hf
set_option maxRecDepth 20000 in
theorem l_Fa_digest {E : EE} {X : CT} {G : Hp} (C : gCx E X cX9_digest "FavoursGoOff" (some .long) 3 67 0 0 false 4) {r : Int64} (HR : gRet E X cX9_digest (some .long) 0 0 (some (.long r)) G) {l0 : Nat} (hf : f_Fa_digest G l0 = some r) : gV E X 0 0 G 0 [some (.ref (E.2.1 + l0)), none, none, none] [] := by
  unfold f_Fa_digest at hf
  refine g_ldc2 (v := (683 : Int64)) C dX9_digest_0 kl_Fa_312 ?_
  refine g_lstore_n (lv' := [some (.ref (E.2.1 + l0)), some (.long (683 : Int64)), none, none]) C dX9_digest_3 (by decide) rfl ?_
  refine g_iconst (v := (0 : Int32)) C dX9_digest_4 (by decide) ?_
  refine g_istore_n (lv' := [some (.ref (E.2.1 + l0)), some (.long (683 : Int64)), none, some (.int (0 : Int32))]) C dX9_digest_5 (by decide) rfl ?_
  refine g_sub (lv' := [some (.ref (E.2.1 + l0)), some (.long (683 : Int64)), none, some (.int (0 : Int32))]) ⟨rfl, ⟨rfl, ⟨rfl, trivial⟩⟩⟩ ?_
  exact l_Fa_digest_b6 C HR  FU hf
theorem c_Fa_digest (E : EE) {G : Hp} {l0 : Nat} {r : Int64} (h : f_Fa_digest G l0 = some r) : gCt E y_Fa_digest cX9_digest 4 (some .long) 3 67 0 0 [.ref (E.2.1 + l0)] G (some (.long r)) G := gCt_of (own := "FavoursGoOff") (ini := false) [some (.ref (E.2.1 + l0)), none, none, none] (by decide +kernel) rfl (fun h => by cases h) (Nat.le_of_ble_eq_true rfl) ⟨rfl, trivial⟩ (fun X C HR => l_Fa_digest C HR h)
set_option maxRecDepth 20000 in
theorem l_Mo_begin_b10k {E : EE} {X : CT} {G : Hp} (C : gCx E X cX10_begin "FavoursGoOffModel" none 0 0 0 0 false 3) {G' : Hp} (HR : gRet E X cX10_begin none 0 0 none G') {k10 : Hp → Nat → Int32 → Option Hp} (K10 : ∀ {G : Hp} {l0 : Nat} {l2 : Int32}, k10 G l0 l2 = some G' → gV E X 0 0 G 10 [some (.ref (E.2.1 + l0)), none, some (.int l2)] []) {l0 : Nat} {l2 : Int32} (hf : f_Mo_begin_b10_k k10 G l0 l2 = some G') : gV E X 0 0 G 10 [some (.ref (E.2.1 + l0)), none, some (.int l2)] [] := by
  unfold f_Mo_begin_b10_k at hf
  refine g_iload_n C dX10_begin_10 rfl ?_
  refine g_bipush (v := (6 : Int32)) C dX10_begin_11 (by decide) ?_
  refine g_icmp_ge (tgt := 36) C dX10_begin_13 (by decide) (fun hc => ?_) (fun hc => ?_)
  · have hf := iteT hf hc
    refine g_aload_n C dX10_begin_36 rfl ?_
    refine g_sipush (v := (158 : Int32)) C dX10_begin_37 (by decide) ?_
    refine g_iconst (v := (0 : Int32)) C dX10_begin_40 (by decide) ?_
    obtain ⟨G1, hG1, hg, hf⟩ := sI_ok hf
    refine e_iast C dX10_begin_41 hG1 hg ?_
    refine g_aload_n C dX10_begin_42 rfl ?_
    refine g_sipush (v := (159 : Int32)) C dX10_begin_43 (by decide) ?_
    refine g_iconst (v := (0 : Int32)) C dX10_begin_46 (by decide) ?_
    obtain ⟨G2, hG2, hg, hf⟩ := sI_ok hf
    refine e_iast C dX10_begin_47 hG2 hg ?_
    refine g_aload_n C dX10_begin_48 rfl ?_
    refine g_sipush (v := (160 : Int32)) C dX10_begin_49 (by decide) ?_
    refine g_iconst (v := (0 : Int32)) C dX10_begin_52 (by decide) ?_
    obtain ⟨G3, hG3, hg, hf⟩ := sI_ok hf
    refine e_iast C dX10_begin_53 hG3 hg ?_
    obtain rfl := rP_ok hf
    exact g_vret HR dX10_begin_54
  · have hf := iteF hf hc
    refine g_aload_n C dX10_begin_16 rfl ?_
    refine g_iconst (v := (2 : Int32)) C dX10_begin_17 (by decide) ?_
    refine g_iload_n C dX10_begin_18 rfl ?_
    refine g_iadd C dX10_begin_19 ?_
    refine g_bipush (v := (20 : Int32)) C dX10_begin_20 (by decide) ?_
    obtain ⟨G4, hG4, hg, hf⟩ := sI_ok hf
    refine e_iast C dX10_begin_22 hG4 hg ?_
    refine g_aload_n C dX10_begin_23 rfl ?_
    refine g_bipush (v := (8 : Int32)) C dX10_begin_24 (by decide) ?_
    refine g_iload_n C dX10_begin_26 rfl ?_
    refine g_iadd C dX10_begin_27 ?_
    refine g_iconst (v := (0 : Int32)) C dX10_begin_28 (by decide) ?_
    obtain ⟨G5, hG5, hg, hf⟩ := sI_ok hf
    refine e_iast C dX10_begin_29 hG5 hg ?_
    refine g_iinc (v := (l2 + 1)) (lv' := [some (.ref (E.2.1 + l0)), none, some (.int (l2 + 1))]) C dX10_begin_30 (by decide) rfl rfl rfl ?_
    refine g_goto (tgt := 10) C dX10_begin_33 (by decide) ?_
    refine g_sub (lv' := [some (.ref (E.2.1 + l0)), none, some (.int (l2 + 1))]) ⟨rfl, ⟨rfl, trivial⟩⟩ ?_
    exact K10 hf
theorem l_Mo_begin_b10 {E : EE} {X : CT} (C : gCx E X cX10_begin "FavoursGoOffModel" none 0 0 0 0 false 3) {G' : Hp} (HR : gRet E X cX10_begin none 0 0 none G') : ∀ (nn : Nat) {G : Hp} {l0 : Nat} {l2 : Int32}, f_Mo_begin_b10 nn G l0 l2 = some G' → gV E X 0 0 G 10 [some (.ref (E.2.1 + l0)), none, some (.int l2)] []
  | 0, _, _, _, hf => by have h0 : (none : Option Hp) = some G' := hf; cases h0
  | nn + 1, _, _, _, hf => l_Mo_begin_b10k C HR (fun h => l_Mo_begin_b10 C HR nn h) hf
set_option maxRecDepth 20000 in
theorem l_Mo_begin {E : EE} {X : CT} {G : Hp} (C : gCx E X cX10_begin "FavoursGoOffModel" none 0 0 0 0 false 3) {G' : Hp} (HR : gRet E X cX10_begin none 0 0 none G') {l0 : Nat} {l1 : Int32} (hf : f_Mo_begin G l0 l1 = some G') : gV E X 0 0 G 0 [some (.ref (E.2.1 + l0)), some (.int l1), none] [] := by
  unfold f_Mo_begin at hf
  refine g_aload_n C dX10_begin_0 rfl ?_
  refine g_iconst (v := (0 : Int32)) C dX10_begin_1 (by decide) ?_
  refine g_iconst (v := (0 : Int32)) C dX10_begin_2 (by decide) ?_
  obtain ⟨G1, hG1, hg, hf⟩ := sI_ok hf
  refine e_iast C dX10_begin_3 hG1 hg ?_
  refine g_aload_n C dX10_begin_4 rfl ?_
  refine g_iconst (v := (1 : Int32)) C dX10_begin_5 (by decide) ?_
  refine g_iload_n C dX10_begin_6 rfl ?_
  obtain ⟨G2, hG2, hg, hf⟩ := sI_ok hf
  refine e_iast C dX10_begin_7 hG2 hg ?_
  refine g_iconst (v := (0 : Int32)) C dX10_begin_8 (by decide) ?_
  refine g_istore_n (lv' := [some (.ref (E.2.1 + l0)), some (.int l1), some (.int (0 : Int32))]) C dX10_begin_9 (by decide) rfl ?_
  refine g_sub (lv' := [some (.ref (E.2.1 + l0)), none, some (.int (0 : Int32))]) ⟨rfl, ⟨rfl, trivial⟩⟩ ?_
  exact l_Mo_begin_b10 C HR  FU hf
theorem c_Mo_begin (E : EE) {G : Hp} {l0 : Nat} {l1 : Int32} {G' : Hp} (h : f_Mo_begin G l0 l1 = some G') : gCt E y_Mo_begin cX10_begin 3 none 0 0 0 0 [.ref (E.2.1 + l0), .int l1] G none G' := gCt_of (own := "FavoursGoOffModel") (ini := false) [some (.ref (E.2.1 + l0)), some (.int l1), none] (by decide +kernel) rfl (fun h => by cases h) (Nat.le_of_ble_eq_true rfl) ⟨rfl, ⟨rfl, trivial⟩⟩ (fun X C HR => l_Mo_begin C HR h)
