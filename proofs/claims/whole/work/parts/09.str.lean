/-! ===== String.length and String.charAt of the constants ===== -/
theorem ix_value : Cond.fieldLink "java/lang/String" 9 "java/lang/String" "value" "[B" ∈ TB := tb_t 1288 (by decide +kernel) (by decide +kernel)
theorem ix_coder : Cond.fieldLink "java/lang/String" 15 "java/lang/String" "coder" "B" ∈ TB := tb_t 1289 (by decide +kernel) (by decide +kernel)
theorem ix_compact : Cond.fieldLink "java/lang/String" 38 "java/lang/String" "COMPACT_STRINGS" "Z" ∈ TB := tb_t 455 (by decide +kernel) (by decide +kernel)
theorem ix_sioobe : Cond.fieldLink "java/lang/String" 1053 "jdk/internal/util/Preconditions" "SIOOBE_FORMATTER" "Ljava/util/function/BiFunction;" ∈ TB := tb_t 471 (by decide +kernel) (by decide +kernel)
section GS
variable {E : EE} {X : CT} {cc : ByteArray} {own : String} {ret : Option FieldType} {F L Mc Ms : Nat} {ini : Bool} {mL : Nat} {q n : Nat} {G : Hp} {pc : Nat} {lv : List (Option Value)} {st : List Value}
theorem s_compact (C : gCx E X cc "java/lang/String" ret F L Mc Ms ini mL) (hd : decode cc pc = .ok (.getstatic 38, 3)) (kk : gV E X q n G (pc + 3) lv (.int 1 :: st)) : gV E X q n G pc lv st := by
  obtain ⟨p, e, R, s, m, args, below, meth, c, Q, nL⟩ := X
  intro H locs ls hWd hS hl
  obtain ⟨C1, C2, C3, C4, C5, C6, C7, C8, C9, C10⟩ := C
  exact va_gets C1 C2 C6.2.2.1.2.2.1 hS C4 (C5 _ ix_compact) (fun _ h => h) hd (kk H locs ls hWd hS hl)
theorem s_sioobe (C : gCx E X cc "java/lang/String" ret F L Mc Ms ini mL) (hd : decode cc pc = .ok (.getstatic 1053, 3)) (kk : ∀ v : Value, (v = .null ∨ ∃ a, v = .ref a) → gV E X q n G (pc + 3) lv (v :: st)) : gV E X q n G pc lv st := by
  obtain ⟨p, e, R, s, m, args, below, meth, c, Q, nL⟩ := X
  intro H locs ls hWd hS hl
  obtain ⟨C1, C2, C3, C4, C5, C6, C7, C8, C9, C10⟩ := C
  rcases C6.2.2.1.2.2.2 with h | ⟨t, h⟩
  · exact va_gets C1 C2 h hS C4 (C5 _ ix_sioobe) (fun _ h => h) hd (kk .null (Or.inl rfl) H locs ls hWd hS hl)
  · exact va_gets C1 C2 h hS C4 (C5 _ ix_sioobe) (fun _ h => h) hd (kk (.ref t) (Or.inr ⟨t, rfl⟩) H locs ls hWd hS hl)
theorem s_coder (C : gCx E X cc "java/lang/String" ret F L Mc Ms ini mL) {i : Nat} (hi : i < 4) (hd : decode cc pc = .ok (.getfield 15, 3)) (kk : gV E X q n G (pc + 3) lv (.int 0 :: st)) : gV E X q n G pc lv (.ref (E.2.2.2.2.1 i) :: st) := by
  obtain ⟨p, e, R, s, m, args, below, meth, c, Q, nL⟩ := X
  intro H locs ls hWd hS hl
  obtain ⟨C1, C2, C3, C4, C5, C6, C7, C8, C9, C10⟩ := C
  exact vk_getf C1 C2 (C6.2.2.1.2.1.1 i hi).2.1 hS C4 (C5 _ ix_coder) (fun _ h => h) hd (kk H locs ls hWd hS hl)
theorem s_value (C : gCx E X cc "java/lang/String" ret F L Mc Ms ini mL) {i : Nat} (hi : i < 4) (hd : decode cc pc = .ok (.getfield 9, 3)) (kk : gV E X q n G (pc + 3) lv (.ref (E.2.2.2.2.2 i) :: st)) : gV E X q n G pc lv (.ref (E.2.2.2.2.1 i) :: st) := by
  obtain ⟨p, e, R, s, m, args, below, meth, c, Q, nL⟩ := X
  intro H locs ls hWd hS hl
  obtain ⟨C1, C2, C3, C4, C5, C6, C7, C8, C9, C10⟩ := C
  exact vk_getf C1 C2 (C6.2.2.1.2.1.1 i hi).2.2.1 hS C4 (C5 _ ix_value) (fun _ h => h) hd (kk H locs ls hWd hS hl)
theorem s_len (C : gCx E X cc own ret F L Mc Ms ini mL) {i : Nat} (hi : i < 4) (hd : decode cc pc = .ok (.arraylength, 1)) (kk : gV E X q n G (pc + 1) lv (.int (Int32.ofNat (g_len.getD i 0)) :: st)) : gV E X q n G pc lv (.ref (E.2.2.2.2.2 i) :: st) := by
  obtain ⟨p, e, R, s, m, args, below, meth, c, Q, nL⟩ := X
  intro H locs ls hWd hS hl
  obtain ⟨C1, C2, C3, C4, C5, C6, C7, C8, C9, C10⟩ := C
  exact va_tlen C1 C2 (C6.2.2.1.2.1.1 i hi).2.2.2 hS rfl hd (kk H locs ls hWd hS hl)
theorem s_ald (C : gCx E X cc own ret F L Mc Ms ini mL) {i : Nat} {j : Int32} (hi : i < 4) (hj : vp_in j (g_len.getD i 0)) (hd : decode cc pc = .ok (.baload, 1)) (kk : gV E X q n G (pc + 1) lv (.int ((g_byt.getD i []).getD j.toNatClampNeg 0) :: st)) : gV E X q n G pc lv (.int j :: .ref (E.2.2.2.2.2 i) :: st) := by
  obtain ⟨p, e, R, s, m, args, below, meth, c, Q, nL⟩ := X
  intro H locs ls hWd hS hl
  obtain ⟨C1, C2, C3, C4, C5, C6, C7, C8, C9, C10⟩ := C
  exact va_tb C1 C2 (C6.2.2.1.2.1.1 i hi).2.2.2 hS hj rfl hd (kk H locs ls hWd hS hl)
theorem s_i2c (C : gCx E X cc own ret F L Mc Ms ini mL) {x v : Int32} (hd : decode cc pc = .ok (.i2c, 1)) (hv : (x.toUInt32 % 65536).toInt32 = v) (kk : gV E X q n G (pc + 1) lv (.int v :: st)) : gV E X q n G pc lv (.int x :: st) := by
  obtain ⟨p, e, R, s, m, args, below, meth, c, Q, nL⟩ := X
  intro H locs ls hWd hS hl
  obtain ⟨C1, C2, C3, C4, C5, C6, C7, C8, C9, C10⟩ := C
  exact lv_i2c C1 C2 hd hv (kk H locs ls hWd hS hl)
/-- a call on a String constant -/
theorem s_invV (C : gCx E X cc own ret F L Mc Ms ini mL) {idx na i F' L' Mc' Ms' mL' : Nat} {y : MethodName} {cc' : ByteArray} {ret' : Option FieldType} {As : List Value} {rv : Option Value} {G' : Hp}
    (hM : gCt E y cc' mL' ret' F' L' Mc' Ms' (.ref (E.2.2.2.2.1 i) :: As) G rv G')
    (hi : i < 4) (hy : y.cls = "java/lang/String")
    (h1 : Cond.methodLink own idx y ∈ TB) (hm : CMV y cc' mL' ret' na) (hna : As.length = na)
    (hR : F' + 1 ≤ F ∧ 8 + (mL' + 11) + L' ≤ L ∧ q + Mc' ≤ Mc ∧ n + Ms' ≤ Ms) (hW : (st.map fun v => v.category).sum ≤ 8) {st0 : List Value} (hst : st0 = As.reverse ++ .ref (E.2.2.2.2.1 i) :: st) (hd : decode cc pc = .ok (.invokevirtual idx, 3))
    (kk : gV E X (q + Mc') (n + Ms') G' (pc + 3) lv (rv.toList ++ st)) : gV E X q n G pc lv st0 := by
  obtain ⟨p, e, R, s, m, args, below, meth, c, Q, nL⟩ := X
  intro H locs ls hWd hS hl
  subst hst
  obtain ⟨C1, C2, C3, C4, C5, C6, C7, C8, C9, C10⟩ := C
  obtain ⟨h2, h3, h4, h5, hn⟩ := hm
  have hlen : ∀ sig, parseMethodDescriptor y.desc = some sig → na = sig.parameters.length := fun sig hsig => by
    have h := hn.2.2
    rw [hsig] at h
    exact (Option.some.inj h).symm
  refine g_after (y := y) (va_runV (Ts := TB) (C := y.cls) (own := own) ⟨C1, C2, C3.1, C4, C5⟩ hM ⟨⟨rfl, rfl, Nat.le_trans hR.1 C7.1, Nat.le_trans hR.2.1 C7.2.1, pay_in C5 (gIn h5), List.mem_cons_self, C5 _ h5, C5 _ h4, ⟨hn.1, hn.2.1⟩, hlen, C5 _ h1⟩, C5 _ h2, C5 _ h3⟩ ⟨gPc_blind _ _ _, by rw [hy]; exact vk_recv C6.2.2.1.2.1 hi hS, fun U hU hWm => ⟨rfl, by rw [hU]; exact hWd, gKn.warm hS hU hWm C6⟩⟩ rfl hna hl.1 rfl (lv_room hW) hd ⟨Nat.le_trans hR.2.2.1 C7.2.2.1, Nat.le_trans hR.2.2.2 C7.2.2.2⟩) hS hl kk
theorem s_cret {v : Int32} (hR : gRet E X cc (some .char) q n (some (.int v)) G) (hv : narrow .char (.int v) = .int v) (hd : decode cc pc = .ok (.ireturn, 1)) : gV E X q n G pc lv [.int v] := hR pc lv ⟨hd, .char, rfl, hv⟩
theorem s_bret {v : Int32} (hR : gRet E X cc (some .byte) q n (some (.int v)) G) (hv : narrow .byte (.int v) = .int v) (hd : decode cc pc = .ok (.ireturn, 1)) : gV E X q n G pc lv [.int v] := hR pc lv ⟨hd, .byte, rfl, hv⟩
end GS
theorem c_coder (E : EE) {G : Hp} {i : Nat} (hi : i < 4) : gCt E y_JS_coder_7d493 cJ0_coder_7d493 1 (some .byte) 0 0 0 0 [.ref (E.2.2.2.2.1 i)] G (some (.int 0)) G :=
  gCt_of (own := "java/lang/String") (ini := false) [some (.ref (E.2.2.2.2.1 i))] (by decide +kernel) rfl (fun h => by cases h) (Nat.le_of_ble_eq_true rfl) ⟨rfl, trivial⟩ (fun X C HR => by
    refine s_compact C dJ0_coder_7d493_0 ?_
    refine g_if_eq (tgt := 13) C dJ0_coder_7d493_3 (by decide) (fun hc => absurd hc (by decide)) (fun _ => ?_)
    refine g_aload_n C dJ0_coder_7d493_6 rfl ?_
    refine s_coder C hi dJ0_coder_7d493_7 ?_
    refine g_goto (tgt := 14) C dJ0_coder_7d493_10 (by decide) ?_
    exact s_bret HR rfl dJ0_coder_7d493_14)
theorem c_isLatin1 (E : EE) {G : Hp} {i : Nat} (hi : i < 4) : gCt E y_JS_isLatin1_aae02 cJ0_isLatin1_aae02 1 (some .boolean) 0 0 0 0 [.ref (E.2.2.2.2.1 i)] G (some (.int 1)) G :=
  gCt_of (own := "java/lang/String") (ini := false) [some (.ref (E.2.2.2.2.1 i))] (by decide +kernel) rfl (fun h => by cases h) (Nat.le_of_ble_eq_true rfl) ⟨rfl, trivial⟩ (fun X C HR => by
    refine s_compact C dJ0_isLatin1_aae02_0 ?_
    refine g_if_eq (tgt := 17) C dJ0_isLatin1_aae02_3 (by decide) (fun hc => absurd hc (by decide)) (fun _ => ?_)
    refine g_aload_n C dJ0_isLatin1_aae02_6 rfl ?_
    refine s_coder C hi dJ0_isLatin1_aae02_7 ?_
    refine g_if_ne (tgt := 17) C dJ0_isLatin1_aae02_10 (by decide) (fun hc => absurd rfl hc) (fun _ => ?_)
    refine g_iconst (v := 1) C dJ0_isLatin1_aae02_13 (by decide) ?_
    refine g_goto (tgt := 18) C dJ0_isLatin1_aae02_14 (by decide) ?_
    exact g_zret HR (Or.inr rfl) dJ0_isLatin1_aae02_18)
theorem c_length (E : EE) {G : Hp} {i : Nat} (hi : i < 4) : gCt E y_JS_length_8abf5 cJ0_length_8abf5 1 (some .int) 1 20 0 0 [.ref (E.2.2.2.2.1 i)] G (some (.int (Int32.ofNat (g_len.getD i 0)))) G :=
  gCt_of (own := "java/lang/String") (ini := false) [some (.ref (E.2.2.2.2.1 i))] (by decide +kernel) rfl (fun h => by cases h) (Nat.le_of_ble_eq_true rfl) ⟨rfl, trivial⟩ (fun X C HR => by
    refine g_aload_n C dJ0_length_8abf5_0 rfl ?_
    refine s_value C hi dJ0_length_8abf5_1 ?_
    refine s_len C hi dJ0_length_8abf5_4 ?_
    refine g_aload_n C dJ0_length_8abf5_5 rfl ?_
    refine s_invV (As := []) (st := [.int (Int32.ofNat (g_len.getD i 0))]) C (c_coder E hi) hi rfl ml_JS_335 cm_JS_coder_7d493 rfl ⟨by omega, by omega, by omega, by omega⟩ (by exact Nat.le_of_ble_eq_true rfl) rfl dJ0_length_8abf5_6 ?_
    refine g_ishr C dJ0_length_8abf5_9 ?_
    have e : Int32.ofNat (g_len.getD i 0) >>> (0 &&& 31) = Int32.ofNat (g_len.getD i 0) := by
      match i, hi with
      | 0, _ => decide
      | 1, _ => decide
      | 2, _ => decide
      | 3, _ => decide
    rw [e]
    exact g_iret HR dJ0_length_8abf5_10)
theorem c_pcheck (E : EE) {G : Hp} {j z : Int32} {v : Value} (hv : v = .null ∨ ∃ a, v = .ref a) (h0 : ¬ j < 0) (h1 : j < z) : gCt E y_JP_checkIndex_8e157 cJ3_checkIndex_8e157 3 (some .int) 0 0 0 0 [.int j, .int z, v] G (some (.int j)) G :=
  gCt_of (own := "jdk/internal/util/Preconditions") (ini := false) [some (.int j), some (.int z), none] (by decide +kernel) rfl (fun h => by cases h) (by rcases hv with rfl | ⟨a, rfl⟩ <;> exact Nat.le_of_ble_eq_true rfl) ⟨rfl, ⟨rfl, trivial⟩⟩ (fun X C HR => by
    refine g_iload_n C dJ3_checkIndex_8e157_0 rfl ?_
    refine g_if_lt (tgt := 9) C dJ3_checkIndex_8e157_1 (by decide) (fun hc => absurd hc h0) (fun _ => ?_)
    refine g_iload_n C dJ3_checkIndex_8e157_4 rfl ?_
    refine g_iload_n C dJ3_checkIndex_8e157_5 rfl ?_
    refine g_icmp_lt (tgt := 16) C dJ3_checkIndex_8e157_6 (by decide) (fun _ => ?_) (fun hc => absurd h1 hc)
    refine g_iload_n C dJ3_checkIndex_8e157_16 rfl ?_
    exact g_iret HR dJ3_checkIndex_8e157_17)
theorem c_check (E : EE) {G : Hp} {j z : Int32} (h0 : ¬ j < 0) (h1 : j < z) : gCt E y_JS_checkIndex_df160 cJ0_checkIndex_df160 2 none 1 22 0 0 [.int j, .int z] G none G :=
  gCt_of (own := "java/lang/String") (ini := false) [some (.int j), some (.int z)] (by decide +kernel) rfl (fun h => by cases h) (Nat.le_of_ble_eq_true rfl) ⟨rfl, ⟨rfl, trivial⟩⟩ (fun X C HR => by
    refine g_iload_n C dJ0_checkIndex_df160_0 rfl ?_
    refine g_iload_n C dJ0_checkIndex_df160_1 rfl ?_
    refine s_sioobe C dJ0_checkIndex_df160_2 (fun v hv => ?_)
    refine g_invS (As := [.int j, .int z, v]) (st := []) C (c_pcheck E hv h0 h1) ml_JS_1059 cm_JP_checkIndex_8e157.1 cm_JP_checkIndex_8e157.2.1 cm_JP_checkIndex_8e157.2.2.1 cm_JP_checkIndex_8e157.2.2.2 rfl ⟨by omega, by omega, by omega, by omega⟩ (by decide) rfl dJ0_checkIndex_df160_5 ?_
    refine g_pop C dJ0_checkIndex_df160_8 rfl ?_
    exact g_vret HR dJ0_checkIndex_df160_9)
theorem s_lt {i : Nat} {j : Int32} (hi : i < 4) (hj : vp_in j (g_len.getD i 0)) : ¬ j < 0 ∧ j < Int32.ofNat (g_len.getD i 0) := by
  obtain ⟨h1, h2⟩ := vp_in_iff.mp hj
  refine ⟨fun h => ?_, ?_⟩
  · have := Int32.lt_iff_toInt_lt.mp h
    rw [Int32.toInt_zero] at this
    omega
  · rw [Int32.lt_iff_toInt_lt]
    have : (Int32.ofNat (g_len.getD i 0)).toInt = (g_len.getD i 0 : Int) := nI_toInt (by
      match i, hi with
      | 0, _ => decide
      | 1, _ => decide
      | 2, _ => decide
      | 3, _ => decide)
    omega
theorem s_byt {i k : Nat} (hi : i < 4) (hk : k < g_len.getD i 0) : ((((g_byt.getD i []).getD k 0) &&& 255).toUInt32 % 65536).toInt32 = (g_byt.getD i []).getD k 0 ∧ narrow .char (.int ((g_byt.getD i []).getD k 0)) = .int ((g_byt.getD i []).getD k 0) := by
  have h : ∀ i, i < 4 → ∀ k, k < g_len.getD i 0 → ((((g_byt.getD i []).getD k 0) &&& 255).toUInt32 % 65536).toInt32 = (g_byt.getD i []).getD k 0 ∧ narrow .char (.int ((g_byt.getD i []).getD k 0)) = .int ((g_byt.getD i []).getD k 0) := by decide +kernel
  exact h i hi k hk
theorem c_lcharAt (E : EE) {G : Hp} {i : Nat} {j : Int32} (hi : i < 4) (hj : vp_in j (g_len.getD i 0)) : gCt E y_JL_charAt_3b067 cJ1_charAt_3b067 2 (some .char) 2 43 0 0 [.ref (E.2.2.2.2.2 i), .int j] G (some (.int ((g_byt.getD i []).getD j.toNatClampNeg 0))) G :=
  gCt_of (own := "java/lang/StringLatin1") (ini := false) [some (.ref (E.2.2.2.2.2 i)), some (.int j)] (by decide +kernel) rfl (fun h => by cases h) (Nat.le_of_ble_eq_true rfl) ⟨rfl, ⟨rfl, trivial⟩⟩ (fun X C HR => by
    have hs := s_lt hi hj
    have hb := s_byt hi (Nat.not_le.mp fun h => hj (Or.inr h))
    refine g_iload_n C dJ1_charAt_3b067_0 rfl ?_
    refine g_aload_n C dJ1_charAt_3b067_1 rfl ?_
    refine s_len C hi dJ1_charAt_3b067_2 ?_
    refine g_invS (As := [.int j, .int (Int32.ofNat (g_len.getD i 0))]) (st := []) C (c_check E hs.1 hs.2) ml_JL_9 cm_JS_checkIndex_df160.1 cm_JS_checkIndex_df160.2.1 cm_JS_checkIndex_df160.2.2.1 cm_JS_checkIndex_df160.2.2.2 rfl ⟨by omega, by omega, by omega, by omega⟩ (by decide) rfl dJ1_charAt_3b067_3 ?_
    refine g_aload_n C dJ1_charAt_3b067_6 rfl ?_
    refine g_iload_n C dJ1_charAt_3b067_7 rfl ?_
    refine s_ald C hi hj dJ1_charAt_3b067_8 ?_
    refine g_sipush (v := 255) C dJ1_charAt_3b067_9 (by decide) ?_
    refine g_iand C dJ1_charAt_3b067_12 ?_
    refine s_i2c C dJ1_charAt_3b067_13 hb.1 ?_
    exact s_cret HR hb.2 dJ1_charAt_3b067_14)
theorem c_charAt (E : EE) {G : Hp} {i : Nat} {j : Int32} (hi : i < 4) (hj : vp_in j (g_len.getD i 0)) : gCt E y_JS_charAt_5068e cJ0_charAt_5068e 2 (some .char) 3 64 0 0 [.ref (E.2.2.2.2.1 i), .int j] G (some (.int ((g_byt.getD i []).getD j.toNatClampNeg 0))) G :=
  gCt_of (own := "java/lang/String") (ini := false) [some (.ref (E.2.2.2.2.1 i)), some (.int j)] (by decide +kernel) rfl (fun h => by cases h) (Nat.le_of_ble_eq_true rfl) ⟨rfl, ⟨rfl, trivial⟩⟩ (fun X C HR => by
    have hb := s_byt hi (Nat.not_le.mp fun h => hj (Or.inr h))
    refine g_aload_n C dJ0_charAt_5068e_0 rfl ?_
    refine s_invV (As := []) (st := []) C (c_isLatin1 E hi) hi rfl ml_JS_492 cm_JS_isLatin1_aae02 rfl ⟨by omega, by omega, by omega, by omega⟩ (by decide) rfl dJ0_charAt_5068e_1 ?_
    refine g_if_eq (tgt := 16) C dJ0_charAt_5068e_4 (by decide) (fun hc => absurd hc (by decide)) (fun _ => ?_)
    refine g_aload_n C dJ0_charAt_5068e_7 rfl ?_
    refine s_value C hi dJ0_charAt_5068e_8 ?_
    refine g_iload_n C dJ0_charAt_5068e_11 rfl ?_
    refine g_invS (As := [.ref (E.2.2.2.2.2 i), .int j]) (st := []) C (c_lcharAt E hi hj) ml_JS_495 cm_JL_charAt_3b067.1 cm_JL_charAt_3b067.2.1 cm_JL_charAt_3b067.2.2.1 cm_JL_charAt_3b067.2.2.2 rfl ⟨by omega, by omega, by omega, by omega⟩ (by decide) rfl dJ0_charAt_5068e_12 ?_
    exact s_cret HR hb.2 dJ0_charAt_5068e_15)
section GT
variable {E : EE} {X : CT} {cc : ByteArray} {own : String} {ret : Option FieldType} {F L Mc Ms : Nat} {ini : Bool} {mL : Nat} {q n : Nat} {G : Hp} {pc : Nat} {lv : List (Option Value)} {st : List Value}
theorem e_sL (C : gCx E X cc own ret F L Mc Ms ini mL) {idx i : Nat} {x : Int32} (h1 : Cond.methodLink own idx y_JS_length_8abf5 ∈ TB) (hx : x = Int32.ofNat (g_len.getD i 0)) (hi : i < 4) (hR : 4 ≤ F ∧ 200 ≤ L ∧ q ≤ Mc ∧ n ≤ Ms) (hW : (st.map fun v => v.category).sum ≤ 8) (hd : decode cc pc = .ok (.invokevirtual idx, 3)) (kk : gV E X q n G (pc + 3) lv (.int x :: st)) : gV E X q n G pc lv (.ref (E.2.2.2.2.1 i) :: st) := by
  subst hx
  exact s_invV (As := []) C (c_length E hi) hi rfl h1 cm_JS_length_8abf5 rfl ⟨by omega, by omega, by omega, by omega⟩ hW rfl hd kk
theorem e_sC (C : gCx E X cc own ret F L Mc Ms ini mL) {idx i : Nat} {j x : Int32} (h1 : Cond.methodLink own idx y_JS_charAt_5068e ∈ TB) (hx : x = (g_byt.getD i []).getD j.toNatClampNeg 0) (hi : i < 4 ∧ vp_in j (g_len.getD i 0)) (hR : 4 ≤ F ∧ 200 ≤ L ∧ q ≤ Mc ∧ n ≤ Ms) (hW : (st.map fun v => v.category).sum ≤ 8) (hd : decode cc pc = .ok (.invokevirtual idx, 3)) (kk : gV E X q n G (pc + 3) lv (.int x :: st)) : gV E X q n G pc lv (.int j :: .ref (E.2.2.2.2.1 i) :: st) := by
  subst hx
  exact s_invV (As := [.int j]) C (c_charAt E hi.1 hi.2) hi.1 rfl h1 cm_JS_charAt_5068e rfl ⟨by omega, by omega, by omega, by omega⟩ hW rfl hd kk
end GT
theorem rP_ok {α : Type} {a c : α} (h : some a = some c) : c = a := (Option.some.inj h).symm
theorem rH_ok {α : Type} {a c : α} {b d : Hp} (h : some (a, b) = some (c, d)) : c = a ∧ d = b := by
  have h1 := Option.some.inj h
  exact ⟨(congrArg Prod.fst h1).symm, (congrArg Prod.snd h1).symm⟩
