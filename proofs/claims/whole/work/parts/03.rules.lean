/-! ===== a rule an instruction ===== -/
section GR
variable {E : EE} {X : CT} {cc : ByteArray} {own : String} {ret : Option FieldType} {F L Mc Ms : Nat} {ini : Bool} {mL : Nat} {q n : Nat} {G : Hp} {pc : Nat} {lv : List (Option Value)} {st : List Value}
theorem g_iconst (C : gCx E X cc own ret F L Mc Ms ini mL) {z : Int} {v : Int32} (hd : decode cc pc = .ok (.iconst z, 1)) (hv : Int32.ofInt z = v) (k : gV E X q n G (pc + 1) lv (.int v :: st)) : gV E X q n G pc lv (st) := by
  obtain ⟨p, e, R, s, m, args, below, meth, c, Q, nL⟩ := X
  intro H locs ls hW hS hl
  exact lv_iconst C.1 C.2.1 hd hv (k H locs ls hW hS hl)
theorem g_bipush (C : gCx E X cc own ret F L Mc Ms ini mL) {z : Int} {v : Int32} (hd : decode cc pc = .ok (.bipush z, 2)) (hv : (Int8.ofInt z).toInt32 = v) (k : gV E X q n G (pc + 2) lv (.int v :: st)) : gV E X q n G pc lv (st) := by
  obtain ⟨p, e, R, s, m, args, below, meth, c, Q, nL⟩ := X
  intro H locs ls hW hS hl
  exact lv_bipush C.1 C.2.1 hd hv (k H locs ls hW hS hl)
theorem g_sipush (C : gCx E X cc own ret F L Mc Ms ini mL) {z : Int} {v : Int32} (hd : decode cc pc = .ok (.sipush z, 3)) (hv : (Int16.ofInt z).toInt32 = v) (k : gV E X q n G (pc + 3) lv (.int v :: st)) : gV E X q n G pc lv (st) := by
  obtain ⟨p, e, R, s, m, args, below, meth, c, Q, nL⟩ := X
  intro H locs ls hW hS hl
  exact lv_sipush C.1 C.2.1 hd hv (k H locs ls hW hS hl)
theorem g_lconst (C : gCx E X cc own ret F L Mc Ms ini mL) {z : Fin 2} {v : Int64} (hd : decode cc pc = .ok (.lconst z, 1)) (hv : Int64.ofNat (z : Nat) = v) (k : gV E X q n G (pc + 1) lv (.long v :: st)) : gV E X q n G pc lv (st) := by
  obtain ⟨p, e, R, s, m, args, below, meth, c, Q, nL⟩ := X
  intro H locs ls hW hS hl
  exact lv_lconst C.1 C.2.1 hd hv (k H locs ls hW hS hl)
theorem g_ldc2 (C : gCx E X cc own ret F L Mc Ms ini mL) {idx : Nat} {v : Int64} (hd : decode cc pc = .ok (.ldc2_w idx, 3)) (hc : Cond.constantLong own idx v ∈ TB) (k : gV E X q n G (pc + 3) lv (.long v :: st)) : gV E X q n G pc lv st := by
  obtain ⟨p, e, R, s, m, args, below, meth, c, Q, nL⟩ := X
  intro H locs ls hW hS hl
  exact lv_ldc2 C.1 C.2.1 C.2.2.2.1 (C.2.2.2.2.1 _ hc) hd (k H locs ls hW hS hl)
theorem g_iload_n (C : gCx E X cc own ret F L Mc Ms ini mL) {z : Fin 4} {x : Int32} (hd : decode cc pc = .ok (.iload_n z, 1)) (h : lv[(z : Nat)]? = some (some (.int x))) (k : gV E X q n G (pc + 1) lv (.int x :: st)) : gV E X q n G pc lv st := by
  obtain ⟨p, e, R, s, m, args, below, meth, c, Q, nL⟩ := X
  intro H locs ls hW hS hl
  exact lv_iload_n C.1 C.2.1 hd rfl (hl.2.2 _ _ h) (k H locs ls hW hS hl)
theorem g_iload (C : gCx E X cc own ret F L Mc Ms ini mL) {i : Nat} {x : Int32} (hd : decode cc pc = .ok (.iload i, 2)) (h : lv[i]? = some (some (.int x))) (k : gV E X q n G (pc + 2) lv (.int x :: st)) : gV E X q n G pc lv st := by
  obtain ⟨p, e, R, s, m, args, below, meth, c, Q, nL⟩ := X
  intro H locs ls hW hS hl
  exact lv_iload C.1 C.2.1 hd (hl.2.2 _ _ h) (k H locs ls hW hS hl)
theorem g_lload_n (C : gCx E X cc own ret F L Mc Ms ini mL) {z : Fin 4} {x : Int64} (hd : decode cc pc = .ok (.lload_n z, 1)) (h : lv[(z : Nat)]? = some (some (.long x))) (k : gV E X q n G (pc + 1) lv (.long x :: st)) : gV E X q n G pc lv st := by
  obtain ⟨p, e, R, s, m, args, below, meth, c, Q, nL⟩ := X
  intro H locs ls hW hS hl
  exact lv_lload_n C.1 C.2.1 hd rfl (hl.2.2 _ _ h) (k H locs ls hW hS hl)
theorem g_lload (C : gCx E X cc own ret F L Mc Ms ini mL) {i : Nat} {x : Int64} (hd : decode cc pc = .ok (.lload i, 2)) (h : lv[i]? = some (some (.long x))) (k : gV E X q n G (pc + 2) lv (.long x :: st)) : gV E X q n G pc lv st := by
  obtain ⟨p, e, R, s, m, args, below, meth, c, Q, nL⟩ := X
  intro H locs ls hW hS hl
  exact lv_lload C.1 C.2.1 hd (hl.2.2 _ _ h) (k H locs ls hW hS hl)
theorem g_aload_n (C : gCx E X cc own ret F L Mc Ms ini mL) {z : Fin 4} {x : Nat} (hd : decode cc pc = .ok (.aload_n z, 1)) (h : lv[(z : Nat)]? = some (some (.ref x))) (k : gV E X q n G (pc + 1) lv (.ref x :: st)) : gV E X q n G pc lv st := by
  obtain ⟨p, e, R, s, m, args, below, meth, c, Q, nL⟩ := X
  intro H locs ls hW hS hl
  exact lv_aload_n C.1 C.2.1 hd rfl (hl.2.2 _ _ h) (k H locs ls hW hS hl)
theorem g_aload (C : gCx E X cc own ret F L Mc Ms ini mL) {i : Nat} {x : Nat} (hd : decode cc pc = .ok (.aload i, 2)) (h : lv[i]? = some (some (.ref x))) (k : gV E X q n G (pc + 2) lv (.ref x :: st)) : gV E X q n G pc lv st := by
  obtain ⟨p, e, R, s, m, args, below, meth, c, Q, nL⟩ := X
  intro H locs ls hW hS hl
  exact lv_aload C.1 C.2.1 hd (hl.2.2 _ _ h) (k H locs ls hW hS hl)
theorem g_istore_n (C : gCx E X cc own ret F L Mc Ms ini mL) {z : Fin 4} {x : Int32} {lv' : List (Option Value)} (hd : decode cc pc = .ok (.istore_n z, 1)) (hi : (z : Nat) < mL) (h : stv lv (z : Nat) (.int x) = lv') (k : gV E X q n G (pc + 1) lv' st) : gV E X q n G pc lv (.int x :: st) := by
  obtain ⟨p, e, R, s, m, args, below, meth, c, Q, nL⟩ := X
  intro H locs ls hW hS hl
  have hn : nL = mL := C.2.2.1.2
  refine lv_istore_n C.1 C.2.1 hd rfl hl.has (by rw [hn]; exact hi) rfl (fun ls' hl' => k H locs ls' hW hS ⟨hl'.1, hl'.2.1, fun j w hw => ?_⟩)
  rw [← h] at hw
  rcases stv_get _ _ _ _ _ hw with ⟨h1, h2⟩ | ⟨h1, h2, h3⟩
  · exact hl'.2.2 (j, w) (by rw [h1, h2]; exact List.mem_cons_self)
  · refine hl'.2.2 (j, w) (List.mem_cons_of_mem _ (List.mem_filter.mpr ⟨lvl_mem.mpr h1, ?_⟩))
    simp only [Bool.and_eq_true, Bool.not_eq_true', beq_eq_false_iff_ne, ne_eq, Bool.and_eq_false_iff]
    refine ⟨h2, ?_⟩
    by_cases hq : j + 1 = (z : Nat)
    · exact Or.inr (fun hc => h3 ⟨hq, hc⟩)
    · exact Or.inl hq
theorem g_istore (C : gCx E X cc own ret F L Mc Ms ini mL) {i : Nat} {x : Int32} {lv' : List (Option Value)} (hd : decode cc pc = .ok (.istore i, 2)) (hi : i < mL) (h : stv lv i (.int x) = lv') (k : gV E X q n G (pc + 2) lv' st) : gV E X q n G pc lv (.int x :: st) := by
  obtain ⟨p, e, R, s, m, args, below, meth, c, Q, nL⟩ := X
  intro H locs ls hW hS hl
  have hn : nL = mL := C.2.2.1.2
  refine lv_istore C.1 C.2.1 hd hl.has (by rw [hn]; exact hi) rfl (fun ls' hl' => k H locs ls' hW hS ⟨hl'.1, hl'.2.1, fun j w hw => ?_⟩)
  rw [← h] at hw
  rcases stv_get _ _ _ _ _ hw with ⟨h1, h2⟩ | ⟨h1, h2, h3⟩
  · exact hl'.2.2 (j, w) (by rw [h1, h2]; exact List.mem_cons_self)
  · refine hl'.2.2 (j, w) (List.mem_cons_of_mem _ (List.mem_filter.mpr ⟨lvl_mem.mpr h1, ?_⟩))
    simp only [Bool.and_eq_true, Bool.not_eq_true', beq_eq_false_iff_ne, ne_eq, Bool.and_eq_false_iff]
    refine ⟨h2, ?_⟩
    by_cases hq : j + 1 = i
    · exact Or.inr (fun hc => h3 ⟨hq, hc⟩)
    · exact Or.inl hq
theorem g_astore_n (C : gCx E X cc own ret F L Mc Ms ini mL) {z : Fin 4} {x : Nat} {lv' : List (Option Value)} (hd : decode cc pc = .ok (.astore_n z, 1)) (hi : (z : Nat) < mL) (h : stv lv (z : Nat) (.ref x) = lv') (k : gV E X q n G (pc + 1) lv' st) : gV E X q n G pc lv (.ref x :: st) := by
  obtain ⟨p, e, R, s, m, args, below, meth, c, Q, nL⟩ := X
  intro H locs ls hW hS hl
  have hn : nL = mL := C.2.2.1.2
  refine lv_astore_n C.1 C.2.1 hd rfl hl.has (by rw [hn]; exact hi) rfl (fun ls' hl' => k H locs ls' hW hS ⟨hl'.1, hl'.2.1, fun j w hw => ?_⟩)
  rw [← h] at hw
  rcases stv_get _ _ _ _ _ hw with ⟨h1, h2⟩ | ⟨h1, h2, h3⟩
  · exact hl'.2.2 (j, w) (by rw [h1, h2]; exact List.mem_cons_self)
  · refine hl'.2.2 (j, w) (List.mem_cons_of_mem _ (List.mem_filter.mpr ⟨lvl_mem.mpr h1, ?_⟩))
    simp only [Bool.and_eq_true, Bool.not_eq_true', beq_eq_false_iff_ne, ne_eq, Bool.and_eq_false_iff]
    refine ⟨h2, ?_⟩
    by_cases hq : j + 1 = (z : Nat)
    · exact Or.inr (fun hc => h3 ⟨hq, hc⟩)
    · exact Or.inl hq
theorem g_astore (C : gCx E X cc own ret F L Mc Ms ini mL) {i : Nat} {x : Nat} {lv' : List (Option Value)} (hd : decode cc pc = .ok (.astore i, 2)) (hi : i < mL) (h : stv lv i (.ref x) = lv') (k : gV E X q n G (pc + 2) lv' st) : gV E X q n G pc lv (.ref x :: st) := by
  obtain ⟨p, e, R, s, m, args, below, meth, c, Q, nL⟩ := X
  intro H locs ls hW hS hl
  have hn : nL = mL := C.2.2.1.2
  refine lv_astore C.1 C.2.1 hd hl.has (by rw [hn]; exact hi) rfl (fun ls' hl' => k H locs ls' hW hS ⟨hl'.1, hl'.2.1, fun j w hw => ?_⟩)
  rw [← h] at hw
  rcases stv_get _ _ _ _ _ hw with ⟨h1, h2⟩ | ⟨h1, h2, h3⟩
  · exact hl'.2.2 (j, w) (by rw [h1, h2]; exact List.mem_cons_self)
  · refine hl'.2.2 (j, w) (List.mem_cons_of_mem _ (List.mem_filter.mpr ⟨lvl_mem.mpr h1, ?_⟩))
    simp only [Bool.and_eq_true, Bool.not_eq_true', beq_eq_false_iff_ne, ne_eq, Bool.and_eq_false_iff]
    refine ⟨h2, ?_⟩
    by_cases hq : j + 1 = i
    · exact Or.inr (fun hc => h3 ⟨hq, hc⟩)
    · exact Or.inl hq
theorem g_lstore_n (C : gCx E X cc own ret F L Mc Ms ini mL) {z : Fin 4} {x : Int64} {lv' : List (Option Value)} (hd : decode cc pc = .ok (.lstore_n z, 1)) (hi : (z : Nat) + 1 < mL) (h : clr (stv lv (z : Nat) (.long x)) ((z : Nat) + 1) = lv') (k : gV E X q n G (pc + 1) lv' st) : gV E X q n G pc lv (.long x :: st) := by
  obtain ⟨p, e, R, s, m, args, below, meth, c, Q, nL⟩ := X
  intro H locs ls hW hS hl
  have hn : nL = mL := C.2.2.1.2
  refine lv_lstore_n C.1 C.2.1 hd rfl hl.has (by rw [hn]; exact hi) rfl (fun ls' hl' => k H locs ls' hW hS ⟨hl'.1, hl'.2.1, fun j w hw => ?_⟩)
  rw [← h] at hw
  obtain ⟨hw, h0⟩ := clr_get _ _ _ _ hw
  rcases stv_get _ _ _ _ _ hw with ⟨h1, h2⟩ | ⟨h1, h2, h3⟩
  · exact hl'.2.2 (j, w) (by rw [h1, h2]; exact List.mem_cons_self)
  · refine hl'.2.2 (j, w) (List.mem_cons_of_mem _ (List.mem_filter.mpr ⟨lvl_mem.mpr h1, ?_⟩))
    simp only [Bool.and_eq_true, Bool.not_eq_true', beq_eq_false_iff_ne, ne_eq, Bool.and_eq_false_iff]
    refine ⟨h2, h0, ?_⟩
    by_cases hq : j + 1 = (z : Nat)
    · exact Or.inr (fun hc => h3 ⟨hq, hc⟩)
    · exact Or.inl hq
theorem g_lstore (C : gCx E X cc own ret F L Mc Ms ini mL) {i : Nat} {x : Int64} {lv' : List (Option Value)} (hd : decode cc pc = .ok (.lstore i, 2)) (hi : i + 1 < mL) (h : clr (stv lv i (.long x)) (i + 1) = lv') (k : gV E X q n G (pc + 2) lv' st) : gV E X q n G pc lv (.long x :: st) := by
  obtain ⟨p, e, R, s, m, args, below, meth, c, Q, nL⟩ := X
  intro H locs ls hW hS hl
  have hn : nL = mL := C.2.2.1.2
  refine lv_lstore C.1 C.2.1 hd hl.has (by rw [hn]; exact hi) rfl (fun ls' hl' => k H locs ls' hW hS ⟨hl'.1, hl'.2.1, fun j w hw => ?_⟩)
  rw [← h] at hw
  obtain ⟨hw, h0⟩ := clr_get _ _ _ _ hw
  rcases stv_get _ _ _ _ _ hw with ⟨h1, h2⟩ | ⟨h1, h2, h3⟩
  · exact hl'.2.2 (j, w) (by rw [h1, h2]; exact List.mem_cons_self)
  · refine hl'.2.2 (j, w) (List.mem_cons_of_mem _ (List.mem_filter.mpr ⟨lvl_mem.mpr h1, ?_⟩))
    simp only [Bool.and_eq_true, Bool.not_eq_true', beq_eq_false_iff_ne, ne_eq, Bool.and_eq_false_iff]
    refine ⟨h2, h0, ?_⟩
    by_cases hq : j + 1 = i
    · exact Or.inr (fun hc => h3 ⟨hq, hc⟩)
    · exact Or.inl hq
theorem g_iinc (C : gCx E X cc own ret F L Mc Ms ini mL) {i : Nat} {z : Int} {x v : Int32} {lv' : List (Option Value)} (hd : decode cc pc = .ok (.iinc i z, 3)) (hi : i < mL) (hx : lv[i]? = some (some (.int x))) (hv : x + Int32.ofInt z = v) (h : stv lv i (.int v) = lv') (k : gV E X q n G (pc + 3) lv' st) : gV E X q n G pc lv st := by
  obtain ⟨p, e, R, s, m, args, below, meth, c, Q, nL⟩ := X
  intro H locs ls hW hS hl
  have hn : nL = mL := C.2.2.1.2
  obtain ⟨j0, hj0⟩ := List.getElem?_of_mem ((lvl_mem (q := (i, .int x))).mpr hx)
  refine lv_iinc C.1 C.2.1 hd hl.has hj0 hv (by rw [hn]; exact hi) rfl (fun ls' hl' => k H locs ls' hW hS ⟨hl'.1, hl'.2.1, fun j w hw => ?_⟩)
  rw [← h] at hw
  rcases stv_get _ _ _ _ _ hw with ⟨h1, h2⟩ | ⟨h1, h2, h3⟩
  · exact hl'.2.2 (j, w) (by rw [h1, h2]; exact List.mem_cons_self)
  · refine hl'.2.2 (j, w) (List.mem_cons_of_mem _ (List.mem_filter.mpr ⟨lvl_mem.mpr h1, ?_⟩))
    simp only [Bool.and_eq_true, Bool.not_eq_true', beq_eq_false_iff_ne, ne_eq, Bool.and_eq_false_iff]
    refine ⟨h2, ?_⟩
    by_cases hq : j + 1 = i
    · exact Or.inr (fun hc => h3 ⟨hq, hc⟩)
    · exact Or.inl hq
theorem g_iadd (C : gCx E X cc own ret F L Mc Ms ini mL) {x y : Int32} (hd : decode cc pc = .ok (.iadd, 1))  (k : gV E X q n G (pc + 1) lv (.int (x + y) :: st)) : gV E X q n G pc lv (.int y :: .int x :: st) := by
  obtain ⟨p, e, R, s, m, args, below, meth, c, Q, nL⟩ := X
  intro H locs ls hW hS hl
  exact lv_iadd C.1 C.2.1 hd (k H locs ls hW hS hl)
theorem g_isub (C : gCx E X cc own ret F L Mc Ms ini mL) {x y : Int32} (hd : decode cc pc = .ok (.isub, 1))  (k : gV E X q n G (pc + 1) lv (.int (x - y) :: st)) : gV E X q n G pc lv (.int y :: .int x :: st) := by
  obtain ⟨p, e, R, s, m, args, below, meth, c, Q, nL⟩ := X
  intro H locs ls hW hS hl
  exact lv_isub C.1 C.2.1 hd (k H locs ls hW hS hl)
theorem g_imul (C : gCx E X cc own ret F L Mc Ms ini mL) {x y : Int32} (hd : decode cc pc = .ok (.imul, 1))  (k : gV E X q n G (pc + 1) lv (.int (x * y) :: st)) : gV E X q n G pc lv (.int y :: .int x :: st) := by
  obtain ⟨p, e, R, s, m, args, below, meth, c, Q, nL⟩ := X
  intro H locs ls hW hS hl
  exact lv_imul C.1 C.2.1 hd (k H locs ls hW hS hl)
theorem g_iand (C : gCx E X cc own ret F L Mc Ms ini mL) {x y : Int32} (hd : decode cc pc = .ok (.iand, 1))  (k : gV E X q n G (pc + 1) lv (.int (x &&& y) :: st)) : gV E X q n G pc lv (.int y :: .int x :: st) := by
  obtain ⟨p, e, R, s, m, args, below, meth, c, Q, nL⟩ := X
  intro H locs ls hW hS hl
  exact lv_iand C.1 C.2.1 hd (k H locs ls hW hS hl)
theorem g_ior (C : gCx E X cc own ret F L Mc Ms ini mL) {x y : Int32} (hd : decode cc pc = .ok (.ior, 1))  (k : gV E X q n G (pc + 1) lv (.int (x ||| y) :: st)) : gV E X q n G pc lv (.int y :: .int x :: st) := by
  obtain ⟨p, e, R, s, m, args, below, meth, c, Q, nL⟩ := X
  intro H locs ls hW hS hl
  exact lv_ior C.1 C.2.1 hd (k H locs ls hW hS hl)
theorem g_ixor (C : gCx E X cc own ret F L Mc Ms ini mL) {x y : Int32} (hd : decode cc pc = .ok (.ixor, 1))  (k : gV E X q n G (pc + 1) lv (.int (x ^^^ y) :: st)) : gV E X q n G pc lv (.int y :: .int x :: st) := by
  obtain ⟨p, e, R, s, m, args, below, meth, c, Q, nL⟩ := X
  intro H locs ls hW hS hl
  exact lv_ixor C.1 C.2.1 hd (k H locs ls hW hS hl)
theorem g_ishl (C : gCx E X cc own ret F L Mc Ms ini mL) {x y : Int32} (hd : decode cc pc = .ok (.ishl, 1))  (k : gV E X q n G (pc + 1) lv (.int (x <<< (y &&& 31)) :: st)) : gV E X q n G pc lv (.int y :: .int x :: st) := by
  obtain ⟨p, e, R, s, m, args, below, meth, c, Q, nL⟩ := X
  intro H locs ls hW hS hl
  exact lv_ishl C.1 C.2.1 hd (k H locs ls hW hS hl)
theorem g_ishr (C : gCx E X cc own ret F L Mc Ms ini mL) {x y : Int32} (hd : decode cc pc = .ok (.ishr, 1))  (k : gV E X q n G (pc + 1) lv (.int (x >>> (y &&& 31)) :: st)) : gV E X q n G pc lv (.int y :: .int x :: st) := by
  obtain ⟨p, e, R, s, m, args, below, meth, c, Q, nL⟩ := X
  intro H locs ls hW hS hl
  exact lv_ishr C.1 C.2.1 hd (k H locs ls hW hS hl)
theorem g_ladd (C : gCx E X cc own ret F L Mc Ms ini mL) {x y : Int64} (hd : decode cc pc = .ok (.ladd, 1))  (k : gV E X q n G (pc + 1) lv (.long (x + y) :: st)) : gV E X q n G pc lv (.long y :: .long x :: st) := by
  obtain ⟨p, e, R, s, m, args, below, meth, c, Q, nL⟩ := X
  intro H locs ls hW hS hl
  exact lv_ladd C.1 C.2.1 hd (k H locs ls hW hS hl)
theorem g_lsub (C : gCx E X cc own ret F L Mc Ms ini mL) {x y : Int64} (hd : decode cc pc = .ok (.lsub, 1))  (k : gV E X q n G (pc + 1) lv (.long (x - y) :: st)) : gV E X q n G pc lv (.long y :: .long x :: st) := by
  obtain ⟨p, e, R, s, m, args, below, meth, c, Q, nL⟩ := X
  intro H locs ls hW hS hl
  exact lv_lsub C.1 C.2.1 hd (k H locs ls hW hS hl)
theorem g_lmul (C : gCx E X cc own ret F L Mc Ms ini mL) {x y : Int64} (hd : decode cc pc = .ok (.lmul, 1))  (k : gV E X q n G (pc + 1) lv (.long (x * y) :: st)) : gV E X q n G pc lv (.long y :: .long x :: st) := by
  obtain ⟨p, e, R, s, m, args, below, meth, c, Q, nL⟩ := X
  intro H locs ls hW hS hl
  exact lv_lmul C.1 C.2.1 hd (k H locs ls hW hS hl)
theorem g_land (C : gCx E X cc own ret F L Mc Ms ini mL) {x y : Int64} (hd : decode cc pc = .ok (.land, 1))  (k : gV E X q n G (pc + 1) lv (.long (x &&& y) :: st)) : gV E X q n G pc lv (.long y :: .long x :: st) := by
  obtain ⟨p, e, R, s, m, args, below, meth, c, Q, nL⟩ := X
  intro H locs ls hW hS hl
  exact lv_land C.1 C.2.1 hd (k H locs ls hW hS hl)
theorem g_lor (C : gCx E X cc own ret F L Mc Ms ini mL) {x y : Int64} (hd : decode cc pc = .ok (.lor, 1))  (k : gV E X q n G (pc + 1) lv (.long (x ||| y) :: st)) : gV E X q n G pc lv (.long y :: .long x :: st) := by
  obtain ⟨p, e, R, s, m, args, below, meth, c, Q, nL⟩ := X
  intro H locs ls hW hS hl
  exact lv_lor C.1 C.2.1 hd (k H locs ls hW hS hl)
theorem g_lxor (C : gCx E X cc own ret F L Mc Ms ini mL) {x y : Int64} (hd : decode cc pc = .ok (.lxor, 1))  (k : gV E X q n G (pc + 1) lv (.long (x ^^^ y) :: st)) : gV E X q n G pc lv (.long y :: .long x :: st) := by
  obtain ⟨p, e, R, s, m, args, below, meth, c, Q, nL⟩ := X
  intro H locs ls hW hS hl
  exact lv_lxor C.1 C.2.1 hd (k H locs ls hW hS hl)
theorem g_idiv (C : gCx E X cc own ret F L Mc Ms ini mL) {x y : Int32} (hd : decode cc pc = .ok (.idiv, 1)) (hy : ¬ y = 0) (k : gV E X q n G (pc + 1) lv (.int (x / y) :: st)) : gV E X q n G pc lv (.int y :: .int x :: st) := by
  obtain ⟨p, e, R, s, m, args, below, meth, c, Q, nL⟩ := X
  intro H locs ls hW hS hl
  exact lv_idiv C.1 C.2.1 hd hy (k H locs ls hW hS hl)
theorem g_irem (C : gCx E X cc own ret F L Mc Ms ini mL) {x y : Int32} (hd : decode cc pc = .ok (.irem, 1)) (hy : ¬ y = 0) (k : gV E X q n G (pc + 1) lv (.int (x - x / y * y) :: st)) : gV E X q n G pc lv (.int y :: .int x :: st) := by
  obtain ⟨p, e, R, s, m, args, below, meth, c, Q, nL⟩ := X
  intro H locs ls hW hS hl
  exact lv_irem C.1 C.2.1 hd hy (k H locs ls hW hS hl)
theorem g_ldiv (C : gCx E X cc own ret F L Mc Ms ini mL) {x y : Int64} (hd : decode cc pc = .ok (.ldiv, 1)) (hy : ¬ y = 0) (k : gV E X q n G (pc + 1) lv (.long (x / y) :: st)) : gV E X q n G pc lv (.long y :: .long x :: st) := by
  obtain ⟨p, e, R, s, m, args, below, meth, c, Q, nL⟩ := X
  intro H locs ls hW hS hl
  exact lv_ldiv C.1 C.2.1 hd hy (k H locs ls hW hS hl)
theorem g_lrem (C : gCx E X cc own ret F L Mc Ms ini mL) {x y : Int64} (hd : decode cc pc = .ok (.lrem, 1)) (hy : ¬ y = 0) (k : gV E X q n G (pc + 1) lv (.long (x - x / y * y) :: st)) : gV E X q n G pc lv (.long y :: .long x :: st) := by
  obtain ⟨p, e, R, s, m, args, below, meth, c, Q, nL⟩ := X
  intro H locs ls hW hS hl
  exact lv_lrem C.1 C.2.1 hd hy (k H locs ls hW hS hl)
theorem g_ineg (C : gCx E X cc own ret F L Mc Ms ini mL) {x : Int32} (hd : decode cc pc = .ok (.ineg, 1))  (k : gV E X q n G (pc + 1) lv (.int (-x) :: st)) : gV E X q n G pc lv (.int x :: st) := by
  obtain ⟨p, e, R, s, m, args, below, meth, c, Q, nL⟩ := X
  intro H locs ls hW hS hl
  exact lv_ineg C.1 C.2.1 hd (k H locs ls hW hS hl)
theorem g_i2l (C : gCx E X cc own ret F L Mc Ms ini mL) {x : Int32} (hd : decode cc pc = .ok (.i2l, 1))  (k : gV E X q n G (pc + 1) lv (.long x.toInt64 :: st)) : gV E X q n G pc lv (.int x :: st) := by
  obtain ⟨p, e, R, s, m, args, below, meth, c, Q, nL⟩ := X
  intro H locs ls hW hS hl
  exact lv_i2l C.1 C.2.1 hd rfl (k H locs ls hW hS hl)
theorem g_l2i (C : gCx E X cc own ret F L Mc Ms ini mL) {x : Int64} (hd : decode cc pc = .ok (.l2i, 1))  (k : gV E X q n G (pc + 1) lv (.int x.toInt32 :: st)) : gV E X q n G pc lv (.long x :: st) := by
  obtain ⟨p, e, R, s, m, args, below, meth, c, Q, nL⟩ := X
  intro H locs ls hW hS hl
  exact lv_l2i C.1 C.2.1 hd rfl (k H locs ls hW hS hl)
theorem g_lshl (C : gCx E X cc own ret F L Mc Ms ini mL) {x : Int64} {y : Int32} (hd : decode cc pc = .ok (.lshl, 1))  (k : gV E X q n G (pc + 1) lv (.long (x <<< (y.toInt64 &&& 63)) :: st)) : gV E X q n G pc lv (.int y :: .long x :: st) := by
  obtain ⟨p, e, R, s, m, args, below, meth, c, Q, nL⟩ := X
  intro H locs ls hW hS hl
  exact lv_lshl C.1 C.2.1 hd rfl (k H locs ls hW hS hl)
theorem g_lushr (C : gCx E X cc own ret F L Mc Ms ini mL) {x : Int64} {y : Int32} (hd : decode cc pc = .ok (.lushr, 1))  (k : gV E X q n G (pc + 1) lv (.long (x.toUInt64 >>> (y.toInt64.toUInt64 &&& Int64.toUInt64 63)).toInt64 :: st)) : gV E X q n G pc lv (.int y :: .long x :: st) := by
  obtain ⟨p, e, R, s, m, args, below, meth, c, Q, nL⟩ := X
  intro H locs ls hW hS hl
  exact lv_lushr C.1 C.2.1 hd rfl (k H locs ls hW hS hl)
theorem g_lcmp (C : gCx E X cc own ret F L Mc Ms ini mL) {x y : Int64} (hd : decode cc pc = .ok (.lcmp, 1))  (k : gV E X q n G (pc + 1) lv (.int (lg_cmp x y) :: st)) : gV E X q n G pc lv (.long y :: .long x :: st) := by
  obtain ⟨p, e, R, s, m, args, below, meth, c, Q, nL⟩ := X
  intro H locs ls hW hS hl
  exact W.lcmp C.1 C.2.1 hd (k H locs ls hW hS hl)
theorem g_dup (C : gCx E X cc own ret F L Mc Ms ini mL) {va : Value} (hd : decode cc pc = .ok (.dup, 1)) (hv : va.category = 1) (k : gV E X q n G (pc + 1) lv (va :: va :: st)) : gV E X q n G pc lv (va :: st) := by
  obtain ⟨p, e, R, s, m, args, below, meth, c, Q, nL⟩ := X
  intro H locs ls hW hS hl
  exact lv_dup C.1 C.2.1 hd hv (k H locs ls hW hS hl)
theorem g_dup2 (C : gCx E X cc own ret F L Mc Ms ini mL) {va vb : Value} (hd : decode cc pc = .ok (.dup2, 1)) (hv : va.category = 1) (hw : vb.category = 1) (k : gV E X q n G (pc + 1) lv (va :: vb :: va :: vb :: st)) : gV E X q n G pc lv (va :: vb :: st) := by
  obtain ⟨p, e, R, s, m, args, below, meth, c, Q, nL⟩ := X
  intro H locs ls hW hS hl
  exact lv_dup2_11 C.1 C.2.1 hd hv hw (k H locs ls hW hS hl)
theorem g_pop (C : gCx E X cc own ret F L Mc Ms ini mL) {va : Value} (hd : decode cc pc = .ok (.pop, 1)) (hv : va.category = 1) (k : gV E X q n G (pc + 1) lv (st)) : gV E X q n G pc lv (va :: st) := by
  obtain ⟨p, e, R, s, m, args, below, meth, c, Q, nL⟩ := X
  intro H locs ls hW hS hl
  exact lv_pop C.1 C.2.1 hd hv (k H locs ls hW hS hl)
theorem g_if_eq (C : gCx E X cc own ret F L Mc Ms ini mL) {x : Int32} {off : Int} {tgt : Nat} (hd : decode cc pc = .ok (.ifCond .eq off, 3)) (ht : (pc : Int) + off = (tgt : Int)) (kt : x = 0 → gV E X q n G tgt lv st) (kf : ¬ x = 0 → gV E X q n G (pc + 3) lv st) : gV E X q n G pc lv (.int x :: st) := by
  obtain ⟨p, e, R, s, m, args, below, meth, c, Q, nL⟩ := X
  intro H locs ls hW hS hl
  exact lv_if_eq C.1 C.2.1 hd ht (fun h => kt h H locs ls hW hS hl) (fun h => kf h H locs ls hW hS hl)
theorem g_icmp_eq (C : gCx E X cc own ret F L Mc Ms ini mL) {x y : Int32} {off : Int} {tgt : Nat} (hd : decode cc pc = .ok (.if_icmp .eq off, 3)) (ht : (pc : Int) + off = (tgt : Int)) (kt : x = y → gV E X q n G tgt lv st) (kf : ¬ x = y → gV E X q n G (pc + 3) lv st) : gV E X q n G pc lv (.int y :: .int x :: st) := by
  obtain ⟨p, e, R, s, m, args, below, meth, c, Q, nL⟩ := X
  intro H locs ls hW hS hl
  exact lv_icmp_eq C.1 C.2.1 hd ht (fun h => kt h H locs ls hW hS hl) (fun h => kf h H locs ls hW hS hl)
theorem g_if_ne (C : gCx E X cc own ret F L Mc Ms ini mL) {x : Int32} {off : Int} {tgt : Nat} (hd : decode cc pc = .ok (.ifCond .ne off, 3)) (ht : (pc : Int) + off = (tgt : Int)) (kt : ¬ x = 0 → gV E X q n G tgt lv st) (kf : x = 0 → gV E X q n G (pc + 3) lv st) : gV E X q n G pc lv (.int x :: st) := by
  obtain ⟨p, e, R, s, m, args, below, meth, c, Q, nL⟩ := X
  intro H locs ls hW hS hl
  exact lv_if_ne C.1 C.2.1 hd ht (fun h => kt h H locs ls hW hS hl) (fun h => kf h H locs ls hW hS hl)
theorem g_icmp_ne (C : gCx E X cc own ret F L Mc Ms ini mL) {x y : Int32} {off : Int} {tgt : Nat} (hd : decode cc pc = .ok (.if_icmp .ne off, 3)) (ht : (pc : Int) + off = (tgt : Int)) (kt : ¬ x = y → gV E X q n G tgt lv st) (kf : x = y → gV E X q n G (pc + 3) lv st) : gV E X q n G pc lv (.int y :: .int x :: st) := by
  obtain ⟨p, e, R, s, m, args, below, meth, c, Q, nL⟩ := X
  intro H locs ls hW hS hl
  exact lv_icmp_ne C.1 C.2.1 hd ht (fun h => kt h H locs ls hW hS hl) (fun h => kf h H locs ls hW hS hl)
theorem g_if_lt (C : gCx E X cc own ret F L Mc Ms ini mL) {x : Int32} {off : Int} {tgt : Nat} (hd : decode cc pc = .ok (.ifCond .lt off, 3)) (ht : (pc : Int) + off = (tgt : Int)) (kt : x < 0 → gV E X q n G tgt lv st) (kf : ¬ x < 0 → gV E X q n G (pc + 3) lv st) : gV E X q n G pc lv (.int x :: st) := by
  obtain ⟨p, e, R, s, m, args, below, meth, c, Q, nL⟩ := X
  intro H locs ls hW hS hl
  exact lv_if_lt C.1 C.2.1 hd ht (fun h => kt h H locs ls hW hS hl) (fun h => kf h H locs ls hW hS hl)
theorem g_icmp_lt (C : gCx E X cc own ret F L Mc Ms ini mL) {x y : Int32} {off : Int} {tgt : Nat} (hd : decode cc pc = .ok (.if_icmp .lt off, 3)) (ht : (pc : Int) + off = (tgt : Int)) (kt : x < y → gV E X q n G tgt lv st) (kf : ¬ x < y → gV E X q n G (pc + 3) lv st) : gV E X q n G pc lv (.int y :: .int x :: st) := by
  obtain ⟨p, e, R, s, m, args, below, meth, c, Q, nL⟩ := X
  intro H locs ls hW hS hl
  exact lv_icmp_lt C.1 C.2.1 hd ht (fun h => kt h H locs ls hW hS hl) (fun h => kf h H locs ls hW hS hl)
theorem g_if_ge (C : gCx E X cc own ret F L Mc Ms ini mL) {x : Int32} {off : Int} {tgt : Nat} (hd : decode cc pc = .ok (.ifCond .ge off, 3)) (ht : (pc : Int) + off = (tgt : Int)) (kt : 0 ≤ x → gV E X q n G tgt lv st) (kf : ¬ 0 ≤ x → gV E X q n G (pc + 3) lv st) : gV E X q n G pc lv (.int x :: st) := by
  obtain ⟨p, e, R, s, m, args, below, meth, c, Q, nL⟩ := X
  intro H locs ls hW hS hl
  exact lv_if_ge C.1 C.2.1 hd ht (fun h => kt h H locs ls hW hS hl) (fun h => kf h H locs ls hW hS hl)
theorem g_icmp_ge (C : gCx E X cc own ret F L Mc Ms ini mL) {x y : Int32} {off : Int} {tgt : Nat} (hd : decode cc pc = .ok (.if_icmp .ge off, 3)) (ht : (pc : Int) + off = (tgt : Int)) (kt : y ≤ x → gV E X q n G tgt lv st) (kf : ¬ y ≤ x → gV E X q n G (pc + 3) lv st) : gV E X q n G pc lv (.int y :: .int x :: st) := by
  obtain ⟨p, e, R, s, m, args, below, meth, c, Q, nL⟩ := X
  intro H locs ls hW hS hl
  exact lv_icmp_ge C.1 C.2.1 hd ht (fun h => kt h H locs ls hW hS hl) (fun h => kf h H locs ls hW hS hl)
theorem g_if_gt (C : gCx E X cc own ret F L Mc Ms ini mL) {x : Int32} {off : Int} {tgt : Nat} (hd : decode cc pc = .ok (.ifCond .gt off, 3)) (ht : (pc : Int) + off = (tgt : Int)) (kt : 0 < x → gV E X q n G tgt lv st) (kf : ¬ 0 < x → gV E X q n G (pc + 3) lv st) : gV E X q n G pc lv (.int x :: st) := by
  obtain ⟨p, e, R, s, m, args, below, meth, c, Q, nL⟩ := X
  intro H locs ls hW hS hl
  exact lv_if_gt C.1 C.2.1 hd ht (fun h => kt h H locs ls hW hS hl) (fun h => kf h H locs ls hW hS hl)
theorem g_icmp_gt (C : gCx E X cc own ret F L Mc Ms ini mL) {x y : Int32} {off : Int} {tgt : Nat} (hd : decode cc pc = .ok (.if_icmp .gt off, 3)) (ht : (pc : Int) + off = (tgt : Int)) (kt : y < x → gV E X q n G tgt lv st) (kf : ¬ y < x → gV E X q n G (pc + 3) lv st) : gV E X q n G pc lv (.int y :: .int x :: st) := by
  obtain ⟨p, e, R, s, m, args, below, meth, c, Q, nL⟩ := X
  intro H locs ls hW hS hl
  exact lv_icmp_gt C.1 C.2.1 hd ht (fun h => kt h H locs ls hW hS hl) (fun h => kf h H locs ls hW hS hl)
theorem g_if_le (C : gCx E X cc own ret F L Mc Ms ini mL) {x : Int32} {off : Int} {tgt : Nat} (hd : decode cc pc = .ok (.ifCond .le off, 3)) (ht : (pc : Int) + off = (tgt : Int)) (kt : x ≤ 0 → gV E X q n G tgt lv st) (kf : ¬ x ≤ 0 → gV E X q n G (pc + 3) lv st) : gV E X q n G pc lv (.int x :: st) := by
  obtain ⟨p, e, R, s, m, args, below, meth, c, Q, nL⟩ := X
  intro H locs ls hW hS hl
  exact lv_if_le C.1 C.2.1 hd ht (fun h => kt h H locs ls hW hS hl) (fun h => kf h H locs ls hW hS hl)
theorem g_icmp_le (C : gCx E X cc own ret F L Mc Ms ini mL) {x y : Int32} {off : Int} {tgt : Nat} (hd : decode cc pc = .ok (.if_icmp .le off, 3)) (ht : (pc : Int) + off = (tgt : Int)) (kt : x ≤ y → gV E X q n G tgt lv st) (kf : ¬ x ≤ y → gV E X q n G (pc + 3) lv st) : gV E X q n G pc lv (.int y :: .int x :: st) := by
  obtain ⟨p, e, R, s, m, args, below, meth, c, Q, nL⟩ := X
  intro H locs ls hW hS hl
  exact lv_icmp_le C.1 C.2.1 hd ht (fun h => kt h H locs ls hW hS hl) (fun h => kf h H locs ls hW hS hl)
theorem g_goto (C : gCx E X cc own ret F L Mc Ms ini mL) {off : Int} {tgt : Nat} (hd : decode cc pc = .ok (.goto off, 3)) (ht : (pc : Int) + off = (tgt : Int)) (k : gV E X q n G tgt lv st) : gV E X q n G pc lv st := by
  obtain ⟨p, e, R, s, m, args, below, meth, c, Q, nL⟩ := X
  intro H locs ls hW hS hl
  exact lv_goto C.1 C.2.1 hd ht (k H locs ls hW hS hl)
theorem g_tabIn (C : gCx E X cc own ret F L Mc Ms ini mL) {dflt lo hi : Int} {offs : Array Int} {len : Nat} {x : Int32} {off : Int} {tgt : Nat} (hd : decode cc pc = .ok (.tableswitch dflt lo hi offs, len)) (z : Int) (hx : x.toInt = z) (h1 : ¬ z < lo) (h2 : ¬ hi < z) (ho : offs[(z - lo).toNat]? = some off) (ht : (pc : Int) + off = (tgt : Int)) (k : gV E X q n G tgt lv st) : gV E X q n G pc lv (.int x :: st) := by
  obtain ⟨p, e, R, s, m, args, below, meth, c, Q, nL⟩ := X
  intro H locs ls hW hS hl
  subst hx
  exact lv_tableIn C.1 C.2.1 hd h1 h2 ho ht (k H locs ls hW hS hl)
theorem g_tabOut (C : gCx E X cc own ret F L Mc Ms ini mL) {dflt lo hi : Int} {offs : Array Int} {len : Nat} {x : Int32} {tgt : Nat} (hd : decode cc pc = .ok (.tableswitch dflt lo hi offs, len)) (h : x.toInt < lo ∨ hi < x.toInt) (ht : (pc : Int) + dflt = (tgt : Int)) (k : gV E X q n G tgt lv st) : gV E X q n G pc lv (.int x :: st) := by
  obtain ⟨p, e, R, s, m, args, below, meth, c, Q, nL⟩ := X
  intro H locs ls hW hS hl
  exact lv_tableOut C.1 C.2.1 hd h ht (k H locs ls hW hS hl)
/-- fewer locals are known from here on -/
theorem g_sub {lv' : List (Option Value)} (h : lvs lv lv') (k : gV E X q n G pc lv' st) : gV E X q n G pc lv st := by
  obtain ⟨p, e, R, s, m, args, below, meth, c, Q, nL⟩ := X
  intro H locs ls hW hS hl
  exact k H locs ls hW hS (hl.sub (lvs_get _ _ h))
theorem g_wide {q' n' : Nat} (hq : q ≤ q') (hn : n ≤ n') (k : gV E X q' n' G pc lv st) : gV E X q n G pc lv st := by
  obtain ⟨p, e, R, s, m, args, below, meth, c, Q, nL⟩ := X
  intro H locs ls hW hS hl
  exact W.widen hq hn (k H locs ls hW hS hl)
end GR
