/-! ===== contracts, calls, returns, making, copying ===== -/
def gPc (E : EE) (av : List Value) (G : Hp) : Array Value → State → Prop := fun v U => v = av.toArray ∧ gWd E G U.heap ∧ gKn E U
def gQc (E : EE) (rv : Option Value) (G' : Hp) : Array Value → State → Outcome → State → Prop := fun _ st oc t => oc = .returned rv ∧ gWd E G' t.heap ∧ va_F (fun q => E.2.1 ≤ q) st t
/-- method y, from the picture G with the arguments av, answers rv and leaves the picture G' -/
def gCt (E : EE) (y : MethodName) (cc : ByteArray) (mL : Nat) (ret : Option FieldType) (F L Mc Ms : Nat) (av : List Value) (G : Hp) (rv : Option Value) (G' : Hp) : Prop :=
  Met E.1 y (Cond.code y cc mL ret :: TB) { frames := F, cells := Mc, slots := Ms, locals := L } (gPc E av G) (gQc E rv G') Mc Ms (fun q => E.2.1 ≤ q)
theorem gPc_blind (E : EE) (av : List Value) (G : Hp) : FrameBlind (gPc E av G) := fun a U g mk h => ⟨h.1, h.2.1, gKn.same rfl rfl h.2.2⟩
theorem lvp_of {ls : Array Slot} {nL : Nat} {l : List (Nat × Value)} {lv : List (Option Value)} (h : lv_has ls nL l) (hs : ∀ (i : Nat) (v : Value), lv[i]? = some (some v) → (i, v) ∈ l) : lvp ls nL lv := ⟨h.1, h.2.1, fun i v hv => h.2.2 (i, v) (hs i v hv)⟩
/-- the places of a list of locals all stand in another list: checked by running -/
def lve : List (Option Value) → Nat → List (Nat × Value) → Prop
  | [], _, _ => True
  | none :: t, i, l => lve t (i + 1) l
  | some v :: t, i, l => l.head? = some (i, v) ∧ lve t (i + 1) l.tail
theorem lve_get : ∀ (t : List (Option Value)) (i : Nat) (l : List (Nat × Value)), lve t i l → ∀ (j : Nat) (v : Value), t[j]? = some (some v) → (i + j, v) ∈ l
  | [], i, l, _, j, v, h => by simp at h
  | none :: t, i, l, h, 0, v, hv => by simp at hv
  | some w :: t, i, l, h, 0, v, hv => by
    simp only [List.getElem?_cons_zero, Option.some.injEq] at hv
    subst hv
    exact List.mem_of_mem_head? h.1
  | none :: t, i, l, h, j + 1, v, hv => by
    have h2 := lve_get t (i + 1) l h j v (by simpa using hv)
    rwa [show i + 1 + j = i + (j + 1) by omega] at h2
  | some w :: t, i, l, h, j + 1, v, hv => by
    have h2 := lve_get t (i + 1) l.tail h.2 j v (by simpa using hv)
    rw [show i + 1 + j = i + (j + 1) by omega] at h2
    exact List.mem_of_mem_tail h2
theorem gCt_of {E : EE} {y : MethodName} {cc : ByteArray} {mL : Nat} {ret : Option FieldType} {F L Mc Ms : Nat} {av : List Value} {G : Hp} {rv : Option Value} {G' : Hp} {own : String} {ini : Bool} (lv0 : List (Option Value))
    (hy : plainName y.cls = true) (hown : y.cls = own) (hini : ini = true → y.name = "<init>") (hlen : (lg_sl av).length ≤ mL) (h0 : lve lv0 0 (lv_args 0 av))
    (body : ∀ X : CT, gCx E X cc own ret F L Mc Ms ini mL → gRet E X cc ret Mc Ms rv G' → gV E X 0 0 G 0 lv0 []) : gCt E y cc mL ret F L Mc Ms av G rv G' := by
  refine Met.ofW (cc := cc) (maxL := mL) (ret := ret) hy rfl ?_
  intro p e s m args below meth c s₁ B hml hv
  obtain ⟨rfl, hW, hK⟩ := hv
  have hts := atoms_spec (ws := Cond.code y cc mL ret :: TB) B.pre
  have hl := lv_entry av (n := mL) hlen
  rw [lg_entry_eq]
  generalize (lg_sl av ++ List.replicate (mL - (lg_sl av).length) Slot.unset).toArray = ls at hl ⊢
  have hb := B.bytes
  refine body (p, e, _, s, m, av.toArray, below, meth, c, _, mL) ⟨B.exec, B.bytes, ⟨hml, rfl⟩, by rw [← hown]; exact findClass_of_methodNamed B.named, fun w hw => hts w (List.mem_cons_of_mem _ hw), hK, ⟨Nat.le_refl _, Nat.le_refl _, Nat.le_refl _, Nat.le_refl _⟩, B.notSynchronized, B.returns, fun h => (name_of_methodNamed B.named B.method).1.trans (hini h)⟩ ?_ s.heap [] ls hW va_S.rf (lvp_of hl (fun i v hv => by have := lve_get _ _ _ h0 i v hv; rwa [Nat.zero_add] at this))
  intro pc lv hm H locs ls' hWd hS hl'
  match rv, hm with
  | none, ⟨hd, hrt⟩ => exact W.vret B.exec hb (B.returns.trans hrt) (fun t ht hW2 => ⟨rfl, by rw [ht]; exact hWd, hS.F ht⟩) hS.2.2 hd B.notSynchronized
  | some (.int v), ⟨hd, ty, hrt, hnr⟩ => exact W.zret (v := v) B.exec hb (B.returns.trans hrt) hnr (fun t ht hW2 => ⟨rfl, by rw [ht]; exact hWd, hS.F ht⟩) hS.2.2 hd B.notSynchronized
  | some (.long v), ⟨hd, hrt⟩ => exact W.lret (v := v) B.exec hb (B.returns.trans hrt) (fun t ht hW2 => ⟨rfl, by rw [ht]; exact hWd, hS.F ht⟩) hS.2.2 hd B.notSynchronized
  | some (.ref v), ⟨hd, t, hrt⟩ => exact W.aret (v := .ref v) B.exec hb (B.returns.trans hrt) (Or.inl ⟨t, rfl⟩) (Or.inr ⟨v, rfl⟩) (fun t ht hW2 => ⟨rfl, by rw [ht]; exact hWd, hS.F ht⟩) hS.2.2 hd B.notSynchronized
section GC
variable {E : EE} {X : CT} {cc : ByteArray} {own : String} {ret : Option FieldType} {F L Mc Ms : Nat} {ini : Bool} {mL : Nat} {q n : Nat} {G : Hp} {pc : Nat} {lv : List (Option Value)} {st : List Value}
theorem gIn {y : MethodName} {cc : ByteArray} {mL : Nat} {ret : Option FieldType} (h : Cond.code y cc mL ret ∈ TB) : GoodIn TB (Cond.code y cc mL ret :: TB) := fun w hw => (List.mem_cons.mp hw).elim (fun e => by rw [e]; exact ⟨h, good_of_word (tb_good _ h)⟩) (fun hw => ⟨hw, good_of_word (tb_good _ hw)⟩)
/-- behind a call -/
theorem g_after {y : MethodName} {G' : Hp} {rv : Option Value} {p : Program} {e : Env} {R : Room} {s : State} {m : MethodId} {args : Array Value} {below : List Frame} {meth : Method} {c : Code} {Q : State → Prop} {nL mc ms : Nat} {H : Heap} {locs : List Loc} {ls : Array Slot} {st0 : List Value} {a : Array Value}
    (hr : va_Run p E.1 e R s m args below meth c H locs q n mc ms (F0 m pc ls st0) st (gQc E rv G' a) (fun q => E.2.1 ≤ q)) (hS : va_S (fun q => E.2.1 ≤ q) s.heap H locs) (hl : lvp ls nL lv)
    (kk : gV E (p, e, R, s, m, args, below, meth, c, Q, nL) (q + mc) (n + ms) G' (pc + 3) lv (rv.toList ++ st)) : W p E.1 e R s m args below meth c H locs q n Q (F0 m pc ls st0) := by
  intro T hT X
  obtain ⟨v, st₀, t, T', L, h0, X', hL, e1, e2, ⟨hv, hWd, hF⟩, stp⟩ := hr T hT X
  cases hv
  have hz : H.size ≤ t.heap.size := by rw [← h0]; exact hF.1
  obtain ⟨t2, a1, b1⟩ := kk t.heap (locs ++ L) ls hWd ⟨Nat.le_trans hS.1 hz, fun x h1 h2 => by
      rw [hF.2 x (by rw [h0]; exact Nat.lt_of_lt_of_le h1 hS.1) h2, h0]
      exact hS.2.1 x h1 h2, fun x hx => by
      rcases List.mem_append.mp hx with h | h
      · exact hS.2.2 x h
      · exact hL x h⟩ hl T' e1 X'
  exact ⟨t2, stp t2 a1, b1⟩
/-- what a call's names must be: how many arguments, no method handle -/
def CN (y : MethodName) (na : Nat) : Prop := y.cls ≠ "java/lang/invoke/MethodHandle" ∧ y.cls ≠ "java/lang/invoke/VarHandle" ∧ (parseMethodDescriptor y.desc).map (fun d => d.parameters.length) = some na
theorem g_invV (C : gCx E X cc own ret F L Mc Ms ini mL) {idx na ci a F' L' Mc' Ms' mL' : Nat} {y : MethodName} {cc' : ByteArray} {ret' : Option FieldType} {As : List Value} {rv : Option Value} {G' : Hp} {T : u_T} {N : Nat}
    (hM : gCt E y cc' mL' ret' F' L' Mc' Ms' (.ref (E.2.1 + a) :: As) G rv G')
    (hc : vwCl[ci]? = some (y.cls, T, N)) (hci : ci < 11) (hg : a < h_n G ∧ h_k G a = ci)
    (h1 : Cond.methodLink own idx y ∈ TB) (h2 : Cond.instanceMethod y ∈ TB) (h3 : Cond.selects y.cls y y ∈ TB) (h4 : Cond.initialized y.cls ∈ TB) (h5 : Cond.code y cc' mL' ret' ∈ TB) (hn : CN y na) (hna : As.length = na)
    (hR : F' + 1 ≤ F ∧ 8 + (mL' + 11) + L' ≤ L ∧ q + Mc' ≤ Mc ∧ n + Ms' ≤ Ms) (hW : (st.map fun v => v.category).sum ≤ 8) {st0 : List Value} (hst : st0 = As.reverse ++ .ref (E.2.1 + a) :: st) (hd : decode cc pc = .ok (.invokevirtual idx, 3))
    (kk : gV E X (q + Mc') (n + Ms') G' (pc + 3) lv (rv.toList ++ st)) : gV E X q n G pc lv st0 := by
  obtain ⟨p, e, R, s, m, args, below, meth, c, Q, nL⟩ := X
  intro H locs ls hWd hS hl
  subst hst
  obtain ⟨C1, C2, C3, C4, C5, C6, C7, C8, C9, C10⟩ := C
  have he : (g_wl E G)[a]? = some (E.2.1 + a, .inr (ci, f_go (f_v E.2.1 G a) (fty ci) 0)) := by rw [wl_get hg.1, ent_o hg.2 hci]
  have hlen : ∀ sig, parseMethodDescriptor y.desc = some sig → na = sig.parameters.length := fun sig hsig => by
    have h := hn.2.2
    rw [hsig] at h
    exact (Option.some.inj h).symm
  refine g_after (y := y) (va_runV (Ts := TB) (C := y.cls) (own := own) ⟨C1, C2, C3.1, C4, C5⟩ hM ⟨⟨rfl, rfl, Nat.le_trans hR.1 C7.1, Nat.le_trans hR.2.1 C7.2.1, pay_in C5 (gIn h5), List.mem_cons_self, C5 _ h5, C5 _ h4, ⟨hn.1, hn.2.1⟩, hlen, C5 _ h1⟩, C5 _ h2, C5 _ h3⟩ ⟨gPc_blind _ _ _, va_recv C6.1 hWd.1 hc he, fun U hU hWm => ⟨rfl, by rw [hU]; exact hWd, gKn.warm hS hU hWm C6⟩⟩ rfl hna hl.1 rfl (lv_room hW) hd ⟨Nat.le_trans hR.2.2.1 C7.2.2.1, Nat.le_trans hR.2.2.2 C7.2.2.2⟩) hS hl kk
theorem g_invS (C : gCx E X cc own ret F L Mc Ms ini mL) {idx na F' L' Mc' Ms' mL' : Nat} {y : MethodName} {cc' : ByteArray} {ret' : Option FieldType} {As : List Value} {rv : Option Value} {G' : Hp}
    (hM : gCt E y cc' mL' ret' F' L' Mc' Ms' As G rv G')
    (h1 : Cond.methodLink own idx y ∈ TB) (h2 : Cond.static y ∈ TB) (h4 : Cond.initialized y.cls ∈ TB) (h5 : Cond.code y cc' mL' ret' ∈ TB) (hn : CN y na) (hna : As.length = na)
    (hR : F' + 1 ≤ F ∧ 8 + (mL' + 11) + L' ≤ L ∧ q + Mc' ≤ Mc ∧ n + Ms' ≤ Ms) (hW : (st.map fun v => v.category).sum ≤ 8) {st0 : List Value} (hst : st0 = As.reverse ++ st) (hd : decode cc pc = .ok (.invokestatic idx, 3))
    (kk : gV E X (q + Mc') (n + Ms') G' (pc + 3) lv (rv.toList ++ st)) : gV E X q n G pc lv st0 := by
  obtain ⟨p, e, R, s, m, args, below, meth, c, Q, nL⟩ := X
  intro H locs ls hWd hS hl
  subst hst
  obtain ⟨C1, C2, C3, C4, C5, C6, C7, C8, C9, C10⟩ := C
  have hlen : ∀ sig, parseMethodDescriptor y.desc = some sig → na = sig.parameters.length := fun sig hsig => by
    have h := hn.2.2
    rw [hsig] at h
    exact (Option.some.inj h).symm
  refine g_after (y := y) (va_runS (Ts := TB) (own := own) ⟨C1, C2, C3.1, C4, C5⟩ hM ⟨⟨rfl, rfl, Nat.le_trans hR.1 C7.1, Nat.le_trans hR.2.1 C7.2.1, pay_in C5 (gIn h5), List.mem_cons_self, C5 _ h5, C5 _ h4, ⟨hn.1, hn.2.1⟩, hlen, C5 _ h1⟩, C5 _ h2⟩ ⟨gPc_blind _ _ _, fun U hU hWm => ⟨rfl, by rw [hU]; exact hWd, gKn.warm hS hU hWm C6⟩⟩ rfl hna hl.1 rfl (lv_room hW) hd ⟨Nat.le_trans hR.2.2.1 C7.2.2.1, Nat.le_trans hR.2.2.2 C7.2.2.2⟩) hS hl kk
theorem g_invSN (C : gCx E X cc own ret F L Mc Ms ini mL) {idx na F' L' Mc' Ms' mL' : Nat} {y : MethodName} {cc' : ByteArray} {ret' : Option FieldType} {As : List Value} {rv : Option Value} {G' : Hp} {host : String}
    (hM : gCt E y cc' mL' ret' F' L' Mc' Ms' As G rv G')
    (h1 : (own, idx, y, host) ∈ nwL) (h2 : Cond.static y ∈ TB) (h4 : Cond.initialized y.cls ∈ TB) (h5 : Cond.code y cc' mL' ret' ∈ TB) (hn : CN y na) (hna : As.length = na)
    (hR : F' + 1 ≤ F ∧ 8 + (mL' + 11) + L' ≤ L ∧ q + Mc' ≤ Mc ∧ n + Ms' ≤ Ms) (hW : (st.map fun v => v.category).sum ≤ 8) {st0 : List Value} (hst : st0 = As.reverse ++ st) (hd : decode cc pc = .ok (.invokestatic idx, 3))
    (kk : gV E X (q + Mc') (n + Ms') G' (pc + 3) lv (rv.toList ++ st)) : gV E X q n G pc lv st0 := by
  obtain ⟨p, e, R, s, m, args, below, meth, c, Q, nL⟩ := X
  intro H locs ls hWd hS hl
  subst hst
  obtain ⟨C1, C2, C3, C4, C5, C6, C7, C8, C9, C10⟩ := C
  refine g_after (y := y) (va_runSN (Ts := TB) (own := own) ⟨C1, C2, C3.1, C4, C5⟩ hM ⟨va_cnB na C5 (gIn h5) rfl rfl rfl (C6.2.1 _ h1) (C5 _ h4) hn ⟨Nat.le_trans hR.1 C7.1, Nat.le_trans hR.2.1 C7.2.1⟩, C5 _ h2, trivial⟩ ⟨gPc_blind _ _ _, fun U hU hWm => ⟨rfl, by rw [hU]; exact hWd, gKn.warm hS hU hWm C6⟩⟩ rfl hna hl.1 rfl (lv_room hW) hd ⟨Nat.le_trans hR.2.2.1 C7.2.2.1, Nat.le_trans hR.2.2.2 C7.2.2.2⟩) hS hl kk
theorem g_invI (C : gCx E X cc own ret F L Mc Ms ini mL) {idx na a F' L' Mc' Ms' mL' : Nat} {y : MethodName} {cc' : ByteArray} {As : List Value} {G' : Hp}
    (hM : gCt E y cc' mL' none F' L' Mc' Ms' (.ref (E.2.1 + a) :: As) G none G')
    (h1 : Cond.methodLink own idx y ∈ TB) (h2 : Cond.instanceMethod y ∈ TB) (h4 : Cond.initialized y.cls ∈ TB) (h5 : Cond.code y cc' mL' none ∈ TB) (hy : y.name = "<init>") (hn : CN y na) (hna : As.length = na)
    (hR : F' + 1 ≤ F ∧ 8 + (mL' + 11) + L' ≤ L ∧ q + Mc' ≤ Mc ∧ n + Ms' ≤ Ms) (hW : (st.map fun v => v.category).sum ≤ 8) {st0 : List Value} (hst : st0 = As.reverse ++ .ref (E.2.1 + a) :: st) (hd : decode cc pc = .ok (.invokespecial idx, 3))
    (kk : gV E X (q + Mc') (n + Ms') G' (pc + 3) lv st) : gV E X q n G pc lv st0 := by
  obtain ⟨p, e, R, s, m, args, below, meth, c, Q, nL⟩ := X
  intro H locs ls hWd hS hl
  subst hst
  obtain ⟨C1, C2, C3, C4, C5, C6, C7, C8, C9, C10⟩ := C
  have hlen : ∀ sig, parseMethodDescriptor y.desc = some sig → na = sig.parameters.length := fun sig hsig => by
    have h := hn.2.2
    rw [hsig] at h
    exact (Option.some.inj h).symm
  refine g_after (y := y) (va_runI (Ts := TB) (own := own) ⟨C1, C2, C3.1, C4, C5⟩ hM ⟨⟨rfl, rfl, Nat.le_trans hR.1 C7.1, Nat.le_trans hR.2.1 C7.2.1, pay_in C5 (gIn h5), List.mem_cons_self, C5 _ h5, C5 _ h4, ⟨hn.1, hn.2.1⟩, hlen, C5 _ h1⟩, hy, C5 _ h2⟩ ⟨gPc_blind _ _ _, fun U hU hWm => ⟨rfl, by rw [hU]; exact hWd, gKn.warm hS hU hWm C6⟩⟩ rfl hna hl.1 rfl (lv_room hW) hd ⟨Nat.le_trans hR.2.2.1 C7.2.2.1, Nat.le_trans hR.2.2.2 C7.2.2.2⟩) hS hl kk
theorem g_invIN (C : gCx E X cc own ret F L Mc Ms ini mL) {idx na a F' L' Mc' Ms' mL' : Nat} {y : MethodName} {cc' : ByteArray} {As : List Value} {G' : Hp} {host : String}
    (hM : gCt E y cc' mL' none F' L' Mc' Ms' (.ref (E.2.1 + a) :: As) G none G')
    (h1 : (own, idx, y, host) ∈ nwL) (h2 : Cond.instanceMethod y ∈ TB) (h4 : Cond.initialized y.cls ∈ TB) (h5 : Cond.code y cc' mL' none ∈ TB) (hy : y.name = "<init>") (hn : CN y na) (hna : As.length = na)
    (hR : F' + 1 ≤ F ∧ 8 + (mL' + 11) + L' ≤ L ∧ q + Mc' ≤ Mc ∧ n + Ms' ≤ Ms) (hW : (st.map fun v => v.category).sum ≤ 8) {st0 : List Value} (hst : st0 = As.reverse ++ .ref (E.2.1 + a) :: st) (hd : decode cc pc = .ok (.invokespecial idx, 3))
    (kk : gV E X (q + Mc') (n + Ms') G' (pc + 3) lv st) : gV E X q n G pc lv st0 := by
  obtain ⟨p, e, R, s, m, args, below, meth, c, Q, nL⟩ := X
  intro H locs ls hWd hS hl
  subst hst
  obtain ⟨C1, C2, C3, C4, C5, C6, C7, C8, C9, C10⟩ := C
  refine g_after (y := y) (va_runIN (Ts := TB) (own := own) ⟨C1, C2, C3.1, C4, C5⟩ hM ⟨va_cnB na C5 (gIn h5) rfl rfl rfl (C6.2.1 _ h1) (C5 _ h4) hn ⟨Nat.le_trans hR.1 C7.1, Nat.le_trans hR.2.1 C7.2.1⟩, hy, C5 _ h2⟩ ⟨gPc_blind _ _ _, fun U hU hWm => ⟨rfl, by rw [hU]; exact hWd, gKn.warm hS hU hWm C6⟩⟩ rfl hna hl.1 rfl (lv_room hW) hd ⟨Nat.le_trans hR.2.2.1 C7.2.2.1, Nat.le_trans hR.2.2.2 C7.2.2.2⟩) hS hl kk
theorem g_vret (hR : gRet E X cc none q n none G) (hd : decode cc pc = .ok (.return_, 1)) : gV E X q n G pc lv [] := hR pc lv ⟨hd, rfl⟩
theorem g_iret {v : Int32} (hR : gRet E X cc (some .int) q n (some (.int v)) G) (hd : decode cc pc = .ok (.ireturn, 1)) : gV E X q n G pc lv [.int v] := hR pc lv ⟨hd, .int, rfl, rfl⟩
theorem g_zret {v : Int32} (hR : gRet E X cc (some .boolean) q n (some (.int v)) G) (hv : v = 0 ∨ v = 1) (hd : decode cc pc = .ok (.ireturn, 1)) : gV E X q n G pc lv [.int v] := hR pc lv ⟨hd, .boolean, rfl, by rcases hv with rfl | rfl <;> rfl⟩
theorem g_lret {v : Int64} (hR : gRet E X cc (some .long) q n (some (.long v)) G) (hd : decode cc pc = .ok (.lreturn, 1)) : gV E X q n G pc lv [.long v] := hR pc lv ⟨hd, rfl⟩
theorem g_aret {v : Nat} {t : String} (hR : gRet E X cc (some (.object t)) q n (some (.ref v)) G) (hd : decode cc pc = .ok (.areturn, 1)) : gV E X q n G pc lv [.ref v] := hR pc lv ⟨hd, t, rfl⟩
/-! ===== Math, arraycopy, making ===== -/
theorem g_max (C : gCx E X cc own ret F L Mc Ms ini mL) {idx : Nat} {x y : Int32} (h1 : Cond.methodLink own idx Lib.Math.max.name ∈ TB) (h2 : Cond.static Lib.Math.max.name ∈ TB) (h3 : Cond.initialized "java/lang/Math" ∈ TB) (h4 : Cond.code Lib.Math.max.name Lib.Math.max.code 2 (some .int) ∈ TB) (hF : 1 ≤ F) (hL : (st.map fun v => v.category).sum + 13 ≤ L) (hq : q ≤ Mc ∧ n ≤ Ms) (hd : decode cc pc = .ok (.invokestatic idx, 3)) (kk : gV E X q n G (pc + 3) lv (.int (if x < y then y else x) :: st)) : gV E X q n G pc lv (.int y :: .int x :: st) := by
  obtain ⟨p, e, R, s, m, args, below, meth, c, Q, nL⟩ := X
  intro H locs ls hWd hS hl
  obtain ⟨C1, C2, C3, C4, C5, C6, C7, C8, C9, C10⟩ := C
  exact va_mmax C1 C2 (C3.1.trans hl.1.symm) C4 (C5 _ h1) (C5 _ h2) (C5 _ h3) (C5 _ h4) (Nat.le_trans hF C7.1) (Nat.le_trans hL C7.2.1) (Nat.le_trans hq.1 C7.2.2.1) (Nat.le_trans hq.2 C7.2.2.2) hd (kk H locs ls hWd hS hl)
theorem g_min (C : gCx E X cc own ret F L Mc Ms ini mL) {idx : Nat} {x y : Int32} (h1 : Cond.methodLink own idx Lib.Math.min.name ∈ TB) (h2 : Cond.static Lib.Math.min.name ∈ TB) (h3 : Cond.initialized "java/lang/Math" ∈ TB) (h4 : Cond.code Lib.Math.min.name Lib.Math.min.code 2 (some .int) ∈ TB) (hF : 1 ≤ F) (hL : (st.map fun v => v.category).sum + 13 ≤ L) (hq : q ≤ Mc ∧ n ≤ Ms) (hd : decode cc pc = .ok (.invokestatic idx, 3)) (kk : gV E X q n G (pc + 3) lv (.int (if y < x then y else x) :: st)) : gV E X q n G pc lv (.int y :: .int x :: st) := by
  obtain ⟨p, e, R, s, m, args, below, meth, c, Q, nL⟩ := X
  intro H locs ls hWd hS hl
  obtain ⟨C1, C2, C3, C4, C5, C6, C7, C8, C9, C10⟩ := C
  exact va_mmin C1 C2 (C3.1.trans hl.1.symm) C4 (C5 _ h1) (C5 _ h2) (C5 _ h3) (C5 _ h4) (Nat.le_trans hF C7.1) (Nat.le_trans hL C7.2.1) (Nat.le_trans hq.1 C7.2.2.1) (Nat.le_trans hq.2 C7.2.2.2) hd (kk H locs ls hWd hS hl)
theorem g_objInit (C : gCx E X cc own ret F L Mc Ms ini mL) {idx a : Nat} (h1 : Cond.methodLink own idx Lib.objectInit ∈ TB) (h2 : Cond.instanceMethod Lib.objectInit ∈ TB) (h3 : Cond.code Lib.objectInit ⟨#[0xb1]⟩ 1 none ∈ TB) (hF : 1 ≤ F) (hL : (st.map fun v => v.category).sum + 12 ≤ L) (hd : decode cc pc = .ok (.invokespecial idx, 3)) (kk : gV E X q n G (pc + 3) lv st) : gV E X q n G pc lv (.ref a :: st) := by
  obtain ⟨p, e, R, s, m, args, below, meth, c, Q, nL⟩ := X
  intro H locs ls hWd hS hl
  obtain ⟨C1, C2, C3, C4, C5, C6, C7, C8, C9, C10⟩ := C
  refine W.objInit C1 C2 C4 (C5 _ h1) (C5 _ h2) (C5 _ h3) rfl (hl.1.trans C3.1.symm) rfl hd (Nat.le_trans hF C7.1) (by show 2 * 0 + _ + 12 ≤ _; exact Nat.le_trans (by omega) C7.2.1) ?_
  exact kk H locs ls hWd hS hl
theorem g_new (C : gCx E X cc own ret F L Mc Ms ini mL) {idx ci N : Nat} {C0 : String} {T : u_T} (t0 : Nat → FieldType) (hc : vwCl[ci]? = some (C0, T, N)) (hci : ci < 11) (h2 : ∀ w ∈ u_ws C0 T N, w ∈ TB) (h3 : ∀ j, j < N → parseFieldDescriptor (T j).2.2.1 = some (t0 j)) (hlen : (fty ci).length = N) (ht : ∀ j t, (fty ci)[j]? = some t → defaultValue (t0 j) = if t = 0 then .int 0 else if t = 1 then .long 0 else .null) (h4 : Cond.classLink own idx C0 ∈ TB) (h5 : Cond.instantiable C0 N ∈ TB) (h6 : Cond.initialized C0 ∈ TB) (hq : q + 1 ≤ Mc ∧ n + N ≤ Ms) (hd : decode cc pc = .ok (.new idx, 3)) (kk : gV E X (q + 1) (n + N) (s_new G ci) (pc + 3) lv (.ref (E.2.1 + h_n G) :: st)) : gV E X q n G pc lv st := by
  obtain ⟨p, e, R, s, m, args, below, meth, c, Q, nL⟩ := X
  intro H locs ls hWd hS hl
  obtain ⟨C1, C2, C3, C4, C5, C6, C7, C8, C9, C10⟩ := C
  have hKn := C6.1.1 ci _ hc
  refine W.newcK C1 C2 C4 (C5 _ h4) (C5 _ h5) (C5 _ h6) rfl hd (Nat.le_trans hq.1 C7.2.2.1) (Nat.le_trans hq.2 C7.2.2.2) hKn.2.1 rfl fun H1 kC hkC e1 z1 o1 => ?_
  have hk : ∀ (k : Nat) (x : Nat × va_E), (g_wl E G)[k]? = some x → H1[x.1]? = H[x.1]? := fun k x hx => o1 x.1 ((hWd.1 k x hx).lt)
  have hw : g_wl E G ++ [(E.2.1 + h_n G, .inr (ci, f_go (f_v E.2.1 (s_new G ci) (h_n G)) (fty ci) 0))] = g_wl E (s_new G ci) := by
    refine wl_push rfl ?_ ?_
    · rw [ent_o (show h_k (s_new G ci) (h_n G) = ci from if_pos rfl) hci]
    · intro b hb
      have hne : ¬ b = G.1 := by have : b < G.1 := hb; omega
      have k1 : h_k (s_new G ci) b = h_k G b := if_neg hne
      have k2 : ∀ j, h_i (s_new G ci) b j = h_i G b j := fun j => congrFun (if_neg hne : h_i (s_new G ci) b = h_i G b) j
      have k3 : ∀ j, h_l (s_new G ci) b j = h_l G b j := fun j => congrFun (if_neg hne : h_l (s_new G ci) b = h_l G b) j
      have k4 : ∀ j, h_r (s_new G ci) b j = h_r G b j := fun j => congrFun (if_neg hne : h_r (s_new G ci) b = h_r G b) j
      unfold g_ent
      rw [k1, f_go_congr (g' := f_v E.2.1 (s_new G ci) b) (g := f_v E.2.1 G b) (fun t j => by unfold f_v; rw [k2, k3, k4])]
      rfl
  suffices hP9 : va_P E.2.2.1 vwCl (g_wl E (s_new G ci)) H1 by
    have hfin := kk H1 locs ls ⟨hP9, by rw [z1, hWd.2]; show _ = E.2.1 + (G.1 + 1); rfl⟩ ⟨Nat.le_trans hS.1 (by omega), fun x g1 g2 => (o1 x (Nat.lt_of_lt_of_le g1 hS.1)).trans (hS.2.1 x g1 g2), hS.2.2⟩ hl
    rw [← hWd.2] at hfin
    exact hfin
  rw [← hw]
  refine (hWd.1.kept hk).app (fun k x hx => ?_)
  have hz : k < 1 := (List.getElem?_eq_some_iff.mp hx).1
  rw [show k = 0 by omega] at hx
  cases hx
  refine ⟨_, hc, ?_⟩
  have hb := u_born t0 C5 h2 hKn hkC e1 h3
  rw [hWd.2] at hb
  refine hb.to (fun j hj => ?_)
  have hj2 : j < (fty ci).length := by rw [hlen]; exact hj
  have hj3 : (fty ci)[j]? = some (fty ci)[j] := List.getElem?_eq_getElem hj2
  have e2 : vp_V (f_go (f_v E.2.1 (s_new G ci) (h_n G)) (fty ci) 0) j = f_v E.2.1 (s_new G ci) (h_n G) (fty ci)[j] j := by
    unfold vp_V
    rw [List.getD_eq_getElem?_getD, f_go_get, hj3]
    simp
  rw [e2, ht j _ hj3]
  have n2 : h_i (s_new G ci) (h_n G) j = 0 := congrFun (if_pos rfl : h_i (s_new G ci) (h_n G) = fun _ => 0) j
  have n3 : h_l (s_new G ci) (h_n G) j = 0 := congrFun (if_pos rfl : h_l (s_new G ci) (h_n G) = fun _ => 0) j
  have n4 : h_r (s_new G ci) (h_n G) j = none := congrFun (if_pos rfl : h_r (s_new G ci) (h_n G) = fun _ => none) j
  unfold f_v
  rw [n2, n3, n4]
  rfl
theorem wl_newarr {G : Hp} {kc z : Nat} {cA : ClassId} (hk : (kc = 11 ∧ cA = E.2.2.2.1.1) ∨ (kc = 12 ∧ cA = E.2.2.2.1.2)) : g_wl E G ++ [(E.2.1 + h_n G, .inl (cA, z, .inl (fun _ => 0)))] = g_wl E (s_arr G kc z) := by
  have a1 : h_a (s_arr G kc z) (h_n G) = fun _ => 0 := if_pos rfl
  have a2 : h_z (s_arr G kc z) (h_n G) = z := if_pos rfl
  have a3 : h_k (s_arr G kc z) (h_n G) = kc := if_pos rfl
  refine wl_push rfl ?_ ?_
  · rcases hk with ⟨rfl, rfl⟩ | ⟨rfl, rfl⟩
    · rw [ent_i a3, a1, a2]
    · rw [ent_z a3, a1, a2]
  · intro b hb
    have hne : ¬ b = G.1 := by have : b < G.1 := hb; omega
    have k1 : h_k (s_arr G kc z) b = h_k G b := if_neg hne
    have k2 : h_a (s_arr G kc z) b = h_a G b := if_neg hne
    have k3 : h_z (s_arr G kc z) b = h_z G b := if_neg hne
    unfold g_ent
    rw [k1, k2, k3]
    rfl
theorem g_newa (C : gCx E X cc own ret F L Mc Ms ini mL) {atype : ArrayType} {kc : Nat} {z : Int32} (hat : (atype = .int ∧ kc = 11) ∨ (atype = .boolean ∧ kc = 12)) (h1 : Cond.arrayClass (newarray.typeOf atype) ∈ TB) (hz : ¬ z < 0) (hzm : z.toNatClampNeg ≤ 1000) (hq : q + 1 ≤ Mc ∧ n + z.toNatClampNeg ≤ Ms) (hd : decode cc pc = .ok (.newarray atype, 2)) (kk : gV E X (q + 1) (n + z.toNatClampNeg) (s_arr G kc z.toNatClampNeg) (pc + 2) lv (.ref (E.2.1 + h_n G) :: st)) : gV E X q n G pc lv (.int z :: st) := by
  obtain ⟨p, e, R, s, m, args, below, meth, c, Q, nL⟩ := X
  intro H locs ls hWd hS hl
  obtain ⟨C1, C2, C3, C4, C5, C6, C7, C8, C9, C10⟩ := C
  have hby : z.toNatClampNeg * componentBytes (newarray.typeOf atype) ≤ 536870912 := by
    rcases hat with ⟨rfl, -⟩ | ⟨rfl, -⟩
    · show z.toNatClampNeg * 4 ≤ _
      omega
    · show z.toNatClampNeg * 1 ≤ _
      omega
  refine va_newaK C1 C2 (C5 _ h1) rfl hd rfl hz rfl hby (Nat.le_trans hq.1 C7.2.2.1) (Nat.le_trans hq.2 C7.2.2.2) rfl fun H1 cA e1 z1 o1 hAr hNm => ?_
  have hk : ∀ (k : Nat) (x : Nat × va_E), (g_wl E G)[k]? = some x → H1[x.1]? = H[x.1]? := fun k x hx => o1 x.1 ((hWd.1 k x hx).lt)
  have hcA : (kc = 11 ∧ cA = E.2.2.2.1.1) ∨ (kc = 12 ∧ cA = E.2.2.2.1.2) := by
    rcases hat with ⟨rfl, rfl⟩ | ⟨rfl, rfl⟩
    · exact Or.inl ⟨rfl, Option.some.inj (hNm.symm.trans (C6.1.2 0 _ rfl).2)⟩
    · exact Or.inr ⟨rfl, Option.some.inj (hNm.symm.trans (C6.1.2 1 _ rfl).2)⟩
  suffices hP9 : va_P E.2.2.1 vwCl (g_wl E (s_arr G kc z.toNatClampNeg)) H1 by
    have hfin := kk H1 locs ls ⟨hP9, by rw [z1, hWd.2]; show _ = E.2.1 + (G.1 + 1); rfl⟩ ⟨Nat.le_trans hS.1 (by omega), fun x g1 g2 => (o1 x (Nat.lt_of_lt_of_le g1 hS.1)).trans (hS.2.1 x g1 g2), hS.2.2⟩ hl
    rw [← hWd.2] at hfin
    exact hfin
  rw [← wl_newarr hcA]
  refine (hWd.1.kept hk).app (fun k x hx => ?_)
  have hz : k < 1 := (List.getElem?_eq_some_iff.mp hx).1
  rw [show k = 0 by omega] at hx
  cases hx
  show H1[E.2.1 + h_n G]? = some (vp_cell _ _)
  rw [← hWd.2, e1]
  rcases hat with ⟨rfl, rfl⟩ | ⟨rfl, rfl⟩ <;> rfl
theorem g_copy (C : gCx E X cc own ret F L Mc Ms ini mL) {idx a0 a : Nat} {sp dp z : Int32} (h1 : Cond.methodLink own idx arraycopyName ∈ TB) (h2 : Cond.native arraycopyName ∈ TB) (h3 : Cond.static arraycopyName ∈ TB) (h4 : Cond.initialized "java/lang/System" ∈ TB) (hg : (a0 < h_n G ∧ h_k G a0 = 11) ∧ (a < h_n G ∧ h_k G a = 11) ∧ (¬ sp < 0 ∧ ¬ dp < 0 ∧ ¬ z < 0) ∧ sp.toNatClampNeg + z.toNatClampNeg ≤ h_z G a0 ∧ dp.toNatClampNeg + z.toNatClampNeg ≤ h_z G a) (hF : 1 ≤ F) (hL : (st.map fun v => v.category).sum + 18 ≤ L) (hd : decode cc pc = .ok (.invokestatic idx, 3)) (kk : gV E X q n (s_a G a (va_cpy (h_a G a0) (h_a G a) sp.toNatClampNeg dp.toNatClampNeg z.toNatClampNeg)) (pc + 3) lv st) : gV E X q n G pc lv (.int z :: .int dp :: .ref (E.2.1 + a) :: .int sp :: .ref (E.2.1 + a0) :: st) := by
  obtain ⟨p, e, R, s, m, args, below, meth, c, Q, nL⟩ := X
  intro H locs ls hWd hS hl
  obtain ⟨C1, C2, C3, C4, C5, C6, C7, C8, C9, C10⟩ := C
  obtain ⟨hg0, hg1, ⟨s1, s2, s3⟩, b1, b2⟩ := hg
  have he0 : (g_wl E G)[a0]? = some (E.2.1 + a0, .inl (E.2.2.2.1.1, h_z G a0, .inl (h_a G a0))) := by rw [wl_get hg0.1, ent_i hg0.2]
  have he : (g_wl E G)[a]? = some (E.2.1 + a, .inl (E.2.2.2.1.1, h_z G a, .inl (h_a G a))) := by rw [wl_get hg1.1, ent_i hg1.2]
  have nn : ∀ z : Int32, ¬ z < 0 → z.toInt = (z.toNatClampNeg : Int) := by
    intro z hz
    have hz0 : (0 : Int) ≤ z.toInt := by
      have := Int32.not_lt.mp hz
      simpa using Int32.le_iff_toInt_le.mp this
    show z.toInt = ((z.toInt.toNat : Nat) : Int)
    omega
  intro T hT X
  have hc0 : H[E.2.1 + a0]? = some (vp_cell E.2.2.2.1.1 (h_z G a0, .inl (h_a G a0))) := hWd.1 a0 _ he0
  have hc1 : H[E.2.1 + a]? = some (vp_cell E.2.2.2.1.1 (h_z G a, .inl (h_a G a))) := hWd.1 a _ he
  obtain ⟨-, k0, hk0, cm0, hkk0⟩ := (C6.1.2 0 _ rfl).1 (h_z G a0) (fun j => .int (h_a G a0 j))
  obtain ⟨-, k1, hk1, cm1, hkk1⟩ := (C6.1.2 0 _ rfl).1 (h_z G a) (fun j => .int (h_a G a j))
  obtain ⟨vm', X', step⟩ := X.arraycopy C1 C4 (C5 _ h1) (C5 _ h2) (C5 _ h3) (C5 _ h4) (src := E.2.1 + a0) (dst := E.2.1 + a) (cs := vp_cell E.2.2.2.1.1 (h_z G a0, .inl (h_a G a0))) (cd := vp_cell E.2.2.2.1.1 (h_z G a, .inl (h_a G a))) (srcPos := sp) (destPos := dp) (n := z) (by rw [hT]; exact hc0) (by rw [hT]; exact hc1)
    (fun _ h => by cases h) (fun _ h => by cases h) (fun h => by cases h) (fun h => by cases h) hk0 hk1 hkk0 hkk1 (by simp [refKind]) s1 s2 s3
    (by rw [nn sp s1, nn z s3]; show ¬ _ > ((arrV E.2.2.2.1.1 (h_z G a0) (fun j => .int (h_a G a0 j))).slots.size : Int); rw [arrV_size]; omega)
    (by rw [nn dp s2, nn z s3]; show ¬ _ > ((arrV E.2.2.2.1.1 (h_z G a) (fun j => .int (h_a G a j))).slots.size : Int); rw [arrV_size]; omega)
    (fun vm₁ _ i hi => by
      have e : (vp_cell E.2.2.2.1.1 (h_z G a0, .inl (h_a G a0))).slots.getD (sp.toNatClampNeg + i) .null = .int (h_a G a0 (sp.toNatClampNeg + i)) := by
        show (arrV E.2.2.2.1.1 (h_z G a0) (fun j => .int (h_a G a0 j))).slots.getD _ _ = _
        rw [Array.getD_eq_getD_getElem?, arrV_read _ _ (by omega)]
        rfl
      refine ⟨?_, ?_⟩
      · rw [e]
        rfl
      · rw [e]
        exact trivial)
    (g := F0 m pc ls (.int z :: .int dp :: .ref (E.2.1 + a) :: .int sp :: .ref (E.2.1 + a0) :: st)) rfl (hl.1.trans C3.1.symm) (rest := st) rfl (by rw [C2]; exact hd) (Nat.le_trans hF C7.1) (by
      have : nativeFrameWords "java/lang/System" "arraycopy" 5 = 7 := by decide +kernel
      show 2 * 0 + _ + _ ≤ _
      have := C7.2.1
      omega)
  have e1 : copied (vp_cell E.2.2.2.1.1 (h_z G a0, .inl (h_a G a0))) (vp_cell E.2.2.2.1.1 (h_z G a, .inl (h_a G a))) sp dp z = vp_cell E.2.2.2.1.1 (h_z G a, .inl (va_cpy (h_a G a0) (h_a G a) sp.toNatClampNeg dp.toNatClampNeg z.toNatClampNeg)) := va_copied (fun z => .int z) _ _ (h_a G a0) (h_a G a) b1
  rw [e1] at X' step
  generalize hg9 : va_cpy (h_a G a0) (h_a G a) sp.toNatClampNeg dp.toNatClampNeg z.toNatClampNeg = g9 at X' step kk
  have hl9 : E.2.1 + a < H.size := (Array.getElem?_eq_some_iff.mp hc1).1
  have hheap : ((T.setVm vm').setCell (E.2.1 + a) (vp_cell E.2.2.2.1.1 (h_z G a, .inl g9))).heap = H.setIfInBounds (E.2.1 + a) (vp_cell E.2.2.2.1.1 (h_z G a, .inl g9)) := by rw [← hT]; rfl
  have oq : ∀ q : Nat, q ≠ E.2.1 + a → (H.setIfInBounds (E.2.1 + a) (vp_cell E.2.2.2.1.1 (h_z G a, .inl g9)))[q]? = H[q]? := fun q hq => by simp [Array.getElem?_setIfInBounds, Ne.symm hq]
  have hs : g_wl E (s_a G a g9) = _ := (wl_arr (E := E) (g := g9) hg1.1 (Or.inl ⟨hg1.2, rfl⟩)).symm
  obtain ⟨t, a1, b1⟩ := kk (H.setIfInBounds (E.2.1 + a) (vp_cell E.2.2.2.1.1 (h_z G a, .inl g9))) _ ls ⟨by
      rw [hs]
      exact hWd.1.set (wl_D E G) he (show (H.setIfInBounds _ _)[E.2.1 + a]? = some _ by simp [Array.getElem?_setIfInBounds, hl9]) oq, by simp [hWd.2]; rfl⟩ ⟨by simp; exact hS.1, fun q g1 g2 => by
      rw [oq q (fun e => g2 (by rw [e]; show E.2.1 ≤ E.2.1 + a; omega))]
      exact hS.2.1 q g1 g2, fun q hq => by
      rcases List.mem_append.mp hq with h | h
      · exact hS.2.2 q h
      · obtain ⟨z, -, hz⟩ := List.mem_map.mp h
        rw [← hz]
        show E.2.1 ≤ E.2.1 + a
        omega⟩ hl _ hheap X'
  exact ⟨t, step t a1, b1⟩
theorem g_ldcS (C : gCx E X cc "FavoursGoOff$Reader" ret F L Mc Ms ini mL) {idx i : Nat} {tx : String} (hi : g_six[i]? = some (idx, tx)) (hd : decode cc pc = .ok (.ldc idx, 2)) (k : gV E X q n G (pc + 2) lv (.ref (E.2.2.2.2.1 i) :: st)) : gV E X q n G pc lv st := by
  obtain ⟨p, e, R, s, m, args, below, meth, c, Q, nL⟩ := X
  intro H locs ls hW hS hl
  obtain ⟨C1, C2, C3, C4, C5, C6, C7, C8, C9, C10⟩ := C
  exact va_ldcS C1 C2 C4 (C6.2.2.1.1 i _ hi) hd (k H locs ls hW hS hl)
end GC
