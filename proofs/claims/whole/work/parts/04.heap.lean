/-! ===== fields ===== -/
/-- a link of an own field: class ci's slot k, of type ty, code t in fty -/
def FL (own : String) (idx ci k t : Nat) (fin : Bool) (ty : FieldType) : Prop := ∃ (C : String) (T : u_T) (N : Nat) (t0 : Nat → FieldType), vwCl[ci]? = some (C, T, N) ∧ (∀ w ∈ u_ws C T N, w ∈ TB) ∧ (∀ j, j < N → parseFieldDescriptor (T j).2.2.1 = some (t0 j)) ∧ (∀ a, a < N → ∀ b, b < N → a ≠ b → (T a).2.1 ≠ (T b).2.1) ∧ k < N ∧ t0 k = ty ∧ (T k).2.2.2 = fin ∧ (fin = true → C = own → (T k).1 = own) ∧ Cond.fieldLink own idx (T k).1 (T k).2.1 (T k).2.2.1 ∈ TB ∧ (fty ci)[k]? = some t ∧ ci < 11
theorem FL.mk' {own : String} {idx ci k t : Nat} {fin : Bool} {ty : FieldType} (C : String) (T : u_T) (N : Nat) (t0 : Nat → FieldType) (h1 : vwCl[ci]? = some (C, T, N)) (h2 : ∀ w ∈ u_ws C T N, w ∈ TB) (h3 : ∀ j, j < N → parseFieldDescriptor (T j).2.2.1 = some (t0 j)) (h4 : ∀ a, a < N → ∀ b, b < N → a ≠ b → (T a).2.1 ≠ (T b).2.1) (h5 : k < N) (h6 : t0 k = ty) (h7 : (T k).2.2.2 = fin) (h8 : fin = true → C = own → (T k).1 = own) (h9 : Cond.fieldLink own idx (T k).1 (T k).2.1 (T k).2.2.1 ∈ TB) (h10 : (fty ci)[k]? = some t) (h11 : ci < 11) : FL own idx ci k t fin ty := ⟨C, T, N, t0, h1, h2, h3, h4, h5, h6, h7, h8, h9, h10, h11⟩
section GH
variable {E : EE} {X : CT} {cc : ByteArray} {own : String} {ret : Option FieldType} {F L Mc Ms : Nat} {ini : Bool} {mL : Nat} {q n : Nat} {G : Hp} {pc : Nat} {lv : List (Option Value)} {st : List Value}
theorem g_get (C : gCx E X cc own ret F L Mc Ms ini mL) {idx ci k t a : Nat} {fin : Bool} {ty : FieldType} (hF : FL own idx ci k t fin ty) (hd : decode cc pc = .ok (.getfield idx, 3)) (hg : a < h_n G ∧ h_k G a = ci) (kk : gV E X q n G (pc + 3) lv (f_v E.2.1 G a t k :: st)) : gV E X q n G pc lv (.ref (E.2.1 + a) :: st) := by
  obtain ⟨p, e, R, s, m, args, below, meth, c, Q, nL⟩ := X
  intro H locs ls hW hS hl
  obtain ⟨C0, T, N, t0, h1, h2, h3, h4, h5, h6, h7, h8, h9, h10, h11⟩ := hF
  have he : (g_wl E G)[a]? = some (E.2.1 + a, .inr (ci, f_go (f_v E.2.1 G a) (fty ci) 0)) := by rw [wl_get hg.1, ent_o hg.2 h11]
  exact va_get C.1 C.2.1 C.2.2.2.2.1 h2 C.2.2.2.1 C.2.2.2.2.2.1.1 hW.1 a he h1 k h5 (C.2.2.2.2.1 _ h9) (by
    have : (T k).1 = (T k).1 := rfl
    exact fun x hx => hx) (by rw [f_go_get, h10]; simp) hd (kk H locs ls hW hS hl)
theorem g_getI (C : gCx E X cc own ret F L Mc Ms ini mL) {idx ci k a : Nat} {fin : Bool} {ty : FieldType} (hF : FL own idx ci k 0 fin ty) (hd : decode cc pc = .ok (.getfield idx, 3)) (hg : a < h_n G ∧ h_k G a = ci) (kk : gV E X q n G (pc + 3) lv (.int (h_i G a k) :: st)) : gV E X q n G pc lv (.ref (E.2.1 + a) :: st) := g_get C hF hd hg kk
theorem g_getL (C : gCx E X cc own ret F L Mc Ms ini mL) {idx ci k a : Nat} {fin : Bool} {ty : FieldType} (hF : FL own idx ci k 1 fin ty) (hd : decode cc pc = .ok (.getfield idx, 3)) (hg : a < h_n G ∧ h_k G a = ci) (kk : gV E X q n G (pc + 3) lv (.long (h_l G a k) :: st)) : gV E X q n G pc lv (.ref (E.2.1 + a) :: st) := g_get C hF hd hg kk
theorem g_getR (C : gCx E X cc own ret F L Mc Ms ini mL) {idx ci k a r : Nat} {fin : Bool} {ty : FieldType} (hF : FL own idx ci k 2 fin ty) (hd : decode cc pc = .ok (.getfield idx, 3)) (hg : (a < h_n G ∧ h_k G a = ci) ∧ h_r G a k = some r) (kk : gV E X q n G (pc + 3) lv (.ref (E.2.1 + r) :: st)) : gV E X q n G pc lv (.ref (E.2.1 + a) :: st) := by
  refine g_get C hF hd hg.1 ?_
  have e : f_v E.2.1 G a 2 k = .ref (E.2.1 + r) := by
    show va_rf ((h_r G a k).map (fun q => E.2.1 + q)) = _
    rw [hg.2]
    rfl
  rw [e]
  exact kk
theorem g_put (C : gCx E X cc own ret F L Mc Ms ini mL) {idx ci k t a : Nat} {fin : Bool} {ty : FieldType} {v : Value} {G' : Hp} (hF : FL own idx ci k t fin ty) (hd : decode cc pc = .ok (.putfield idx, 3)) (hg : a < h_n G ∧ h_k G a = ci) (hfi : fin = false ∨ (ini = true ∧ vwCl[ci]?.map (fun z => z.1) = some own)) (hn : narrow ty v = v) (hfit : fits ty v = true) (g1 : h_n G' = h_n G) (g2 : ∀ b, h_k G' b = h_k G b) (g3 : f_v E.2.1 G' a t k = v) (g4 : ∀ t' j, j ≠ k → f_v E.2.1 G' a t' j = f_v E.2.1 G a t' j) (g5 : ∀ b, b ≠ a → ∀ t' j, f_v E.2.1 G' b t' j = f_v E.2.1 G b t' j) (g6 : ∀ b, h_z G' b = h_z G b ∧ h_a G' b = h_a G b) (kk : gV E X q n G' (pc + 3) lv st) : gV E X q n G pc lv (v :: .ref (E.2.1 + a) :: st) := by
  obtain ⟨p, e, R, s, m, args, below, meth, c, Q, nL⟩ := X
  intro H locs ls hW hS hl
  obtain ⟨C0, T, N, t0, h1, h2, h3, h4, h5, h6, h7, h8, h9, h10, h11⟩ := hF
  have he : (g_wl E G)[a]? = some (E.2.1 + a, .inr (ci, f_go (f_v E.2.1 G a) (fty ci) 0)) := by rw [wl_get hg.1, ent_o hg.2 h11]
  have hset : (g_wl E G).set a (E.2.1 + a, .inr (ci, (f_go (f_v E.2.1 G a) (fty ci) 0).set k v)) = g_wl E G' := by
    refine wl_set hg.1 g1 ?_ ?_
    · rw [ent_o ((g2 a).trans hg.2) h11, ← f_go_set (g := f_v E.2.1 G a) (g' := f_v E.2.1 G' a) h10 g4, g3]
    · intro b hb
      unfold g_ent
      rw [g2 b, (g6 b).1, (g6 b).2, f_go_congr (g' := f_v E.2.1 G' b) (g := f_v E.2.1 G b) (g5 b hb)]
  have hlen : k < (f_go (f_v E.2.1 G a) (fty ci) 0).length := by
    rw [f_go_len]
    exact (List.getElem?_eq_some_iff.mp h10).1
  obtain ⟨r, r1, cell, q1, q2, q3, q4⟩ := hW.1 a _ he
  have hr : r = (C0, T, N) := Option.some.inj (r1.symm.trans h1)
  subst hr
  have hap := va_apart (own := own) C.2.2.2.2.1 h2 t0 h3 h4 C.2.2.2.2.2.1.1 h1
  obtain ⟨hS1, hfc, kC, hkC, hkind⟩ := C.2.2.2.2.2.1.1.1 ci _ h1
  obtain ⟨cf, kf, fi, f, hi, hsl⟩ := hS1 k h5
  have hlay := C.2.2.2.2.1 _ (h2 _ (u_in_lay h5))
  have hst := (u_facts hfc hkC (u_lays C.2.2.2.2.1 h2 h5) hi).1
  have hd0 : parseFieldDescriptor (T k).2.2.1 = some ty := by rw [h3 k h5, h6]
  have fin' : ∀ H' : Heap, H'[E.2.1 + a]? = some (cell.setSlot f.slot v) → H'.size = H.size → (∀ q0, q0 ≠ E.2.1 + a → H'[q0]? = H[q0]?) → W p E.1 e R s m args below meth c H' (locs ++ [⟨E.2.1 + a, f.slot⟩]) q n Q (F0 m (pc + 3) ls st) := by
    intro H' e1 e2 e3
    rw [hsl] at e1 ⊢
    refine kk H' _ ls ⟨?_, by rw [e2, hW.2, g1]⟩ (hS.put e2 e3 (by show E.2.1 ≤ E.2.1 + a; omega)) hl
    rw [← hset]
    exact hW.1.set (wl_D E G) he ⟨_, h1, t_OB.to (V := updV (vp_V _) k v) ⟨_, e1, q2, q3, t_set q4 hap h5 v⟩ (fun j _ => vp_updV_set hlen v j)⟩ e3
  cases fin with
  | false =>
    unfold u_lay at hlay
    rw [if_neg (by rw [h7]; decide)] at hlay
    have h6' := u_store hfc hkC hkind hlay hi hd0 hn hfit
    exact W.putK C.1 C.2.1 (f := f) ⟨C.2.2.2.1, C.2.2.2.2.1 _ h9, ⟨_, _, _, hi⟩, hst⟩ (by rw [q2]; exact h6') q1 q3 (by rw [hsl]; exact k2_hasslot (q4 k h5)) rfl rfl hd fin'
  | true =>
    unfold u_lay at hlay
    rw [if_pos h7] at hlay
    have hini : ini = true ∧ C0 = own := by
      rcases hfi with h | h
      · cases h
      · refine ⟨h.1, ?_⟩
        have h' := h.2
        rw [h1] at h'
        exact Option.some.inj h'
    have hcf : m.cls = cf := by
      obtain ⟨_, _, c', _, _, _, -, -, hf', -, -, -, hown2, -⟩ := Cond.laysFinal_spec hlay
      have e1 : c' = cf := by have := hi.symm.trans hf'; simp at this; exact this.1.symm
      rw [h8 rfl hini.2] at hown2
      rw [← e1]; exact Option.some.inj (C.2.2.2.1.symm.trans hown2)
    have h6' := u_fits hfc hkC hkind (Or.inr hlay) hi hd0 hn hfit
    exact W.putFinK C.1 C.2.1 C.2.2.2.1 (C.2.2.2.2.1 _ h9) hi hst hcf (C.2.2.2.2.2.2.2.2.2 hini.1) (by rw [q2]; exact h6') q1 q3 (by rw [hsl]; exact k2_hasslot (q4 k h5)) rfl rfl hd fin'
theorem g_putI (C : gCx E X cc own ret F L Mc Ms ini mL) {idx ci k a : Nat} {fin : Bool} {ty : FieldType} {v : Int32} (hF : FL own idx ci k 0 fin ty) (hd : decode cc pc = .ok (.putfield idx, 3)) (hg : a < h_n G ∧ h_k G a = ci) (hfi : fin = false ∨ (ini = true ∧ vwCl[ci]?.map (fun z => z.1) = some own)) (hn : narrow ty (.int v) = .int v) (hfit : fits ty (.int v) = true) (kk : gV E X q n (s_i G a k v) (pc + 3) lv st) : gV E X q n G pc lv (.int v :: .ref (E.2.1 + a) :: st) := by
  refine g_put (G' := s_i G a k v) C hF hd hg hfi hn hfit rfl (fun _ => rfl) ?_ ?_ ?_ (fun _ => ⟨rfl, rfl⟩) kk
  · show Value.int (if a = a ∧ k = k then v else _) = _
    rw [if_pos ⟨rfl, rfl⟩]
  · intro t' j hj
    have : h_i (s_i G a k v) a j = h_i G a j := if_neg (fun h => hj h.2)
    unfold f_v
    rw [this]
    rfl
  · intro b hb t' j
    have : h_i (s_i G a k v) b j = h_i G b j := if_neg (fun h => hb h.1)
    unfold f_v
    rw [this]
    rfl
theorem g_putL (C : gCx E X cc own ret F L Mc Ms ini mL) {idx ci k a : Nat} {fin : Bool} {v : Int64} (hF : FL own idx ci k 1 fin .long) (hd : decode cc pc = .ok (.putfield idx, 3)) (hg : a < h_n G ∧ h_k G a = ci) (hfi : fin = false ∨ (ini = true ∧ vwCl[ci]?.map (fun z => z.1) = some own)) (kk : gV E X q n (s_l G a k v) (pc + 3) lv st) : gV E X q n G pc lv (.long v :: .ref (E.2.1 + a) :: st) := by
  refine g_put (G' := s_l G a k v) C hF hd hg hfi rfl rfl rfl (fun _ => rfl) ?_ ?_ ?_ (fun _ => ⟨rfl, rfl⟩) kk
  · show Value.long (if a = a ∧ k = k then v else _) = _
    rw [if_pos ⟨rfl, rfl⟩]
  · intro t' j hj
    have : h_l (s_l G a k v) a j = h_l G a j := if_neg (fun h => hj h.2)
    unfold f_v
    rw [this]
    rfl
  · intro b hb t' j
    have : h_l (s_l G a k v) b j = h_l G b j := if_neg (fun h => hb h.1)
    unfold f_v
    rw [this]
    rfl
theorem g_putR (C : gCx E X cc own ret F L Mc Ms ini mL) {idx ci k a r : Nat} {fin : Bool} {ty : FieldType} (hF : FL own idx ci k 2 fin ty) (hd : decode cc pc = .ok (.putfield idx, 3)) (hg : a < h_n G ∧ h_k G a = ci) (hfi : fin = false ∨ (ini = true ∧ vwCl[ci]?.map (fun z => z.1) = some own)) (hn : narrow ty (.ref (E.2.1 + r)) = .ref (E.2.1 + r)) (hfit : fits ty (.ref (E.2.1 + r)) = true) (kk : gV E X q n (s_r G a k (some r)) (pc + 3) lv st) : gV E X q n G pc lv (.ref (E.2.1 + r) :: .ref (E.2.1 + a) :: st) := by
  refine g_put (G' := s_r G a k (some r)) C hF hd hg hfi hn hfit rfl (fun _ => rfl) ?_ ?_ ?_ (fun _ => ⟨rfl, rfl⟩) kk
  · show va_rf ((if a = a ∧ k = k then some r else _).map _) = _
    rw [if_pos ⟨rfl, rfl⟩]
    rfl
  · intro t' j hj
    have : h_r (s_r G a k (some r)) a j = h_r G a j := if_neg (fun h => hj h.2)
    unfold f_v
    rw [this]
    rfl
  · intro b hb t' j
    have : h_r (s_r G a k (some r)) b j = h_r G b j := if_neg (fun h => hb h.1)
    unfold f_v
    rw [this]
    rfl
/-! ===== arrays ===== -/
theorem g_alen (C : gCx E X cc own ret F L Mc Ms ini mL) {a : Nat} (hd : decode cc pc = .ok (.arraylength, 1)) (hg : a < h_n G ∧ h_k G a = 11) (kk : gV E X q n G (pc + 1) lv (.int (Int32.ofNat (h_z G a)) :: st)) : gV E X q n G pc lv (.ref (E.2.1 + a) :: st) := by
  obtain ⟨p, e, R, s, m, args, below, meth, c, Q, nL⟩ := X
  intro H locs ls hW hS hl
  have he : (g_wl E G)[a]? = some (E.2.1 + a, .inl (E.2.2.2.1.1, h_z G a, .inl (h_a G a))) := by rw [wl_get hg.1, ent_i hg.2]
  exact va_alen C.1 C.2.1 C.2.2.2.2.2.1.1 hW.1 a 0 he (ty := .int) rfl rfl hd (kk H locs ls hW hS hl)
theorem g_iald (C : gCx E X cc own ret F L Mc Ms ini mL) {a : Nat} {i : Int32} (hd : decode cc pc = .ok (.iaload, 1)) (hg : (a < h_n G ∧ h_k G a = 11) ∧ vp_in i (h_z G a)) (kk : gV E X q n G (pc + 1) lv (.int (h_a G a i.toNatClampNeg) :: st)) : gV E X q n G pc lv (.int i :: .ref (E.2.1 + a) :: st) := by
  obtain ⟨p, e, R, s, m, args, below, meth, c, Q, nL⟩ := X
  intro H locs ls hW hS hl
  have he : (g_wl E G)[a]? = some (E.2.1 + a, .inl (E.2.2.2.1.1, h_z G a, .inl (h_a G a))) := by rw [wl_get hg.1.1, ent_i hg.1.2]
  exact va_iald C.1 C.2.1 C.2.2.2.2.2.1.1 hW.1 a 0 he rfl hg.2 hd (kk H locs ls hW hS hl)
theorem g_zald (C : gCx E X cc own ret F L Mc Ms ini mL) {a : Nat} {i : Int32} (hd : decode cc pc = .ok (.baload, 1)) (hg : (a < h_n G ∧ h_k G a = 12) ∧ vp_in i (h_z G a)) (kk : gV E X q n G (pc + 1) lv (.int (h_a G a i.toNatClampNeg) :: st)) : gV E X q n G pc lv (.int i :: .ref (E.2.1 + a) :: st) := by
  obtain ⟨p, e, R, s, m, args, below, meth, c, Q, nL⟩ := X
  intro H locs ls hW hS hl
  have he : (g_wl E G)[a]? = some (E.2.1 + a, .inl (E.2.2.2.1.2, h_z G a, .inl (h_a G a))) := by rw [wl_get hg.1.1, ent_z hg.1.2]
  exact va_zald C.1 C.2.1 C.2.2.2.2.2.1.1 hW.1 a 1 he rfl hg.2 hd (kk H locs ls hW hS hl)
theorem wl_arr {G : Hp} {a : Nat} {g : Nat → Int32} {cA : ClassId} (h : a < h_n G) (hk : (h_k G a = 11 ∧ cA = E.2.2.2.1.1) ∨ (h_k G a = 12 ∧ cA = E.2.2.2.1.2)) : (g_wl E G).set a (E.2.1 + a, .inl (cA, h_z G a, .inl g)) = g_wl E (s_a G a g) := by
  have ea : h_a (s_a G a g) a = g := if_pos rfl
  refine wl_set h rfl ?_ ?_
  · rcases hk with ⟨h1, rfl⟩ | ⟨h1, rfl⟩
    · rw [ent_i (G := s_a G a g) h1, ea]
      rfl
    · rw [ent_z (G := s_a G a g) h1, ea]
      rfl
  · intro b hb
    have : h_a (s_a G a g) b = h_a G b := if_neg hb
    unfold g_ent
    rw [this]
    rfl
theorem g_iast (C : gCx E X cc own ret F L Mc Ms ini mL) {a : Nat} {i x : Int32} (hd : decode cc pc = .ok (.iastore, 1)) (hg : (a < h_n G ∧ h_k G a = 11) ∧ vp_in i (h_z G a)) (kk : gV E X q n (s_e G a i.toNatClampNeg x) (pc + 1) lv st) : gV E X q n G pc lv (.int x :: .int i :: .ref (E.2.1 + a) :: st) := by
  obtain ⟨p, e, R, s, m, args, below, meth, c, Q, nL⟩ := X
  intro H locs ls hW hS hl
  have he : (g_wl E G)[a]? = some (E.2.1 + a, .inl (E.2.2.2.1.1, h_z G a, .inl (h_a G a))) := by rw [wl_get hg.1.1, ent_i hg.1.2]
  refine W.iast C.1 C.2.1 (hW.1 a _ he) ((C.2.2.2.2.2.1.1.2 0 _ rfl).1 (h_z G a) (fun j => .int (h_a G a j))) (fun z => by cases z) (by show ¬ (i < 0 ∨ (arrV _ _ _).slots.size ≤ _); rw [arrV_size]; exact hg.2) rfl rfl hd fun H1 e1 z oq => ?_
  refine kk H1 _ ls ⟨?_, by rw [z, hW.2]; rfl⟩ (hS.put z oq (by show E.2.1 ≤ E.2.1 + a; omega)) hl
  have hs : g_wl E (s_e G a i.toNatClampNeg x) = _ := (wl_arr (E := E) (g := upd (h_a G a) i.toNatClampNeg x) hg.1.1 (Or.inl ⟨hg.1.2, rfl⟩)).symm
  rw [hs]
  refine hW.1.set (wl_D E G) he ?_ oq
  show H1[E.2.1 + a]? = some (vp_cell _ _)
  rw [e1]
  rw [vp_cell_i, vp_cell_i, arrV_store]
  congr 2
  funext j
  by_cases hj : j = i.toNatClampNeg
  · subst hj
    simp [updV, upd]
  · simp [updV, upd, hj]
theorem g_zast (C : gCx E X cc own ret F L Mc Ms ini mL) {a : Nat} {i x : Int32} (hd : decode cc pc = .ok (.bastore, 1)) (hg : (a < h_n G ∧ h_k G a = 12) ∧ vp_in i (h_z G a)) (hx : vp_nar .boolean x = x) (kk : gV E X q n (s_e G a i.toNatClampNeg x) (pc + 1) lv st) : gV E X q n G pc lv (.int x :: .int i :: .ref (E.2.1 + a) :: st) := by
  obtain ⟨p, e, R, s, m, args, below, meth, c, Q, nL⟩ := X
  intro H locs ls hW hS hl
  have he : (g_wl E G)[a]? = some (E.2.1 + a, .inl (E.2.2.2.1.2, h_z G a, .inl (h_a G a))) := by rw [wl_get hg.1.1, ent_z hg.1.2]
  refine W.zast C.1 C.2.1 (hW.1 a _ he) ((C.2.2.2.2.2.1.1.2 1 _ rfl).1 (h_z G a) (fun j => .int (h_a G a j))) (fun z => by cases z) (by show ¬ (i < 0 ∨ (arrV _ _ _).slots.size ≤ _); rw [arrV_size]; exact hg.2) rfl rfl hd fun H1 e1 z oq => ?_
  refine kk H1 _ ls ⟨?_, by rw [z, hW.2]; rfl⟩ (hS.put z oq (by show E.2.1 ≤ E.2.1 + a; omega)) hl
  have hs : g_wl E (s_e G a i.toNatClampNeg x) = _ := (wl_arr (E := E) (g := upd (h_a G a) i.toNatClampNeg x) hg.1.1 (Or.inr ⟨hg.1.2, rfl⟩)).symm
  rw [hs]
  refine hW.1.set (wl_D E G) he ?_ oq
  show H1[E.2.1 + a]? = some (vp_cell _ _)
  rw [e1]
  rw [vp_cell_i, vp_cell_i, arrV_store]
  have hx' : narrow .boolean (.int x) = .int x := congrArg Value.int (show (x &&& 1 : Int32) = x from hx)
  congr 2
  funext j
  by_cases hj : j = i.toNatClampNeg
  · subst hj
    simp [updV, upd, hx']
  · simp [updV, upd, hj]
end GH
