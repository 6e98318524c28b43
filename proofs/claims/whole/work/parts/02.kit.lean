/-! ===== a picture of the heap as numbers; the judgement gV over it; a rule an instruction ===== -/
/-- launch, first address, slots of the classes' fields, the class of int[] and of boolean[], where the String constants lie, and their bytes -/
abbrev EE : Type := Launch × Nat × va_G × (ClassId × ClassId) × (Nat → Nat) × (Nat → Nat)
/-- how many cells; the kind of each; its int, long, reference fields; an array's length and contents -/
abbrev Hp : Type := Nat × (Nat → Nat) × (Nat → Nat → Int32) × (Nat → Nat → Int64) × (Nat → Nat → Option Nat) × (Nat → Nat) × (Nat → Nat → Int32)
def h_n (G : Hp) : Nat := G.1
def h_k (G : Hp) : Nat → Nat := G.2.1
def h_i (G : Hp) : Nat → Nat → Int32 := G.2.2.1
def h_l (G : Hp) : Nat → Nat → Int64 := G.2.2.2.1
def h_r (G : Hp) : Nat → Nat → Option Nat := G.2.2.2.2.1
def h_z (G : Hp) : Nat → Nat := G.2.2.2.2.2.1
def h_a (G : Hp) : Nat → Nat → Int32 := G.2.2.2.2.2.2
def up2 {α : Type} (f : Nat → Nat → α) (a k : Nat) (v : α) : Nat → Nat → α := fun a' k' => if a' = a ∧ k' = k then v else f a' k'
def s_i (G : Hp) (a k : Nat) (v : Int32) : Hp := (G.1, G.2.1, up2 G.2.2.1 a k v, G.2.2.2)
def s_l (G : Hp) (a k : Nat) (v : Int64) : Hp := (G.1, G.2.1, G.2.2.1, up2 G.2.2.2.1 a k v, G.2.2.2.2)
def s_r (G : Hp) (a k : Nat) (v : Option Nat) : Hp := (G.1, G.2.1, G.2.2.1, G.2.2.2.1, up2 G.2.2.2.2.1 a k v, G.2.2.2.2.2)
def s_a (G : Hp) (a : Nat) (f : Nat → Int32) : Hp := (G.1, G.2.1, G.2.2.1, G.2.2.2.1, G.2.2.2.2.1, G.2.2.2.2.2.1, va_up G.2.2.2.2.2.2 a f)
def s_e (G : Hp) (a i : Nat) (v : Int32) : Hp := s_a G a (upd (h_a G a) i v)
def s_new (G : Hp) (ci : Nat) : Hp := (G.1 + 1, va_up G.2.1 G.1 ci, va_up G.2.2.1 G.1 (fun _ => 0), va_up G.2.2.2.1 G.1 (fun _ => 0), va_up G.2.2.2.2.1 G.1 (fun _ => none), G.2.2.2.2.2)
def s_arr (G : Hp) (kc n : Nat) : Hp := (G.1 + 1, va_up G.2.1 G.1 kc, G.2.2.1, G.2.2.2.1, G.2.2.2.2.1, va_up G.2.2.2.2.2.1 G.1 n, va_up G.2.2.2.2.2.2 G.1 (fun _ => 0))
/-- the fields of each kind: 0 int or boolean, 1 long, 2 reference -/
def fty : Nat → List Nat := fun c => match c with
  | 0 => [2, 0]
  | 1 => [2, 2, 2, 0, 0, 0]
  | 2 => [1, 1]
  | 3 => [2, 2, 2, 0, 0]
  | 4 => [0, 0, 0, 0, 0, 2, 2, 2, 2, 2, 2, 2, 2]
  | 5 => [2, 2, 0, 0, 0, 0, 0, 0]
  | 6 => [2, 2, 2, 2, 2, 0]
  | 7 => [0, 2, 0]
  | 8 => [2, 0]
  | 9 => [2, 2, 2, 2, 2, 2, 2, 2, 2, 2, 0, 0, 0]
  | 10 => [2, 2, 2, 2, 1, 1, 2, 0, 2, 2, 2, 2, 0, 0, 2, 2, 2, 0, 0, 0, 0, 0, 2, 2]
  | _ => []
def f_v (b : Nat) (G : Hp) (a t k : Nat) : Value := if t = 0 then .int (h_i G a k) else if t = 1 then .long (h_l G a k) else va_rf ((h_r G a k).map (fun q => b + q))
def f_go (g : Nat → Nat → Value) : List Nat → Nat → List Value
  | [], _ => []
  | t :: l, k => g t k :: f_go g l (k + 1)
theorem f_go_get (g : Nat → Nat → Value) : ∀ (l : List Nat) (k j : Nat), (f_go g l k)[j]? = l[j]?.map (fun t => g t (k + j))
  | [], k, j => by simp [f_go]
  | t :: l, k, 0 => by simp [f_go]
  | t :: l, k, j + 1 => by
    simp only [f_go, List.getElem?_cons_succ]
    rw [f_go_get g l (k + 1) j, show k + 1 + j = k + (j + 1) by omega]
theorem f_go_len (g : Nat → Nat → Value) : ∀ (l : List Nat) (k : Nat), (f_go g l k).length = l.length
  | [], k => rfl
  | t :: l, k => by simp [f_go, f_go_len g l (k + 1)]
theorem f_go_set {g g' : Nat → Nat → Value} {l : List Nat} {q t : Nat} (ht : l[q]? = some t) (ho : ∀ t' j, j ≠ q → g' t' j = g t' j) : (f_go g l 0).set q (g' t q) = f_go g' l 0 := by
  have hq : q < l.length := (List.getElem?_eq_some_iff.mp ht).1
  apply List.ext_getElem?
  intro j
  rw [List.getElem?_set, f_go_get, f_go_get, f_go_len]
  by_cases h : q = j
  · subst h
    rw [if_pos rfl, if_pos hq, ht]
    simp
  · rw [if_neg h]
    cases hj : l[j]? with
    | none => rfl
    | some t' => simp [ho t' j (Ne.symm h)]
theorem f_go_congr {g g' : Nat → Nat → Value} {l : List Nat} (ho : ∀ t' j, g' t' j = g t' j) : f_go g' l 0 = f_go g l 0 := by
  have : g' = g := by funext t j; exact ho t j
  rw [this]
def g_ent (E : EE) (G : Hp) (a : Nat) : va_E := if h_k G a = 11 then .inl (E.2.2.2.1.1, h_z G a, .inl (h_a G a)) else if h_k G a = 12 then .inl (E.2.2.2.1.2, h_z G a, .inl (h_a G a)) else .inr (h_k G a, f_go (f_v E.2.1 G a) (fty (h_k G a)) 0)
theorem ent_o {E : EE} {G : Hp} {a ci : Nat} (h : h_k G a = ci) (hc : ci < 11) : g_ent E G a = .inr (ci, f_go (f_v E.2.1 G a) (fty ci) 0) := by
  subst h
  unfold g_ent
  rw [if_neg (by omega), if_neg (by omega)]
theorem ent_i {E : EE} {G : Hp} {a : Nat} (h : h_k G a = 11) : g_ent E G a = .inl (E.2.2.2.1.1, h_z G a, .inl (h_a G a)) := by
  unfold g_ent
  rw [if_pos h]
theorem ent_z {E : EE} {G : Hp} {a : Nat} (h : h_k G a = 12) : g_ent E G a = .inl (E.2.2.2.1.2, h_z G a, .inl (h_a G a)) := by
  unfold g_ent
  rw [if_neg (by omega), if_pos h]
def g_wl (E : EE) (G : Hp) : va_W := (List.range (h_n G)).map (fun a => (E.2.1 + a, g_ent E G a))
theorem wl_get {E : EE} {G : Hp} {a : Nat} (h : a < h_n G) : (g_wl E G)[a]? = some (E.2.1 + a, g_ent E G a) := by
  simp [g_wl, h]
theorem wl_of {E : EE} {G : Hp} {i : Nat} {q : Nat × va_E} (h : (g_wl E G)[i]? = some q) : i < h_n G ∧ q = (E.2.1 + i, g_ent E G i) := by
  have h1 : i < (g_wl E G).length := (List.getElem?_eq_some_iff.mp h).1
  have h2 : i < h_n G := by simpa [g_wl] using h1
  rw [wl_get h2] at h
  exact ⟨h2, (Option.some.inj h).symm⟩
theorem wl_D (E : EE) (G : Hp) : va_D (fun q => E.2.1 ≤ q) (g_wl E G) := by
  refine ⟨fun i j p q hi hj he => ?_, fun k q hk => ?_⟩
  · obtain ⟨-, rfl⟩ := wl_of hi
    obtain ⟨-, rfl⟩ := wl_of hj
    dsimp only at he
    omega
  · obtain ⟨-, rfl⟩ := wl_of hk
    show E.2.1 ≤ E.2.1 + k
    omega
theorem wl_set {E : EE} {G G' : Hp} {a : Nat} {e : va_E} (h : a < h_n G) (hn : h_n G' = h_n G) (he : g_ent E G' a = e) (ho : ∀ q, q ≠ a → g_ent E G' q = g_ent E G q) : (g_wl E G).set a (E.2.1 + a, e) = g_wl E G' := by
  apply List.ext_getElem?
  intro j
  have hl : (g_wl E G).length = h_n G := by simp [g_wl]
  rw [List.getElem?_set, hl]
  by_cases hj : a = j
  · subst hj
    rw [if_pos rfl, if_pos h, wl_get (by rw [hn]; exact h), he]
  · rw [if_neg hj]
    by_cases hjn : j < h_n G
    · rw [wl_get hjn, wl_get (by rw [hn]; exact hjn), ho j (Ne.symm hj)]
    · rw [List.getElem?_eq_none (by rw [hl]; omega), List.getElem?_eq_none (by simp [g_wl, hn]; omega)]
theorem wl_push {E : EE} {G G' : Hp} {e : va_E} (hn : h_n G' = h_n G + 1) (he : g_ent E G' (h_n G) = e) (ho : ∀ q, q < h_n G → g_ent E G' q = g_ent E G q) : g_wl E G ++ [(E.2.1 + h_n G, e)] = g_wl E G' := by
  unfold g_wl
  rw [hn, List.range_succ, List.map_append, ← he]
  congr 1
  apply List.map_congr_left
  intro q hq
  rw [ho q (List.mem_range.mp hq)]
def gWd (E : EE) (G : Hp) (H : Heap) : Prop := va_P E.2.2.1 vwCl (g_wl E G) H ∧ H.size = E.2.1 + h_n G
/-- the links of members of nest mates -/
abbrev nwL : List (String × Nat × MethodName × String) := [("FavoursGoOff", 9, ⟨"FavoursGoOff$History", "<init>", "()V"⟩, "FavoursGoOff"), ("FavoursGoOff", 31, ⟨"FavoursGoOff$Reader", "<init>", "()V"⟩, "FavoursGoOff"), ("FavoursGoOff$Reader", 11, ⟨"FavoursGoOff$Text", "<init>", "()V"⟩, "FavoursGoOff"), ("FavoursGoOff", 43, ⟨"FavoursGoOff$Debts", "<init>", "()V"⟩, "FavoursGoOff"), ("FavoursGoOff", 50, ⟨"FavoursGoOff$Circle", "<init>", "()V"⟩, "FavoursGoOff"), ("FavoursGoOff", 57, ⟨"FavoursGoOff$Plan", "<init>", "()V"⟩, "FavoursGoOff"), ("FavoursGoOff", 64, ⟨"FavoursGoOff$Fraction", "<init>", "()V"⟩, "FavoursGoOff"), ("FavoursGoOff$Reader", 125, ⟨"FavoursGoOff", "isWithin", "(III)Z"⟩, "FavoursGoOff")]
def g_nw (U : State) : Prop := ∀ q ∈ nwL, va_Nw (.methodLinkNest q.1 q.2.1 q.2.2.1 q.2.2.2) U
def g_six : List (Nat × String) := [(44, "people"), (67, "strong"), (72, "favour"), (87, "need")]
abbrev g_len : List Nat := [6, 6, 6, 4]
abbrev g_byt : List (List Int32) := [[112, 101, 111, 112, 108, 101], [115, 116, 114, 111, 110, 103], [102, 97, 118, 111, 117, 114], [110, 101, 101, 100]]
/-- what is known of the String constants -/
def g_st (E : EE) (U : State) : Prop := (∀ i q, g_six[i]? = some q → vk_R "FavoursGoOff$Reader" q.1 q.2 (E.2.2.2.2.1 i) U) ∧ vk_S 4 g_len g_byt E.2.2.2.2.1 E.2.2.2.2.2 (fun q => E.2.1 ≤ q) U U.heap ∧ va_Z "java/lang/String" "COMPACT_STRINGS" "Z" (.int 1) (fun q => E.2.1 ≤ q) U U.heap ∧ va_Zq "jdk/internal/util/Preconditions" "SIOOBE_FORMATTER" "Ljava/util/function/BiFunction;" (fun q => E.2.1 ≤ q) U U.heap
def g_K (E : EE) (U : State) : Prop := va_K E.2.2.1 vwCl [(E.2.2.2.1.1, .int), (E.2.2.2.1.2, .boolean)] U
def gKn (E : EE) (U : State) : Prop := g_K E U ∧ g_nw U ∧ g_st E U ∧ E.2.1 ≤ U.heap.size
theorem gKn.same {E : EE} {u U : State} (hv : U.vm = u.vm) (hh : U.heap = u.heap) (h : gKn E u) : gKn E U := by
  have hal : u.vm.Alike U.vm := by rw [hv]; exact Vm.Alike.refl _
  obtain ⟨h1, h2, ⟨h3, h4, h5, h7⟩, h6⟩ := h
  refine ⟨va_K.moved hal h1, fun q hq => va_Nw.same rfl hv.symm (h2 q hq), ⟨fun i q hq => vk_R.same hv (h3 i q hq), ?_, ?_, ?_⟩, by rw [hh]; exact h6⟩
  · rw [hh]
    exact vk_S.moved hal h4
  · rw [hh]
    exact va_Z.moved hal h5
  · rw [hh]
    exact va_Zq.moved hal h7
theorem gKn.warm {E : EE} {s U : State} {H : Heap} {locs : List Loc} (hS : va_S (fun q => E.2.1 ≤ q) s.heap H locs) (hU : U.heap = H) (hW : s.WarmedH U.vm) (h : gKn E s) : gKn E U := by
  obtain ⟨h1, h2, ⟨h3, h4, h5, h7⟩, h6⟩ := h
  refine ⟨va_K.moved hW.alike h1, fun q hq => va_Nw.warmM hW (h2 q hq), ⟨fun i q hq => vk_R.warm hW (h3 i q hq), ?_, ?_, ?_⟩, by rw [hU]; exact Nat.le_trans h6 hS.1⟩
  · rw [hU]
    exact vk_S.moved hW.alike (h4.kept (fun a ha hn => hS.2.1 a ha hn))
  · rw [hU]
    exact va_Z.moved hW.alike (h5.kept hS.2.1)
  · rw [hU]
    exact va_Zq.moved hW.alike (h7.kept hS.2.1)

/-! ===== locals by their places ===== -/
def lvp (ls : Array Slot) (nL : Nat) (lv : List (Option Value)) : Prop := ls.size = nL ∧ lv_wf ls ∧ ∀ (i : Nat) (v : Value), lv[i]? = some (some v) → ls[i]? = some (.val v)
def lvl (lv : List (Option Value)) : List (Nat × Value) := (List.range lv.length).filterMap (fun i => match lv[i]? with
  | some (some v) => some (i, v)
  | _ => none)
theorem lvl_mem {lv : List (Option Value)} {q : Nat × Value} : q ∈ lvl lv ↔ lv[q.1]? = some (some q.2) := by
  unfold lvl
  rw [List.mem_filterMap]
  constructor
  · rintro ⟨i, hi, h⟩
    split at h
    · next v hv => cases h; exact hv
    · cases h
  · intro h
    refine ⟨q.1, List.mem_range.mpr (List.getElem?_eq_some_iff.mp h).1, ?_⟩
    rw [h]
theorem lvp.has {ls : Array Slot} {nL : Nat} {lv : List (Option Value)} (h : lvp ls nL lv) : lv_has ls nL (lvl lv) := ⟨h.1, h.2.1, fun q hq => h.2.2 q.1 q.2 (lvl_mem.mp hq)⟩
def isW (o : Option Value) : Bool := match o with
  | some (.long _) => true
  | some (.double _) => true
  | _ => false
theorem isW_of {v : Value} : isW (some v) = true ↔ v.category = 2 := by cases v <;> simp [isW, Value.category]
/-- a value of one slot is stored -/
def stv : List (Option Value) → Nat → Value → List (Option Value)
  | [], _, _ => []
  | _ :: l, 0, v => some v :: l
  | o :: l, i + 1, v => (if i = 0 ∧ isW o = true then none else o) :: stv l i v
theorem stv_get : ∀ (l : List (Option Value)) (i : Nat) (v : Value) (j : Nat) (w : Value), (stv l i v)[j]? = some (some w) → (j = i ∧ w = v) ∨ (l[j]? = some (some w) ∧ j ≠ i ∧ ¬ (j + 1 = i ∧ w.category = 2))
  | [], i, v, j, w, h => by simp [stv] at h
  | o :: l, 0, v, 0, w, h => by
    simp only [stv, List.getElem?_cons_zero, Option.some.injEq] at h
    exact Or.inl ⟨rfl, h.symm⟩
  | o :: l, 0, v, j + 1, w, h => by
    simp only [stv, List.getElem?_cons_succ] at h
    exact Or.inr ⟨by simpa using h, by omega, by omega⟩
  | o :: l, i + 1, v, 0, w, h => by
    simp only [stv, List.getElem?_cons_zero, Option.some.injEq] at h
    split at h
    · cases h
    · next hn =>
      subst h
      refine Or.inr ⟨rfl, by omega, fun hc => hn ⟨by omega, isW_of.mpr hc.2⟩⟩
  | o :: l, i + 1, v, j + 1, w, h => by
    simp only [stv, List.getElem?_cons_succ] at h
    rcases stv_get l i v j w h with ⟨h1, h2⟩ | ⟨h1, h2, h3⟩
    · exact Or.inl ⟨by omega, h2⟩
    · exact Or.inr ⟨by simpa using h1, by omega, fun hc => h3 ⟨by omega, hc.2⟩⟩
/-- the second half of a long behind its first -/
def clr : List (Option Value) → Nat → List (Option Value)
  | [], _ => []
  | _ :: l, 0 => none :: l
  | o :: l, i + 1 => o :: clr l i
theorem clr_get : ∀ (l : List (Option Value)) (i j : Nat) (w : Value), (clr l i)[j]? = some (some w) → l[j]? = some (some w) ∧ j ≠ i
  | [], i, j, w, h => by simp [clr] at h
  | o :: l, 0, 0, w, h => by simp [clr] at h
  | o :: l, 0, j + 1, w, h => by
    simp only [clr, List.getElem?_cons_succ] at h
    exact ⟨by simpa using h, by omega⟩
  | o :: l, i + 1, 0, w, h => by
    simp only [clr, List.getElem?_cons_zero] at h
    exact ⟨by simpa using h, by omega⟩
  | o :: l, i + 1, j + 1, w, h => by
    simp only [clr, List.getElem?_cons_succ] at h
    obtain ⟨h1, h2⟩ := clr_get l i j w h
    exact ⟨by simpa using h1, by omega⟩
theorem lvp.sub {ls : Array Slot} {nL : Nat} {lv lv' : List (Option Value)} (h : lvp ls nL lv) (hs : ∀ (i : Nat) (v : Value), lv'[i]? = some (some v) → lv[i]? = some (some v)) : lvp ls nL lv' := ⟨h.1, h.2.1, fun i v hv => h.2.2 i v (hs i v hv)⟩
/-- every place that is listed in the second list is so in the first: checked by running -/
def lvs : List (Option Value) → List (Option Value) → Prop
  | _, [] => True
  | l, none :: l' => lvs l.tail l'
  | l, some v :: l' => l.head? = some (some v) ∧ lvs l.tail l'
theorem lvs_get : ∀ (l l' : List (Option Value)), lvs l l' → ∀ (i : Nat) (v : Value), l'[i]? = some (some v) → l[i]? = some (some v)
  | l, [], _, i, v, h => by simp at h
  | l, none :: l', h, 0, v, hv => by simp at hv
  | l, some w :: l', h, 0, v, hv => by
    simp only [List.getElem?_cons_zero, Option.some.injEq] at hv
    subst hv
    have h1 := h.1
    cases l with
    | nil => simp at h1
    | cons a t => simpa using h1
  | l, none :: l', h, i + 1, v, hv => by
    have h2 := lvs_get l.tail l' h i v (by simpa using hv)
    cases l with
    | nil => simp at h2
    | cons a t => simpa using h2
  | l, some w :: l', h, i + 1, v, hv => by
    have h2 := lvs_get l.tail l' h.2 i v (by simpa using hv)
    cases l with
    | nil => simp at h2
    | cons a t => simpa using h2
/-! ===== the judgement ===== -/
/-- program, environment, room, start, method, arguments, what is below, method, code, goal, locals -/
abbrev CT : Type := Program × Env × Room × State × MethodId × Array Value × List Frame × Method × Code × (State → Prop) × Nat
def gV (E : EE) (X : CT) (k n : Nat) (G : Hp) (pc : Nat) (lv : List (Option Value)) (st : List Value) : Prop := match X with
  | (p, e, R, s, m, args, below, meth, c, Q, nL) => ∀ (H : Heap) (locs : List Loc) (ls : Array Slot), gWd E G H → va_S (fun q => E.2.1 ≤ q) s.heap H locs → lvp ls nL lv → W p E.1 e R s m args below meth c H locs k n Q (F0 m pc ls st)
/-- what holds all along a method: its code, class, answer's type; frames, words, cells, slots that may be used; whether it is a constructor -/
def gCx (E : EE) (X : CT) (cc : ByteArray) (own : String) (ret : Option FieldType) (F L Mc Ms : Nat) (ini : Bool) (mL : Nat) : Prop := match X with
  | (p, _e, R, s, m, args, _below, meth, c, _Q, nL) => p.tables.exec = Jvm.exec ∧ c.code = cc ∧ (c.maxLocals = nL ∧ nL = mL) ∧ s.vm.findClass own = some m.cls ∧ (∀ w ∈ TB, w.before args s = true) ∧ gKn E s ∧ (F ≤ R.frames ∧ L ≤ R.locals ∧ Mc ≤ R.cells ∧ Ms ≤ R.slots) ∧ meth.locks = false ∧ meth.sig.returnType = ret ∧ (ini = true → meth.name = "<init>")
/-- the way out, with an answer and a heap -/
def gRet (E : EE) (X : CT) (cc : ByteArray) (ret : Option FieldType) (k n : Nat) (rv : Option Value) (G : Hp) : Prop := ∀ (pc : Nat) (lv : List (Option Value)), (match rv with
  | none => decode cc pc = .ok (.return_, 1) ∧ ret = none
  | some (.int v) => decode cc pc = .ok (.ireturn, 1) ∧ ∃ ty, ret = some ty ∧ narrow ty (.int v) = .int v
  | some (.long _) => decode cc pc = .ok (.lreturn, 1) ∧ ret = some .long
  | some (.ref _) => decode cc pc = .ok (.areturn, 1) ∧ ∃ t, ret = some (.object t)
  | _ => False) → gV E X k n G pc lv rv.toList
