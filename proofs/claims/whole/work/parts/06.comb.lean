/-! ===== the methods as functions of the picture: how a step reads, writes, calls; none: it can't be said ===== -/
def mx (x y : Int32) : Int32 := if x < y then y else x
def mn (x y : Int32) : Int32 := if y < x then y else x
def ushrL (x : Int64) (y : Int32) : Int64 := (x.toUInt64 >>> (y.toInt64.toUInt64 &&& Int64.toUInt64 63)).toInt64
def shlL (x : Int64) (y : Int32) : Int64 := x <<< (y.toInt64 &&& 63)
/-- how often a loop may go round: more than any run needs -/
def FU : Nat := 1000000000
section CB
variable {β α : Type}
def lt (e : α) (κ : α → Option β) : Option β := κ e
def gI (G : Hp) (ci k a : Nat) (κ : Int32 → Option β) : Option β := if a < h_n G ∧ h_k G a = ci then κ (h_i G a k) else none
def gL (G : Hp) (ci k a : Nat) (κ : Int64 → Option β) : Option β := if a < h_n G ∧ h_k G a = ci then κ (h_l G a k) else none
def gR (G : Hp) (ci k a : Nat) (κ : Nat → Option β) : Option β := if a < h_n G ∧ h_k G a = ci then (match h_r G a k with
  | some r => κ r
  | none => none) else none
def pI (G : Hp) (ci k a : Nat) (v : Int32) (κ : Hp → Option β) : Option β := if a < h_n G ∧ h_k G a = ci then κ (s_i G a k v) else none
def pL (G : Hp) (ci k a : Nat) (v : Int64) (κ : Hp → Option β) : Option β := if a < h_n G ∧ h_k G a = ci then κ (s_l G a k v) else none
def pR (G : Hp) (ci k a : Nat) (v : Nat) (κ : Hp → Option β) : Option β := if a < h_n G ∧ h_k G a = ci then κ (s_r G a k (some v)) else none
def aL (G : Hp) (a : Nat) (κ : Int32 → Option β) : Option β := if a < h_n G ∧ h_k G a = 11 then κ (Int32.ofNat (h_z G a)) else none
/-- an element of an array of kind kc (11 int, 12 boolean) -/
def aI (G : Hp) (kc a : Nat) (i : Int32) (κ : Int32 → Option β) : Option β := if (a < h_n G ∧ h_k G a = kc) ∧ ¬ (i < 0 ∨ h_z G a ≤ i.toNatClampNeg) then κ (h_a G a i.toNatClampNeg) else none
def sI (G : Hp) (kc a : Nat) (i v : Int32) (κ : Hp → Option β) : Option β := if (a < h_n G ∧ h_k G a = kc) ∧ ¬ (i < 0 ∨ h_z G a ≤ i.toNatClampNeg) then κ (s_e G a i.toNatClampNeg v) else none
def nO (G : Hp) (ci : Nat) (κ : Nat → Hp → Option β) : Option β := κ (h_n G) (s_new G ci)
def nA (G : Hp) (kc : Nat) (z : Int32) (κ : Nat → Hp → Option β) : Option β := if ¬ z < 0 ∧ z.toNatClampNeg ≤ 1000 then κ (h_n G) (s_arr G kc z.toNatClampNeg) else none
def cA (G : Hp) (a0 : Nat) (sp : Int32) (a : Nat) (dp z : Int32) (κ : Hp → Option β) : Option β := if (a0 < h_n G ∧ h_k G a0 = 11) ∧ (a < h_n G ∧ h_k G a = 11) ∧ (¬ sp < 0 ∧ ¬ dp < 0 ∧ ¬ z < 0) ∧ sp.toNatClampNeg + z.toNatClampNeg ≤ h_z G a0 ∧ dp.toNatClampNeg + z.toNatClampNeg ≤ h_z G a then κ (s_a G a (va_cpy (h_a G a0) (h_a G a) sp.toNatClampNeg dp.toNatClampNeg z.toNatClampNeg)) else none
/-- calls: of a static method or a constructor; an answer, a picture, or both come back -/
def cP (o : Option α) (κ : α → Option β) : Option β := match o with
  | some x => κ x
  | none => none
def cH (o : Option (α × Hp)) (κ : α → Hp → Option β) : Option β := match o with
  | some x => κ x.1 x.2
  | none => none
/-- calls on an object of class ci -/
def vP (G : Hp) (ci a : Nat) (o : Option α) (κ : α → Option β) : Option β := if a < h_n G ∧ h_k G a = ci then cP o κ else none
def vH (G : Hp) (ci a : Nat) (o : Option (α × Hp)) (κ : α → Hp → Option β) : Option β := if a < h_n G ∧ h_k G a = ci then cH o κ else none
def dI (y : Int32) (o : Option β) : Option β := if y = 0 then none else o
def dL (y : Int64) (o : Option β) : Option β := if y = 0 then none else o
def zR (v : Int32) (o : Option β) : Option β := if v = 0 ∨ v = 1 then o else none
/-- a String constant's length, and its bytes -/
def sL (i : Nat) (κ : Int32 → Option β) : Option β := if i < 4 then κ (Int32.ofNat (g_len.getD i 0)) else none
def sC (i : Nat) (j : Int32) (κ : Int32 → Option β) : Option β := if i < 4 ∧ ¬ (j < 0 ∨ g_len.getD i 0 ≤ j.toNatClampNeg) then κ ((g_byt.getD i []).getD j.toNatClampNeg 0) else none
/-- the script -/
def xL (n : Nat) (κ : Int32 → Option β) : Option β := κ (Int32.ofNat n)
def xI (n : Nat) (xs : Nat → Int32) (i : Int32) (κ : Int32 → Option β) : Option β := if ¬ (i < 0 ∨ n ≤ i.toNatClampNeg) then κ (xs i.toNatClampNeg) else none
theorem lt_ok {e : α} {κ : α → Option β} {r : β} (h : lt e κ = some r) : ∃ x, x = e ∧ κ x = some r := ⟨e, rfl, h⟩
theorem ite_ok {c : Prop} [Decidable c] {A : Option β} {r : β} (h : (if c then A else none) = some r) : c ∧ A = some r := by
  by_cases hc : c
  · rw [if_pos hc] at h
    exact ⟨hc, h⟩
  · rw [if_neg hc] at h
    cases h
theorem iteT {γ : Type} {c : Prop} [Decidable c] {A B r : γ} (h : (if c then A else B) = r) (hc : c) : A = r := by rw [if_pos hc] at h; exact h
theorem iteF {γ : Type} {c : Prop} [Decidable c] {A B r : γ} (h : (if c then A else B) = r) (hc : ¬ c) : B = r := by rw [if_neg hc] at h; exact h
theorem gI_ok {G : Hp} {ci k a : Nat} {κ : Int32 → Option β} {r : β} (h : gI G ci k a κ = some r) : ∃ x, x = h_i G a k ∧ (a < h_n G ∧ h_k G a = ci) ∧ κ x = some r := ⟨_, rfl, ite_ok h⟩
theorem gL_ok {G : Hp} {ci k a : Nat} {κ : Int64 → Option β} {r : β} (h : gL G ci k a κ = some r) : ∃ x, x = h_l G a k ∧ (a < h_n G ∧ h_k G a = ci) ∧ κ x = some r := ⟨_, rfl, ite_ok h⟩
theorem gR_ok {G : Hp} {ci k a : Nat} {κ : Nat → Option β} {r : β} (h : gR G ci k a κ = some r) : ∃ x, ((a < h_n G ∧ h_k G a = ci) ∧ h_r G a k = some x) ∧ κ x = some r := by
  obtain ⟨h1, h2⟩ := ite_ok h
  cases hx : h_r G a k with
  | none => rw [hx] at h2; cases h2
  | some x => rw [hx] at h2; exact ⟨x, ⟨h1, rfl⟩, h2⟩
theorem pI_ok {G : Hp} {ci k a : Nat} {v : Int32} {κ : Hp → Option β} {r : β} (h : pI G ci k a v κ = some r) : ∃ G', G' = s_i G a k v ∧ (a < h_n G ∧ h_k G a = ci) ∧ κ G' = some r := ⟨_, rfl, ite_ok h⟩
theorem pL_ok {G : Hp} {ci k a : Nat} {v : Int64} {κ : Hp → Option β} {r : β} (h : pL G ci k a v κ = some r) : ∃ G', G' = s_l G a k v ∧ (a < h_n G ∧ h_k G a = ci) ∧ κ G' = some r := ⟨_, rfl, ite_ok h⟩
theorem pR_ok {G : Hp} {ci k a v : Nat} {κ : Hp → Option β} {r : β} (h : pR G ci k a v κ = some r) : ∃ G', G' = s_r G a k (some v) ∧ (a < h_n G ∧ h_k G a = ci) ∧ κ G' = some r := ⟨_, rfl, ite_ok h⟩
theorem aL_ok {G : Hp} {a : Nat} {κ : Int32 → Option β} {r : β} (h : aL G a κ = some r) : ∃ x, x = Int32.ofNat (h_z G a) ∧ (a < h_n G ∧ h_k G a = 11) ∧ κ x = some r := ⟨_, rfl, ite_ok h⟩
theorem aI_ok {G : Hp} {kc a : Nat} {i : Int32} {κ : Int32 → Option β} {r : β} (h : aI G kc a i κ = some r) : ∃ x, x = h_a G a i.toNatClampNeg ∧ ((a < h_n G ∧ h_k G a = kc) ∧ vp_in i (h_z G a)) ∧ κ x = some r := by
  have h9 := ite_ok h
  exact ⟨_, rfl, h9⟩
theorem sI_ok {G : Hp} {kc a : Nat} {i v : Int32} {κ : Hp → Option β} {r : β} (h : sI G kc a i v κ = some r) : ∃ G', G' = s_e G a i.toNatClampNeg v ∧ ((a < h_n G ∧ h_k G a = kc) ∧ vp_in i (h_z G a)) ∧ κ G' = some r := by
  have h9 := ite_ok h
  exact ⟨_, rfl, h9⟩
theorem nO_ok {G : Hp} {ci : Nat} {κ : Nat → Hp → Option β} {r : β} (h : nO G ci κ = some r) : ∃ a G', a = h_n G ∧ G' = s_new G ci ∧ κ a G' = some r := ⟨_, _, rfl, rfl, h⟩
theorem nA_ok {G : Hp} {kc : Nat} {z : Int32} {κ : Nat → Hp → Option β} {r : β} (h : nA G kc z κ = some r) : ∃ a G', a = h_n G ∧ G' = s_arr G kc z.toNatClampNeg ∧ (¬ z < 0 ∧ z.toNatClampNeg ≤ 1000) ∧ κ a G' = some r := ⟨_, _, rfl, rfl, ite_ok h⟩
theorem cA_ok {G : Hp} {a0 a : Nat} {sp dp z : Int32} {κ : Hp → Option β} {r : β} (h : cA G a0 sp a dp z κ = some r) : ∃ G', G' = s_a G a (va_cpy (h_a G a0) (h_a G a) sp.toNatClampNeg dp.toNatClampNeg z.toNatClampNeg) ∧ ((a0 < h_n G ∧ h_k G a0 = 11) ∧ (a < h_n G ∧ h_k G a = 11) ∧ (¬ sp < 0 ∧ ¬ dp < 0 ∧ ¬ z < 0) ∧ sp.toNatClampNeg + z.toNatClampNeg ≤ h_z G a0 ∧ dp.toNatClampNeg + z.toNatClampNeg ≤ h_z G a) ∧ κ G' = some r := ⟨_, rfl, ite_ok h⟩
theorem cP_ok {o : Option α} {κ : α → Option β} {r : β} (h : cP o κ = some r) : ∃ x, o = some x ∧ κ x = some r := by
  cases o with
  | none => cases h
  | some x => exact ⟨x, rfl, h⟩
theorem cH_ok {o : Option (α × Hp)} {κ : α → Hp → Option β} {r : β} (h : cH o κ = some r) : ∃ x G', o = some (x, G') ∧ κ x G' = some r := by
  cases o with
  | none => cases h
  | some x => exact ⟨x.1, x.2, rfl, h⟩
theorem vP_ok {G : Hp} {ci a : Nat} {o : Option α} {κ : α → Option β} {r : β} (h : vP G ci a o κ = some r) : ∃ x, (a < h_n G ∧ h_k G a = ci) ∧ o = some x ∧ κ x = some r := by
  obtain ⟨h1, h2⟩ := ite_ok h
  obtain ⟨x, h3, h4⟩ := cP_ok h2
  exact ⟨x, h1, h3, h4⟩
theorem vH_ok {G : Hp} {ci a : Nat} {o : Option (α × Hp)} {κ : α → Hp → Option β} {r : β} (h : vH G ci a o κ = some r) : ∃ x G', (a < h_n G ∧ h_k G a = ci) ∧ o = some (x, G') ∧ κ x G' = some r := by
  obtain ⟨h1, h2⟩ := ite_ok h
  obtain ⟨x, G', h3, h4⟩ := cH_ok h2
  exact ⟨x, G', h1, h3, h4⟩
theorem dI_ok {y : Int32} {o : Option β} {r : β} (h : dI y o = some r) : ¬ y = 0 ∧ o = some r := by
  by_cases hc : y = 0
  · rw [dI, if_pos hc] at h; cases h
  · rw [dI, if_neg hc] at h; exact ⟨hc, h⟩
theorem dL_ok {y : Int64} {o : Option β} {r : β} (h : dL y o = some r) : ¬ y = 0 ∧ o = some r := by
  by_cases hc : y = 0
  · rw [dL, if_pos hc] at h; cases h
  · rw [dL, if_neg hc] at h; exact ⟨hc, h⟩
theorem zR_ok {v : Int32} {o : Option β} {r : β} (h : zR v o = some r) : (v = 0 ∨ v = 1) ∧ o = some r := ite_ok h
theorem sL_ok {i : Nat} {κ : Int32 → Option β} {r : β} (h : sL i κ = some r) : ∃ x, x = Int32.ofNat (g_len.getD i 0) ∧ i < 4 ∧ κ x = some r := ⟨_, rfl, ite_ok h⟩
theorem sC_ok {i : Nat} {j : Int32} {κ : Int32 → Option β} {r : β} (h : sC i j κ = some r) : ∃ x, x = (g_byt.getD i []).getD j.toNatClampNeg 0 ∧ (i < 4 ∧ vp_in j (g_len.getD i 0)) ∧ κ x = some r := by
  have h9 := ite_ok h
  exact ⟨_, rfl, h9⟩
theorem xL_ok {n : Nat} {κ : Int32 → Option β} {r : β} (h : xL n κ = some r) : ∃ x, x = Int32.ofNat n ∧ κ x = some r := ⟨_, rfl, h⟩
theorem xI_ok {n : Nat} {xs : Nat → Int32} {i : Int32} {κ : Int32 → Option β} {r : β} (h : xI n xs i κ = some r) : ∃ x, x = xs i.toNatClampNeg ∧ vp_in i n ∧ κ x = some r := by
  have h9 := ite_ok h
  exact ⟨_, rfl, h9⟩
end CB
section GE
variable {E : EE} {X : CT} {cc : ByteArray} {own : String} {ret : Option FieldType} {F L Mc Ms : Nat} {ini : Bool} {mL : Nat} {q n : Nat} {G G' : Hp} {pc : Nat} {lv : List (Option Value)} {st : List Value}
theorem e_getI (C : gCx E X cc own ret F L Mc Ms ini mL) {idx ci k a : Nat} {fin : Bool} {ty : FieldType} {x : Int32} (hF : FL own idx ci k 0 fin ty) (hd : decode cc pc = .ok (.getfield idx, 3)) (hx : x = h_i G a k) (hg : a < h_n G ∧ h_k G a = ci) (kk : gV E X q n G (pc + 3) lv (.int x :: st)) : gV E X q n G pc lv (.ref (E.2.1 + a) :: st) := by
  subst hx
  exact g_getI C hF hd hg kk
theorem e_getL (C : gCx E X cc own ret F L Mc Ms ini mL) {idx ci k a : Nat} {fin : Bool} {ty : FieldType} {x : Int64} (hF : FL own idx ci k 1 fin ty) (hd : decode cc pc = .ok (.getfield idx, 3)) (hx : x = h_l G a k) (hg : a < h_n G ∧ h_k G a = ci) (kk : gV E X q n G (pc + 3) lv (.long x :: st)) : gV E X q n G pc lv (.ref (E.2.1 + a) :: st) := by
  subst hx
  exact g_getL C hF hd hg kk
theorem e_putI (C : gCx E X cc own ret F L Mc Ms ini mL) {idx ci k a : Nat} {fin : Bool} {ty : FieldType} {v : Int32} (hF : FL own idx ci k 0 fin ty) (hd : decode cc pc = .ok (.putfield idx, 3)) (hG : G' = s_i G a k v) (hg : a < h_n G ∧ h_k G a = ci) (hfi : fin = false ∨ (ini = true ∧ vwCl[ci]?.map (fun z => z.1) = some own)) (hn : narrow ty (.int v) = .int v) (hfit : fits ty (.int v) = true) (kk : gV E X q n G' (pc + 3) lv st) : gV E X q n G pc lv (.int v :: .ref (E.2.1 + a) :: st) := by
  subst hG
  exact g_putI C hF hd hg hfi hn hfit kk
theorem e_putL (C : gCx E X cc own ret F L Mc Ms ini mL) {idx ci k a : Nat} {fin : Bool} {v : Int64} (hF : FL own idx ci k 1 fin .long) (hd : decode cc pc = .ok (.putfield idx, 3)) (hG : G' = s_l G a k v) (hg : a < h_n G ∧ h_k G a = ci) (hfi : fin = false ∨ (ini = true ∧ vwCl[ci]?.map (fun z => z.1) = some own)) (kk : gV E X q n G' (pc + 3) lv st) : gV E X q n G pc lv (.long v :: .ref (E.2.1 + a) :: st) := by
  subst hG
  exact g_putL C hF hd hg hfi kk
theorem e_putR (C : gCx E X cc own ret F L Mc Ms ini mL) {idx ci k a r : Nat} {fin : Bool} {ty : FieldType} (hF : FL own idx ci k 2 fin ty) (hd : decode cc pc = .ok (.putfield idx, 3)) (hG : G' = s_r G a k (some r)) (hg : a < h_n G ∧ h_k G a = ci) (hfi : fin = false ∨ (ini = true ∧ vwCl[ci]?.map (fun z => z.1) = some own)) (hn : narrow ty (.ref (E.2.1 + r)) = .ref (E.2.1 + r)) (hfit : fits ty (.ref (E.2.1 + r)) = true) (kk : gV E X q n G' (pc + 3) lv st) : gV E X q n G pc lv (.ref (E.2.1 + r) :: .ref (E.2.1 + a) :: st) := by
  subst hG
  exact g_putR C hF hd hg hfi hn hfit kk
theorem e_alen (C : gCx E X cc own ret F L Mc Ms ini mL) {a : Nat} {x : Int32} (hd : decode cc pc = .ok (.arraylength, 1)) (hx : x = Int32.ofNat (h_z G a)) (hg : a < h_n G ∧ h_k G a = 11) (kk : gV E X q n G (pc + 1) lv (.int x :: st)) : gV E X q n G pc lv (.ref (E.2.1 + a) :: st) := by
  subst hx
  exact g_alen C hd hg kk
theorem e_iald (C : gCx E X cc own ret F L Mc Ms ini mL) {a : Nat} {i x : Int32} (hd : decode cc pc = .ok (.iaload, 1)) (hx : x = h_a G a i.toNatClampNeg) (hg : (a < h_n G ∧ h_k G a = 11) ∧ vp_in i (h_z G a)) (kk : gV E X q n G (pc + 1) lv (.int x :: st)) : gV E X q n G pc lv (.int i :: .ref (E.2.1 + a) :: st) := by
  subst hx
  exact g_iald C hd hg kk
theorem e_zald (C : gCx E X cc own ret F L Mc Ms ini mL) {a : Nat} {i x : Int32} (hd : decode cc pc = .ok (.baload, 1)) (hx : x = h_a G a i.toNatClampNeg) (hg : (a < h_n G ∧ h_k G a = 12) ∧ vp_in i (h_z G a)) (kk : gV E X q n G (pc + 1) lv (.int x :: st)) : gV E X q n G pc lv (.int i :: .ref (E.2.1 + a) :: st) := by
  subst hx
  exact g_zald C hd hg kk
theorem e_iast (C : gCx E X cc own ret F L Mc Ms ini mL) {a : Nat} {i x : Int32} (hd : decode cc pc = .ok (.iastore, 1)) (hG : G' = s_e G a i.toNatClampNeg x) (hg : (a < h_n G ∧ h_k G a = 11) ∧ vp_in i (h_z G a)) (kk : gV E X q n G' (pc + 1) lv st) : gV E X q n G pc lv (.int x :: .int i :: .ref (E.2.1 + a) :: st) := by
  subst hG
  exact g_iast C hd hg kk
theorem e_zast (C : gCx E X cc own ret F L Mc Ms ini mL) {a : Nat} {i x : Int32} (hd : decode cc pc = .ok (.bastore, 1)) (hG : G' = s_e G a i.toNatClampNeg x) (hg : (a < h_n G ∧ h_k G a = 12) ∧ vp_in i (h_z G a)) (hx : vp_nar .boolean x = x) (kk : gV E X q n G' (pc + 1) lv st) : gV E X q n G pc lv (.int x :: .int i :: .ref (E.2.1 + a) :: st) := by
  subst hG
  exact g_zast C hd hg hx kk
theorem e_copy (C : gCx E X cc own ret F L Mc Ms ini mL) {idx a0 a : Nat} {sp dp z : Int32} (h1 : Cond.methodLink own idx arraycopyName ∈ TB) (h2 : Cond.native arraycopyName ∈ TB) (h3 : Cond.static arraycopyName ∈ TB) (h4 : Cond.initialized "java/lang/System" ∈ TB) (hG : G' = s_a G a (va_cpy (h_a G a0) (h_a G a) sp.toNatClampNeg dp.toNatClampNeg z.toNatClampNeg)) (hg : (a0 < h_n G ∧ h_k G a0 = 11) ∧ (a < h_n G ∧ h_k G a = 11) ∧ (¬ sp < 0 ∧ ¬ dp < 0 ∧ ¬ z < 0) ∧ sp.toNatClampNeg + z.toNatClampNeg ≤ h_z G a0 ∧ dp.toNatClampNeg + z.toNatClampNeg ≤ h_z G a) (hF : 1 ≤ F) (hL : (st.map fun v => v.category).sum + 18 ≤ L) (hd : decode cc pc = .ok (.invokestatic idx, 3)) (kk : gV E X q n G' (pc + 3) lv st) : gV E X q n G pc lv (.int z :: .int dp :: .ref (E.2.1 + a) :: .int sp :: .ref (E.2.1 + a0) :: st) := by
  subst hG
  exact g_copy C h1 h2 h3 h4 hg hF hL hd kk
theorem e_top {x e : Int32} (hx : x = e) (kk : gV E X q n G pc lv (.int x :: st)) : gV E X q n G pc lv (.int e :: st) := hx ▸ kk
theorem e_topl {x e : Int64} (hx : x = e) (kk : gV E X q n G pc lv (.long x :: st)) : gV E X q n G pc lv (.long e :: st) := hx ▸ kk
theorem e_new (C : gCx E X cc own ret F L Mc Ms ini mL) {idx ci N a : Nat} {C0 : String} {T : u_T} (t0 : Nat → FieldType) (hc : vwCl[ci]? = some (C0, T, N)) (hci : ci < 11) (h2 : ∀ w ∈ u_ws C0 T N, w ∈ TB) (h3 : ∀ j, j < N → parseFieldDescriptor (T j).2.2.1 = some (t0 j)) (hlen : (fty ci).length = N) (ht : ∀ j t, (fty ci)[j]? = some t → defaultValue (t0 j) = if t = 0 then .int 0 else if t = 1 then .long 0 else .null) (h4 : Cond.classLink own idx C0 ∈ TB) (h5 : Cond.instantiable C0 N ∈ TB) (h6 : Cond.initialized C0 ∈ TB) (hq : q + 1 ≤ Mc ∧ n + N ≤ Ms) (hd : decode cc pc = .ok (.new idx, 3)) (ha : a = h_n G) (hG : G' = s_new G ci) (kk : gV E X (q + 1) (n + N) G' (pc + 3) lv (.ref (E.2.1 + a) :: st)) : gV E X q n G pc lv st := by
  subst ha hG
  exact g_new C t0 hc hci h2 h3 hlen ht h4 h5 h6 hq hd kk
theorem e_newa (C : gCx E X cc own ret F L Mc Ms ini mL) {atype : ArrayType} {kc a sl : Nat} {z : Int32} (hat : (atype = .int ∧ kc = 11) ∨ (atype = .boolean ∧ kc = 12)) (h1 : Cond.arrayClass (newarray.typeOf atype) ∈ TB) (hz : ¬ z < 0 ∧ z.toNatClampNeg ≤ 1000) (hsl : z.toNatClampNeg ≤ sl) (hq : q + 1 ≤ Mc ∧ n + sl ≤ Ms) (hd : decode cc pc = .ok (.newarray atype, 2)) (ha : a = h_n G) (hG : G' = s_arr G kc z.toNatClampNeg) (kk : gV E X (q + 1) (n + sl) G' (pc + 2) lv (.ref (E.2.1 + a) :: st)) : gV E X q n G pc lv (.int z :: st) := by
  subst ha hG
  exact g_newa C hat h1 hz.1 hz.2 ⟨hq.1, by omega⟩ hd (g_wide (Nat.le_refl _) (by omega) kk)
theorem e_max (C : gCx E X cc own ret F L Mc Ms ini mL) {idx : Nat} {x y : Int32} (h1 : Cond.methodLink own idx Lib.Math.max.name ∈ TB) (h2 : Cond.static Lib.Math.max.name ∈ TB ∧ Cond.initialized "java/lang/Math" ∈ TB ∧ Cond.code Lib.Math.max.name Lib.Math.max.code 2 (some .int) ∈ TB) (hF : 1 ≤ F) (hL : (st.map fun v => v.category).sum + 13 ≤ L) (hq : q ≤ Mc ∧ n ≤ Ms) (hd : decode cc pc = .ok (.invokestatic idx, 3)) (kk : gV E X q n G (pc + 3) lv (.int (mx x y) :: st)) : gV E X q n G pc lv (.int y :: .int x :: st) := g_max C h1 h2.1 h2.2.1 h2.2.2 hF hL hq hd kk
theorem e_min (C : gCx E X cc own ret F L Mc Ms ini mL) {idx : Nat} {x y : Int32} (h1 : Cond.methodLink own idx Lib.Math.min.name ∈ TB) (h2 : Cond.static Lib.Math.min.name ∈ TB ∧ Cond.initialized "java/lang/Math" ∈ TB ∧ Cond.code Lib.Math.min.name Lib.Math.min.code 2 (some .int) ∈ TB) (hF : 1 ≤ F) (hL : (st.map fun v => v.category).sum + 13 ≤ L) (hq : q ≤ Mc ∧ n ≤ Ms) (hd : decode cc pc = .ok (.invokestatic idx, 3)) (kk : gV E X q n G (pc + 3) lv (.int (mn x y) :: st)) : gV E X q n G pc lv (.int y :: .int x :: st) := g_min C h1 h2.1 h2.2.1 h2.2.2 hF hL hq hd kk
end GE
theorem tb_all {ws : List Cond} (h1 : ∀ w ∈ ws, w ∈ lw_tbl) (h2 : ∀ w ∈ ws, goodWord w = true) : ∀ w ∈ ws, w ∈ TB := fun w hw => List.mem_filter.mpr ⟨h1 w hw, h2 w hw⟩
/-- what the tables say of a method that is called on an object; of a static one; of a constructor -/
def CMV (y : MethodName) (cc : ByteArray) (mL : Nat) (ret : Option FieldType) (na : Nat) : Prop := Cond.instanceMethod y ∈ TB ∧ Cond.selects y.cls y y ∈ TB ∧ Cond.initialized y.cls ∈ TB ∧ Cond.code y cc mL ret ∈ TB ∧ CN y na
def CMS (y : MethodName) (cc : ByteArray) (mL : Nat) (ret : Option FieldType) (na : Nat) : Prop := Cond.static y ∈ TB ∧ Cond.initialized y.cls ∈ TB ∧ Cond.code y cc mL ret ∈ TB ∧ CN y na
def CMI (y : MethodName) (cc : ByteArray) (mL : Nat) (na : Nat) : Prop := Cond.instanceMethod y ∈ TB ∧ Cond.initialized y.cls ∈ TB ∧ Cond.code y cc mL none ∈ TB ∧ y.name = "<init>" ∧ CN y na
