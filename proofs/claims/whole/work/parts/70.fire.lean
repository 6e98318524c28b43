/-! ===== fire: sets as bits, sums the other way ===== -/
def pcN (m : Nat) : Nat := sumTo (fun q => if m.testBit q then 1 else 0) 6
theorem bt_a : ∀ m, m < 64 → ∀ q, q < 6 → (((nI m >>> (nI q &&& 31)) &&& 1) = 0 ↔ (nI m &&& (1 <<< (nI q &&& 31))) = 0) := by decide +kernel
theorem bt_b : ∀ m, m < 64 → ∀ q, q < 6 → nI m ||| (1 <<< (nI q &&& 31)) = nI (m ||| 2 ^ q) := by decide +kernel
theorem bt_c : ∀ m, m < 64 → ∀ q, q < 6 → ¬ (nI m &&& (1 <<< (nI q &&& 31))) = 0 → m ||| 2 ^ q = m := by decide +kernel
theorem bt_d : ∀ m, m < 64 → ∀ q, q < 6 → (nI m &&& (1 <<< (nI q &&& 31))) = 0 → 2 ^ q &&& m = 0 := by decide +kernel
theorem bt_e : ∀ m, m < 64 → ∀ f, f < 64 → f &&& m = 0 → (m ||| f = m → f = 0) ∧ (¬ f = 0 → pcN m + 1 ≤ pcN (m ||| f)) := by decide +kernel
theorem bt_f : ∀ n, n < 7 → ∀ m, m < 2 ^ n → n ≤ pcN m → ∀ q, q < n → ¬ (nI m &&& (1 <<< (nI q &&& 31))) = 0 := by decide +kernel
theorem nI_or (x y : Nat) : nI (x ||| y) = nI x ||| nI y := by
  apply Int32.toBitVec_inj.mp
  rw [Int32.toBitVec_or]
  exact BitVec.ofNat_or
theorem nI_and (x y : Nat) : nI (x &&& y) = nI x &&& nI y := by
  apply Int32.toBitVec_inj.mp
  rw [Int32.toBitVec_and]
  exact BitVec.ofNat_and
theorem or_lt2 {n x y : Nat} (hx : x < 2 ^ n) (hy : y < 2 ^ n) : x ||| y < 2 ^ n := Nat.or_lt_two_pow hx hy
theorem pw64 {n : Nat} (hn : n ≤ 6) : 2 ^ n ≤ 64 := by
  have : 2 ^ n ≤ 2 ^ 6 := Nat.pow_le_pow_right (by omega) hn
  have h : (2 : Nat) ^ 6 = 64 := by decide
  omega
theorem sumTo_add (g h : Nat → Nat) : ∀ n, sumTo (fun q => g q + h q) n = sumTo g n + sumTo h n
  | 0 => rfl
  | n + 1 => by
    show sumTo (fun q => g q + h q) n + (g n + h n) = (sumTo g n + g n) + (sumTo h n + h n)
    rw [sumTo_add g h n]
    omega
theorem sumTo_0 : ∀ n, sumTo (fun _ => 0) n = 0
  | 0 => rfl
  | n + 1 => by
    show sumTo (fun _ => 0) n + 0 = 0
    rw [sumTo_0 n]
theorem sumTo_sw (g : Nat → Nat → Nat) (n : Nat) : ∀ m, sumTo (fun q => sumTo (g q) m) n = sumTo (fun f => sumTo (fun q => g q f) n) m
  | 0 => sumTo_0 n
  | m + 1 => by
    show sumTo (fun q => sumTo (g q) m + g q m) n = sumTo (fun f => sumTo (fun q => g q f) n) m + sumTo (fun q => g q m) n
    rw [sumTo_add, sumTo_sw g n m]
theorem sumTo_1 {x c : Nat} : ∀ n, sumTo (fun q => if q = c then x else 0) n = if c < n then x else 0
  | 0 => by rw [if_neg (by omega)]; rfl
  | n + 1 => by
    show sumTo (fun q => if q = c then x else 0) n + (if n = c then x else 0) = _
    rw [sumTo_1 n]
    by_cases h : n = c
    · rw [if_pos h, if_neg (by omega), if_pos (by omega), Nat.zero_add]
    · rw [if_neg h, Nat.add_zero]
      by_cases h2 : c < n
      · rw [if_pos h2, if_pos (by omega)]
      · rw [if_neg h2, if_neg (by omega)]
theorem up2_ck {α : Type} {f : Nat → Nat → α} {b k k' : Nat} {v w : α} (h : ¬ k = k') : up2 (up2 f b k v) b k' w = up2 (up2 f b k' w) b k v := by
  funext x y
  by_cases e1 : x = b
  · subst e1
    by_cases e : y = k
    · subst e
      rw [up2_n (fun c => h c.2), up2_s, up2_s]
    · by_cases e2 : y = k'
      · subst e2
        rw [up2_s, up2_n (fun c => e c.2), up2_s]
      · rw [up2_n (fun c => e2 c.2), up2_n (fun c => e c.2), up2_n (fun c => e c.2), up2_n (fun c => e2 c.2)]
  · rw [up2_n (fun c => e1 c.1), up2_n (fun c => e1 c.1), up2_n (fun c => e1 c.1), up2_n (fun c => e1 c.1)]
/-- what p is to do; what is done for p by those outside m -/
def dueN (D : Nat → Nat → Nat) (n p : Nat) : Nat := sumTo (fun q => D p q) n
def dnN (D : Nat → Nat → Nat) (n m p : Nat) : Nat := sumTo (fun q => if (nI m &&& (1 <<< (nI q &&& 31))) = 0 then D q p else 0) n
/-- who of the first ones falls next -/
def falN (v : Nat → Int32) (D : Nat → Nat → Nat) (n m : Nat) : Nat → Nat
  | 0 => 0
  | p + 1 => if (nI m &&& (1 <<< (nI p &&& 31))) = 0 ∧ ¬ nI (dueN D n p) ≤ v (2 + p) + nI (dnN D n m p) then falN v D n m p ||| 2 ^ p else falN v D n m p
def tdF (v : Nat → Int32) (d p f : Nat) : Nat := if v (14 + (f * 7 + 1)) = nI p then uN v f d else 0
def mdF (v : Nat → Int32) (d p m f : Nat) : Nat := if v (14 + (f * 7 + 2)) = nI p ∧ (nI m &&& (1 <<< (v (14 + (f * 7 + 1)) &&& 31))) = 0 then uN v f d else 0
def fI (i : Nat → Nat → Int32) (m r : Nat) : Nat → Nat → Int32 := up2 (up2 i 117 4 (nI m)) 117 5 (nI r)
theorem fI_u {i : Nat → Nat → Int32} {m r m' r' : Nat} : up2 (up2 (fI i m r) 117 4 (nI m')) 117 5 (nI r') = fI i m' r' := by
  unfold fI
  rw [up2_ck (b := 117) (k := 5) (k' := 4) (by omega), up2_u, up2_u]
theorem falN_ok {v : Nat → Int32} {D : Nat → Nat → Nat} {n m : Nat} (hn : n ≤ 6) (hm : m < 2 ^ n) : ∀ p, p ≤ n → falN v D n m p < 2 ^ n ∧ falN v D n m p &&& m = 0
  | 0, _ => ⟨Nat.two_pow_pos n, Nat.zero_and m⟩
  | p + 1, hp => by
    have I := falN_ok (v := v) (D := D) hn hm p (by omega)
    have hb := pw64 hn
    unfold falN
    split
    · next c =>
      refine ⟨or_lt2 I.1 (Nat.pow_lt_pow_right (by omega) (by omega)), ?_⟩
      rw [Nat.and_or_distrib_right, I.2, bt_d m (by omega) p (by omega) c.1]
      rfl
    · exact I
theorem falN_0 {v : Nat → Int32} {D : Nat → Nat → Nat} {n m : Nat} (h : ∀ q, q < n → ¬ (nI m &&& (1 <<< (nI q &&& 31))) = 0) : ∀ p, p ≤ n → falN v D n m p = 0
  | 0, _ => rfl
  | p + 1, hp => by
    unfold falN
    rw [if_neg (fun c => h p (by omega) c.1)]
    exact falN_0 h p (by omega)
section FR
variable {i : Nat → Nat → Int32} {l : Nat → Nat → Int64} {a : Nat → Nat → Int32} {v : Nat → Int32} {n nf nn np dy : Nat} {D : Nat → Nat → Nat}
theorem nI_z {x : Nat} (hx : x < 2147483648) : (nI x = 0) = (x = 0) := by rw [show (0 : Int32) = nI 0 from rfl, nI_eq' hx (by omega)]
theorem fire_in (K : Hp → Nat → Nat → Int32 → Option Hp) (hn : n ≤ 6) {m r : Nat} (hm : m < 2 ^ n) (hD : Dbt (fI i m r) a n D) (h3 : i 3 2 = nI n) (hS : ∀ p, p < n → a 4 (p * 2 + 0) = v (2 + p)) (rr : Nat) : ∀ (fu p : Nat), p ≤ n → n - p < fu → f_De_callAllIn_b25 K fu (mkH (fI i m r) l a) 117 3 (nI rr) (nI (falN v D n m p)) (nI p) = if falN v D n m n = 0 then some (mkH (fI i m r) l a) else K (mkH (fI i (m ||| falN v D n m n) (r + 1)) l a) 117 3 (nI (rr + 1)) := by
  have hb := pw64 hn
  have h4 : fI i m r 117 4 = nI m := (up2_n (by omega)).trans up2_s
  have h5 : fI i m r 117 5 = nI r := up2_s
  intro fu
  induction fu with
  | zero => intro p _ h; omega
  | succ fu ih =>
    intro p hp hf
    show f_De_callAllIn_b25_k K (f_De_callAllIn_b25 K fu) _ _ _ _ _ _ = _
    unfold f_De_callAllIn_b25_k
    have I0 := falN_ok (v := v) (D := D) hn hm p hp
    by_cases h : p = n
    · subst h
      rw [g_117_3, hD.1, ifn_y (by omega) (by omega) (by omega)]
      by_cases e : falN v D p m p = 0
      · rw [if_pos (by rw [e]; rfl), if_pos e]
      · have e2 : nI m ||| nI (falN v D p m p) = nI (m ||| falN v D p m p) := by
          exact (nI_or _ _).symm
        rw [if_neg (by rw [nI_z (by omega)]; exact e), if_neg e, g_117_4, h4, p_117_4, g_117_5, up2_n (by omega), h5, p_117_5, nI_s1, nI_s1, e2, fI_u]
    · have hpn : p < n := by omega
      have I := ih (p + 1) (by omega) (by omega)
      rw [g_117_3, hD.1, ifn_n (by omega) (by omega) (by omega), lt_e, g_117_4, h4]
      unfold f_De_callAllIn_b55 f_De_callAllIn_b94
      have DU : f_De_dueFrom (mkH (fI i m r) l a) 117 (nI p) = some (nI (dueN D n p)) := dueFrom_ok hD hpn
      have DF : f_De_doneFor (mkH (fI i m r) l a) 117 (nI p) (nI m) = some (nI (dnN D n m p)) := doneFor_ok hD hpn (nI m)
      by_cases e : (nI m &&& (1 <<< (nI p &&& 31))) = 0
      · rw [if_pos e, if_neg n10, o_117, DU, cP_s, o_3, c_at (t := 3) (m := 6) (w := 2) (c := 0) (k := 0) (by decide) rfl (show fI i m r 3 2 = nI n from ((up2_n (by omega)).trans (up2_n (by omega))).trans h3) hn hpn (by omega), cP_s, show a (3 + 1) (p * 2 + 0) = v (2 + p) from hS p hpn, g_117_4, h4, o_117, DF, cP_s, nI_s1]
        by_cases c : nI (dueN D n p) ≤ v (2 + p) + nI (dnN D n m p)
        · rw [show falN v D n m (p + 1) = falN v D n m p from if_neg (fun x => x.2 c)] at I
          rw [if_pos c]
          exact I
        · rw [show falN v D n m (p + 1) = falN v D n m p ||| 2 ^ p from if_pos ⟨e, c⟩] at I
          rw [if_neg c, lt_e, bt_b _ (by omega) p (by omega)]
          exact I
      · rw [if_neg e, if_pos rfl, nI_s1]
        rw [show falN v D n m (p + 1) = falN v D n m p from if_neg (fun x => e x.1)] at I
        exact I
theorem gone_0 {f : Nat} {d : Int32} (h : v (14 + (f * 7 + 2)) = -1) : valF (fv v) f d = 0 := by
  unfold valF valC fv
  rw [if_pos h]
theorem swap_due (hN : Now i a v n nf nn np dy) {d p : Nat} (hp : p < n) : dueN (owN v nf d) n p = sumTo (tdF v d p) nf := by
  have hn := hN.1.2.1
  unfold dueN
  show sumTo (fun q => sumTo (owF v d p q) nf) n = _
  rw [sumTo_sw]
  refine sumTo_c nf (fun f hf => ?_)
  obtain ⟨k, b, t, w, tl, m, -, ⟨g1, hb⟩, g2, -⟩ := hN.2.2.1.2.1 f hf
  unfold tdF
  by_cases e : v (14 + (f * 7 + 1)) = nI p
  · rw [if_pos e]
    rcases g2 with g2 | ⟨c, g2, hc, -⟩
    · rw [show uN v f d = 0 by unfold uN; rw [gone_0 g2]; rfl]
      rw [← sumTo_0 n]
      refine sumTo_c n (fun q hq => if_neg (fun x => ?_))
      have := x.2
      rw [g2] at this
      have := this.symm
      rw [nI_neg1 (by omega)] at this
      exact this
    · rw [sumTo_c (g' := fun q => if q = c then uN v f d else 0) n (fun q hq => ?_), sumTo_1, if_pos hc]
      unfold owF
      by_cases e2 : q = c
      · rw [if_pos e2, if_pos ⟨e, by rw [g2, e2]⟩]
      · rw [if_neg e2, if_neg (fun x => ?_)]
        have := x.2
        rw [g2, nI_eq' (by omega) (by omega)] at this
        exact e2 this.symm
  · rw [if_neg e, ← sumTo_0 n]
    exact sumTo_c n (fun q hq => if_neg (fun x => e x.1))
theorem swap_dn (hN : Now i a v n nf nn np dy) {d p m : Nat} (hp : p < n) : dnN (owN v nf d) n m p = sumTo (mdF v d p m) nf := by
  have hn := hN.1.2.1
  unfold dnN
  have E : ∀ q, (if (nI m &&& (1 <<< (nI q &&& 31))) = 0 then owN v nf d q p else 0) = sumTo (fun f => if (nI m &&& (1 <<< (nI q &&& 31))) = 0 then owF v d q p f else 0) nf := by
    intro q
    by_cases e : (nI m &&& (1 <<< (nI q &&& 31))) = 0
    · rw [if_pos e]
      exact sumTo_c nf (fun f _ => (if_pos e).symm)
    · rw [if_neg e]
      exact (sumTo_0 nf).symm.trans (sumTo_c nf (fun f _ => (if_neg e).symm))
  rw [sumTo_c n (fun q _ => E q), sumTo_sw]
  refine sumTo_c nf (fun f hf => ?_)
  obtain ⟨k, b, t, w, tl, m', -, ⟨g1, hb⟩, g2, -⟩ := hN.2.2.1.2.1 f hf
  unfold mdF
  rw [g1]
  rw [sumTo_c (g' := fun q => if q = b then (if v (14 + (f * 7 + 2)) = nI p ∧ (nI m &&& (1 <<< (nI b &&& 31))) = 0 then uN v f d else 0) else 0) n (fun q hq => ?_), sumTo_1, if_pos hb]
  unfold owF
  by_cases e : q = b
  · subst e
    rw [if_pos rfl]
    by_cases e1 : (nI m &&& (1 <<< (nI q &&& 31))) = 0
    · rw [if_pos e1]
      by_cases e2 : v (14 + (f * 7 + 2)) = nI p
      · rw [if_pos ⟨g1, e2⟩, if_pos ⟨e2, e1⟩]
      · rw [if_neg (fun x => e2 x.2), if_neg (fun x => e2 x.1)]
    · rw [if_neg e1, if_neg (fun x => e1 x.2)]
  · rw [if_neg e, if_neg (c := v (14 + (f * 7 + 1)) = nI q ∧ v (14 + (f * 7 + 2)) = nI p) (fun x => ?_), ite_self]
    have := x.1
    rw [g1, nI_eq' (by omega) (by omega)] at this
    exact e this.symm
theorem toDo_loop (hN : Now i a v n nf nn np dy) {i1 a1 : Nat → Nat → Int32} (h7 : a1 137 = v) {d p : Nat} (hd : d ≤ 99) : ∀ (fu j : Nat), j ≤ nf → nf - j < fu → f_Mo_toDo_b5 (mkH i1 l a1) fu 136 (nI p) (nI d) (nI (sumTo (tdF v d p) j)) (nI j) = some (nI (sumTo (tdF v d p) nf)) := by
  have a3 := hN.1.2.2.1
  intro fu
  induction fu with
  | zero => intro j _ h; omega
  | succ fu ih =>
    intro j hj hf
    show f_Mo_toDo_b5_k _ (f_Mo_toDo_b5 _ fu) _ _ _ _ _ = _
    unfold f_Mo_toDo_b5_k f_Mo_toDo_b41
    by_cases h : j = nf
    · subst h
      rw [r_136_0, b_137 (x := 158) (m := 158) rfl (by omega), h7, a3.1, ifn_y (by omega) (by omega) (by omega)]
    · have I := ih (j + 1) (by omega) (by omega)
      have S : sumTo (tdF v d p) (j + 1) = sumTo (tdF v d p) j + tdF v d p j := rfl
      rw [r_136_0, b_137 (x := 158) (m := 158) rfl (by omega), h7, a3.1, ifn_n (by omega) (by omega) (by omega), o_136, told_1 (c := 1) (k := 1) h7 rfl (by omega) (by omega) rfl, cP_s]
      by_cases e : v (14 + (j * 7 + 1)) = nI p
      · rw [show tdF v d p j = uN v j d from if_pos e] at S
        rw [if_pos e, o_136, mOn hN (by omega) hd h7, cP_s, lt_e, nI_s1, nI_add, ← S]
        exact I
      · rw [show tdF v d p j = 0 from if_neg e, Nat.add_zero (sumTo (tdF v d p) j)] at S
        rw [if_neg e, lt_e, nI_s1, a0, ← S]
        exact I
theorem toDo_ok (hN : Now i a v n nf nn np dy) {i1 a1 : Nat → Nat → Int32} (h7 : a1 137 = v) {d p : Nat} (hd : d ≤ 99) (hp : p < n) : f_Mo_toDo (mkH i1 l a1) 136 (nI p) (nI d) = some (nI (dueN (owN v nf d) n p)) := by
  rw [swap_due hN hp]
  exact toDo_loop hN h7 hd FU 0 (by omega) (FU_lt (by have := hN.1.2.2.1.2; omega))
theorem mdone_loop (hN : Now i a v n nf nn np dy) {i1 a1 : Nat → Nat → Int32} (h7 : a1 137 = v) {d p m : Nat} (hd : d ≤ 99) (hm : m < 64) : ∀ (fu j : Nat), j ≤ nf → nf - j < fu → f_Mo_doneFor_b6 (mkH i1 l a1) fu 136 (nI p) (nI d) (nI m) (nI (sumTo (mdF v d p m) j)) (nI j) = some (nI (sumTo (mdF v d p m) nf)) := by
  have a3 := hN.1.2.2.1
  have hn := hN.1.2.1
  intro fu
  induction fu with
  | zero => intro j _ h; omega
  | succ fu ih =>
    intro j hj hf
    show f_Mo_doneFor_b6_k _ (f_Mo_doneFor_b6 _ fu) _ _ _ _ _ _ = _
    unfold f_Mo_doneFor_b6_k f_Mo_doneFor_b56 f_Mo_doneFor_b57
    by_cases h : j = nf
    · subst h
      rw [r_136_0, b_137 (x := 158) (m := 158) rfl (by omega), h7, a3.1, ifn_y (by omega) (by omega) (by omega)]
    · have I := ih (j + 1) (by omega) (by omega)
      obtain ⟨k, b, t, w, tl, m', -, ⟨g1, hb⟩, -⟩ := hN.2.2.1.2.1 j (by omega)
      have S : sumTo (mdF v d p m) (j + 1) = sumTo (mdF v d p m) j + mdF v d p m j := rfl
      rw [r_136_0, b_137 (x := 158) (m := 158) rfl (by omega), h7, a3.1, ifn_n (by omega) (by omega) (by omega), o_136, told_1 (c := 2) (k := 2) h7 rfl (by omega) (by omega) rfl, cP_s, nI_s1]
      by_cases e : v (14 + (j * 7 + 2)) = nI p
      · rw [if_pos e, o_136, told_1 (c := 1) (k := 1) h7 rfl (by omega) (by omega) g1, cP_s]
        by_cases e2 : (nI m &&& (1 <<< (nI b &&& 31))) = 0
        · rw [show mdF v d p m j = uN v j d from if_pos ⟨e, by rw [g1]; exact e2⟩] at S
          rw [if_pos ((bt_a m hm b (by omega)).mpr e2), o_136, mOn hN (by omega) hd h7, cP_s, lt_e, nI_add, ← S]
          exact I
        · rw [show mdF v d p m j = 0 from if_neg (fun x => e2 (by rw [← g1]; exact x.2)), Nat.add_zero (sumTo (mdF v d p m) j)] at S
          rw [if_neg (fun x => e2 ((bt_a m hm b (by omega)).mp x)), lt_e, a0, ← S]
          exact I
      · rw [show mdF v d p m j = 0 from if_neg (fun x => e x.1), Nat.add_zero (sumTo (mdF v d p m) j)] at S
        rw [if_neg e, lt_e, a0, ← S]
        exact I
theorem mdone_ok (hN : Now i a v n nf nn np dy) {i1 a1 : Nat → Nat → Int32} (h7 : a1 137 = v) {d p m : Nat} (hd : d ≤ 99) (hm : m < 64) (hp : p < n) : f_Mo_doneFor (mkH i1 l a1) 136 (nI p) (nI d) (nI m) = some (nI (dnN (owN v nf d) n m p)) := by
  rw [swap_dn hN hp]
  exact mdone_loop hN h7 hd hm FU 0 (by omega) (FU_lt (by have := hN.1.2.2.1.2; omega))
theorem mfire_in (hN : Now i a v n nf nn np dy) {i1 a1 : Nat → Nat → Int32} (h7 : a1 137 = v) {d m : Nat} (hd : d ≤ 99) (hm : m < 2 ^ n) (w : Int32) (r : Nat) (K : Hp → Nat → Int32 → Int32 → Int32 → Int32 → Int32 → Option (Int32 × Hp)) : ∀ (fu p : Nat), p ≤ n → n - p < fu → f_Mo_fire_b43 K fu (mkH i1 l a1) 136 (nI d) w (nI m) (nI r) (nI (m ||| falN v (owN v nf d) n m p)) (nI p) = if falN v (owN v nf d) n m n = 0 then K (mkH i1 l a1) 136 (nI d) w (nI m) (nI r) 0 else K (mkH i1 l a1) 136 (nI d) w (nI (m ||| falN v (owN v nf d) n m n)) (nI (r + 1)) 1 := by
  have hn := hN.1.2.1
  have hb := pw64 hn.2.2
  intro fu
  induction fu with
  | zero => intro j _ h; omega
  | succ fu ih =>
    intro p hp hf
    show f_Mo_fire_b43_k K (f_Mo_fire_b43 K fu) _ _ _ _ _ _ _ _ = _
    unfold f_Mo_fire_b43_k f_Mo_fire_b110 f_Mo_fire_b124 f_Mo_fire_b90
    have I0 := falN_ok (v := v) (D := owN v nf d) hn.2.2 hm p hp
    have O0 := or_lt2 hm I0.1
    by_cases h : p = n
    · subst h
      rw [o_136, Mo_many_ok, cP_s, h7, hn.1, ifn_y (by omega) (by omega) (by omega)]
      by_cases e : falN v (owN v nf d) p m p = 0
      · rw [if_pos e, e, Nat.or_zero, if_pos rfl, if_pos rfl, lt_e, a0]
      · have ne : ¬ nI (m ||| falN v (owN v nf d) p m p) = nI m := by
          rw [nI_eq' (by omega) (by omega)]
          exact fun x => e ((bt_e m (by omega) _ (by omega) I0.2).1 x)
        rw [if_neg e, if_neg ne, if_neg n10, lt_e, nI_s1]
    · have hpn : p < n := by omega
      have I := ih (p + 1) (by omega) (by omega)
      rw [o_136, Mo_many_ok, cP_s, h7, hn.1, ifn_n (by omega) (by omega) (by omega), o_136, toDo_ok hN h7 hd hpn, cP_s, r_136_0, b_137 (x := 2 + nI p) (m := 2 + p) (nI_add 2 p) (by omega), h7, o_136, mdone_ok hN h7 hd (by omega) hpn, cP_s, nI_s1]
      by_cases c : nI (dueN (owN v nf d) n p) ≤ v (2 + p) + nI (dnN (owN v nf d) n m p)
      · rw [show falN v (owN v nf d) n m (p + 1) = falN v (owN v nf d) n m p from if_neg (fun x => x.2 c)] at I
        rw [if_pos c, lt_e, show nI (m ||| falN v (owN v nf d) n m p) ||| 0 = nI (m ||| falN v (owN v nf d) n m p) from Int32.or_zero]
        exact I
      · rw [if_neg c, lt_e, bt_b _ (by omega) p (by omega)]
        by_cases e : (nI m &&& (1 <<< (nI p &&& 31))) = 0
        · rw [show falN v (owN v nf d) n m (p + 1) = falN v (owN v nf d) n m p ||| 2 ^ p from if_pos ⟨e, c⟩, ← Nat.or_assoc] at I
          exact I
        · rw [show falN v (owN v nf d) n m (p + 1) = falN v (owN v nf d) n m p from if_neg (fun x => e x.1)] at I
          rw [Nat.or_assoc, Nat.or_comm _ (2 ^ p), ← Nat.or_assoc, bt_c m (by omega) p (by omega) e]
          exact I
theorem fI_n {m r b k : Nat} (h : ¬ (b = 117 ∧ (k = 4 ∨ k = 5))) : fI i m r b k = i b k := by
  unfold fI
  rw [up2_n (by omega), up2_n (by omega)]
theorem fire_both (hN : Now i a v n nf nn np dy) {d : Nat} (hd : d ≤ 99) {i' a' : Nat → Nat → Int32} (hD : Dbt i' a' n (owN v nf d)) (h3 : i' 3 2 = nI n) (hS : ∀ p, p < n → a' 4 (p * 2 + 0) = v (2 + p)) (w : Int32) : ∀ (k r m fu : Nat), n - r = k → r ≤ n → m < 2 ^ n → r ≤ pcN m → k < fu → ∃ m2 r2, f_De_callAllIn_b12 fu (mkH (fI i' m r) l a') 117 3 (nI r) = some (mkH (fI i' m2 r2) l a') ∧ ∀ (i1 a1 : Nat → Nat → Int32) (fu2 : Nat), a1 137 = v → k + 2 ≤ fu2 → f_Mo_fire_b32 fu2 (mkH i1 l a1) 136 (nI d) w (nI m) (nI r) 1 = some (if w = 0 then nI m2 else nI r2, mkH i1 l a1) := by
  have hn := hN.1.2.1
  have hb := pw64 hn.2.2
  have STOP : ∀ (r m : Nat) (i1 a1 : Nat → Nat → Int32) (fu2 : Nat), f_Mo_fire_b32 (fu2 + 1) (mkH i1 l a1) 136 (nI d) w (nI m) (nI r) 0 = some (if w = 0 then nI m else nI r, mkH i1 l a1) := by
    intro r m i1 a1 fu2
    show f_Mo_fire_b32_k (f_Mo_fire_b32 fu2) _ _ _ _ _ _ _ = _
    unfold f_Mo_fire_b32_k f_Mo_fire_b143
    rw [if_pos rfl]
    by_cases e : w = 0
    · rw [if_pos e, if_pos e]
    · rw [if_neg e, if_neg e]
  have STEP : ∀ (r m : Nat) (i1 a1 : Nat → Nat → Int32) (fu2 : Nat), m < 2 ^ n → a1 137 = v → f_Mo_fire_b32 (fu2 + 1) (mkH i1 l a1) 136 (nI d) w (nI m) (nI r) 1 = if falN v (owN v nf d) n m n = 0 then f_Mo_fire_b32 fu2 (mkH i1 l a1) 136 (nI d) w (nI m) (nI r) 0 else f_Mo_fire_b32 fu2 (mkH i1 l a1) 136 (nI d) w (nI (m ||| falN v (owN v nf d) n m n)) (nI (r + 1)) 1 := by
    intro r m i1 a1 fu2 hm h7
    show f_Mo_fire_b32_k (f_Mo_fire_b32 fu2) _ _ _ _ _ _ _ = _
    unfold f_Mo_fire_b32_k
    rw [if_neg n10]
    have := mfire_in (l := l) (i1 := i1) hN h7 hd hm w r (f_Mo_fire_b32 fu2) FU 0 (by omega) (FU_lt (by omega))
    rw [show falN v (owN v nf d) n m 0 = 0 from rfl, Nat.or_zero] at this
    exact this
  intro k
  induction k with
  | zero =>
    intro r m fu hk hr hm hp hfu
    obtain ⟨fu, rfl⟩ : ∃ f, fu = f + 1 := ⟨fu - 1, by omega⟩
    have er : r = n := by omega
    subst er
    have z : falN v (owN v nf d) r m r = 0 := falN_0 (bt_f r (by omega) m hm hp) r (Nat.le_refl _)
    refine ⟨m, r, ?_, fun i1 a1 fu2 h7 h2 => ?_⟩
    · show f_De_callAllIn_b12_k (f_De_callAllIn_b12 fu) _ _ _ _ = _
      unfold f_De_callAllIn_b12_k
      rw [g_117_3, fI_n (by omega), hD.1, ifn_y (by omega) (by omega) (by omega)]
    · obtain ⟨f2, rfl⟩ : ∃ f, fu2 = f + 1 + 1 := ⟨fu2 - 2, by omega⟩
      rw [STEP _ _ _ _ _ hm h7, if_pos z, STOP]
  | succ k ih =>
    intro r m fu hk hr hm hp hfu
    obtain ⟨fu, rfl⟩ : ∃ f, fu = f + 1 := ⟨fu - 1, by omega⟩
    have hDf : Dbt (fI i' m r) a' n (owN v nf d) := ⟨by rw [fI_n (by omega)]; exact hD.1, hD.2.1, by rw [fI_n (by omega)]; exact hD.2.2.1, hD.2.2.2⟩
    have C : f_De_callAllIn_b12 (fu + 1) (mkH (fI i' m r) l a') 117 3 (nI r) = if falN v (owN v nf d) n m n = 0 then some (mkH (fI i' m r) l a') else f_De_callAllIn_b12 fu (mkH (fI i' (m ||| falN v (owN v nf d) n m n) (r + 1)) l a') 117 3 (nI (r + 1)) := by
      show f_De_callAllIn_b12_k (f_De_callAllIn_b12 fu) _ _ _ _ = _
      unfold f_De_callAllIn_b12_k
      rw [g_117_3, fI_n (by omega), hD.1, ifn_n (by omega) (by omega) (by omega)]
      exact fire_in (f_De_callAllIn_b12 fu) hn.2.2 hm hDf h3 hS r FU 0 (by omega) (FU_lt (by omega))
    have I0 := falN_ok (v := v) (D := owN v nf d) hn.2.2 hm n (Nat.le_refl _)
    by_cases z : falN v (owN v nf d) n m n = 0
    · refine ⟨m, r, by rw [C, if_pos z], fun i1 a1 fu2 h7 h2 => ?_⟩
      obtain ⟨f2, rfl⟩ : ∃ f, fu2 = f + 1 + 1 := ⟨fu2 - 2, by omega⟩
      rw [STEP _ _ _ _ _ hm h7, if_pos z, STOP]
    · have Q := (bt_e m (by omega) _ (by omega) I0.2).2 z
      obtain ⟨m2, r2, g1, g2⟩ := ih (r + 1) (m ||| falN v (owN v nf d) n m n) fu (by omega) (by omega) (or_lt2 hm I0.1) (by omega) (by omega)
      refine ⟨m2, r2, by rw [C, if_neg z]; exact g1, fun i1 a1 fu2 h7 h2 => ?_⟩
      obtain ⟨f2, rfl⟩ : ∃ f, fu2 = f + 1 := ⟨fu2 - 1, by omega⟩
      rw [STEP _ _ _ _ _ hm h7, if_neg z]
      exact g2 i1 a1 f2 h7 (by omega)
theorem call_fire (H : Inv i l a) (d w : Int32) : Call (fun G => f_Fa_fire G 0 d w) (fun G => f_Mo_fire G 136 d w) i l a := by
  obtain ⟨n, nf, nn, np, dy, hN⟩ := now_of H; obtain ⟨⟨a1, a2, a3, a4, a5⟩, ⟨b1, b2, b3, b4, b5, b6⟩, ⟨c1, c2, c3, c4, c5⟩, ⟨d1, d2, d3, d4, d5⟩⟩ := id hN
  rcases ck_day d with ⟨F1, M1⟩ | ⟨d, hd, rfl, F1, M1⟩
  · (refine call_bad (r := -2) H ?_ (fun i1 => ?_); (unfold f_Fa_fire f_Fa_fire_b16; simp only [r_0_3, r_2_0, r_2_1, r_2_2, r_2_3, r_2_4, g_2_5, o_0, o_2, o_3, o_5, o_7, o_9, o_11, O_0, O_2, O_3, O_5, O_7, O_9, O_11, r_0_8, p_124_0, cP_s, cH_s, n10, if_true, if_false, zR_0, zR_1, lt_e, cH_id, F1]); (unfold f_Mo_fire f_Mo_fire_b17; simp only [r_136_0, o_136, O_136, r_136_3, cP_s, cH_s, n10, if_true, if_false, zR_0, zR_1, lt_e, Mo_many_ok, Mo_day_ok, cH_id, M1]))
  rcases ck_wi w (lo := 0) (hi := 1) (c := 0) (d := 1) (c' := 0) (d' := 1) rfl rfl rfl rfl (by omega) (by omega) with ⟨F2, M2⟩ | ⟨w, hw1, hw, rfl, F2, M2⟩
  · (refine call_bad (r := -2) H ?_ (fun i1 => ?_); (unfold f_Fa_fire f_Fa_fire_b16; simp only [r_0_3, r_2_0, r_2_1, r_2_2, r_2_3, r_2_4, g_2_5, o_0, o_2, o_3, o_5, o_7, o_9, o_11, O_0, O_2, O_3, O_5, O_7, O_9, O_11, r_0_8, p_124_0, cP_s, cH_s, n10, if_true, if_false, zR_0, zR_1, lt_e, cH_id, F1, F2]); (unfold f_Mo_fire f_Mo_fire_b17; simp only [r_136_0, o_136, O_136, r_136_3, cP_s, cH_s, n10, if_true, if_false, zR_0, zR_1, lt_e, Mo_many_ok, Mo_day_ok, cH_id, M1, M2]))
  obtain ⟨a1', f1, e1, hD⟩ := addUp_ok (l := l) hN hd
  obtain ⟨m2, r2, g1, g2⟩ := fire_both (l := l) hN hd hD (by rw [up2_n (by omega), up2_n (by omega)]; exact b2) (fun p hp => by rw [e1 4 (by omega)]; exact (d1 p hp).1) (nI w) n 0 0 FU (by omega) (by omega) (Nat.two_pow_pos n) (by omega) (FU_lt (by omega))
  refine ⟨if nI w = 0 then nI m2 else nI r2, fI (up2 (up2 i 117 3 (nI n)) 118 2 (nI n)) m2 r2, l, a1', fI (up2 (up2 i 117 3 (nI n)) 118 2 (nI n)) m2 r2, l, a1', ?_, ?_, ?_⟩
  · have g1' : f_De_callAllIn (mkH (up2 (up2 i 117 3 (nI n)) 118 2 (nI n)) l a1') 117 3 = some (mkH (fI (up2 (up2 i 117 3 (nI n)) 118 2 (nI n)) m2 r2) l a1') := by
      unfold f_De_callAllIn
      rw [p_117_4, p_117_5]
      exact g1
    show f_Fa_fire _ 0 _ _ = _
    unfold f_Fa_fire f_Fa_fire_b70
    simp only [r_0_3, r_2_0, r_2_1, r_2_2, r_2_3, r_2_4, g_2_5, o_0, o_2, o_3, o_5, o_7, o_9, o_11, O_0, O_2, O_3, O_5, O_7, O_9, O_11, r_0_8, p_124_0, cP_s, cH_s, n10, if_true, if_false, zR_0, zR_1, lt_e, F1, F2, r_0_6, o_117, f1, g1']
    by_cases e : nI w = 0
    · rw [if_pos e, if_pos e, g_117_4]
      unfold fI
      rw [up2_n (by omega), up2_s]
    · rw [if_neg e, if_neg e, g_117_5]
      unfold fI
      rw [up2_s]
  · show f_Mo_fire _ 136 _ _ = _
    unfold f_Mo_fire
    simp only [r_136_0, o_136, O_136, r_136_3, cP_s, cH_s, n10, if_true, if_false, zR_0, zR_1, lt_e, Mo_many_ok, Mo_day_ok, M1, M2]
    exact g2 _ a1' FU (e1 137 (by omega)) (by show n + 2 ≤ 1000000000; omega)
  · have J := inv_dbt (x := nI n) (y := nI n) H e1
    refine inv_same J (fun b hb => ⟨fun k => fI_n ?_, rfl⟩) rfl (fun k _ => fI_n (by omega)) rfl (fI_n (by omega)) (fI_n (by omega)) ?_
    · unfold Away at hb; omega
    · obtain ⟨r0, r1, r2⟩ := J.2.2.2.2.2.2.1
      exact ⟨(fI_n (by omega)).trans r0, (fI_n (by omega)).trans r1, (fI_n (by omega)).trans r2⟩
end FR
