/-! ===== the debts; calls: owes, net ===== -/
/-- what who does for favour f, and whose it is, of the first j: what p owes q on day d -/
def owF (v : Nat → Int32) (d p q f : Nat) : Nat := if v (14 + (f * 7 + 1)) = nI p ∧ v (14 + (f * 7 + 2)) = nI q then uN v f d else 0
def owN (v : Nat → Int32) (nf d p q : Nat) : Nat := sumTo (owF v d p q) nf
def Dbt (i a : Nat → Nat → Int32) (n : Nat) (D : Nat → Nat → Nat) : Prop := i 117 3 = nI n ∧ n ≤ 6 ∧ i 118 2 = nI n ∧ ∀ p q, p < n → q < n → a 119 (p * 6 + q) = nI (D p q)
section DB
variable {i : Nat → Nat → Int32} {l : Nat → Nat → Int64} {a : Nat → Nat → Int32} {v : Nat → Int32} {n nf nn np dy : Nat} {D : Nat → Nat → Nat}
theorem fill_loop {r : Nat} (hr : r < n) (hn : n ≤ 6) (h2 : i 118 2 = nI n) : ∀ (fu k : Nat) (a : Nat → Nat → Int32), k ≤ 6 → 6 - k < fu → (∀ x, x < r * 6 + k → a 119 x = 0) → ∃ a1, f_Ta_fillRow_b2 fu (mkH i l a) 118 (nI r) 0 (nI k) = some (mkH i l a1) ∧ (∀ b, b ≠ 119 → a1 b = a b) ∧ ∀ x, x < (r + 1) * 6 → a1 119 x = 0 := by
  intro fu
  induction fu with
  | zero => intro k _ _ h; omega
  | succ fu ih =>
    intro k a hk hf hx
    show ∃ a1, f_Ta_fillRow_b2_k (f_Ta_fillRow_b2 fu) _ _ _ _ _ = _ ∧ _
    unfold f_Ta_fillRow_b2_k
    by_cases h : k = 6
    · subst h
      exact ⟨a, by rw [g_118_0, ifn_y (by omega) (by omega) (by omega)], fun _ _ => rfl, fun x h => hx x (by omega)⟩
    · rw [g_118_0, ifn_n (by omega) (by omega) (by omega), o_118, Ta_put_in (t := 118) (m := 6) (w := 6) (by decide) h2 hn hr (by omega), cP_s, nI_1]
      obtain ⟨a1, f1, e1, e2⟩ := ih (k + 1) (va_up a 119 (upd (a 119) (r * 6 + k) 0)) (by omega) (by omega) (fun x hx' => by
        rw [vu_s]
        by_cases e : x = r * 6 + k
        · rw [e, ud_s]
        · rw [ud_n e]
          exact hx x (by omega))
      exact ⟨a1, f1, fun b hb => (e1 b hb).trans (vu_n hb), e2⟩
theorem fill_all (hn : n ≤ 6) (h3 : i 117 3 = nI n) (h2 : i 118 2 = nI n) {q d : Nat} : ∀ (fu r : Nat) (a : Nat → Nat → Int32), r ≤ n → n - r < fu → (∀ x, x < r * 6 → a 119 x = 0) → ∃ a1, f_De_addUp_b29 fu (mkH i l a) 117 q (nI d) (nI r) = f_De_addUp_b54 FU (mkH i l a1) 117 q (nI d) 0 ∧ (∀ b, b ≠ 119 → a1 b = a b) ∧ ∀ x, x < n * 6 → a1 119 x = 0 := by
  intro fu
  induction fu with
  | zero => intro k _ _ h; omega
  | succ fu ih =>
    intro r a hk hf hx
    show ∃ a1, f_De_addUp_b29_k (f_De_addUp_b29 fu) _ _ _ _ _ = _ ∧ _
    unfold f_De_addUp_b29_k
    by_cases h : r = n
    · subst h
      exact ⟨a, by rw [g_117_3, h3, ifn_y (by omega) (by omega) (by omega)], fun _ _ => rfl, hx⟩
    · obtain ⟨a1, f1, e1, e2⟩ := fill_loop (i := i) (l := l) (show r < n by omega) hn h2 FU 0 a (by omega) (FU_lt (by omega)) hx
      have f1' : f_Ta_fillRow (mkH i l a) 118 (nI r) 0 = some (mkH i l a1) := f1
      rw [g_117_3, h3, ifn_n (by omega) (by omega) (by omega), r_117_0, o_118, f1', cP_s, nI_1]
      obtain ⟨a2, f2, g1, g2⟩ := ih (r + 1) a1 (by omega) (by omega) e2
      exact ⟨a2, f2, fun b hb => (g1 b hb).trans (e1 b hb), g2⟩
theorem add_loop (hN : Now i a v n nf nn np dy) {d : Nat} (hd : d ≤ 99) (h2 : i 118 2 = nI n) : ∀ (fu j : Nat) (a1 : Nat → Nat → Int32), j ≤ nf → nf - j < fu → (∀ b, b ≠ 119 → a1 b = a b) → (∀ p q, p < n → q < n → a1 119 (p * 6 + q) = nI (sumTo (owF v d p q) j)) → ∃ a2, f_De_addUp_b54 fu (mkH i l a1) 117 2 (nI d) (nI j) = some (mkH i l a2) ∧ (∀ b, b ≠ 119 → a2 b = a b) ∧ ∀ p q, p < n → q < n → a2 119 (p * 6 + q) = nI (owN v nf d p q) := by
  have a2' := hN.1.2.1
  have a3 := hN.1.2.2.1
  have b3 := hN.2.1.2.2.1
  have c2 := hN.2.2.1.2.1
  have d2 := hN.2.2.2.2.1
  intro fu
  induction fu with
  | zero => intro k _ _ h; omega
  | succ fu ih =>
    intro j a1 hj hf hE hS
    show ∃ a2, f_De_addUp_b54_k (f_De_addUp_b54 fu) _ _ _ _ _ = _ ∧ _
    unfold f_De_addUp_b54_k
    have hN1 : Now i a1 v n nf nn np dy := hN.e (fun b hb => ⟨fun _ => rfl, hE b (by omega)⟩)
    by_cases h : j = nf
    · subst h
      exact ⟨a1, by rw [r_2_1, g_5_2, b3, ifn_y (by omega) (by omega) (by omega)], hE, hS⟩
    · have hjn : j < nf := by omega
      obtain ⟨k, b, t, w, tl, m, -, ⟨g1, hb⟩, g2, -⟩ := c2 j hjn
      have E6 : a1 6 = a 6 := hE 6 (by omega)
      rw [r_2_1, g_5_2, b3, ifn_n (by omega) (by omega) (by omega), r_117_0, r_2_1, o_5, c_at (t := 5) (m := 12) (w := 7) (c := 1) (k := 1) (by decide) rfl b3 a3.2 hjn (by omega), cP_s, r_2_1, o_5, c_at (t := 5) (m := 12) (w := 7) (c := 2) (k := 2) (by decide) rfl b3 a3.2 hjn (by omega), cP_s, o_2, vOn hN1 hjn hd, cP_s, o_118]
      rw [show a1 (5 + 1) (j * 7 + 1) = nI b by rw [show a1 (5 + 1) = a 6 from E6, d2 _ (by omega)]; exact g1, show a1 (5 + 1) (j * 7 + 2) = v (14 + (j * 7 + 2)) by rw [show a1 (5 + 1) = a 6 from E6, d2 _ (by omega)]]
      rcases g2 with g2 | ⟨c, g2, hc, hcb⟩
      · rw [g2, Ta_more_col (t := 118) (m := 6) (w := 6) (by decide), cP_s, nI_1]
        refine ih (j + 1) a1 (by omega) (by omega) hE (fun p q hp hq => ?_)
        rw [hS p q hp hq]
        show nI (sumTo (owF v d p q) j) = nI (sumTo (owF v d p q) j + owF v d p q j)
        rw [show owF v d p q j = 0 from if_neg (fun e => by
          have e2 := e.2
          rw [g2] at e2
          have e3 := e2.symm
          rw [nI_neg1 (by omega)] at e3
          exact e3), Nat.add_zero]
      · rw [g2, Ta_more_in (t := 118) (m := 6) (w := 6) (by decide) h2 a2'.2.2 hb (by omega), cP_s, nI_1]
        refine ih (j + 1) _ (by omega) (by omega) (fun b' hb' => (vu_n hb').trans (hE b' hb')) (fun p q hp hq => ?_)
        rw [show (118 + 1 : Nat) = 119 from rfl, vu_s]
        show _ = nI (sumTo (owF v d p q) j + owF v d p q j)
        by_cases e : p = b ∧ q = c
        · obtain ⟨rfl, rfl⟩ := e
          rw [ud_s, hS p q hp hq, nI_add]
          unfold owF
          rw [if_pos ⟨g1, g2⟩]
        · rw [ud_n (by omega), hS p q hp hq]
          unfold owF
          rw [if_neg (fun x => e ⟨?_, ?_⟩), Nat.add_zero]
          · have := x.1
            rw [g1, nI_eq' (by omega) (by omega)] at this
            exact this.symm
          · have := x.2
            rw [g2, nI_eq' (by omega) (by omega)] at this
            exact this.symm
theorem addUp_ok (hN : Now i a v n nf nn np dy) {d : Nat} (hd : d ≤ 99) : ∃ a1, f_De_addUp (mkH i l a) 117 2 (nI d) = some (mkH (up2 (up2 i 117 3 (nI n)) 118 2 (nI n)) l a1) ∧ (∀ b, b ≠ 119 → a1 b = a b) ∧ Dbt (up2 (up2 i 117 3 (nI n)) 118 2 (nI n)) a1 n (owN v nf d) := by
  have a2' := hN.1.2.1
  have b2 := hN.2.1.2.1
  have h3 : up2 (up2 i 117 3 (nI n)) 118 2 (nI n) 117 3 = nI n := (up2_n (by omega)).trans up2_s
  have h2 : up2 (up2 i 117 3 (nI n)) 118 2 (nI n) 118 2 = nI n := up2_s
  obtain ⟨a1, f1, e1, z1⟩ := fill_all (i := up2 (up2 i 117 3 (nI n)) 118 2 (nI n)) (l := l) (q := 2) (d := d) a2'.2.2 h3 h2 FU 0 a (by omega) (FU_lt (by omega)) (fun x h => by omega)
  have hN1 : Now (up2 (up2 i 117 3 (nI n)) 118 2 (nI n)) a v n nf nn np dy := hN.e (fun b hb => ⟨fun k => by rw [up2_n (by omega), up2_n (by omega)], rfl⟩)
  have a3 := hN.1.2.2.1
  obtain ⟨a2, f2, e2, S⟩ := add_loop (l := l) hN1 hd h2 FU 0 a1 (by omega) (FU_lt (by omega)) e1 (fun p q hp hq => z1 _ (by omega))
  refine ⟨a2, ?_, e2, h3, a2'.2.2, h2, S⟩
  unfold f_De_addUp
  rw [r_2_0, g_3_2, b2, show (6 : Int32) = nI 6 from rfl, nI_mn (by omega) (by omega), Nat.min_eq_right a2'.2.2, p_117_3, r_117_0, g_117_3, up2_s, p_118_2]
  exact f1.trans f2
theorem btw_ok (hD : Dbt i a n D) {p q : Nat} (hp : p < n) (hq : q < n) : f_De_between (mkH i l a) 117 (nI p) (nI q) = some (nI (D p q)) := by
  have hn := hD.2.1
  unfold f_De_between
  rw [r_117_0, o_118, Ta_at_in (t := 118) (m := 6) (w := 6) (by decide) hD.2.2.1 hD.2.1 hp (by omega), cP_s, show a (118 + 1) (p * 6 + q) = a 119 (p * 6 + q) from rfl, hD.2.2.2 p q hp hq]
/-- what the debts' picture keeps of the rest -/
theorem inv_dbt (H : Inv i l a) {a1 : Nat → Nat → Int32} {x y : Int32} (h : ∀ b, b ≠ 119 → a1 b = a b) : Inv (up2 (up2 i 117 3 x) 118 2 y) l a1 := by
  refine inv_same H (fun b hb => ⟨fun k => ?_, h b ?_⟩) (h 137 (by omega)) (fun k _ => by rw [up2_n (by omega), up2_n (by omega)]) (h 134 (by omega)) (by rw [up2_n (by omega), up2_n (by omega)]) (by rw [up2_n (by omega), up2_n (by omega)]) ?_
  · rw [up2_n (by unfold Away at hb; omega), up2_n (by unfold Away at hb; omega)]
  · unfold Away at hb; omega
  · obtain ⟨r0, r1, r2⟩ := H.2.2.2.2.2.2.1
    unfold Ref
    rw [h 140 (by omega), up2_n (by omega), up2_n (by omega), up2_n (by omega), up2_n (by omega), up2_n (by omega), up2_n (by omega)]
    exact ⟨r0, r1, r2⟩
/-- the reference's sum of what p owes q -/
theorem owesTo_loop (hN : Now i a v n nf nn np dy) {i1 : Nat → Nat → Int32} {a1 : Nat → Nat → Int32} (h7 : a1 137 = v) {p q : Nat} (hp : p < n) (hq : q < n) : ∀ (fu j : Nat), j ≤ nf → nf - j < fu → f_Mo_owesTo_b5 (mkH i1 l a1) fu 136 (nI p) (nI q) (nI (sumTo (owF v dy p q) j)) (nI j) = some (nI (owN v nf dy p q)) := by
  have a3 := hN.1.2.2.1
  intro fu
  induction fu with
  | zero => intro j _ h; omega
  | succ fu ih =>
    intro j hj hn
    show f_Mo_owesTo_b5_k _ (f_Mo_owesTo_b5 _ fu) _ _ _ _ _ = _
    unfold f_Mo_owesTo_b5_k
    by_cases h : j = nf
    · subst h
      rw [r_136_0, b_137 (x := 158) (m := 158) rfl (by omega), h7, a3.1, ifn_y (by omega) (by omega) (by omega)]
      rfl
    · have hjn : j < nf := by omega
      rw [r_136_0, b_137 (x := 158) (m := 158) rfl (by omega), h7, a3.1, ifn_n (by omega) (by omega) (by omega), o_136, told_1 (c := 1) (k := 1) h7 rfl (by omega) (by omega) rfl, cP_s]
      have I := ih (j + 1) (by omega) (by omega)
      unfold f_Mo_owesTo_b50 f_Mo_owesTo_b51
      by_cases e1 : v (14 + (j * 7 + 1)) = nI p
      · rw [if_pos e1, o_136, told_1 (c := 2) (k := 2) h7 rfl (by omega) (by omega) rfl, cP_s]
        by_cases e2 : v (14 + (j * 7 + 2)) = nI q
        · rw [if_pos e2, o_136, mNw hN hjn h7, cP_s, lt_e, nI_add, nI_1, ← I]
          congr 2
          show _ = sumTo (owF v dy p q) j + owF v dy p q j
          unfold owF
          rw [if_pos ⟨e1, e2⟩]
        · rw [if_neg e2, lt_e, nI_1, a0, ← I]
          congr 2
          show _ = sumTo (owF v dy p q) j + owF v dy p q j
          unfold owF
          rw [if_neg (fun x => e2 x.2), Nat.add_zero]
      · rw [if_neg e1, lt_e, nI_1, a0, ← I]
        congr 2
        show _ = sumTo (owF v dy p q) j + owF v dy p q j
        unfold owF
        rw [if_neg (fun x => e1 x.1), Nat.add_zero]
theorem owesTo_ok (hN : Now i a v n nf nn np dy) {i1 : Nat → Nat → Int32} {a1 : Nat → Nat → Int32} (h7 : a1 137 = v) {p q : Nat} (hp : p < n) (hq : q < n) : f_Mo_owesTo (mkH i1 l a1) 136 (nI p) (nI q) = some (nI (owN v nf dy p q)) := by
  have a3 := hN.1.2.2.1
  exact owesTo_loop hN h7 hp hq FU 0 (by omega) (FU_lt (by omega))
theorem call_owes (H : Inv i l a) (p q : Int32) : Call (fun G => f_Fa_owes G 0 p q) (fun G => f_Mo_owes G 136 p q) i l a := by
  obtain ⟨n, nf, nn, np, dy, hN⟩ := now_of H; obtain ⟨⟨a1, a2, a3, a4, a5⟩, ⟨b1, b2, b3, b4, b5, b6⟩, ⟨c1, c2, c3, c4, c5⟩, ⟨d1, d2, d3, d4, d5⟩⟩ := id hN
  rcases ck_one l hN p with ⟨F1, M1⟩ | ⟨p, hp, rfl, F1, M1⟩
  · (refine call_bad (r := -1000) H ?_ (fun i1 => ?_); (unfold f_Fa_owes f_Fa_owes_b33; simp only [r_0_3, r_2_0, r_2_1, r_2_2, r_2_3, r_2_4, g_2_5, o_0, o_2, o_3, o_5, o_7, o_9, o_11, O_0, O_2, O_3, O_5, O_7, O_9, O_11, r_0_8, p_124_0, cP_s, cH_s, n10, if_true, if_false, zR_0, zR_1, lt_e, cH_id, F1]); (unfold f_Mo_owes f_Mo_owes_b30 f_Mo_owes_b37; simp only [r_136_0, o_136, O_136, r_136_3, cP_s, cH_s, n10, if_true, if_false, zR_0, zR_1, lt_e, Mo_many_ok, Mo_day_ok, cH_id, M1 i1 l a rfl]))
  rcases ck_one l hN q with ⟨F2, M2⟩ | ⟨q, hq, rfl, F2, M2⟩
  · (refine call_bad (r := -1000) H ?_ (fun i1 => ?_); (unfold f_Fa_owes f_Fa_owes_b33; simp only [r_0_3, r_2_0, r_2_1, r_2_2, r_2_3, r_2_4, g_2_5, o_0, o_2, o_3, o_5, o_7, o_9, o_11, O_0, O_2, O_3, O_5, O_7, O_9, O_11, r_0_8, p_124_0, cP_s, cH_s, n10, if_true, if_false, zR_0, zR_1, lt_e, cH_id, F1, F2]); (unfold f_Mo_owes f_Mo_owes_b30 f_Mo_owes_b37; simp only [r_136_0, o_136, O_136, r_136_3, cP_s, cH_s, n10, if_true, if_false, zR_0, zR_1, lt_e, Mo_many_ok, Mo_day_ok, cH_id, M1 i1 l a rfl, M2 i1 l a rfl]))
  by_cases hpq : nI p = nI q
  · (refine call_bad (r := -1000) H ?_ (fun i1 => ?_); (unfold f_Fa_owes f_Fa_owes_b33; simp only [r_0_3, r_2_0, r_2_1, r_2_2, r_2_3, r_2_4, g_2_5, o_0, o_2, o_3, o_5, o_7, o_9, o_11, O_0, O_2, O_3, O_5, O_7, O_9, O_11, r_0_8, p_124_0, cP_s, cH_s, n10, if_true, if_false, zR_0, zR_1, lt_e, cH_id, F1, F2, if_pos hpq]); (unfold f_Mo_owes f_Mo_owes_b30 f_Mo_owes_b37; simp only [r_136_0, o_136, O_136, r_136_3, cP_s, cH_s, n10, if_true, if_false, zR_0, zR_1, lt_e, Mo_many_ok, Mo_day_ok, cH_id, M1 i1 l a rfl, M2 i1 l a rfl, if_pos hpq]))
  obtain ⟨a1', f1, e1, hD⟩ := addUp_ok (l := l) hN hN.1.1.2
  refine ⟨nI (owN (a 137) nf dy p q), up2 (up2 i 117 3 (nI n)) 118 2 (nI n), l, a1', up2 (up2 i 117 3 (nI n)) 118 2 (nI n), l, a1', ?_, ?_, inv_dbt H e1⟩
  · show f_Fa_owes _ 0 _ _ = _
    unfold f_Fa_owes
    simp only [r_0_3, r_2_0, r_2_1, r_2_2, r_2_3, r_2_4, g_2_5, o_0, o_2, o_3, o_5, o_7, o_9, o_11, O_0, O_2, O_3, O_5, O_7, O_9, O_11, r_0_8, p_124_0, cP_s, cH_s, n10, if_true, if_false, zR_0, zR_1, lt_e, F1, F2, if_neg hpq, r_0_6, o_117, b1, f1, btw_ok hD hp hq]
  · show f_Mo_owes _ 136 _ _ = _
    unfold f_Mo_owes f_Mo_owes_b37
    simp only [r_136_0, o_136, O_136, r_136_3, cP_s, cH_s, n10, if_true, if_false, zR_0, zR_1, lt_e, Mo_many_ok, Mo_day_ok, M1 (up2 (up2 i 117 3 (nI n)) 118 2 (nI n)) l a1' (e1 137 (by omega)), M2 (up2 (up2 i 117 3 (nI n)) 118 2 (nI n)) l a1' (e1 137 (by omega)), if_neg hpq, owesTo_ok hN (e1 137 (by omega)) hp hq]
theorem doneFor_loop (hD : Dbt i a n D) {p : Nat} (hp : p < n) (S : Int32) : ∀ (fu j : Nat), j ≤ n → n - j < fu → f_De_doneFor_b5 (mkH i l a) fu 117 (nI p) S (nI (sumTo (fun q => if (S &&& (1 <<< (nI q &&& 31))) = 0 then D q p else 0) j)) (nI j) = some (nI (sumTo (fun q => if (S &&& (1 <<< (nI q &&& 31))) = 0 then D q p else 0) n)) := by
  have hn := hD.2.1
  intro fu
  induction fu with
  | zero => intro j _ h; omega
  | succ fu ih =>
    intro j hj hf
    show f_De_doneFor_b5_k _ (f_De_doneFor_b5 _ fu) _ _ _ _ _ = _
    unfold f_De_doneFor_b5_k f_De_doneFor_b33
    by_cases h : j = n
    · subst h
      rw [g_117_3, hD.1, ifn_y (by omega) (by omega) (by omega)]
    · have I := ih (j + 1) (by omega) (by omega)
      rw [g_117_3, hD.1, ifn_n (by omega) (by omega) (by omega)]
      by_cases e : (S &&& (1 <<< (nI j &&& 31))) = 0
      · rw [if_pos e, o_117, btw_ok hD (by omega) hp, cP_s, lt_e, nI_add, nI_1, ← I]
        congr 2
        show _ = sumTo (fun q => if (S &&& (1 <<< (nI q &&& 31))) = 0 then D q p else 0) j + (if (S &&& (1 <<< (nI j &&& 31))) = 0 then D j p else 0)
        rw [if_pos e]
      · rw [if_neg e, nI_1, ← I]
        congr 2
        show _ = sumTo (fun q => if (S &&& (1 <<< (nI q &&& 31))) = 0 then D q p else 0) j + (if (S &&& (1 <<< (nI j &&& 31))) = 0 then D j p else 0)
        rw [if_neg e, Nat.add_zero]
theorem doneFor_ok (hD : Dbt i a n D) {p : Nat} (hp : p < n) (S : Int32) : f_De_doneFor (mkH i l a) 117 (nI p) S = some (nI (sumTo (fun q => if (S &&& (1 <<< (nI q &&& 31))) = 0 then D q p else 0) n)) := doneFor_loop hD hp S FU 0 (by omega) (FU_lt (by have := hD.2.1; omega))
theorem dueFrom_loop (hD : Dbt i a n D) {p : Nat} (hp : p < n) : ∀ (fu j : Nat), j ≤ n → n - j < fu → f_De_dueFrom_b4 (mkH i l a) fu 117 (nI p) (nI (sumTo (fun q => D p q) j)) (nI j) = some (nI (sumTo (fun q => D p q) n)) := by
  have hn := hD.2.1
  intro fu
  induction fu with
  | zero => intro j _ h; omega
  | succ fu ih =>
    intro j hj hf
    show f_De_dueFrom_b4_k _ (f_De_dueFrom_b4 _ fu) _ _ _ _ = _
    unfold f_De_dueFrom_b4_k
    by_cases h : j = n
    · subst h
      rw [g_117_3, hD.1, ifn_y (by omega) (by omega) (by omega)]
    · rw [g_117_3, hD.1, ifn_n (by omega) (by omega) (by omega), o_117, btw_ok hD hp (by omega), cP_s, lt_e, nI_add, nI_1]
      exact ih (j + 1) (by omega) (by omega)
theorem dueFrom_ok (hD : Dbt i a n D) {p : Nat} (hp : p < n) : f_De_dueFrom (mkH i l a) 117 (nI p) = some (nI (sumTo (fun q => D p q) n)) := dueFrom_loop hD hp FU 0 (by omega) (FU_lt (by have := hD.2.1; omega))
/-- what p has coming less what p owes -/
def netV (D : Nat → Nat → Nat) (n p : Nat) : Int32 := nI (sumTo (fun q => D q p) n) - nI (sumTo (fun q => D p q) n)
theorem bal_ok (hD : Dbt i a n D) {p : Nat} (hp : p < n) : f_De_balance (mkH i l a) 117 (nI p) = some (netV D n p) := by
  have e : (fun q => if ((0 : Int32) &&& (1 <<< (nI q &&& 31))) = 0 then D q p else 0) = fun q => D q p := by
    funext q
    rw [if_pos Int32.zero_and]
  unfold f_De_balance netV
  rw [o_117, doneFor_ok hD hp, cP_s, o_117, dueFrom_ok hD hp, cP_s, e]
theorem netOf_loop (hN : Now i a v n nf nn np dy) {i1 : Nat → Nat → Int32} {a1 : Nat → Nat → Int32} (h7 : a1 137 = v) {p : Nat} (hp : p < n) : ∀ (fu j : Nat), j ≤ n → n - j < fu → f_Mo_netOf_b4 (mkH i1 l a1) fu 136 (nI p) (nI (sumTo (fun q => owN v nf dy q p) j) - nI (sumTo (fun q => owN v nf dy p q) j)) (nI j) = some (netV (owN v nf dy) n p) := by
  have a2 := hN.1.2.1
  intro fu
  induction fu with
  | zero => intro j _ h; omega
  | succ fu ih =>
    intro j hj hf
    show f_Mo_netOf_b4_k _ (f_Mo_netOf_b4 _ fu) _ _ _ _ = _
    unfold f_Mo_netOf_b4_k f_Mo_netOf_b35
    by_cases h : j = n
    · subst h
      rw [o_136, Mo_many_ok, cP_s, h7, a2.1, ifn_y (by omega) (by omega) (by omega)]
      rfl
    · have I := ih (j + 1) (by omega) (by omega)
      rw [o_136, Mo_many_ok, cP_s, h7, a2.1, ifn_n (by omega) (by omega) (by omega)]
      have key : ∀ A B x y : Int32, A - B + (x - y) = (A + x) - (B + y) := fun A B x y => by
        rw [Int32.sub_eq_add_neg, Int32.sub_eq_add_neg, Int32.sub_eq_add_neg, Int32.neg_add, Int32.sub_eq_add_neg, Int32.add_assoc, Int32.add_assoc]
        congr 1
        rw [← Int32.add_assoc, ← Int32.add_assoc, Int32.add_comm (-B) x]
      by_cases e : nI j = nI p
      · have e' : j = p := (nI_eq (by omega) (by omega)).mp e
        subst e'
        have E : nI (sumTo (fun q => owN v nf dy q j) (j + 1)) - nI (sumTo (fun q => owN v nf dy j q) (j + 1)) = nI (sumTo (fun q => owN v nf dy q j) j) - nI (sumTo (fun q => owN v nf dy j q) j) := by
          show nI (sumTo (fun q => owN v nf dy q j) j + owN v nf dy j j) - nI (sumTo (fun q => owN v nf dy j q) j + owN v nf dy j j) = _
          rw [← nI_add, ← nI_add, ← key, Int32.sub_self, a0]
        rw [if_pos rfl, lt_e, a0, nI_1, ← E]
        exact I
      · rw [if_neg e, o_136, owesTo_ok hN h7 (by omega) hp, cP_s, o_136, owesTo_ok hN h7 hp (by omega), cP_s, lt_e, key, nI_add, nI_add, nI_1]
        exact I
theorem netOf_ok (hN : Now i a v n nf nn np dy) {i1 : Nat → Nat → Int32} {a1 : Nat → Nat → Int32} (h7 : a1 137 = v) {p : Nat} (hp : p < n) : f_Mo_netOf (mkH i1 l a1) 136 (nI p) = some (netV (owN v nf dy) n p) := by
  have a2 := hN.1.2.1
  have L := netOf_loop (l := l) (i1 := i1) (a1 := a1) hN h7 hp FU 0 (by omega) (FU_lt (by omega))
  have L' : f_Mo_netOf_b4 (mkH i1 l a1) FU 136 (nI p) (nI 0 - nI 0) (nI 0) = some (netV (owN v nf dy) n p) := L
  rw [show nI 0 - nI 0 = (0 : Int32) by decide] at L'
  unfold f_Mo_netOf
  exact L'
theorem call_net (H : Inv i l a) (p : Int32) : Call (fun G => f_Fa_net G 0 p) (fun G => f_Mo_net G 136 p) i l a := by
  obtain ⟨n, nf, nn, np, dy, hN⟩ := now_of H; obtain ⟨⟨a1, a2, a3, a4, a5⟩, ⟨b1, b2, b3, b4, b5, b6⟩, ⟨c1, c2, c3, c4, c5⟩, ⟨d1, d2, d3, d4, d5⟩⟩ := id hN
  rcases ck_one l hN p with ⟨F1, M1⟩ | ⟨p, hp, rfl, F1, M1⟩
  · (refine call_bad (r := -10000) H ?_ (fun i1 => ?_); (unfold f_Fa_net; simp only [r_0_3, r_2_0, r_2_1, r_2_2, r_2_3, r_2_4, g_2_5, o_0, o_2, o_3, o_5, o_7, o_9, o_11, O_0, O_2, O_3, O_5, O_7, O_9, O_11, r_0_8, p_124_0, cP_s, cH_s, n10, if_true, if_false, zR_0, zR_1, lt_e, cH_id, F1]); (unfold f_Mo_net f_Mo_net_b23; simp only [r_136_0, o_136, O_136, r_136_3, cP_s, cH_s, n10, if_true, if_false, zR_0, zR_1, lt_e, Mo_many_ok, Mo_day_ok, cH_id, M1 i1 l a rfl]))
  obtain ⟨a1', f1, e1, hD⟩ := addUp_ok (l := l) hN hN.1.1.2
  refine ⟨netV (owN (a 137) nf dy) n p, up2 (up2 i 117 3 (nI n)) 118 2 (nI n), l, a1', up2 (up2 i 117 3 (nI n)) 118 2 (nI n), l, a1', ?_, ?_, inv_dbt H e1⟩
  · show f_Fa_net _ 0 _ = _
    unfold f_Fa_net
    simp only [r_0_3, r_2_0, r_2_1, r_2_2, r_2_3, r_2_4, g_2_5, o_0, o_2, o_3, o_5, o_7, o_9, o_11, O_0, O_2, O_3, O_5, O_7, O_9, O_11, r_0_8, p_124_0, cP_s, cH_s, n10, if_true, if_false, zR_0, zR_1, lt_e, F1, r_0_6, o_117, b1, f1, bal_ok hD hp]
  · show f_Mo_net _ 136 _ = _
    unfold f_Mo_net f_Mo_net_b23
    simp only [r_136_0, o_136, O_136, r_136_3, cP_s, cH_s, n10, if_true, if_false, zR_0, zR_1, lt_e, Mo_many_ok, Mo_day_ok, M1 (up2 (up2 i 117 3 (nI n)) 118 2 (nI n)) l a1' (e1 137 (by omega)), netOf_ok hN (e1 137 (by omega)) hp]
end DB
