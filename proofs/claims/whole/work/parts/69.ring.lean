/-! ===== calls: ring, cancel ===== -/
theorem up2_cm {α : Type} {f : Nat → Nat → α} {b k b' k' : Nat} {v w : α} (h : ¬ b = b') : up2 (up2 f b k v) b' k' w = up2 (up2 f b' k' w) b k v := by
  funext x y
  by_cases e : x = b
  · subst e
    rw [up2_n (fun c => h c.1)]
    by_cases e2 : y = k
    · subst e2
      rw [up2_s, up2_s]
    · rw [up2_n (fun c => e2 c.2), up2_n (fun c => e2 c.2), up2_n (fun c => h c.1)]
  · by_cases e2 : x = b' ∧ y = k'
    · obtain ⟨rfl, rfl⟩ := e2
      rw [up2_s, up2_n (fun c => e c.1), up2_s]
    · rw [up2_n e2, up2_n (fun c => e c.1), up2_n (fun c => e c.1), up2_n e2]
section CR
variable {i : Nat → Nat → Int32} {l : Nat → Nat → Int64} {a : Nat → Nat → Int32} {v : Nat → Int32} {n nf nn np dy : Nat}
def rI (i : Nat → Nat → Int32) (n : Nat) (x : Int32) : Nat → Nat → Int32 := up2 (up2 (up2 i 117 3 (nI n)) 118 2 (nI n)) 122 1 x
theorem rI_n {x : Int32} {b k : Nat} (h1 : b ≠ 117) (h2 : b ≠ 118) (h3 : b ≠ 122) : rI i n x b k = i b k := by
  unfold rI
  rw [up2_n (by omega), up2_n (by omega), up2_n (by omega)]
theorem rI_s {x : Int32} : rI i n x 122 1 = x := up2_s
theorem fa_ring (hN : Now i a (a 137) n nf nn np dy) : ∃ a1 x, f_Fa_findRing (mkH i l a) 0 = some (mkH (rI i n x) l a1) ∧ (∀ b, b ≠ 119 → b ≠ 123 → a1 b = a b) ∧ RingRes (owN (a 137) nf dy) n x (a1 123) := by
  obtain ⟨a1, f1, e1, hD⟩ := addUp_ok (l := l) hN hN.1.1.2
  obtain ⟨a2, x, f2, e2, R⟩ := find_ok (l := l) (owN_bd hN hN.1.1.2) hD (by have := hN.1.2.1; omega)
  have b1 := hN.2.1.1
  refine ⟨a2, x, ?_, fun b h1 h2 => (e2 b h2).trans (e1 b h1), R⟩
  unfold f_Fa_findRing rI
  simp only [r_0_6, r_0_3, r_0_7, g_2_5, b1, o_117, o_122, f1, f2, cP_s]
theorem inv_ring (H : Inv i l a) {x y : Int32} {a1 : Nat → Nat → Int32} (h : ∀ b, b ≠ 119 → b ≠ 123 → b ≠ 141 → a1 b = a b) : Inv (up2 (rI i n x) 136 7 y) l a1 := by
  refine inv_same H (fun b hb => ⟨fun k => ?_, h b ?_ ?_ ?_⟩) (h 137 (by omega) (by omega) (by omega)) (fun k _ => by rw [up2_n (by omega), rI_n (by omega) (by omega) (by omega)]) (h 134 (by omega) (by omega) (by omega)) (by rw [up2_n (by omega), rI_n (by omega) (by omega) (by omega)]) (by rw [up2_n (by omega), rI_n (by omega) (by omega) (by omega)]) ?_
  · unfold Away at hb
    rw [up2_n (by omega), rI_n (by omega) (by omega) (by omega)]
  · unfold Away at hb; omega
  · unfold Away at hb; omega
  · unfold Away at hb; omega
  · obtain ⟨r0, r1, r2⟩ := H.2.2.2.2.2.2.1
    unfold Ref
    rw [h 140 (by omega) (by omega) (by omega), up2_n (by omega), up2_n (by omega), up2_n (by omega), rI_n (by omega) (by omega) (by omega), rI_n (by omega) (by omega) (by omega), rI_n (by omega) (by omega) (by omega)]
    exact ⟨r0, r1, r2⟩
theorem ix_of {x : Int32} (h : -1 ≤ x) (h1 : ¬ x = -1) : ∃ p : Nat, p < 2147483648 ∧ x = nI p := by
  have h0 : ¬ x < 0 := by
    intro h0
    rw [Int32.lt_iff_toInt_lt] at h0
    have h2 := Int32.le_iff_toInt_le.mp h
    rw [show (-1 : Int32).toInt = -1 by decide] at h2
    rw [show (0 : Int32).toInt = 0 by decide] at h0
    exact h1 (Int32.toInt_inj.mp (by rw [show (-1 : Int32).toInt = -1 by decide]; omega))
  obtain ⟨j, hj, rfl⟩ := nI_of h0
  exact ⟨j, hj, rfl⟩
theorem call_ring (H : Inv i l a) (x : Int32) : Call (fun G => f_Fa_ring G 0 x) (fun G => f_Mo_ring G 136 x) i l a := by
  obtain ⟨n, nf, nn, np, dy, hN⟩ := now_of H; obtain ⟨⟨a1, a2, a3, a4, a5⟩, ⟨b1, b2, b3, b4, b5, b6⟩, ⟨c1, c2, c3, c4, c5⟩, ⟨d1, d2, d3, d4, d5⟩⟩ := id hN
  by_cases hx : -1 ≤ x
  case neg => (refine call_bad (r := -10) H ?_ (fun i1 => ?_); (unfold f_Fa_ring; simp only [r_0_3, r_2_0, r_2_1, r_2_2, r_2_3, r_2_4, g_2_5, o_0, o_2, o_3, o_5, o_7, o_9, o_11, O_0, O_2, O_3, O_5, O_7, O_9, O_11, r_0_8, p_124_0, cP_s, cH_s, n10, if_true, if_false, zR_0, zR_1, lt_e, cH_id, if_neg hx]); (unfold f_Mo_ring; simp only [r_136_0, o_136, O_136, r_136_3, cP_s, cH_s, n10, if_true, if_false, zR_0, zR_1, lt_e, Mo_many_ok, Mo_day_ok, cH_id, if_neg hx]))
  obtain ⟨a1', y, f1, e1, R1⟩ := fa_ring (l := l) hN
  obtain ⟨a2', y', f2, e2, R2⟩ := Mo_find_ok (l := l) (i1 := rI i n y) (a1 := a1') hN (e1 137 (by omega) (by omega))
  obtain ⟨rfl, U⟩ := R1.u a2.2.2 R2
  have I : Inv (up2 (rI i n y) 136 7 y) l a2' := inv_ring H (fun b h1 h2 h3 => (e2 b h3).trans (e1 b h1 h2))
  by_cases h1 : x = -1
  · refine ⟨y, rI i n y, l, a1', up2 (rI i n y) 136 7 y, l, a2', ?_, ?_, I⟩
    · show f_Fa_ring _ 0 _ = _
      unfold f_Fa_ring
      rw [if_pos hx, o_0, f1, cP_s, if_pos h1, r_0_7, g_122_1, rI_s]
    · show f_Mo_ring _ 136 _ = _
      unfold f_Mo_ring f_Mo_ring_b47
      rw [if_pos hx, o_136, f2, cP_s, if_pos h1, g_136_7, up2_s]
  obtain ⟨p, hp, rfl⟩ := ix_of hx h1
  rcases U with rfl | ⟨L, hL2, hL, rfl, r, hR, hr⟩
  · refine ⟨-5, rI i n 0, l, a1', up2 (rI i n 0) 136 7 0, l, a2', ?_, ?_, I⟩
    · show f_Fa_ring _ 0 _ = _
      unfold f_Fa_ring f_Fa_ring_b53
      rw [if_pos hx, o_0, f1, cP_s, if_neg h1, r_0_7, g_122_1, rI_s, if_pos (by rw [nI_0le hp]; exact trivial)]
    · show f_Mo_ring _ 136 _ = _
      unfold f_Mo_ring f_Mo_ring_b47
      rw [if_pos hx, o_136, f2, cP_s, if_neg h1, g_136_7, up2_s, if_pos (by rw [nI_0le hp]; exact trivial)]
  by_cases q : L ≤ p
  · refine ⟨-5, rI i n (nI L), l, a1', up2 (rI i n (nI L)) 136 7 (nI L), l, a2', ?_, ?_, I⟩
    · show f_Fa_ring _ 0 _ = _
      unfold f_Fa_ring f_Fa_ring_b53
      rw [if_pos hx, o_0, f1, cP_s, if_neg h1, r_0_7, g_122_1, rI_s, ifn_y (by omega) hp q]
    · show f_Mo_ring _ 136 _ = _
      unfold f_Mo_ring f_Mo_ring_b47
      rw [if_pos hx, o_136, f2, cP_s, if_neg h1, g_136_7, up2_s, ifn_y (by omega) hp q]
  · have rp := hr p (by omega)
    refine ⟨nI (r p), rI i n (nI L), l, a1', up2 (rI i n (nI L)) 136 7 (nI L), l, a2', ?_, ?_, I⟩
    · show f_Fa_ring _ 0 _ = _
      unfold f_Fa_ring f_Fa_ring_b53
      rw [if_pos hx, o_0, f1, cP_s, if_neg h1, r_0_7, g_122_1, rI_s, ifn_n (by omega) hp q, r_0_7, o_122, memb_ok (by omega), cP_s, rp.1]
    · show f_Mo_ring _ 136 _ = _
      unfold f_Mo_ring f_Mo_ring_b47
      rw [if_pos hx, o_136, f2, cP_s, if_neg h1, g_136_7, up2_s, ifn_n (by omega) hp q, r_136_6, a_141 (by omega), rp.2]
/-- the least favour, where something is owed -/
theorem lst_P (v : Nat → Int32) (dy p q : Nat) : ∀ j, (lst v dy (nI p) (nI q) j = -1 ∧ sumTo (owF v dy p q) j = 0) ∨ ∃ g, g < j ∧ lst v dy (nI p) (nI q) j = nI g ∧ v (14 + (g * 7 + 1)) = nI p
  | 0 => Or.inl ⟨rfl, rfl⟩
  | j + 1 => by
    have I := lst_P v dy p q j
    have S : lst v dy (nI p) (nI q) (j + 1) = if v (14 + (j * 7 + 1)) = nI p ∧ v (14 + (j * 7 + 2)) = nI q ∧ 0 < uN v j dy then (if lst v dy (nI p) (nI q) j = -1 then nI j else if uN v (lst v dy (nI p) (nI q) j).toNatClampNeg dy ≤ uN v j dy then lst v dy (nI p) (nI q) j else nI j) else lst v dy (nI p) (nI q) j := rfl
    have Q : sumTo (owF v dy p q) (j + 1) = sumTo (owF v dy p q) j + owF v dy p q j := rfl
    rw [S, Q]
    by_cases h : v (14 + (j * 7 + 1)) = nI p ∧ v (14 + (j * 7 + 2)) = nI q ∧ 0 < uN v j dy
    · rw [if_pos h]
      right
      rcases I with ⟨e, -⟩ | ⟨g, hg, e, hb⟩
      · rw [if_pos e]
        exact ⟨j, by omega, rfl, h.1⟩
      · split
        · exact ⟨j, by omega, rfl, h.1⟩
        · split
          · exact ⟨g, by omega, e, hb⟩
          · exact ⟨j, by omega, rfl, h.1⟩
    · rw [if_neg h]
      rcases I with ⟨e, e0⟩ | ⟨g, hg, e, hb⟩
      · left
        refine ⟨e, ?_⟩
        rw [e0]
        unfold owF
        split
        · next c => 
          have : ¬ 0 < uN v j dy := fun x => h ⟨c.1, c.2, x⟩
          omega
        · rfl
      · exact Or.inr ⟨g, by omega, e, hb⟩
theorem lst_get {p q : Nat} (h : 0 < owN v nf dy p q) : ∃ g, g < nf ∧ lst v dy (nI p) (nI q) nf = nI g ∧ v (14 + (g * 7 + 1)) = nI p := by
  rcases lst_P v dy p q nf with ⟨-, e⟩ | h'
  · unfold owN at h
    omega
  · exact h'
def losV (v : Nat → Int32) (f : Nat) : Nat → Int32 := upd v (14 + (f * 7 + 2)) (-1)
theorem now_lose (hN : Now i a v n nf nn np dy) {f : Nat} (hf : f < nf) : Now i (va_up a 6 (upd (a 6) (f * 7 + 2) (-1))) (losV v f) n nf nn np dy := by
  obtain ⟨⟨a1, a2, a3, a4, a5⟩, ⟨b1, b2, b3, b4, b5, b6⟩, ⟨c1, c2, c3, c4, c5⟩, ⟨d1, d2, d3, d4, d5⟩⟩ := id hN
  have hfk := c2 f hf
  unfold losV
  refine hN.F (fun j h1 h2 h3 => ud_n (by omega)) ⟨(by first | rfl | (simp (disch := omega) only [up2_n])), fun _ => (by first | rfl | (simp (disch := omega) only [up2_n])), fun _ => (by first | rfl | (simp (disch := omega) only [up2_n]) | omega), fun _ => (by first | rfl | (simp (disch := omega) only [up2_n]) | omega), fun _ => (by first | rfl | (simp (disch := omega) only [up2_n]) | omega), (by first | rfl | (simp (disch := omega) only [up2_n]))⟩ ⟨(by first | rfl | (simp (disch := omega) only [vu_n])), (by first | rfl | (simp (disch := omega) only [vu_n])), (by first | rfl | (simp (disch := omega) only [vu_n])), (by first | rfl | (simp (disch := omega) only [vu_n]))⟩ ⟨(by simp (disch := omega) only [ud_s, ud_n]; exact a3.1), a3.2⟩ b3 (wF_row (f := f) c2 (fun j hj hj2 => ud_n (by omega)) (favK_lose hfk) (Or.inl rfl)) (Nat.le_refl _) (fun j hj => ?_)
  rw [vu_s]
  exact upd_mt fun g0 => d2 j hj
theorem owN_lose {f p q b : Nat} (hb : v (14 + (f * 7 + 1)) = nI b) (hp : p < 6) (hb6 : b < 6) (hpb : ¬ b = p) (d : Nat) : owN (losV v f) nf d p q = owN v nf d p q := by
  unfold owN
  refine sumTo_c nf (fun j _ => ?_)
  unfold owF
  by_cases e : j = f
  · subst e
    rw [if_neg (fun x => ?_), if_neg (fun x => ?_)]
    · have := x.1
      rw [hb, nI_eq' (by omega) (by omega)] at this
      exact hpb this
    · have := x.1
      unfold losV at this
      rw [ud_n (by omega), hb, nI_eq' (by omega) (by omega)] at this
      exact hpb this
  · have R : ∀ k, k < 7 → losV v f (14 + (j * 7 + k)) = v (14 + (j * 7 + k)) := fun k hk => ud_n (by omega)
    rw [R 1 (by omega), R 2 (by omega)]
    unfold uN
    rw [valF_c (g := fv (losV v f)) (g' := fv v) (fun k hk => R k hk)]
theorem canc_loop {L : Nat} (hL1 : 2 ≤ L) (hL : L ≤ 6) {r : Nat → Nat} (hr : ∀ j, j < L → r j < n) (hd : ∀ j, j < L → ∀ e, e < j → ¬ r e = r j) : ∀ (fu k : Nat) (a : Nat → Nat → Int32) (v : Nat → Int32), k ≤ L → L - k < fu → Now i a v n nf nn np dy → i 122 1 = nI L → (∀ j, j < L → a 123 j = nI (r j)) → (∀ j, k ≤ j → j < L → 0 < owN v nf dy (r j) (r ((j + 1) % L))) → ∃ a2 v2, f_Fa_cancel_b25 fu (mkH i l a) 0 (nI k) (nI k) = some (nI L, mkH (up2 i 124 0 1) l a2) ∧ Now i a2 v2 n nf nn np dy ∧ (∀ b, b ≠ 6 → a2 b = a b) ∧ (∀ j, (j < 14 ∨ 98 ≤ j) → v2 j = v j) ∧ ∀ (i1 a1 : Nat → Nat → Int32), a1 137 = v → i1 136 7 = nI L → (∀ j, j < L → a1 141 j = nI (r j)) → f_Mo_cancel_b20 fu (mkH i1 l a1) 136 (nI k) = some (nI L, mkH i1 l (va_up a1 137 v2)) := by
  intro fu
  induction fu with
  | zero => intro k _ _ _ h; omega
  | succ fu ih =>
    intro k a v hk hf hN hL' hA hO
    have hn := hN.1.2.1
    have hnf := hN.1.2.2.1.2
    have a3 := hN.1.2.2.1
    have b3 := hN.2.1.2.2.1
    show ∃ a2 v2, f_Fa_cancel_b25_k (f_Fa_cancel_b25 fu) _ _ _ _ = _ ∧ _ ∧ _ ∧ _ ∧ ∀ (i1 a1 : Nat → Nat → Int32), _ → _ → _ → f_Mo_cancel_b20_k (f_Mo_cancel_b20 fu) _ _ _ = _
    unfold f_Fa_cancel_b25_k f_Mo_cancel_b20_k
    by_cases h : k = L
    · subst h
      refine ⟨a, v, ?_, hN, fun _ _ => rfl, fun _ _ => rfl, fun i1 a1 h7 h8 h9 => ?_⟩
      · rw [r_0_7, g_122_1, hL', ifn_y (by omega) (by omega) (by omega), r_0_8, p_124_0]
      · rw [g_136_7, h8, ifn_y (by omega) (by omega) (by omega), g_136_7, h8, vu_id h7]
    · have hm : (k + 1) % L < L := Nat.mod_lt _ (by omega)
      have rk := hr k (by omega)
      have rm := hr _ hm
      obtain ⟨f, hfn, ef, hby⟩ := lst_get (hO k (by omega) (by omega))
      have hN' := now_lose hN hfn
      obtain ⟨a2, v2, g1, g2, g3, g4, g5⟩ := ih (k + 1) (va_up a 6 (upd (a 6) (f * 7 + 2) (-1))) (losV v f) (by omega) (by omega) hN' hL' (fun j hj => by rw [vu_n (by omega)]; exact hA j hj) (fun j h1 h2 => by
        rw [owN_lose hby (by have := hr j h2; omega) (by omega) (hd j h2 k (by omega))]
        exact hO j (by omega) h2)
      refine ⟨a2, v2, ?_, g2, fun b hb => (g3 b hb).trans (vu_n hb), fun j hj => (g4 j hj).trans (ud_n (by omega)), fun i1 a1 h7 h8 h9 => ?_⟩
      · have B : f_Fa_cancel_b56 (f_Fa_cancel_b25 fu) (mkH i l a) 0 (nI k) (nI k) (nI ((k + 1) % L)) = some (nI L, mkH (up2 i 124 0 1) l a2) := by
          unfold f_Fa_cancel_b56 f_Fa_cancel_b105
          rw [r_0_3, r_0_7, o_122, memb_ok (by omega), cP_s, r_0_7, o_122, memb_ok (by omega), cP_s, hA k (by omega), hA _ hm, o_2, cheap_ok hN, cP_s, ef, if_neg (by rw [nI_neg1 (by omega)]; exact id), r_0_3, r_2_1, o_5, c_put (t := 5) (m := 12) (w := 7) (c := 2) (k := 2) (by decide) rfl b3 a3.2 hfn (by omega), cP_s, nI_s1]
          exact g1
        rw [r_0_7, g_122_1, hL', ifn_n (by omega) (by omega) (by omega), r_0_7, g_122_1, hL', nI_s1]
        by_cases e : L ≤ k + 1
        · rw [ifn_y (by omega) (by omega) e]
          rw [show (k + 1) % L = 0 by rw [show k + 1 = L by omega, Nat.mod_self]] at B
          exact B
        · rw [ifn_n (by omega) (by omega) e]
          rw [Nat.mod_eq_of_lt (show k + 1 < L by omega)] at B
          exact B
      · have hL0 : ¬ nI L = 0 := by
          rw [show (0 : Int32) = nI 0 from rfl, nI_eq' (by omega) (by omega)]
          omega
        rw [g_136_7, h8, ifn_n (by omega) (by omega) (by omega), r_136_6, a_141 (by omega), h9 k (by omega), r_136_6, g_136_7, h8]
        unfold dI
        rw [if_neg hL0, nI_s1, nI_mod (by omega) (by omega), a_141 (by omega), h9 _ hm, o_136, least_ok hN h7, cP_s, ef, o_136, Mo_lose_ok (by omega), cP_s]
        have := g5 i1 (va_up a1 137 (losV v f)) vu_s h8 (fun j hj => by rw [vu_n (by omega)]; exact h9 j hj)
        rw [vu_u] at this
        unfold losV at this
        rw [h7]
        exact this
theorem call_cancel (H : Inv i l a) : Call (fun G => f_Fa_cancel G 0) (fun G => f_Mo_cancel G 136) i l a := by
  obtain ⟨n, nf, nn, np, dy, hN⟩ := now_of H; obtain ⟨⟨a1, a2, a3, a4, a5⟩, ⟨b1, b2, b3, b4, b5, b6⟩, ⟨c1, c2, c3, c4, c5⟩, ⟨d1, d2, d3, d4, d5⟩⟩ := id hN
  obtain ⟨a1', y, f1, e1, R1⟩ := fa_ring (l := l) hN
  rcases id R1 with ⟨L, r, hL2, hL, rfl, hR, hA, -⟩ | ⟨rfl, -⟩
  · have hN1 : Now (rI i n (nI L)) a1' (a 137) n nf nn np dy := hN.e (fun b hb => ⟨fun k => rI_n (by omega) (by omega) (by omega), e1 b (by omega) (by omega)⟩)
    have hL0 : ¬ nI L = 0 := by
      rw [show (0 : Int32) = nI 0 from rfl, nI_eq' (by omega) (by omega)]
      omega
    obtain ⟨a2', v2, g1, g2, g3, g4, g5⟩ := canc_loop (l := l) hL2 (by omega) hR.1 hR.2.1 FU 0 a1' (a 137) (by omega) (FU_lt (by omega)) hN1 rI_s hA (fun j _ h2 => hR.2.2.2 j h2)
    obtain ⟨a3', y', f2, e2, R2⟩ := Mo_find_ok (l := l) (i1 := up2 (rI i n (nI L)) 124 0 1) (a1 := a2') hN ((g3 137 (by omega)).trans (e1 137 (by omega) (by omega)))
    obtain ⟨rfl, U⟩ := R1.u a2.2.2 R2
    have hA2 : ∀ j, j < L → a3' 141 j = nI (r j) := by
      rcases U with e | ⟨L', h1, h2, e, r', h3, h4⟩
      · exact absurd e hL0
      · have : L = L' := (nI_eq (by omega) (by omega)).mp e
        subst this
        intro j hj
        rw [(h4 j hj).2, ← (h4 j hj).1]
        exact hA j hj
    have h7 : a3' 137 = a 137 := (e2 137 (by omega)).trans ((g3 137 (by omega)).trans (e1 137 (by omega) (by omega)))
    have E : ∀ b, b ≠ 119 → b ≠ 123 → b ≠ 6 → b ≠ 141 → a3' b = a b := fun b h1 h2 h3 h4 => (e2 b h4).trans ((g3 b h3).trans (e1 b h1 h2))
    have EI : ∀ b k, b ≠ 117 → b ≠ 118 → b ≠ 122 → b ≠ 124 → b ≠ 136 → up2 (up2 (rI i n (nI L)) 124 0 1) 136 7 (nI L) b k = i b k := fun b k h1 h2 h3 h4 h5 => by rw [up2_n (by omega), up2_n (by omega), rI_n h1 h2 h3]
    refine ⟨nI L, up2 (rI i n (nI L)) 124 0 1, l, a2', up2 (up2 (rI i n (nI L)) 124 0 1) 136 7 (nI L), l, va_up a3' 137 v2, ?_, ?_, ?_⟩
    · show f_Fa_cancel _ 0 = _
      unfold f_Fa_cancel
      rw [o_0, f1, cP_s, r_0_7, g_122_1, rI_s, if_neg hL0]
      exact g1
    · show f_Mo_cancel _ 136 = _
      unfold f_Mo_cancel
      rw [o_136, f2, cP_s, g_136_7, up2_s, if_neg hL0]
      exact g5 _ a3' h7 up2_s hA2
    · refine fin_now (n := n) (nf := nf) (nn := nn) (np := np) (dy := dy) H (fun b hb => ⟨fun k => ?_, ?_⟩) ?_ (fun j h1 h2 => by rw [vu_s]; exact g4 j (by omega)) (by rw [up2_n (by omega), up2_n (by omega), rI_n (by omega) (by omega) (by omega)]) (EI _ _ (by omega) (by omega) (by omega) (by omega) (by omega)) (fun k _ => EI _ _ (by omega) (by omega) (by omega) (by omega) (by omega)) (by rw [vu_n (by omega)]; exact E 140 (by omega) (by omega) (by omega) (by omega)) (Or.inl (by rw [up2_n (by omega), up2_s]))
      · unfold Away at hb
        exact EI _ _ (by omega) (by omega) (by omega) (by omega) (by omega)
      · unfold Away at hb
        rw [vu_n (by omega)]
        exact E b (by omega) (by omega) (by omega) (by omega)
      · rw [vu_s]
        refine g2.e (fun b hb => ⟨fun k => ?_, ?_⟩)
        · rw [up2_n (by omega), up2_n (by omega)]
        · rw [vu_n (by omega)]
          exact e2 b (by omega)
  · obtain ⟨a3', y', f2, e2, R2⟩ := Mo_find_ok (l := l) (i1 := up2 (rI i n 0) 0 11 (rI i n 0 0 11 + 1)) (a1 := a1') hN (e1 137 (by omega) (by omega))
    obtain ⟨rfl, U⟩ := R1.u a2.2.2 R2
    have I : Inv (up2 (rI i n 0) 136 7 0) l a3' := inv_ring H (fun b h1 h2 h3 => (e2 b h3).trans (e1 b h1 h2))
    refine ⟨-3, up2 (rI i n 0) 0 11 (rI i n 0 0 11 + 1), l, a1', up2 (up2 (rI i n 0) 0 11 (rI i n 0 0 11 + 1)) 136 7 0, l, va_up a3' 140 (upd (a3' 140) 1 (a3' 140 1 + 1)), ?_, ?_, ?_⟩
    · show f_Fa_cancel _ 0 = _
      unfold f_Fa_cancel
      rw [o_0, f1, cP_s, r_0_7, g_122_1, rI_s, if_pos rfl, no9, Fa_no_ok]
    · show f_Mo_cancel _ 136 = _
      unfold f_Mo_cancel
      rw [o_136, f2, cP_s, g_136_7, up2_s, if_pos rfl, no10, Mo_no_ok]
    · have J := inv_ref (Or.inr (Or.inl ⟨rfl, rfl⟩)) I
      rw [up2_n (show ¬ (0 = 136 ∧ 11 = 7) by omega)] at J
      rw [up2_cm (by omega)]
      exact J
end CR
