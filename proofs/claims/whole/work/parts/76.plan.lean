/-! ===== plans: the class's tables ===== -/
section MK
variable {i : Nat → Nat → Int32} {l : Nat → Nat → Int64} {a i0 a0' : Nat → Nat → Int32} {v : Nat → Int32} {n nf nn np dy : Nat}
theorem lay13 (hN : Now i a v n nf nn np dy) {k : Nat} (hk : k < nn) (d : Int32) : ∀ (fu r : Nat), r ≤ k → k - r < fu → f_Pl_layOut_b13 fu (mkH i l a) 124 2 (nI k) d (nI r) = f_Pl_layOut_b39 (mkH i l a) 124 2 (nI k) d (nI (frs v d (k - r) r)) := by
  have b4 := hN.2.1.2.2.2.1
  have a4 := hN.1.2.2.2.1
  have d3 := hN.2.2.2.2.2.1
  intro fu
  induction fu with
  | zero => intro r _ h; omega
  | succ fu ih =>
    intro r hr hf
    show f_Pl_layOut_b13_k (f_Pl_layOut_b13 fu) _ _ _ _ _ _ = _
    unfold f_Pl_layOut_b13_k
    by_cases h : r = k
    · subst h
      rw [ifn_y (by omega) (by omega) (by omega), Nat.sub_self]
      rfl
    · rw [ifn_n (by omega) (by omega) (by omega), r_2_2, o_7, c_at (t := 7) (m := 5) (w := 4) (c := 3) (k := 3) (by decide) rfl b4 a4.2 (show r < nn by omega) (by omega), cP_s, show a (7 + 1) (r * 4 + 3) = v (98 + (r * 4 + 3)) from d3 _ (by omega), nI_s1, show k - r = (k - (r + 1)) + 1 by omega]
      unfold frs
      by_cases e : v (98 + (r * 4 + 3)) = d
      · rw [if_pos e, if_pos e]
      · rw [if_neg e, if_neg e]
        exact ih (r + 1) (by omega) (by omega)
theorem lay86 (hN : Now i0 a0' v n nf nn np dy) (hi : ∀ b k, 2 ≤ b → b ≤ 12 → i b k = i0 b k) {k : Nat} (hk : k < nn) (h4 : i 124 4 = nI nf) (h5 : i 125 2 = nI nn) : ∀ (fu f : Nat) (a : Nat → Nat → Int32), f ≤ nf → nf - f < fu → (∀ b, 2 ≤ b → b ≤ 12 → a b = a0' b) → (∀ e, e < f → a 126 (k * 12 + e) = nI (vlN v k e)) → ∃ g, f_Pl_layOut_b86 fu (mkH i l a) 124 2 (nI k) (v (98 + (k * 4 + 3))) (nI f) = some (mkH i l (va_up a 126 g)) ∧ (∀ e, e < nf → g (k * 12 + e) = nI (vlN v k e)) ∧ ∀ x, x < k * 12 → g x = a 126 x := by
  have hnf := hN.1.2.2.1
  have hnn := hN.1.2.2.2.1
  intro fu
  induction fu with
  | zero => intro f _ _ h; omega
  | succ fu ih =>
    intro f a hf hfu ha hV
    have hN1 : Now i a v n nf nn np dy := hN.e (fun b hb => ⟨fun k => hi b k hb.1 hb.2, ha b hb.1 hb.2⟩)
    have b3 := hN1.2.1.2.2.1
    have b4 := hN1.2.1.2.2.2.1
    have d2 := hN1.2.2.2.2.1
    have d3 := hN1.2.2.2.2.2.1
    show ∃ g, f_Pl_layOut_b86_k (f_Pl_layOut_b86 fu) _ _ _ _ _ _ = _ ∧ _
    unfold f_Pl_layOut_b86_k
    by_cases h : f = nf
    · subst h
      exact ⟨a 126, by rw [g_124_4, h4, ifn_y (by omega) (by omega) (by omega), vu_id (f := a) (b := 126) rfl], hV, fun _ _ => rfl⟩
    · have hfn : f < nf := by omega
      have W := wth_ok hN hk hfn
      obtain ⟨p, t, s, d, -, -, ⟨e2, hs⟩, ⟨ed, hd⟩⟩ := hN.2.2.1.2.2.1 k hk
      have PUT : ∀ x : Int32, x = nI (vlN v k f) → ∃ g, f_Pl_layOut_b191 (f_Pl_layOut_b86 fu) (mkH i l a) 124 2 (nI k) (v (98 + (k * 4 + 3))) (nI f) 125 (nI k) (nI f) x = some (mkH i l (va_up a 126 g)) ∧ (∀ e, e < nf → g (k * 12 + e) = nI (vlN v k e)) ∧ ∀ y, y < k * 12 → g y = a 126 y := by
        intro x hx
        unfold f_Pl_layOut_b191
        rw [o_125, Ta_put_in (t := 125) (m := 5) (w := 12) (by decide) h5 (by omega) hk (by omega), cP_s, nI_s1]
        obtain ⟨g, g1, g2, g3⟩ := ih (f + 1) (va_up a (125 + 1) (upd (a (125 + 1)) (k * 12 + f) x)) (by omega) (by omega) (fun b h1 h2 => (vu_n (by omega)).trans (ha b h1 h2)) (fun e he => by
          rw [show (125 + 1 : Nat) = 126 from rfl, vu_s]
          by_cases ee : e = f
          · rw [ee, ud_s, hx]
          · rw [ud_n (by omega)]
            exact hV e (by omega))
        rw [vu_u (f := a) (b := 126)] at g1
        exact ⟨g, g1, g2, fun y hy => (g3 y hy).trans (by rw [show (125 + 1 : Nat) = 126 from rfl, vu_s, ud_n (by omega)])⟩
      have V162 : ∀ y : Int32, (v (98 + (k * 4 + 2)) ≤ y → y = nI (vlN v k f)) → (y < v (98 + (k * 4 + 2)) → vlN v k f = 0) → ∃ g, f_Pl_layOut_b162 (f_Pl_layOut_b86 fu) (mkH i l a) 124 2 (nI k) (v (98 + (k * 4 + 3))) (nI f) y = some (mkH i l (va_up a 126 g)) ∧ (∀ e, e < nf → g (k * 12 + e) = nI (vlN v k e)) ∧ ∀ y, y < k * 12 → g y = a 126 y := by
        intro y h1 h2
        unfold f_Pl_layOut_b162
        rw [r_124_5, r_2_2, o_7, c_at (t := 7) (m := 5) (w := 4) (c := 2) (k := 2) (by decide) rfl b4 hnn.2 hk (by omega), cP_s, show a (7 + 1) (k * 4 + 2) = v (98 + (k * 4 + 2)) from d3 _ (by omega)]
        by_cases e : y < v (98 + (k * 4 + 2))
        · rw [if_pos e]
          exact PUT 0 (by rw [h2 e]; rfl)
        · rw [if_neg e]
          exact PUT y (h1 (Int32.not_lt.mp e))
      have NOFIT : (¬ (v (14 + (f * 7 + 2)) = v (98 + (k * 4 + 0)) ∧ v (14 + (f * 7 + 3)) = v (98 + (k * 4 + 1)) ∧ v (98 + (k * 4 + 2)) ≤ valF (fv v) f (v (98 + (k * 4 + 3))))) → ∃ g, f_Pl_layOut_b162 (f_Pl_layOut_b86 fu) (mkH i l a) 124 2 (nI k) (v (98 + (k * 4 + 3))) (nI f) 0 = some (mkH i l (va_up a 126 g)) ∧ (∀ e, e < nf → g (k * 12 + e) = nI (vlN v k e)) ∧ ∀ y, y < k * 12 → g y = a 126 y := fun c => by
        have z : vlN v k f = 0 := if_neg c
        refine V162 0 (fun _ => by rw [z]; rfl) (fun _ => z)
      rw [g_124_4, h4, ifn_n (by omega) (by omega) (by omega), r_2_1, o_5, c_at (t := 5) (m := 12) (w := 7) (c := 2) (k := 2) (by decide) rfl b3 hnf.2 hfn (by omega), cP_s, r_2_2, o_7, c_at (t := 7) (m := 5) (w := 4) (c := 0) (k := 0) (by decide) rfl b4 hnn.2 hk (by omega), cP_s, show a (5 + 1) (f * 7 + 2) = v (14 + (f * 7 + 2)) from d2 _ (by omega), show a (7 + 1) (k * 4 + 0) = v (98 + (k * 4 + 0)) from d3 _ (by omega)]
      unfold f_Pl_layOut_b143 f_Pl_layOut_b144
      rw [if_pos rfl, if_neg n10]
      by_cases c1 : v (14 + (f * 7 + 2)) = v (98 + (k * 4 + 0))
      · rw [if_pos c1, r_2_1, o_5, c_at (t := 5) (m := 12) (w := 7) (c := 3) (k := 3) (by decide) rfl b3 hnf.2 hfn (by omega), cP_s, r_2_2, o_7, c_at (t := 7) (m := 5) (w := 4) (c := 1) (k := 1) (by decide) rfl b4 hnn.2 hk (by omega), cP_s, show a (5 + 1) (f * 7 + 3) = v (14 + (f * 7 + 3)) from d2 _ (by omega), show a (7 + 1) (k * 4 + 1) = v (98 + (k * 4 + 1)) from d3 _ (by omega)]
        by_cases c2 : v (14 + (f * 7 + 3)) = v (98 + (k * 4 + 1))
        · have VO : f_St_valueOn (mkH i l a) 2 (nI f) (v (98 + (k * 4 + 3))) = some (nI (wthN v k f)) := by
            have := vOn (l := l) hN1 hfn hd
            unfold wthN
            rw [ed]
            exact this
          rw [if_pos c2, o_2, VO, cP_s]
          refine V162 _ (fun c3 => ?_) (fun c3 => ?_)
          · exact congrArg nI (if_pos ⟨c1, c2, by rw [W.1]; exact c3⟩).symm
          · exact if_neg (fun x => Int32.not_lt.mpr x.2.2 (by rw [W.1]; exact c3))
        · rw [if_neg c2]
          exact NOFIT (fun x => c2 x.2.1)
      · rw [if_neg c1]
        exact NOFIT (fun x => c1 x.1)
theorem lay50 (hN : Now i0 a0' v n nf nn np dy) (hi : ∀ b k, 2 ≤ b → b ≤ 12 → i b k = i0 b k) {k : Nat} (hk : k < nn) (h4 : i 124 4 = nI nf) (h5 : i 125 2 = nI nn) (h7 : i 127 2 = nI nn) : ∀ (fu q : Nat) (a : Nat → Nat → Int32), q ≤ 6 → 6 - q < fu → (∀ b, 2 ≤ b → b ≤ 12 → a b = a0' b) → (∀ e, e < q → e < n → a 128 (k * 6 + e) = v (2 + e)) → ∃ h g, f_Pl_layOut_b50 fu (mkH i l a) 124 2 (nI k) (v (98 + (k * 4 + 3))) (nI q) = some (mkH i l (va_up (va_up a 128 h) 126 g)) ∧ (∀ e, e < nf → g (k * 12 + e) = nI (vlN v k e)) ∧ (∀ x, x < k * 12 → g x = a 126 x) ∧ (∀ e, e < n → h (k * 6 + e) = v (2 + e)) ∧ ∀ x, x < k * 6 → h x = a 128 x := by
  have hn := hN.1.2.1
  have hnf := hN.1.2.2.1
  have hnn := hN.1.2.2.2.1
  intro fu
  induction fu with
  | zero => intro f _ _ h; omega
  | succ fu ih =>
    intro q a hq hfu ha hV
    have hN1 : Now i a v n nf nn np dy := hN.e (fun b hb => ⟨fun k => hi b k hb.1 hb.2, ha b hb.1 hb.2⟩)
    have b2 := hN1.2.1.2.1
    have d1 := hN1.2.2.2.1
    show ∃ h g, f_Pl_layOut_b50_k (f_Pl_layOut_b50 fu) _ _ _ _ _ _ = _ ∧ _
    unfold f_Pl_layOut_b50_k
    by_cases h : q = 6
    · subst h
      obtain ⟨g, g1, g2, g3⟩ := lay86 (l := l) hN hi hk h4 h5 FU 0 a (Nat.zero_le _) (FU_lt (by omega)) ha (fun e he => by omega)
      refine ⟨a 128, g, ?_, g2, g3, fun e he => hV e (by omega) he, fun _ _ => rfl⟩
      rw [if_pos (by decide), vu_id (f := a) (b := 128) rfl]
      exact g1
    · have PUT : ∀ x : Int32, (q < n → x = v (2 + q)) → ∃ h g, (vP (mkH i l a) 7 127 (f_Ta_put (mkH i l a) 127 (nI k) (nI q) x) fun G4 => f_Pl_layOut_b50 fu G4 124 2 (nI k) (v (98 + (k * 4 + 3))) (nI (q + 1))) = some (mkH i l (va_up (va_up a 128 h) 126 g)) ∧ (∀ e, e < nf → g (k * 12 + e) = nI (vlN v k e)) ∧ (∀ x, x < k * 12 → g x = a 126 x) ∧ (∀ e, e < n → h (k * 6 + e) = v (2 + e)) ∧ ∀ x, x < k * 6 → h x = a 128 x := by
        intro x hx
        rw [o_127, Ta_put_in (t := 127) (m := 5) (w := 6) (by decide) h7 (by omega) hk (by omega), cP_s]
        obtain ⟨h', g, g1, g2, g3, g4, g5⟩ := ih (q + 1) (va_up a (127 + 1) (upd (a (127 + 1)) (k * 6 + q) x)) (by omega) (by omega) (fun b h1 h2 => (vu_n (by omega)).trans (ha b h1 h2)) (fun e he hen => by
          rw [show (127 + 1 : Nat) = 128 from rfl, vu_s]
          by_cases ee : e = q
          · rw [ee, ud_s, hx (by omega)]
          · rw [ud_n (by omega)]
            exact hV e (by omega) hen)
        rw [vu_u (f := a) (b := 128)] at g1
        exact ⟨h', g, g1, g2, fun y hy => (g3 y hy).trans (by rw [vu_n (by omega)]), g4, fun y hy => (g5 y hy).trans (by rw [show (127 + 1 : Nat) = 128 from rfl, vu_s, ud_n (by omega)])⟩
      rw [if_neg (c := (6 : Int32) ≤ nI q) (show ¬ nI 6 ≤ nI q by rw [nI_le' (by omega) (by omega)]; omega), r_124_6, r_2_0, o_3, nI_s1]
      by_cases e : q < n
      · rw [c_at (t := 3) (m := 6) (w := 2) (c := 0) (k := 0) (by decide) rfl b2 hn.2.2 e (by omega), cP_s]
        exact PUT _ (fun _ => (d1 q e).1)
      · rw [Ta_at_out (t := 3) (m := 6) (w := 2) (by decide) (Or.inr (by rw [b2, nI_le' (by omega) (by omega)]; omega)), cP_s]
        exact PUT 0 (fun x => absurd x e)
theorem lay_ok (hN : Now i0 a0' v n nf nn np dy) (hi : ∀ b k, 2 ≤ b → b ≤ 12 → i b k = i0 b k) {k : Nat} (hk : k < nn) (h4 : i 124 4 = nI nf) (h5 : i 125 2 = nI nn) (h7 : i 127 2 = nI nn) (ha : ∀ b, 2 ≤ b → b ≤ 12 → a b = a0' b) : ∃ h g, f_Pl_layOut (mkH i l a) 124 2 (nI k) = some (mkH i l (va_up (va_up (va_up a 129 (upd (a 129) k (nI (drN v k)))) 128 h) 126 g)) ∧ (∀ e, e < nf → g (k * 12 + e) = nI (vlN v k e)) ∧ (∀ x, x < k * 12 → g x = a 126 x) ∧ (∀ e, e < n → h (k * 6 + e) = v (2 + e)) ∧ ∀ x, x < k * 6 → h x = a 128 x := by
  have hnn := hN.1.2.2.2.1
  have hN1 : Now i a v n nf nn np dy := hN.e (fun b hb => ⟨fun k => hi b k hb.1 hb.2, ha b hb.1 hb.2⟩)
  have b4 := hN1.2.1.2.2.2.1
  have d3 := hN1.2.2.2.2.2.1
  have L := lay13 (l := l) hN1 hk (v (98 + (k * 4 + 3))) FU 0 (Nat.zero_le _) (FU_lt (by omega))
  obtain ⟨h', g, g1, g2, g3, g4, g5⟩ := lay50 (l := l) hN hi hk h4 h5 h7 FU 0 (va_up a 129 (upd (a 129) k (nI (drN v k)))) (Nat.zero_le _) (FU_lt (by omega)) (fun b h1 h2 => (vu_n (by omega)).trans (ha b h1 h2)) (fun e he => by omega)
  refine ⟨h', g, ?_, g2, fun x hx => (g3 x hx).trans (by rw [vu_n (by omega)]), g4, fun x hx => (g5 x hx).trans (by rw [vu_n (by omega)])⟩
  unfold f_Pl_layOut
  rw [r_2_2, o_7, c_at (t := 7) (m := 5) (w := 4) (c := 3) (k := 3) (by decide) rfl b4 hnn.2 hk (by omega), cP_s, show a (7 + 1) (k * 4 + 3) = v (98 + (k * 4 + 3)) from d3 _ (by omega)]
  refine L.trans ?_
  rw [Nat.sub_zero]
  show f_Pl_layOut_b39 (mkH i l a) 124 2 (nI k) (v (98 + (k * 4 + 3))) (nI (drN v k)) = _
  unfold f_Pl_layOut_b39
  rw [r_124_7, s_129 (by omega)]
  exact g1
theorem hp_in (hN : Now i0 a0' v n nf nn np dy) (h4 : i 124 4 = nI nf) (h5 : i 125 2 = nI nn) {k : Nat} (hk : k < nn) (hV : ∀ f, f < nf → a 126 (k * 12 + f) = nI (vlN v k f)) (K : Hp → Nat → Int32 → Option Hp) (h1 : a 131 (k + 1) = nI (hopD v nf nn (nn - (k + 1)))) (h2 : a 132 (k + 1) = nI (cstD v nf nn (nn - (k + 1)))) : ∀ (fu f : Nat), f ≤ nf → nf - f < fu → f_Pl_lookAhead_b35 K fu (mkH i l a) 124 (nI k) (nI (lvN v k f)) (nI f) = K (mkH i l (va_up (va_up a 131 (upd (a 131) k (nI (hopD v nf nn (nn - k))))) 132 (upd (a 132) k (nI (cstD v nf nn (nn - k)))))) 124 (nI k - 1) := by
  have hnf := hN.1.2.2.1
  have hnn := hN.1.2.2.2.1
  intro fu
  induction fu with
  | zero => intro f _ h; omega
  | succ fu ih =>
    intro f hf hfu
    show f_Pl_lookAhead_b35_k K (f_Pl_lookAhead_b35 K fu) _ _ _ _ _ = _
    unfold f_Pl_lookAhead_b35_k f_Pl_lookAhead_b72 f_Pl_lookAhead_b69 f_Pl_lookAhead_b72
    have LB := lvN_b (v := v) (k := k) (b := 49) f (fun f hf => vlN_b hN hk (by omega))
    by_cases h : f = nf
    · subst h
      have e : nn - k = (nn - (k + 1)) + 1 := by omega
      have e2 : nn - (nn - (k + 1) + 1) = k := by omega
      have H : hopD v f nn (nn - k) = hopD v f nn (nn - (k + 1)) + if 0 < lvN v k f then 1 else 0 := by
        rw [e]
        show hopD v f nn (nn - (k + 1)) + (if 0 < lvN v (nn - (nn - (k + 1) + 1)) f then 1 else 0) = _
        rw [e2]
      have C : cstD v f nn (nn - k) = cstD v f nn (nn - (k + 1)) + lvN v k f := by
        rw [e]
        show cstD v f nn (nn - (k + 1)) + lvN v (nn - (nn - (k + 1) + 1)) f = _
        rw [e2]
      have D : ∀ x : Int32, nI (hopD v f nn (nn - (k + 1))) + x = nI (hopD v f nn (nn - k)) → f_Pl_lookAhead_b100 K (mkH i l a) 124 (nI k) (nI (lvN v k f)) 131 (nI k) (nI (hopD v f nn (nn - (k + 1)))) x = K (mkH i l (va_up (va_up a 131 (upd (a 131) k (nI (hopD v f nn (nn - k))))) 132 (upd (a 132) k (nI (cstD v f nn (nn - k)))))) 124 (nI k - 1) := by
        intro x hx
        unfold f_Pl_lookAhead_b100
        rw [s_131 (by omega), r_124_10, r_124_10, nI_s1, a_132 (by omega), vu_n (by omega), h2, s_132 (by omega), hx, nI_add, ← C, nI_m1, vu_n (by omega)]
      rw [g_124_4, h4, ifn_y (by omega) (by omega) (by omega), r_124_9, r_124_9, nI_s1, a_131 (by omega), h1]
      by_cases z : 0 < lvN v k f
      · rw [if_pos z] at H
        rw [if_neg (c := nI (lvN v k f) ≤ 0) (show ¬ nI (lvN v k f) ≤ nI 0 by rw [nI_le' (by omega) (by omega)]; omega)]
        exact D 1 (by rw [nI_s1, H])
      · rw [if_neg z] at H
        rw [if_pos (c := nI (lvN v k f) ≤ 0) (show nI (lvN v k f) ≤ nI 0 by rw [nI_le' (by omega) (by omega)]; omega)]
        exact D 0 (by rw [a0, H]; rfl)
    · have I := ih (f + 1) (by omega) (by omega)
      have VB := vlN_b hN hk (show f < nf by omega)
      have S : lvN v k (f + 1) = if 0 < vlN v k f ∧ (lvN v k f = 0 ∨ vlN v k f < lvN v k f) then vlN v k f else lvN v k f := rfl
      rw [g_124_4, h4, ifn_n (by omega) (by omega) (by omega), r_124_5, o_125, Ta_at_in (t := 125) (m := 5) (w := 12) (by decide) h5 (by omega) hk (by omega), cP_s, show a (125 + 1) (k * 12 + f) = nI (vlN v k f) from hV f (by omega), nI_s1]
      by_cases z : 0 < vlN v k f
      · rw [if_neg (c := nI (vlN v k f) ≤ 0) (show ¬ nI (vlN v k f) ≤ nI 0 by rw [nI_le' (by omega) (by omega)]; omega)]
        by_cases z2 : lvN v k f = 0
        · rw [if_pos ⟨z, Or.inl z2⟩] at S
          rw [S] at I
          rw [if_pos (by rw [z2]; rfl)]
          exact I
        · rw [if_neg (by rw [nI_z (by omega)]; exact z2)]
          by_cases z3 : vlN v k f < lvN v k f
          · rw [if_pos ⟨z, Or.inr z3⟩] at S
            rw [S] at I
            rw [ifn_n (by omega) (by omega) (by omega)]
            exact I
          · rw [if_neg (fun x => by rcases x.2 with x | x <;> omega)] at S
            rw [S] at I
            rw [ifn_y (by omega) (by omega) (by omega)]
            exact I
      · rw [if_neg (fun x => z x.1)] at S
        rw [S] at I
        rw [if_pos (c := nI (vlN v k f) ≤ 0) (show nI (vlN v k f) ≤ nI 0 by rw [nI_le' (by omega) (by omega)]; omega)]
        exact I
theorem hp_out (hN : Now i0 a0' v n nf nn np dy) (h4 : i 124 4 = nI nf) (h5 : i 125 2 = nI nn) : ∀ (fu j : Nat) (a : Nat → Nat → Int32), j ≤ nn → j < fu → (∀ k, k < nn → ∀ f, f < nf → a 126 (k * 12 + f) = nI (vlN v k f)) → (∀ k, j ≤ k → k ≤ nn → a 131 k = nI (hopD v nf nn (nn - k)) ∧ a 132 k = nI (cstD v nf nn (nn - k))) → ∃ a2, f_Pl_lookAhead_b27 fu (mkH i l a) 124 (nI j - 1) = some (mkH i l a2) ∧ (∀ b, b ≠ 131 → b ≠ 132 → a2 b = a b) ∧ ∀ k, k ≤ nn → a2 131 k = nI (hopD v nf nn (nn - k)) ∧ a2 132 k = nI (cstD v nf nn (nn - k)) := by
  have hnn := hN.1.2.2.2.1
  intro fu
  induction fu with
  | zero => intro j _ _ h; omega
  | succ fu ih =>
    intro j a hj hfu hV hE
    show ∃ a2, f_Pl_lookAhead_b27_k (f_Pl_lookAhead_b27 fu) _ _ _ = _ ∧ _
    unfold f_Pl_lookAhead_b27_k
    cases j with
    | zero => exact ⟨a, by rw [if_pos (by decide)], fun _ _ _ => rfl, fun k hk => hE k (Nat.zero_le _) hk⟩
    | succ j =>
      rw [nI_p, if_neg (by rw [nI_lt0 (by omega)]; exact id)]
      have P := hp_in (l := l) hN h4 h5 (show j < nn by omega) (hV j (by omega)) (f_Pl_lookAhead_b27 fu) (hE (j + 1) (Nat.le_refl _) (by omega)).1 (hE (j + 1) (Nat.le_refl _) (by omega)).2 FU 0 (Nat.zero_le _) (FU_lt (by have := hN.1.2.2.1.2; omega))
      obtain ⟨a2, k1, k2, k3⟩ := ih j (va_up (va_up a 131 (upd (a 131) j (nI (hopD v nf nn (nn - j))))) 132 (upd (a 132) j (nI (cstD v nf nn (nn - j))))) (by omega) (by omega) (fun k hk f hf => by rw [vu_n (by omega), vu_n (by omega)]; exact hV k hk f hf) (fun k h1 h2 => by
        rw [vu_n (show ¬ 131 = 132 by omega), vu_s, vu_s]
        by_cases e : k = j
        · rw [e, ud_s, ud_s]
          exact ⟨rfl, rfl⟩
        · rw [ud_n e, ud_n e]
          exact hE k (by omega) h2)
      exact ⟨a2, P.trans k1, fun b h1 h2 => (k2 b h1 h2).trans ((vu_n h2).trans (vu_n h1)), k3⟩
theorem hp_ok (hN : Now i0 a0' v n nf nn np dy) (h3 : i 124 3 = nI nn) (h4 : i 124 4 = nI nf) (h5 : i 125 2 = nI nn) (hV : ∀ k, k < nn → ∀ f, f < nf → a 126 (k * 12 + f) = nI (vlN v k f)) : ∃ a2, f_Pl_lookAhead (mkH i l a) 124 = some (mkH i l a2) ∧ (∀ b, b ≠ 131 → b ≠ 132 → a2 b = a b) ∧ ∀ k, k ≤ nn → a2 131 k = nI (hopD v nf nn (nn - k)) ∧ a2 132 k = nI (cstD v nf nn (nn - k)) := by
  have hnn := hN.1.2.2.2.1
  obtain ⟨a2, k1, k2, k3⟩ := hp_out (l := l) hN h4 h5 FU nn (va_up (va_up a 131 (upd (a 131) nn 0)) 132 (upd (a 132) nn 0)) (Nat.le_refl _) (FU_lt (by omega)) (fun k hk f hf => by rw [vu_n (by omega), vu_n (by omega)]; exact hV k hk f hf) (fun k h1 h2 => by
    have e : k = nn := by omega
    subst e
    rw [vu_n (show ¬ 131 = 132 by omega), vu_s, vu_s, ud_s, ud_s, Nat.sub_self]
    exact ⟨rfl, rfl⟩)
  refine ⟨a2, ?_, fun b h1 h2 => (k2 b h1 h2).trans ((vu_n h2).trans (vu_n h1)), k3⟩
  unfold f_Pl_lookAhead
  rw [r_124_9, g_124_3, h3, s_131 (by omega), r_124_10, g_124_3, h3, s_132 (by omega), g_124_3, h3, lt_e, vu_n (by omega)]
  exact k1
end MK
