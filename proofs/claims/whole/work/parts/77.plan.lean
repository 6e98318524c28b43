/-! ===== calls: met, plan, kept ===== -/
def mkI (i : Nat → Nat → Int32) (nn nf : Nat) : Nat → Nat → Int32 := up2 (up2 (up2 (up2 i 124 3 (nI nn)) 124 4 (nI nf)) 125 2 (nI nn)) 127 2 (nI nn)
section MC
variable {i : Nat → Nat → Int32} {l : Nat → Nat → Int64} {a : Nat → Nat → Int32} {v : Nat → Int32} {n nf nn np dy : Nat}
theorem mkI_n {b k : Nat} (h1 : b ≠ 124) (h2 : b ≠ 125) (h3 : b ≠ 127) : mkI i nn nf b k = i b k := by
  unfold mkI
  rw [up2_n (by omega), up2_n (by omega), up2_n (by omega), up2_n (by omega)]
theorem mkI_3 : mkI i nn nf 124 3 = nI nn := by
  unfold mkI
  rw [up2_n (by omega), up2_n (by omega), up2_n (by omega), up2_s]
theorem mkI_4 : mkI i nn nf 124 4 = nI nf := by
  unfold mkI
  rw [up2_n (by omega), up2_n (by omega), up2_s]
theorem mkI_5 : mkI i nn nf 125 2 = nI nn := by
  unfold mkI
  rw [up2_n (by omega), up2_s]
theorem mkI_7 : mkI i nn nf 127 2 = nI nn := by
  unfold mkI
  rw [up2_s]
theorem mk_94 (hN : Now i a v n nf nn np dy) : ∀ (fu k : Nat) (a1 : Nat → Nat → Int32), k ≤ nn → nn - k < fu → (∀ b, (b ≤ 125 ∨ b = 127 ∨ 135 ≤ b) → a1 b = a b) → (∀ f, f < nf → a1 130 f = v (14 + (f * 7 + 1))) → (∀ e, e < k → a1 129 e = nI (drN v e)) → (∀ e, e < k → ∀ f, f < nf → a1 126 (e * 12 + f) = nI (vlN v e f)) → (∀ e q, e < k → q < n → a1 128 (e * 6 + q) = v (2 + q)) → ∃ a2 m w, f_Pl_make_b94 fu (mkH (mkI i nn nf) l a1) 124 2 (nI k) = some (mkH (up2 (pJ (mkI i nn nf) m w) 124 0 0) l a2) ∧ (∀ b, (b ≤ 125 ∨ b = 127 ∨ 135 ≤ b) → a2 b = a b) ∧ ∃ c, bestN v nf nn c ∧ m = nI (cntN nf c nn) ∧ w = nI (spnN v nf c nn) ∧ ∀ k, k < nn → a2 134 k = enC nf (c k) := by
  have hnf := hN.1.2.2.1
  have hnn := hN.1.2.2.2.1
  intro fu
  induction fu with
  | zero => intro k _ _ h; omega
  | succ fu ih =>
    intro k a1 hk hf hE g130 g129 g126 g128
    show ∃ a2 m w, f_Pl_make_b94_k (f_Pl_make_b94 fu) _ _ _ _ = _ ∧ _
    unfold f_Pl_make_b94_k
    by_cases h : k = nn
    · subst h
      obtain ⟨a2, k1, k2, k3⟩ := hp_ok (i := mkI i k nf) (l := l) (a := a1) hN mkI_3 mkI_4 mkI_5 g126
      have hS : SrSt (mkI i k nf) a2 v n nf k 0 (fun _ => 0) 0 := by
        refine ⟨⟨⟨mkI_3, mkI_4, mkI_5, mkI_7⟩, ?_, ?_, ?_, k3⟩, fun r q hr hq => ?_, fun j hj => by omega, by omega, fun f _ => ?_, fun j hj => by omega⟩
        · rw [k2 130 (by omega) (by omega)]; exact g130
        · rw [k2 129 (by omega) (by omega)]; exact g129
        · rw [k2 126 (by omega) (by omega)]; exact g126
        · rw [k2 128 (by omega) (by omega), g128 r q hr hq]
          show _ = v (2 + q) - 0
          rw [Int32.sub_zero]
        · rw [Nat.zero_testBit]
          exact ⟨fun x => absurd x (by decide), fun ⟨j, hj, _⟩ => by omega⟩
      obtain ⟨a3, m, w, q1, q2, q3, q4⟩ := search_ok (i := mkI i k nf) (l := l) hN 8 0 (fun _ => 0) 0 a2 (-1) 0 (Nat.zero_le _) (by omega) hS (Or.inl ⟨rfl, rfl, fun c hc => by
        rcases hc with ⟨j, hj, -⟩ | ⟨-, hc⟩ <;> omega⟩)
      have Q1 : f_Pl_search 8 (mkH (pJ (mkI i k nf) (-1) 0) l a2) 124 0 0 0 0 = some (mkH (pJ (mkI i k nf) m w) l a3) := q1
      refine ⟨a3, m, w, ?_, fun b hb => (q2 b (by omega) (by omega)).trans ((k2 b (by omega) (by omega)).trans (hE b hb)), q4.fin (fun c _ => Or.inr fun e he => by omega)⟩
      rw [g_124_3, mkI_3, ifn_y (by omega) (by omega) (by omega), o_124, k1, cP_s, p_124_1, p_124_2]
      show cP (f_Pl_search 8 (mkH (pJ (mkI i k nf) (-1) 0) l a2) 124 0 0 0 0) _ = _
      rw [Q1, cP_s, p_124_0]
    · obtain ⟨h', g, q1, q2, q3, q4, q5⟩ := lay_ok (i := mkI i nn nf) (l := l) (a := a1) hN (fun b k h1 h2 => mkI_n (by omega) (by omega) (by omega)) (show k < nn by omega) mkI_4 mkI_5 mkI_7 (fun b h1 h2 => hE b (by omega))
      rw [g_124_3, mkI_3, ifn_n (by omega) (by omega) (by omega), o_124, q1, cP_s, nI_s1]
      refine ih (k + 1) _ (by omega) (by omega) (fun b hb => ?_) (fun f hf => ?_) (fun e he => ?_) (fun e he f hf => ?_) (fun e q he hq => ?_)
      · rw [vu_n (by omega), vu_n (by omega), vu_n (by omega)]
        exact hE b hb
      · rw [vu_n (by omega), vu_n (by omega), vu_n (by omega)]
        exact g130 f hf
      · rw [vu_n (by omega), vu_n (by omega), vu_s]
        by_cases ee : e = k
        · rw [ee, ud_s]
        · rw [ud_n ee]
          exact g129 e (by omega)
      · rw [vu_s]
        by_cases ee : e = k
        · rw [ee]
          exact q2 f hf
        · rw [q3 _ (by omega)]
          exact g126 e (by omega) f hf
      · rw [vu_n (by omega), vu_s]
        by_cases ee : e = k
        · rw [ee]
          exact q4 q hq
        · rw [q5 _ (by have := hN.1.2.1; omega)]
          exact g128 e q (by omega) hq
theorem mk_63 (hN : Now i a v n nf nn np dy) : ∀ (fu f : Nat) (a1 : Nat → Nat → Int32), f ≤ nf → nf - f < fu → (∀ b, b ≠ 130 → a1 b = a b) → (∀ e, e < f → a1 130 e = v (14 + (e * 7 + 1))) → ∃ a2 m w, f_Pl_make_b63 fu (mkH (mkI i nn nf) l a1) 124 2 (nI f) = some (mkH (up2 (pJ (mkI i nn nf) m w) 124 0 0) l a2) ∧ (∀ b, (b ≤ 125 ∨ b = 127 ∨ 135 ≤ b) → a2 b = a b) ∧ ∃ c, bestN v nf nn c ∧ m = nI (cntN nf c nn) ∧ w = nI (spnN v nf c nn) ∧ ∀ k, k < nn → a2 134 k = enC nf (c k) := by
  have hnf := hN.1.2.2.1
  have hnn := hN.1.2.2.2.1
  have b3 := hN.2.1.2.2.1
  have d2 := hN.2.2.2.2.1
  intro fu
  induction fu with
  | zero => intro k _ _ h; omega
  | succ fu ih =>
    intro f a1 hf hfu hE g130
    show ∃ a2 m w, f_Pl_make_b63_k (f_Pl_make_b63 fu) _ _ _ _ = _ ∧ _
    unfold f_Pl_make_b63_k
    by_cases h : f = nf
    · subst h
      rw [g_124_4, mkI_4, ifn_y (by omega) (by omega) (by omega)]
      exact mk_94 (l := l) hN FU 0 a1 (Nat.zero_le _) (FU_lt (by omega)) (fun b hb => hE b (by omega)) g130 (fun e he => by omega) (fun e he => by omega) (fun e q he => by omega)
    · rw [g_124_4, mkI_4, ifn_n (by omega) (by omega) (by omega), r_124_8, r_2_1, o_5, c_at (t := 5) (m := 12) (w := 7) (c := 1) (k := 1) (by decide) rfl ((mkI_n (by omega) (by omega) (by omega)).trans b3) hnf.2 (show f < nf by omega) (by omega), cP_s, s_130 (by omega), nI_s1, show a1 (5 + 1) (f * 7 + 1) = v (14 + (f * 7 + 1)) by
        rw [hE 6 (by omega)]
        exact d2 _ (by omega)]
      refine ih (f + 1) _ (by omega) (by omega) (fun b hb => (vu_n hb).trans (hE b hb)) (fun e he => ?_)
      rw [vu_s]
      by_cases ee : e = f
      · rw [ee, ud_s]
      · rw [ud_n ee]
        exact g130 e (by omega)
theorem make_ok (H : Inv i l a) (hN : Now i a (a 137) n nf nn np dy) : ∃ i1 a1, f_Pl_make (mkH i l a) 124 2 = some (mkH i1 l a1) ∧ (∀ b k, b ≠ 124 → b ≠ 125 → b ≠ 127 → i1 b k = i b k) ∧ (∀ b, (b ≤ 125 ∨ b = 127 ∨ 135 ≤ b) → a1 b = a b) ∧ ∃ c, bestN (a 137) nf nn c ∧ i1 124 0 = 0 ∧ i1 124 1 = nI (cntN nf c nn) ∧ i1 124 2 = nI (spnN (a 137) nf c nn) ∧ ∀ k, k < nn → a1 134 k = enC nf (c k) := by
  have hnf := hN.1.2.2.1
  have hnn := hN.1.2.2.2.1
  have b3 := hN.2.1.2.2.1
  have b4 := hN.2.1.2.2.2.1
  have ST : i 124 0 = 1 → ∃ i1 a1, f_Pl_make (mkH i l a) 124 2 = some (mkH i1 l a1) ∧ (∀ b k, b ≠ 124 → b ≠ 125 → b ≠ 127 → i1 b k = i b k) ∧ (∀ b, (b ≤ 125 ∨ b = 127 ∨ 135 ≤ b) → a1 b = a b) ∧ ∃ c, bestN (a 137) nf nn c ∧ i1 124 0 = 0 ∧ i1 124 1 = nI (cntN nf c nn) ∧ i1 124 2 = nI (spnN (a 137) nf c nn) ∧ ∀ k, k < nn → a1 134 k = enC nf (c k) := by
    intro h0
    obtain ⟨a2, m, w, q1, q2, c, q3, q4, q5, q6⟩ := mk_63 (l := l) hN FU 0 a (Nat.zero_le _) (FU_lt (by omega)) (fun _ _ => rfl) (fun e he => by omega)
    refine ⟨up2 (pJ (mkI i nn nf) m w) 124 0 0, a2, ?_, fun b k h1 h2 h3 => ?_, q2, c, q3, up2_s, ?_, ?_, q6⟩
    · have E : up2 (up2 (up2 (up2 i 124 3 (mn (nI 5) (nI nn))) 124 4 (mn (nI 12) (nI nf))) 125 2 (nI nn)) 127 2 (nI nn) = mkI i nn nf := by
        rw [nI_mn (by omega) (by omega), nI_mn (by omega) (by omega), Nat.min_eq_right hnn.2, Nat.min_eq_right hnf.2]
        rfl
      have M5 : mn (nI 5) (nI nn) = nI nn := by rw [nI_mn (by omega) (by omega), Nat.min_eq_right hnn.2]
      have M12 : mn (nI 12) (nI nf) = nI nf := by rw [nI_mn (by omega) (by omega), Nat.min_eq_right hnf.2]
      unfold f_Pl_make
      rw [g_124_0, h0, if_neg n10, r_2_2, g_7_2, b4, show (5 : Int32) = nI 5 from rfl, M5, p_124_3, r_2_1, g_5_2, up2_n (by omega), b3, show (12 : Int32) = nI 12 from rfl, M12, p_124_4, r_124_5, g_124_3, up2_n (by omega), up2_s, p_125_2, r_124_6, g_124_3, up2_n (by omega), up2_n (by omega), up2_s, p_127_2]
      exact q1
    · rw [up2_n (by omega), pJ_n (by omega), mkI_n h1 h2 h3]
    · rw [up2_n (by omega), pJ_1, q4]
    · rw [up2_n (by omega), pJ_2, q5]
  rcases H.2.2.2.2.2.2.2.2 with h0 | ⟨h0, nf', nn', c, h1, h2, h3, h4, h5, h6, h7, h8⟩
  · exact ST h0
  · have e1 : nf' = nf := by
      rw [hnf.1] at h1
      exact ((nI_eq (by omega) (by omega)).mp h1).symm
    have e2 : nn' = nn := by
      rw [hnn.1] at h3
      exact ((nI_eq (by omega) (by omega)).mp h3).symm
    subst e1 e2
    refine ⟨i, a, ?_, fun _ _ _ _ _ => rfl, fun _ _ => rfl, c, h5, h0, h6, h7, h8⟩
    unfold f_Pl_make
    rw [g_124_0, h0, if_pos rfl]
/-- what holds behind both plans -/
theorem inv_plan (H : Inv i l a) (hN : Now i a (a 137) n nf nn np dy) {i1 a1 a2 : Nat → Nat → Int32} {m w : Int32} {l' : Nat → Nat → Int64} {c : Nat → Nat} (hi : ∀ b k, b ≠ 124 → b ≠ 125 → b ≠ 127 → i1 b k = i b k) (ha : ∀ b, (b ≤ 125 ∨ b = 127 ∨ 135 ≤ b) → a1 b = a b) (hc : bestN (a 137) nf nn c) (h0 : i1 124 0 = 0) (h1 : i1 124 1 = nI (cntN nf c nn)) (h2 : i1 124 2 = nI (spnN (a 137) nf c nn)) (h3 : ∀ k, k < nn → a1 134 k = enC nf (c k)) (ha2 : ∀ b, b ≠ 144 → b ≠ 145 → a2 b = a1 b) (hF : Fra l') : Inv (mI i1 m w) l' a2 := by
  have hA : ∀ b, (b ≤ 125 ∨ b = 127 ∨ 135 ≤ b) → b ≠ 144 → b ≠ 145 → a2 b = a b := fun b q1 q2 q3 => (ha2 b q2 q3).trans (ha b q1)
  have hI : ∀ b k, b ≠ 124 → b ≠ 125 → b ≠ 127 → b ≠ 136 → mI i1 m w b k = i b k := fun b k q1 q2 q3 q4 => (mI_n (by omega)).trans (hi b k q1 q2 q3)
  have e7 := hA 137 (by omega) (by omega) (by omega)
  have hN1 : Now (mI i1 m w) a2 (a 137) n nf nn np dy := hN.e (fun b hb => ⟨fun k => hI b k (by omega) (by omega) (by omega) (by omega), hA b (by omega) (by omega) (by omega)⟩)
  obtain ⟨-, -, -, -, hRR, -, ⟨r0, r1, r2⟩, -, -⟩ := id H
  refine inv_now H (fun b hb => ⟨fun k => ?_, ?_⟩) (by rw [e7]; exact hN1.SW) (fun j _ _ => by rw [e7]) ((mI_n (by omega)).trans (hi _ _ (by omega) (by omega) (by omega))) ⟨hN1.2.1.2.2.2.2.2, by rw [hI _ _ (by omega) (by omega) (by omega) (by omega)]; exact hRR.2.2.2.2.2.2.2.2.2⟩ ⟨?_, ?_, ?_⟩ hF (Or.inr ⟨(mI_n (by omega)).trans h0, nf, nn, c, by rw [e7]; exact hN.1.2.2.1.1, hN.1.2.2.1.2, by rw [e7]; exact hN.1.2.2.2.1.1, hN.1.2.2.2.1.2, by rw [e7]; exact hc, (mI_n (by omega)).trans h1, by rw [e7]; exact (mI_n (by omega)).trans h2, fun k hk => ?_⟩)
  · unfold Away at hb
    exact hI b k (by omega) (by omega) (by omega) (by omega)
  · unfold Away at hb
    exact hA b (by omega) (by omega) (by omega)
  · rw [hI _ _ (by omega) (by omega) (by omega) (by omega), hA 140 (by omega) (by omega) (by omega)]; exact r0
  · rw [hI _ _ (by omega) (by omega) (by omega) (by omega), hA 140 (by omega) (by omega) (by omega)]; exact r1
  · rw [hI _ _ (by omega) (by omega) (by omega) (by omega), hA 140 (by omega) (by omega) (by omega)]; exact r2
  · rw [ha2 134 (by omega) (by omega)]
    exact h3 k hk
theorem call_met (H : Inv i l a) (q : Int32) : Call (fun G => f_Fa_met G 0 q) (fun G => f_Mo_met G 136 q) i l a := by
  obtain ⟨n, nf, nn, np, dy, hN⟩ := now_of H; obtain ⟨⟨a1, a2, a3, a4, a5⟩, ⟨b1, b2, b3, b4, b5, b6⟩, ⟨c1, c2, c3, c4, c5⟩, ⟨d1, d2, d3, d4, d5⟩⟩ := id hN
  rcases ck_wi q (lo := 0) (hi := 1) (c := 0) (d := 1) (c' := 0) (d' := 1) rfl rfl rfl rfl (by omega) (by omega) with ⟨F1, M1⟩ | ⟨q, hq1, hq, rfl, F1, M1⟩
  · (refine call_bad (r := -2) H ?_ (fun i1 => ?_); (unfold f_Fa_met; simp only [r_0_3, r_2_0, r_2_1, r_2_2, r_2_3, r_2_4, g_2_5, o_0, o_2, o_3, o_5, o_7, o_9, o_11, O_0, O_2, O_3, O_5, O_7, O_9, O_11, r_0_8, p_124_0, cP_s, cH_s, n10, if_true, if_false, zR_0, zR_1, lt_e, cH_id, F1]); (unfold f_Mo_met; simp only [r_136_0, o_136, O_136, r_136_3, cP_s, cH_s, n10, if_true, if_false, zR_0, zR_1, lt_e, Mo_many_ok, Mo_day_ok, cH_id, M1]))
  obtain ⟨i1, a1', f1, hi, ha, c, hc, h0, h1, h2, h3⟩ := make_ok H hN
  obtain ⟨a2', m, w, f2, e2, c', hc', k1, k2, k3⟩ := findMet_ok (l := l) (i1 := i1) (a1 := a1') hN (ha 137 (by omega))
  obtain ⟨u1, u2, u3⟩ := best_u hc hc'
  refine ⟨if nI q = 0 then nI (cntN nf c nn) else nI (spnN (a 137) nf c nn), i1, l, a1', mI i1 m w, l, a2', ?_, ?_, inv_plan H hN hi ha hc h0 h1 h2 h3 e2 H.2.2.2.2.2.2.2.1⟩
  · show f_Fa_met _ 0 _ = _
    unfold f_Fa_met f_Fa_met_b48
    rw [F1, cP_s, if_neg n10, r_0_8, r_0_3, o_124, f1, cP_s]
    by_cases e : nI q = 0
    · rw [if_pos e, if_pos e, r_0_8, g_124_1, h1]
    · rw [if_neg e, if_neg e, r_0_8, g_124_2, h2]
  · show f_Mo_met _ 136 _ = _
    unfold f_Mo_met f_Mo_met_b36
    rw [M1, cP_s, if_neg n10, o_136, f2, cP_s]
    by_cases e : nI q = 0
    · rw [if_pos e, if_pos e, g_136_12, mI_12, k1, u1]
    · rw [if_neg e, if_neg e, g_136_13, mI_13, k2, u2]
theorem call_plan (H : Inv i l a) (q : Int32) : Call (fun G => f_Fa_plan G 0 q) (fun G => f_Mo_plan G 136 q) i l a := by
  obtain ⟨n, nf, nn, np, dy, hN⟩ := now_of H; obtain ⟨⟨a1, a2, a3, a4, a5⟩, ⟨b1, b2, b3, b4, b5, b6⟩, ⟨c1, c2, c3, c4, c5⟩, ⟨d1, d2, d3, d4, d5⟩⟩ := id hN
  rcases rng q (n := nn) (by omega) with ⟨q, hq, rfl⟩ | ⟨-, hq⟩
  · have F1 : f_Ta_has (mkH i l a) 7 (nI q) = some 1 := Ta_has_in (m := 5) (w := 4) (by decide) b4 a4.2 hq
    have M1 : ∀ G : Hp, f_Mo_in G (nI q).toInt64 0 ((nI nn - 1).toInt64) = some 1 := fun G => Mo_in_in (y := 0) (z := (nI nn - 1).toInt64) (lo := 0) (hi := nn - 1) rfl (by rw [← nI_sub (by omega)]; rfl) (by omega) (by omega) (by omega)
    obtain ⟨i1, a1', f1, hi, ha, c, hc, h0, h1, h2, h3⟩ := make_ok H hN
    obtain ⟨a2', m, w, f2, e2, c', hc', k1, k2, k3⟩ := findMet_ok (l := l) (i1 := i1) (a1 := a1') hN (ha 137 (by omega))
    obtain ⟨u1, u2, u3⟩ := best_u hc hc'
    have cq : c q ≤ nf := by rcases hc.1 q hq with e | ⟨e, -⟩ <;> omega
    refine ⟨enC nf (c q), i1, l, a1', mI i1 m w, l, a2', ?_, ?_, inv_plan H hN hi ha hc h0 h1 h2 h3 e2 H.2.2.2.2.2.2.2.1⟩
    · show f_Fa_plan _ 0 _ = _
      unfold f_Fa_plan
      rw [r_0_3, r_2_2, o_7, F1, cP_s, if_neg n10, r_0_8, r_0_3, o_124, f1, cP_s, r_0_8, o_124]
      unfold f_Pl_favourOf f_Pl_favourOf_b22 f_Pl_favourOf_b23
      rw [if_neg (by rw [nI_lt0 (by omega)]; exact id), r_124_12, z_134, ifn_n (by omega) (by omega) (by omega), r_124_12, a_134 (by omega), cP_s, h3 q hq]
    · show f_Mo_plan _ 136 _ = _
      unfold f_Mo_plan f_Mo_plan_b58
      have h7 : a2' 137 = a 137 := (e2 137 (by omega) (by omega)).trans (ha 137 (by omega))
      rw [r_136_0, b_137 (x := 159) (m := 159) rfl (by omega), ha 137 (by omega), a4.1, M1, cP_s, if_neg n10, o_136, f2, cP_s, r_136_11, a_145 (by omega), k3 q hq, r_136_0, b_137 (x := 158) (m := 158) rfl (by omega), h7, a3.1, ← u3 q hq]
      unfold enC
      by_cases e : c q = nf
      · rw [if_pos (by rw [e]), if_neg (by omega)]
      · rw [if_neg (by rw [nI_eq' (by omega) (by omega)]; exact e), if_pos (by omega), r_136_11, a_145 (by omega), k3 q hq, ← u3 q hq]
  · have F1 : f_Ta_has (mkH i l a) 7 q = some 0 := Ta_has_out (m := 5) (w := 4) (by decide) (by rw [b4]; exact hq)
    have M1 : ∀ G : Hp, f_Mo_in G q.toInt64 0 ((nI nn - 1).toInt64) = some 0 := fun G => Mo_in_out (y := 0) (z := nI nn - 1) (y' := 0) (z' := (nI nn - 1).toInt64) rfl rfl (nI_pre (by omega) hq)
    refine call_bad (r := -2) H ?_ (fun i1 => ?_)
    · unfold f_Fa_plan
      rw [r_0_3, r_2_2, o_7, F1, cP_s, if_pos rfl, bad9]
    · unfold f_Mo_plan
      rw [r_136_0, b_137 (x := 159) (m := 159) rfl (by omega), a4.1, M1, cP_s, if_pos rfl, bad10]
theorem call_kept (H : Inv i l a) (w k : Int32) : Call (fun G => f_Fa_kept G 0 w k) (fun G => f_Mo_kept G 136 w k) i l a := by
  obtain ⟨n, nf, nn, np, dy, hN⟩ := now_of H; obtain ⟨⟨a1, a2, a3, a4, a5⟩, ⟨b1, b2, b3, b4, b5, b6⟩, ⟨c1, c2, c3, c4, c5⟩, ⟨d1, d2, d3, d4, d5⟩⟩ := id hN
  rcases ck_wi w (lo := 0) (hi := 10) (c := 0) (d := 10) (c' := 0) (d' := 10) rfl rfl rfl rfl (by omega) (by omega) with ⟨F1, M1⟩ | ⟨w, hw1, hw, rfl, F1, M1⟩
  · (refine call_bad (r := -2) H ?_ (fun i1 => ?_); (unfold f_Fa_kept f_Fa_kept_b19; simp only [r_0_3, r_2_0, r_2_1, r_2_2, r_2_3, r_2_4, g_2_5, o_0, o_2, o_3, o_5, o_7, o_9, o_11, O_0, O_2, O_3, O_5, O_7, O_9, O_11, r_0_8, p_124_0, cP_s, cH_s, n10, if_true, if_false, zR_0, zR_1, lt_e, cH_id, F1]); (unfold f_Mo_kept f_Mo_kept_b24; simp only [r_136_0, o_136, O_136, r_136_3, cP_s, cH_s, n10, if_true, if_false, zR_0, zR_1, lt_e, Mo_many_ok, Mo_day_ok, cH_id, M1]))
  rcases ck_wi k (lo := 0) (hi := 5) (c := 0) (d := 5) (c' := 0) (d' := 5) rfl rfl rfl rfl (by omega) (by omega) with ⟨F2, M2⟩ | ⟨k, hk1, hk, rfl, F2, M2⟩
  · (refine call_bad (r := -2) H ?_ (fun i1 => ?_); (unfold f_Fa_kept f_Fa_kept_b19; simp only [r_0_3, r_2_0, r_2_1, r_2_2, r_2_3, r_2_4, g_2_5, o_0, o_2, o_3, o_5, o_7, o_9, o_11, O_0, O_2, O_3, O_5, O_7, O_9, O_11, r_0_8, p_124_0, cP_s, cH_s, n10, if_true, if_false, zR_0, zR_1, lt_e, cH_id, F1, F2]); (unfold f_Mo_kept f_Mo_kept_b24; simp only [r_136_0, o_136, O_136, r_136_3, cP_s, cH_s, n10, if_true, if_false, zR_0, zR_1, lt_e, Mo_many_ok, Mo_day_ok, cH_id, M1, M2]))
  obtain ⟨i1, a1', f1, hi, ha, c, hc, h0, h1, h2, h3⟩ := make_ok H hN
  obtain ⟨p1, p2, g, hg, p3, p4⟩ := kept_pure (w := w) (s := cntN nf c nn) (k := k) hw (by have := cntN_b (nf := nf) (c := c) nn; omega) hk
  have hs : cntN nf c nn ≤ 5 := by have := cntN_b (nf := nf) (c := c) nn; omega
  have KF := kept_Fa (i := i1) (l := l) (a := a1') hw hs hk p3 hg FU 0 (Nat.zero_le _) (FU_lt (by omega))
  obtain ⟨a2', m, w', f2, e2, c', hc', k1, k2, k3⟩ := findMet_ok (l := up2 (up2 l 135 0 (fsm (nI w) (cntN nf c nn) k (cntN nf c nn + 1 - k) / g)) 135 1 (pw 10 (cntN nf c nn) / g)) (i1 := i1) (a1 := a1') hN (ha 137 (by omega))
  obtain ⟨u1, u2, u3⟩ := best_u hc hc'
  have hS : mI i1 m w' 136 12 = nI (cntN nf c nn) := by rw [mI_12, k1, u1]
  have g0 : ¬ g = 0 := fun e => by
    rw [e] at hg
    exact absurd hg (by decide)
  have KM := kept_Mo (i := mI i1 m w') (l := up2 (up2 l 135 0 (fsm (nI w) (cntN nf c nn) k (cntN nf c nn + 1 - k) / g)) 135 1 (pw 10 (cntN nf c nn) / g)) (a := a2') (w := w) hs hk hS g0 (by rw [← p1, ← p2]; exact p4) FU 0 (Nat.zero_le _) (FU_lt (by omega))
  refine ⟨1, i1, up2 (up2 l 135 0 (fsm (nI w) (cntN nf c nn) k (cntN nf c nn + 1 - k) / g)) 135 1 (pw 10 (cntN nf c nn) / g), a1', mI i1 m w', up2 (up2 (up2 (up2 l 135 0 (fsm (nI w) (cntN nf c nn) k (cntN nf c nn + 1 - k) / g)) 135 1 (pw 10 (cntN nf c nn) / g)) 136 4 (tpK (nI w) (cntN nf c nn) k (cntN nf c nn + 1) / g)) 136 5 (btK (cntN nf c nn) (cntN nf c nn + 1) / g), a2', ?_, ?_, inv_plan H hN hi ha hc h0 h1 h2 h3 e2 ?_⟩
  · show f_Fa_kept _ 0 _ _ = _
    unfold f_Fa_kept
    rw [F1, cP_s, if_neg n10, F2, cP_s, if_neg n10, r_0_8, r_0_3, o_124, f1, cP_s, r_0_8, g_124_1, h1]
    exact KF
  · show f_Mo_kept _ 136 _ _ = _
    unfold f_Mo_kept
    rw [M1, cP_s, if_neg n10, M2, cP_s, if_neg n10, o_136, f2, cP_s]
    exact KM
  · unfold Fra
    refine ⟨?_, ?_⟩
    · exact ((up2_n (by omega)).trans ((up2_n (by omega)).trans ((up2_n (by omega)).trans up2_s))).trans ((congrArg (fun x => x / g) p1).trans ((up2_n (by omega)).trans up2_s).symm)
    · exact ((up2_n (by omega)).trans ((up2_n (by omega)).trans up2_s)).trans ((congrArg (fun x => x / g) p2).trans (Eq.symm up2_s))
end MC
