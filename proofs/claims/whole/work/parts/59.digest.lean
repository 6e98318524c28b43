/-! ===== calls: digest ===== -/
theorem mixI_c {f g : Nat → Int32} {h : Int64} : ∀ n, (∀ j, j < n → f j = g j) → mixI f h n = mixI g h n
  | 0, _ => rfl
  | n + 1, e => by
    unfold mixI
    rw [mixI_c n (fun j hj => e j (by omega)), e n (by omega)]
def ctN (n nf nn np dy u bl : Nat) (k : Nat) : Int32 := if k = 0 then nI n else if k = 1 then nI nf else if k = 2 then nI nn else if k = 3 then nI np else if k = 4 then nI dy else if k = 5 then nI u else nI bl
section DG
variable {i : Nat → Nat → Int32} {l : Nat → Nat → Int64} {a : Nat → Nat → Int32} {v : Nat → Int32} {n nf nn np dy u bl : Nat}
theorem many_Fa (hN : Now i a v n nf nn np dy) (hu : i 1 3 = nI u) (hb : i 104 1 = nI bl) {k : Nat} (hk : k ≤ 6) : f_Fa_howMany (mkH i l a) 0 (nI k) = some (ctN n nf nn np dy u bl k) := by
  obtain ⟨-, ⟨b1, b2, b3, b4, b5, b6⟩, -⟩ := hN
  have : k = 0 ∨ k = 1 ∨ k = 2 ∨ k = 3 ∨ k = 4 ∨ k = 5 ∨ k = 6 := by omega
  unfold f_Fa_howMany
  rcases this with rfl | rfl | rfl | rfl | rfl | rfl | rfl
  · rw [if_pos (show nI 0 = 0 from rfl), r_0_3, r_2_0, g_3_2, b2]; rfl
  · rw [if_neg (show ¬ nI 1 = 0 by decide), if_pos (show nI 1 = 1 from rfl), r_0_3, r_2_1, g_5_2, b3]; rfl
  · rw [if_neg (show ¬ nI 2 = 0 by decide), if_neg (show ¬ nI 2 = 1 by decide), if_pos (show nI 2 = 2 from rfl), r_0_3, r_2_2, g_7_2, b4]; rfl
  · rw [if_neg (show ¬ nI 3 = 0 by decide), if_neg (show ¬ nI 3 = 1 by decide), if_neg (show ¬ nI 3 = 2 by decide), if_pos (show nI 3 = 3 from rfl), r_0_3, r_2_3, g_9_2, b5]; rfl
  · rw [if_neg (show ¬ nI 4 = 0 by decide), if_neg (show ¬ nI 4 = 1 by decide), if_neg (show ¬ nI 4 = 2 by decide), if_neg (show ¬ nI 4 = 3 by decide), if_pos (show nI 4 = 4 from rfl), r_0_3, g_2_5, b1]; rfl
  · rw [if_neg (show ¬ nI 5 = 0 by decide), if_neg (show ¬ nI 5 = 1 by decide), if_neg (show ¬ nI 5 = 2 by decide), if_neg (show ¬ nI 5 = 3 by decide), if_neg (show ¬ nI 5 = 4 by decide), if_pos (show nI 5 = 5 from rfl), r_0_0, g_1_3, hu]; rfl
  · rw [if_neg (show ¬ nI 6 = 0 by decide), if_neg (show ¬ nI 6 = 1 by decide), if_neg (show ¬ nI 6 = 2 by decide), if_neg (show ¬ nI 6 = 3 by decide), if_neg (show ¬ nI 6 = 4 by decide), if_neg (show ¬ nI 6 = 5 by decide), r_0_5, g_104_1, hb]; rfl
theorem many_Mo (hN : Now i a (a 137) n nf nn np dy) (hu : a 137 161 = nI u) (hb : i 136 17 = nI bl) {k : Nat} (hk : k ≤ 6) : f_Mo_counted (mkH i l a) 136 (nI k) = some (ctN n nf nn np dy u bl k) := by
  obtain ⟨⟨a1, a2, a3, a4, a5⟩, -⟩ := hN
  have : k = 0 ∨ k = 1 ∨ k = 2 ∨ k = 3 ∨ k = 4 ∨ k = 5 ∨ k = 6 := by omega
  unfold f_Mo_counted f_Mo_counted_b91
  rcases this with rfl | rfl | rfl | rfl | rfl | rfl | rfl
  · rw [if_pos (show nI 0 = 0 from rfl), o_136, Mo_many_ok, cP_s, a2.1]; rfl
  · rw [if_neg (show ¬ nI 1 = 0 by decide), if_pos (show nI 1 = 1 from rfl), r_136_0, b_137 (x := 158) (m := 158) rfl (by omega), a3.1]; rfl
  · rw [if_neg (show ¬ nI 2 = 0 by decide), if_neg (show ¬ nI 2 = 1 by decide), if_pos (show nI 2 = 2 from rfl), r_136_0, b_137 (x := 159) (m := 159) rfl (by omega), a4.1]; rfl
  · rw [if_neg (show ¬ nI 3 = 0 by decide), if_neg (show ¬ nI 3 = 1 by decide), if_neg (show ¬ nI 3 = 2 by decide), if_pos (show nI 3 = 3 from rfl), r_136_0, b_137 (x := 160) (m := 160) rfl (by omega), a5.1]; rfl
  · rw [if_neg (show ¬ nI 4 = 0 by decide), if_neg (show ¬ nI 4 = 1 by decide), if_neg (show ¬ nI 4 = 2 by decide), if_neg (show ¬ nI 4 = 3 by decide), if_pos (show nI 4 = 4 from rfl), o_136, Mo_day_ok, cP_s, a1.1]; rfl
  · rw [if_neg (show ¬ nI 5 = 0 by decide), if_neg (show ¬ nI 5 = 1 by decide), if_neg (show ¬ nI 5 = 2 by decide), if_neg (show ¬ nI 5 = 3 by decide), if_neg (show ¬ nI 5 = 4 by decide), if_pos (show nI 5 = 5 from rfl), r_136_0, b_137 (x := 161) (m := 161) rfl (by omega), hu]; rfl
  · rw [if_neg (show ¬ nI 6 = 0 by decide), if_neg (show ¬ nI 6 = 1 by decide), if_neg (show ¬ nI 6 = 2 by decide), if_neg (show ¬ nI 6 = 3 by decide), if_neg (show ¬ nI 6 = 4 by decide), if_neg (show ¬ nI 6 = 5 by decide), g_136_17, hb]; rfl
/-- the digest of the street's rows, after the counts -/
def digV (v : Nat → Int32) (g : Nat → Int32) (n nf nn np : Nat) (h : Int64) : Int64 := mixI (fun x => v (154 + x)) (mixI (fun x => v (118 + x)) (mixI (fun x => v (98 + x)) (mixI (fun x => v (14 + x)) (mixI g h (n * 2)) (nf * 7)) (nn * 4)) (np * 3)) 4
theorem dig81 (hN : Now i a v n nf nn np dy) (h0 : Int64) : ∀ (fu j : Nat), j ≤ 4 → 4 - j < fu → f_Fa_digest_b81 (mkH i l a) fu 0 (mixI (fun x => v (154 + x)) h0 j) (nI j) = some (31 * (31 * mixI (fun x => v (154 + x)) h0 4 + l 135 0) + l 135 1) := by
  have b6 := hN.2.1.2.2.2.2.2
  have d5 := hN.2.2.2.2.2.2.2
  intro fu
  induction fu with
  | zero => intro j _ h; omega
  | succ fu ih =>
    intro j hj hf
    show f_Fa_digest_b81_k _ (f_Fa_digest_b81 _ fu) _ _ _ = _
    unfold f_Fa_digest_b81_k
    by_cases h : j = 4
    · subst h
      rw [ifle_y (K := 4) (k := 4) (j := 4) rfl (by omega) (by omega) (by omega), r_0_9, l_135_0, lt_e, r_0_9, l_135_1]
    · have RN : f_St_rateNow (mkH i l a) 2 (nI j) = some (v (154 + j)) := by
        unfold f_St_rateNow
        rw [r_2_4, o_11, c_at (t := 11) (m := 4) (w := 1) (c := 0) (k := 0) (by decide) rfl b6 (by omega) (by omega) (by omega), cP_s, show a (11 + 1) (j * 1 + 0) = v (154 + (j * 1 + 0)) from d5 _ (by omega), show 154 + (j * 1 + 0) = 154 + j by omega]
      rw [ifle_n (K := 4) (k := 4) (j := j) rfl (by omega) (by omega) (by omega), r_0_3, o_2, RN, cP_s, lt_e, nI_1]
      exact ih (j + 1) (by omega) (by omega)
theorem dig6 (hN : Now i a v n nf nn np dy) (hu : i 1 3 = nI u) (hb : i 104 1 = nI bl) : ∀ (fu j : Nat), j ≤ 7 → 7 - j < fu → f_Fa_digest_b6 (mkH i l a) fu 0 (mixI (ctN n nf nn np dy u bl) 683 j) (nI j) = some (31 * (31 * digV v (a 4) n nf nn np (mixI (ctN n nf nn np dy u bl) 683 7) + l 135 0) + l 135 1) := by
  obtain ⟨⟨a1, a2, a3, a4, a5⟩, ⟨b1, b2, b3, b4, b5, b6⟩, ⟨c1, c2, c3, c4, c5⟩, ⟨d1, d2, d3, d4, d5⟩⟩ := id hN
  intro fu
  induction fu with
  | zero => intro j _ h; omega
  | succ fu ih =>
    intro j hj hf
    show f_Fa_digest_b6_k _ (f_Fa_digest_b6 _ fu) _ _ _ = _
    unfold f_Fa_digest_b6_k
    by_cases h : j = 7
    · subst h
      rw [if_pos (by decide), r_0_3, r_2_0, o_3, Ta_mix_ok (t := 3) (m := 6) (w := 2) (by decide) b2 a2.2.2, cP_s, r_0_3, r_2_1, o_5, Ta_mix_ok (t := 5) (m := 12) (w := 7) (by decide) b3 a3.2, cP_s, r_0_3, r_2_2, o_7, Ta_mix_ok (t := 7) (m := 5) (w := 4) (by decide) b4 a4.2, cP_s, r_0_3, r_2_3, o_9, Ta_mix_ok (t := 9) (m := 12) (w := 3) (by decide) b5 a5.2, cP_s]
      rw [mixI_c (g := fun x => v (118 + x)) _ d4, mixI_c (g := fun x => v (98 + x)) _ d3, mixI_c (g := fun x => v (14 + x)) _ d2]
      exact dig81 hN _ FU 0 (by omega) (FU_lt (by omega))
    · rw [if_neg (c := (6 : Int32) < nI j) (show ¬ nI 6 < nI j by rw [nI_lt' (by omega) (by omega)]; omega), o_0, many_Fa hN hu hb (by omega), cP_s, lt_e, nI_1]
      exact ih (j + 1) (by omega) (by omega)
theorem sums_ok {o m : Nat} (hm : o + m ≤ 484) (h0 : Int64) (h7 : a 137 = v) : ∀ (fu j : Nat), j ≤ m → m - j < fu → f_Mo_sums_b6 (mkH i l a) fu 136 (nI o) (nI m) (mixI (fun x => v (o + x)) h0 j) (nI j) = some (mixI (fun x => v (o + x)) h0 m) := by
  intro fu
  induction fu with
  | zero => intro j _ h; omega
  | succ fu ih =>
    intro j hj hf
    show f_Mo_sums_b6_k _ (f_Mo_sums_b6 _ fu) _ _ _ _ _ = _
    unfold f_Mo_sums_b6_k
    by_cases h : j = m
    · subst h
      rw [ifn_y (by omega) (by omega) (by omega)]
    · rw [ifn_n (by omega) (by omega) (by omega), r_136_0, nI_add, a_137 (by omega), lt_e, nI_1, h7]
      exact ih (j + 1) (by omega) (by omega)
theorem sum_ok {o m : Nat} {c d : Int32} (hc : c = nI o) (hd : d = nI m) (hm : o + m ≤ 484) (h0 : Int64) (h7 : a 137 = v) : f_Mo_sums (mkH i l a) 136 h0 c d = some (mixI (fun x => v (o + x)) h0 m) := by
  subst hc hd
  exact sums_ok hm h0 h7 FU 0 (by omega) (FU_lt (by omega))
theorem dig33 (hN : Now i a v n nf nn np dy) (h7 : a 137 = v) (h0 : Int64) : ∀ (fu j : Nat), j ≤ n → n - j < fu → f_Mo_digest_b33 (mkH i l a) fu 136 (mixI (a 4) h0 (j * 2)) (nI j) = some (31 * (31 * digV v (a 4) n nf nn np h0 + l 136 4) + l 136 5) := by
  obtain ⟨⟨a1, a2, a3, a4, a5⟩, ⟨b1, b2, b3, b4, b5, b6⟩, ⟨c1, c2, c3, c4, c5⟩, ⟨d1, d2, d3, d4, d5⟩⟩ := id hN
  intro fu
  induction fu with
  | zero => intro j _ h; omega
  | succ fu ih =>
    intro j hj hf
    show f_Mo_digest_b33_k _ (f_Mo_digest_b33 _ fu) _ _ _ = _
    unfold f_Mo_digest_b33_k
    have m7 : (7 : Int32) * nI nf = nI (nf * 7) := by rw [show (7 : Int32) = nI 7 from rfl, nI_mul, Nat.mul_comm]
    have m4 : (4 : Int32) * nI nn = nI (nn * 4) := by rw [show (4 : Int32) = nI 4 from rfl, nI_mul, Nat.mul_comm]
    have m3 : (3 : Int32) * nI np = nI (np * 3) := by rw [show (3 : Int32) = nI 3 from rfl, nI_mul, Nat.mul_comm]
    rw [o_136, Mo_many_ok, cP_s, h7, a2.1]
    by_cases h : j = n
    · subst h
      rw [ifn_y (by omega) (by omega) (by omega), r_136_0, b_137 (x := 158) (m := 158) rfl (by omega), h7, a3.1, o_136, sum_ok (c := 14) (o := 14) (m := nf * 7) rfl m7 (by omega) _ h7, cP_s, r_136_0, b_137 (x := 159) (m := 159) rfl (by omega), h7, a4.1, o_136, sum_ok (c := 98) (o := 98) (m := nn * 4) rfl m4 (by omega) _ h7, cP_s, r_136_0, b_137 (x := 160) (m := 160) rfl (by omega), h7, a5.1, o_136, sum_ok (c := 118) (o := 118) (m := np * 3) rfl m3 (by omega) _ h7, cP_s, o_136, sum_ok (c := 154) (d := 4) (o := 154) (m := 4) rfl rfl (by omega) _ h7, cP_s, l_136_4, l_136_5]
      rfl
    · rw [ifn_n (by omega) (by omega) (by omega), r_136_0, b_137 (x := 2 + nI j) (m := 2 + j) (nI_add 2 j) (by omega), r_136_0, b_137 (x := 8 + nI j) (m := 8 + j) (nI_add 8 j) (by omega), h7, lt_e, nI_1, ← (d1 j (by omega)).1, ← (d1 j (by omega)).2]
      have := ih (j + 1) (by omega) (by omega)
      rw [show (j + 1) * 2 = j * 2 + 0 + 1 + 1 by omega] at this
      exact this
theorem dig6m (hN : Now i a (a 137) n nf nn np dy) (hu : a 137 161 = nI u) (hb : i 136 17 = nI bl) : ∀ (fu j : Nat), j ≤ 7 → 7 - j < fu → f_Mo_digest_b6 (mkH i l a) fu 136 (mixI (ctN n nf nn np dy u bl) 683 j) (nI j) = some (31 * (31 * digV (a 137) (a 4) n nf nn np (mixI (ctN n nf nn np dy u bl) 683 7) + l 136 4) + l 136 5) := by
  intro fu
  induction fu with
  | zero => intro j _ h; omega
  | succ fu ih =>
    intro j hj hf
    show f_Mo_digest_b6_k _ (f_Mo_digest_b6 _ fu) _ _ _ = _
    unfold f_Mo_digest_b6_k
    by_cases h : j = 7
    · subst h
      rw [ifle_y (K := 7) (k := 7) (j := 7) rfl (by omega) (by omega) (by omega)]
      exact dig33 hN rfl _ FU 0 (by omega) (FU_lt (by have := hN.1.2.1.2.2; omega))
    · rw [ifle_n (K := 7) (k := 7) (j := j) rfl (by omega) (by omega) (by omega), o_136, many_Mo hN hu hb (by omega), cP_s, lt_e, nI_1]
      exact ih (j + 1) (by omega) (by omega)
theorem call_digest (H : Inv i l a) : ∃ r, f_Fa_digest (mkH i l a) 0 = some r ∧ f_Mo_digest (mkH i l a) 136 = some r := by
  obtain ⟨n, nf, nn, np, dy, hN⟩ := now_of H; obtain ⟨⟨a1, a2, a3, a4, a5⟩, ⟨b1, b2, b3, b4, b5, b6⟩, ⟨c1, c2, c3, c4, c5⟩, ⟨d1, d2, d3, d4, d5⟩⟩ := id hN
  obtain ⟨bl, t1, t2, t3, t4⟩ := txt_of H
  obtain ⟨u, p1, p2, p3, -⟩ := H.2.1
  rw [Nat.zero_add] at p2
  obtain ⟨q1, q2⟩ := H.2.2.2.2.2.2.2.1
  refine ⟨31 * (31 * digV (a 137) (a 4) n nf nn np (mixI (ctN n nf nn np dy u bl) 683 7) + l 135 0) + l 135 1, dig6 hN p1 t2 FU 0 (by omega) (FU_lt (by omega)), ?_⟩
  rw [q1, q2]
  exact dig6m hN p2 t3 FU 0 (by omega) (FU_lt (by omega))
end DG
