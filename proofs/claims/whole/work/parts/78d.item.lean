/-! ===== the first item, and any other ===== -/
section P1
variable {i : Nat → Nat → Int32} {l : Nat → Nat → Int64} {a : Nat → Nat → Int32}
theorem opn_loop {q : Nat} (hq : q ≤ 6) : ∀ (fu j : Nat) (i a : Nat → Nat → Int32), j ≤ q → q - j < fu → i 107 2 = nI j → (∀ p, p < j → a 108 (p * 2 + 0) = 20 ∧ a 108 (p * 2 + 1) = 0) → ∃ a1, f_St_open_b10 fu (mkH i l a) 106 (nI q) (nI j) = some (mkH (up2 (up2 (up2 (up2 (up2 i 107 2 (nI q)) 109 2 0) 111 2 0) 113 2 0) 106 5 0) l a1) ∧ (∀ b, b ≠ 108 → a1 b = a b) ∧ ∀ p, p < q → a1 108 (p * 2 + 0) = 20 ∧ a1 108 (p * 2 + 1) = 0 := by
  intro fu
  induction fu with
  | zero => intro j _ _ _ h; omega
  | succ fu ih =>
    intro j i a hj hf h2 hz
    show ∃ a1, f_St_open_b10_k (f_St_open_b10 fu) _ _ _ _ = _ ∧ _
    unfold f_St_open_b10_k
    by_cases h : j = q
    · subst h
      refine ⟨a, ?_, fun _ _ => rfl, hz⟩
      rw [ifn_y (by omega) (by omega) (by omega), r_106_1, O_109, Ta_empty_ok (m := 12) (w := 7) (by decide), cH_s, r_106_2, O_111, Ta_empty_ok (m := 5) (w := 4) (by decide), cH_s, r_106_3, O_113, Ta_empty_ok (m := 12) (w := 3) (by decide), cH_s, p_106_5, up2_id h2]
    · have h3 : up2 i 107 2 (nI (j + 1)) 107 2 = nI (j + 1) := up2_s
      rw [ifn_n (by omega) (by omega) (by omega), r_106_0, O_107, Ta_add_ok (t := 107) (m := 6) (w := 2) (by decide) h2 (by omega), cH_s, r_106_0, o_107, c_put (t := 107) (m := 6) (w := 2) (c := 0) (k := 0) (by decide) rfl h3 (by omega) (by omega) (by omega), cP_s, r_106_0, o_107, c_put (t := 107) (m := 6) (w := 2) (c := 1) (k := 1) (by decide) rfl h3 (by omega) (by omega) (by omega), cP_s, nI_1]
      obtain ⟨a1, f1, e1, z1⟩ := ih (j + 1) _ (va_up (va_up a 108 (upd (a 108) (j * 2 + 0) 20)) 108 (upd (va_up a 108 (upd (a 108) (j * 2 + 0) 20) 108) (j * 2 + 1) 0)) (by omega) (by omega) h3 (fun p hp => by
        rw [vu_s, vu_s]
        by_cases e : p = j
        · subst e
          rw [ud_n (by omega), ud_s, ud_s]
          exact ⟨rfl, rfl⟩
        · rw [ud_n (by omega), ud_n (by omega), ud_n (by omega), ud_n (by omega)]
          exact hz p (by omega))
      refine ⟨a1, ?_, fun b hb => (e1 b hb).trans ((vu_n (by omega)).trans (vu_n (by omega))), z1⟩
      rw [up2_u] at f1
      exact f1
theorem bgn_loop : ∀ (fu j : Nat) (a : Nat → Nat → Int32), j ≤ 6 → 6 - j < fu → (∀ p, p < j → a 149 (2 + p) = 20 ∧ a 149 (8 + p) = 0) → ∃ v, f_Mo_begin_b10 fu (mkH i l a) 149 (nI j) = some (mkH i l (va_up a 149 v)) ∧ (∀ p, p < 6 → v (2 + p) = 20 ∧ v (8 + p) = 0) ∧ (v 158 = 0 ∧ v 159 = 0 ∧ v 160 = 0) ∧ ∀ x, (x < 2 ∨ 14 ≤ x) → x ≠ 158 → x ≠ 159 → x ≠ 160 → v x = a 149 x := by
  intro fu
  induction fu with
  | zero => intro j _ _ h; omega
  | succ fu ih =>
    intro j a hj hf hz
    show ∃ v, f_Mo_begin_b10_k (f_Mo_begin_b10 fu) _ _ _ = _ ∧ _
    unfold f_Mo_begin_b10_k
    by_cases h : j = 6
    · subst h
      refine ⟨upd (upd (upd (a 149) 158 0) 159 0) 160 0, ?_, fun p hp => ?_, ⟨by simp (disch := omega) only [ud_s, ud_n], by simp (disch := omega) only [ud_s, ud_n], by simp (disch := omega) only [ud_s, ud_n]⟩, fun x h1 h2 h3 h4 => by simp (disch := omega) only [ud_s, ud_n]⟩
      · rw [ifle_y (K := 6) (k := 6) (j := 6) rfl (by omega) (by omega) (by omega), t_149 (x := 158) (m := 158) rfl (by omega), t_149 (x := 159) (m := 159) rfl (by omega), t_149 (x := 160) (m := 160) rfl (by omega)]
        simp only [vu_s, vu_u]
      · rw [ud_n (by omega), ud_n (by omega), ud_n (by omega), ud_n (by omega), ud_n (by omega), ud_n (by omega)]
        exact hz p hp
    · rw [ifle_n (K := 6) (k := 6) (j := j) rfl (by omega) (by omega) (by omega), t_149 (x := 2 + nI j) (m := 2 + j) (nI_add 2 j) (by omega), t_149 (x := 8 + nI j) (m := 8 + j) (nI_add 8 j) (by omega), nI_1]
      obtain ⟨v, f1, z1, z2, e1⟩ := ih (j + 1) (va_up (va_up a 149 (upd (a 149) (2 + j) 20)) 149 (upd (va_up a 149 (upd (a 149) (2 + j) 20) 149) (8 + j) 0)) (by omega) (by omega) (fun p hp => by
        rw [vu_s, vu_s]
        by_cases e : p = j
        · subst e
          rw [ud_n (by omega), ud_s, ud_s]
          exact ⟨rfl, rfl⟩
        · rw [ud_n (by omega), ud_n (by omega), ud_n (by omega), ud_n (by omega)]
          exact hz p (by omega))
      refine ⟨v, ?_, z1, z2, fun x h1 h2 h3 h4 => (e1 x h1 h2 h3 h4).trans ?_⟩
      · rw [f1, vu_u, vu_u]
      · rw [vu_s, vu_s, ud_n (by omega), ud_n (by omega)]
end P1
def begW (w : Nat → Int32) (x : Int32) (j : Nat) : Int32 := if j = 0 then 0 else if j = 1 then x else if j < 8 then 20 else if j < 14 then 0 else if j = 158 ∨ j = 159 ∨ j = 160 then 0 else w j
section P2
variable {i i0 : Nat → Nat → Int32} {l : Nat → Nat → Int64} {a : Nat → Nat → Int32} {g : Nat → Int32} {bl s : Nat} {w : Nat → Int32} {n nf nn : Nat}
theorem bgn_ok (x : Int32) : f_Mo_begin (mkH i l a) 149 x = some (mkH i l (va_up a 149 (begW (a 149) x))) := by
  obtain ⟨v, f1, z1, ⟨z2, z3, z4⟩, z5⟩ := bgn_loop (i := i) (l := l) FU 0 (va_up a 149 (upd (upd (a 149) 0 0) 1 x)) (Nat.zero_le _) (FU_lt (by omega)) (fun p hp => by omega)
  have f1' : f_Mo_begin_b10 FU (mkH i l (va_up a 149 (upd (upd (a 149) 0 0) 1 x))) 149 0 = some (mkH i l (va_up (va_up a 149 (upd (upd (a 149) 0 0) 1 x)) 149 v)) := f1
  unfold f_Mo_begin
  rw [t_149 (x := 0) (m := 0) rfl (by omega), t_149 (x := 1) (m := 1) rfl (by omega), vu_s (b := 149), vu_u, f1', vu_u]
  congr 3
  funext j
  unfold begW
  by_cases h0 : j = 0
  · rw [if_pos h0, h0, z5 0 (by omega) (by omega) (by omega) (by omega), vu_s, ud_n (by omega), ud_s]
  · rw [if_neg h0]
    by_cases h1 : j = 1
    · rw [if_pos h1, h1, z5 1 (by omega) (by omega) (by omega) (by omega), vu_s, ud_s]
    · rw [if_neg h1]
      by_cases h2 : j < 8
      · rw [if_pos h2, show j = 2 + (j - 2) by omega]
        exact (z1 (j - 2) (by omega)).1
      · rw [if_neg h2]
        by_cases h3 : j < 14
        · rw [if_pos h3, show j = 8 + (j - 8) by omega]
          exact (z1 (j - 8) (by omega)).2
        · rw [if_neg h3]
          by_cases h4 : j = 158 ∨ j = 159 ∨ j = 160
          · rw [if_pos h4]
            rcases h4 with rfl | rfl | rfl
            · exact z2
            · exact z3
            · exact z4
          · rw [if_neg h4, z5 j (by omega) (by omega) (by omega) (by omega), vu_s, ud_n (by omega), ud_n (by omega)]
theorem opn_ok {q : Nat} (hq : q ≤ 6) : ∃ a1, f_St_open (mkH i l a) 106 (nI q) = some (mkH (up2 (up2 (up2 (up2 (up2 i 107 2 (nI q)) 109 2 0) 111 2 0) 113 2 0) 106 5 0) l a1) ∧ (∀ b, b ≠ 108 → a1 b = a b) ∧ ∀ p, p < q → a1 108 (p * 2 + 0) = 20 ∧ a1 108 (p * 2 + 1) = 0 := by
  obtain ⟨a', f1, e1, z1⟩ := opn_loop (l := l) hq FU 0 (up2 i 107 2 0) a (by omega) (FU_lt (by omega)) up2_s (fun p hp => by omega)
  refine ⟨a', ?_, e1, z1⟩
  unfold f_St_open
  rw [r_106_0, O_107, Ta_empty_ok (m := 6) (w := 2) (by decide), cH_s]
  have := f1
  rw [up2_u] at this
  exact this
theorem cP_id {α : Type} {o : Option α} : (cP o fun x => some x) = o := by
  cases o <;> rfl
theorem cw_y (hT : TX g bl i a) {w : Nat} (hw : w < 4) (hC : CTk g bl i s) (h : wrd g bl s w) : f_Re_isWord (mkH i l a) 103 w = some 1 := by
  rcases cword (l := l) hT hw hC with ⟨f, -⟩ | ⟨-, x⟩
  · exact f
  · exact absurd h x
theorem cw_n (hT : TX g bl i a) {w : Nat} (hw : w < 4) (hC : CTk g bl i s) (h : ¬ wrd g bl s w) : f_Re_isWord (mkH i l a) 103 w = some 0 := by
  rcases cword (l := l) hT hw hC with ⟨-, x⟩ | ⟨f, -⟩
  · exact absurd x h
  · exact f
def ltW (w : Nat) : Int32 × Int32 × Int32 × Int32 × Int32 × Int32 := match w with
  | 0 => (112, 101, 111, 112, 108, 101)
  | 1 => (115, 116, 114, 111, 110, 103)
  | 2 => (102, 97, 118, 111, 117, 114)
  | _ => (110, 101, 101, 100, 0, 0)
theorem ltW_ok : ∀ w, w < 4 → ((ltW w).2.2.2.2.1 = 0 ↔ lnW w = 4) ∧ (lnW w = 4 ∨ lnW w = 6) ∧ ∀ e, e < lnW w → chW w e = lt6 (ltW w).1 (ltW w).2.1 (ltW w).2.2.1 (ltW w).2.2.2.1 (ltW w).2.2.2.2.1 (ltW w).2.2.2.2.2 e := by decide
theorem mw_y (hT : TM g bl i a) {w : Nat} (hw : w < 4) (hC : RTk g bl i s) (h : wrd g bl s w) : f_Mo_isWord (mkH i l a) 136 (ltW w).1 (ltW w).2.1 (ltW w).2.2.1 (ltW w).2.2.2.1 (ltW w).2.2.2.2.1 (ltW w).2.2.2.2.2 = some 1 := by
  obtain ⟨h1, h2, h3⟩ := ltW_ok w hw
  rcases mword (l := l) hT hw hC h1 h2 h3 with ⟨f, -⟩ | ⟨-, x⟩
  · exact f
  · exact absurd h x
theorem mw_n (hT : TM g bl i a) {w : Nat} (hw : w < 4) (hC : RTk g bl i s) (h : ¬ wrd g bl s w) : f_Mo_isWord (mkH i l a) 136 (ltW w).1 (ltW w).2.1 (ltW w).2.2.1 (ltW w).2.2.2.1 (ltW w).2.2.2.2.1 (ltW w).2.2.2.2.2 = some 0 := by
  obtain ⟨h1, h2, h3⟩ := ltW_ok w hw
  rcases mword (l := l) hT hw hC h1 h2 h3 with ⟨-, x⟩ | ⟨f, -⟩
  · exact absurd x h
  · exact f
theorem Out.via {fc fc' : Option Hp} {fm fm' : Hp → Option (Int32 × Hp)} (h : Out l g bl i a s w fc fm) (h1 : fc' = fc) (h2 : ∀ i1 a1, RS g bl i1 a1 s w → ∀ (x : Int32) i1' a1', x = 0 ∨ x = 1 → fm (mkH i1 l a1) = some (x, mkH i1' l a1') → fm' (mkH i1 l a1) = some (x, mkH i1' l a1')) : Out l g bl i a s w fc' fm' := by
  subst h1
  rcases h with ⟨s', i', a', q1, q2, q3, q4, q5⟩ | ⟨s', w', n', nf', nn', i', a', q1, q2, q3, q4, q5, q6, q7⟩
  · refine Or.inl ⟨s', i', a', q1, q2, q3, q4, fun i1 a1 hR => ?_⟩
    obtain ⟨x, i1', a1', r1, r2, r3, r4⟩ := q5 i1 a1 hR
    exact ⟨x, i1', a1', h2 i1 a1 hR x i1' a1' (by rcases r2 with r | r; exact Or.inl r; exact Or.inr r.1) r1, r2, r3, r4⟩
  · refine Or.inr ⟨s', w', n', nf', nn', i', a', q1, q2, q3, q4, q5, q6, fun i1 a1 hR => ?_⟩
    obtain ⟨i1', a1', r1, r2, r3⟩ := q7 i1 a1 hR
    exact ⟨i1', a1', h2 i1 a1 hR 1 i1' a1' (Or.inr rfl) r1, r2, r3⟩
theorem Out.bad {fc : Option Hp} {fm : Hp → Option (Int32 × Hp)} (hs : s ≤ bl) (h1 : fc = some (mkH (up2 i 103 2 (nI s)) l a)) (h2 : ∀ i1 a1, RS g bl i1 a1 s w → fm (mkH i1 l a1) = some (0, mkH i1 l a1)) : Out l g bl i a s w fc fm :=
  Or.inl ⟨s, up2 i 103 2 (nI s), a, hs, h1, up2_s, fun b hb => ⟨fun k => up2_n (by omega), rfl⟩, fun i1 a1 hR => ⟨0, i1, a1, h2 i1 a1 hR, Or.inl rfl, hR.2.1.2.1, ⟨fun _ _ _ => rfl, fun _ _ _ => rfl⟩⟩⟩
theorem people_out (hf : i 103 2 = -1) (hT : TX g bl i a) (hC : CTk g bl i s) (w : Nat → Int32) : Out l g bl i a s w (f_Re_readPeople (mkH i l a) 103) (fun G => f_Mo_readsItem G 136 1) := by
  have hb := hT.1
  by_cases hw : wrd g bl s 0
  case neg =>
    refine Out.bad hC.1 ?_ (fun i1 a1 h => ?_)
    · unfold f_Re_readPeople
      rw [o_103, cw_n hT (by omega) hC hw, cP_s, if_pos rfl, o_103, c_fail hf hC.2.1, cP_s]
    · show f_Mo_readsItem _ 136 1 = _
      have W : f_Mo_isWord (mkH i1 l a1) 136 112 101 111 112 108 101 = some 0 := mw_n (w := 0) h.1 (by omega) h.2.1 hw
      unfold f_Mo_readsItem
      rw [if_neg n10, o_136, W, cP_s, if_pos rfl]
  have hs := knd_lt hw.1 (by omega)
  have Q0 : CQk g bl i i s := ⟨hC, fun _ _ _ => rfl⟩
  have A0 := adv (g := g) hs
  obtain ⟨j1, F0, Q1⟩ := c_go (l := l) hT Q0 hs
  have M0 : ∀ i1 a1, RS g bl i1 a1 s w → ∃ k1, f_Mo_goOn (mkH i1 l a1) 136 = some (mkH k1 l a1) ∧ MQk g bl i1 k1 (skp g bl (nxt g bl s)) := fun i1 a1 h => m_go (l := l) h.1 ⟨h.2.1, fun _ _ _ => rfl⟩ hs
  generalize skp g bl (nxt g bl s) = s1 at A0 Q1 M0
  have CW := cw_y (l := l) hT (w := 0) (by omega) hC hw
  have MW : ∀ i1 a1, RS g bl i1 a1 s w → f_Mo_isWord (mkH i1 l a1) 136 112 101 111 112 108 101 = some 1 := fun i1 a1 h => mw_y (w := 0) h.1 (by omega) h.2.1 hw
  by_cases q1 : inR g bl s1 2 6
  case neg =>
    refine Or.inl ⟨s1, up2 j1 103 2 (nI s1), a, by omega, ?_, up2_s, Q1.fr _ _ _, fun i1 a1 h => ?_⟩
    · have D : up2 j1 103 2 (nI s1) 103 2 = nI s1 := up2_s
      unfold f_Re_readPeople f_Re_readPeople_b53
      rw [o_103, CW, cP_s, if_neg n10, o_103, F0, cP_s, O_103, c_no (l := l) (a := a) Q1 hf (x := 2) (y := 6) (lo := 2) (hi := 6) rfl rfl (by omega) (by omega) q1, cH_s, o_103, c_dstop (show s1 ≤ 250 by omega) D, cP_s, g_103_2, D, if_neg (by rw [nI_neg1 (by omega)]; exact id)]
    · obtain ⟨k1, G0, P1⟩ := M0 i1 a1 h
      refine ⟨0, k1, va_up a1 149 (begW (a1 149) (a1 150 0)), ?_, Or.inl rfl, P1.1.2.1, ⟨P1.2, fun b h1 h2 => vu_n h1⟩⟩
      show f_Mo_readsItem _ 136 1 = _
      unfold f_Mo_readsItem
      rw [if_neg n10, o_136, MW i1 a1 h, cP_s, if_neg n10, o_136, G0, cP_s, O_136, m_no P1 (x := 2) (y := 6) (lo := 2) (hi := 6) rfl rfl (by omega) (by omega) q1, cH_s, r_136_22, r_136_23, b_150 (x := 0) (m := 0) rfl (by omega), bgn_ok, cP_s, zR_0]
  have L1 := knd_lt q1.1 (by omega)
  have R1 : 2 ≤ numN g bl s1 ∧ numN g bl s1 ≤ 6 := q1.2
  have A1 := adv (g := g) L1
  obtain ⟨j2, F1, Q2⟩ := c_num (l := l) hT Q1 hf (x := 2) (y := 6) (lo := 2) (hi := 6) rfl rfl (by omega) (by omega) q1
  obtain ⟨s2, e2⟩ : ∃ x, x = skp g bl (nxt g bl s1) := ⟨_, rfl⟩
  rw [← e2] at Q2 A1
  have M2 : ∀ i1 a1, RS g bl i1 a1 s w → ∃ k2, f_Mo_readsItem (mkH i1 l a1) 136 1 = some (1, mkH k2 l (va_up (va_up a1 150 (upd (a1 150) 0 (nI (numN g bl s1)))) 149 (begW w (nI (numN g bl s1))))) ∧ MQk g bl i1 k2 s2 := by
    intro i1 a1 h
    obtain ⟨k1, G0, P1⟩ := M0 i1 a1 h
    have G1 := m_num (l := l) (a := a1) (h.1.c (P1.2 _ _ (by omega)) rfl) P1 (x := 2) (y := 6) (lo := 2) (hi := 6) rfl rfl (by omega) (by omega) q1 (z := 0) (k := 0) rfl (by omega)
    rw [← e2] at G1
    obtain ⟨k2, G1, P2⟩ := G1
    refine ⟨k2, ?_, P2⟩
    unfold f_Mo_readsItem
    rw [if_neg n10, o_136, MW i1 a1 h, cP_s, if_neg n10, o_136, G0, cP_s, O_136, G1, cH_s, r_136_22, r_136_23, b_150 (x := 0) (m := 0) rfl (by omega), vu_s (b := 150), ud_s, bgn_ok, cP_s, zR_1, vu_n (show ¬ 149 = 150 by omega), h.2.2]
  by_cases q2 : knd g bl s2 = 3
  case neg =>
    refine Or.inl ⟨s2, up2 j2 103 2 (nI s2), a, by omega, ?_, up2_s, Q2.fr _ _ _, fun i1 a1 h => ?_⟩
    · have D : up2 j2 103 2 (nI s2) 103 2 = nI s2 := up2_s
      unfold f_Re_readPeople f_Re_readPeople_b53
      rw [o_103, CW, cP_s, if_neg n10, o_103, F0, cP_s, O_103, F1, cH_s, o_103, c_nstop (l := l) (a := a) Q2 hf q2, cP_s, g_103_2, D, if_neg (by rw [nI_neg1 (by omega)]; exact id)]
    · obtain ⟨k2, G, P2⟩ := M2 i1 a1 h
      exact ⟨1, k2, _, G, Or.inr ⟨rfl, by rw [P2.1.2.2.1]; exact fun x => q2 ((nI_eq (by have := knd_le g bl s2; omega) (by omega)).mp (show nI _ = nI 3 from x))⟩, P2.1.2.1, ⟨P2.2, fun b h1 h2 => (vu_n h1).trans (vu_n h2)⟩⟩
  have L2 := knd_lt q2 (by omega)
  have A2 := adv (g := g) L2
  obtain ⟨j3, F2, Q3⟩ := c_stop (l := l) hT Q2 hf q2
  obtain ⟨a4, FO, e4, z4⟩ := opn_ok (i := j3) (l := l) (a := a) (q := numN g bl s1) (by omega)
  refine Or.inr ⟨s2, begW w (nI (numN g bl s1)), numN g bl s1, 0, 0, up2 (up2 (up2 (up2 (up2 (up2 j3 107 2 (nI (numN g bl s1))) 109 2 0) 111 2 0) 113 2 0) 106 5 0) 103 7 (nI (numN g bl s1 - 1)), a4, by omega, L2, q2, ?_, ⟨?_, up2_s, ?_, ?_, ⟨⟨R1, by omega, by omega⟩, ⟨?_, ?_, ?_, ?_, ?_⟩, ⟨rfl, rfl, rfl, rfl, rfl⟩, ⟨fun p hp => ⟨20, 0, ?_, by omega, ?_, by omega⟩, fun f hf => by omega, fun f hf => by omega⟩, ⟨fun p hp => ?_, fun j hj => by omega, fun j hj => by omega⟩⟩⟩, fun b hb => ⟨fun k => ?_, e4 b (by omega)⟩, fun i1 a1 h => ?_⟩
  · unfold f_Re_readPeople f_Re_readPeople_b53
    rw [o_103, CW, cP_s, if_neg n10, o_103, F0, cP_s, O_103, F1, cH_s, o_103, F2, cP_s, g_103_2, Q103 Q3 (by omega), hf, if_pos rfl, r_103_1, o_106, FO, cP_s, p_103_7, show nI (numN g bl s1) - 1 = nI (numN g bl s1 - 1) from nI_sub (a := numN g bl s1) (b := 1) (by omega)]
  · rw [up2_n (by omega), up2_n (by omega), up2_n (by omega), up2_n (by omega), up2_n (by omega), up2_n (by omega)]
    exact (Q103 Q3 (by omega)).trans hf
  · refine hT.ca ?_ (e4 105 (by omega))
    rw [up2_n (by omega), up2_n (by omega), up2_n (by omega), up2_n (by omega), up2_n (by omega), up2_n (by omega)]
    exact Q3.2 _ _ (by omega)
  · obtain ⟨h1, h2, h3, h4, h5⟩ := ((((Q3.1.up (b := 107) (k := 2) (x := nI (numN g bl s1)) (by omega)).up (b := 109) (k := 2) (x := 0) (by omega)).up (b := 111) (k := 2) (x := 0) (by omega)).up (b := 113) (k := 2) (x := 0) (by omega)).up (b := 106) (k := 5) (x := 0) (by omega)
    exact ⟨h1, (up2_n (by omega)).trans h2, (up2_n (by omega)).trans h3, fun q => (up2_n (by omega)).trans (h4 q), fun q => (up2_n (by omega)).trans (h5 q)⟩
  · rw [up2_n (by omega), up2_s]
  · rw [up2_n (by omega), up2_n (by omega), up2_n (by omega), up2_n (by omega), up2_n (by omega), up2_s]
  · rw [up2_n (by omega), up2_n (by omega), up2_n (by omega), up2_n (by omega), up2_s]; rfl
  · rw [up2_n (by omega), up2_n (by omega), up2_n (by omega), up2_s]; rfl
  · rw [up2_n (by omega), up2_n (by omega), up2_s]
  · unfold begW
    rw [if_neg (by omega), if_neg (by omega), if_pos (by omega)]
    rfl
  · unfold begW
    rw [if_neg (by omega), if_neg (by omega), if_neg (by omega), if_pos (by omega)]
    rfl
  · rw [(z4 p hp).1, (z4 p hp).2]
    unfold begW
    rw [if_neg (by omega), if_neg (by omega), if_pos (by omega), if_neg (by omega), if_neg (by omega), if_neg (by omega), if_pos (by omega)]
    exact ⟨rfl, rfl⟩
  · rw [up2_n (by omega), up2_n (by omega), up2_n (by omega), up2_n (by omega), up2_n (by omega), up2_n (by omega)]
    exact Q3.2 b k (by omega)
  · obtain ⟨k2, G, P2⟩ := M2 i1 a1 h
    exact ⟨k2, _, G, ⟨h.1.c (P2.2 _ _ (by omega)) ((vu_n (by omega)).trans (vu_n (by omega))), P2.1, vu_s⟩, ⟨P2.2, fun b h1 h2 => (vu_n h1).trans (vu_n h2)⟩⟩
theorem item_out (hC : CS g bl i a s w n nf nn) : Out l g bl i a s w (f_Re_readItem (mkH i l a) 103) (fun G => f_Mo_readsItem G 136 0) := by
  obtain ⟨hf, h7, hT, hCT, hD⟩ := id hC
  have hb := hT.1
  have T2 : f_Ta_isFull (mkH i l a) 109 = some (if nf = 12 then 1 else 0) := by
    by_cases e : nf = 12
    · rw [if_pos e]
      exact Ta_full_yes (t := 109) (m := 12) (w := 7) (by decide) (by rw [← e]; exact hD.2.1.2.2.1)
    · rw [if_neg e]
      exact Ta_full_no (t := 109) (m := 12) (w := 7) (by decide) hD.2.1.2.2.1 (by have := hD.1.2.1; omega)
  have T3 : f_Ta_isFull (mkH i l a) 111 = some (if nn = 5 then 1 else 0) := by
    by_cases e : nn = 5
    · rw [if_pos e]
      exact Ta_full_yes (t := 111) (m := 5) (w := 4) (by decide) (by rw [← e]; exact hD.2.1.2.2.2.1)
    · rw [if_neg e]
      exact Ta_full_no (t := 111) (m := 5) (w := 4) (by decide) hD.2.1.2.2.2.1 (by have := hD.1.2.2; omega)
  have FAIL : f_Re_readItem_b74 (mkH i l a) 103 = some (mkH (up2 i 103 2 (nI s)) l a) := by
    unfold f_Re_readItem_b74 f_Re_readItem_b78
    rw [o_103, c_fail hf hCT.2.1, cP_s]
  by_cases w1 : wrd g bl s 1
  · have hs := knd_lt w1.1 (by omega)
    refine (strong_out (l := l) hC hs).via ?_ (fun i1 a1 h x i1' a1' hx hm => ?_)
    · unfold f_Re_readItem f_Re_readItem_b78
      rw [o_103, cw_y hT (by omega) hCT w1, cP_s, if_neg n10, o_103, cP_id]
    · have W : f_Mo_isWord (mkH i1 l a1) 136 115 116 114 111 110 103 = some 1 := mw_y (w := 1) h.1 (by omega) h.2.1 w1
      have hm : f_Mo_readsStrong (mkH i1 l a1) 136 = some (x, mkH i1' l a1') := hm
      show f_Mo_readsItem _ 136 0 = _
      unfold f_Mo_readsItem
      rw [if_pos rfl, o_136, W, cP_s, if_neg n10, O_136, hm, cH_s]
      rcases hx with rfl | rfl <;> rfl
  have C1 := cw_n (l := l) hT (w := 1) (by omega) hCT w1
  have M1 : ∀ i1 a1, RS g bl i1 a1 s w → f_Mo_isWord (mkH i1 l a1) 136 115 116 114 111 110 103 = some 0 := fun i1 a1 h => mw_n (w := 1) h.1 (by omega) h.2.1 w1
  by_cases w2 : wrd g bl s 2
  · have hs := knd_lt w2.1 (by omega)
    have C2 := cw_y (l := l) hT (w := 2) (by omega) hCT w2
    have M2 : ∀ i1 a1, RS g bl i1 a1 s w → f_Mo_isWord (mkH i1 l a1) 136 102 97 118 111 117 114 = some 1 := fun i1 a1 h => mw_y (w := 2) h.1 (by omega) h.2.1 w2
    by_cases hfull : nf = 12
    · have w3 : ¬ wrd g bl s 3 := fun x => by
        have e1 := w2.2.1
        have e2 := x.2.1
        rw [show lnW 2 = 6 by decide] at e1
        rw [show lnW 3 = 4 by decide] at e2
        omega
      refine Out.bad hCT.1 ?_ (fun i1 a1 h => ?_)
      · unfold f_Re_readItem f_Re_readItem_b45
        rw [o_103, C1, cP_s, if_pos rfl, o_103, C2, cP_s, if_neg n10, r_103_1, r_106_1, o_109, T2, cP_s, if_pos hfull, if_neg n10, o_103, cw_n hT (by omega) hCT w3, cP_s, if_pos rfl, FAIL]
      · show f_Mo_readsItem _ 136 0 = _
        unfold f_Mo_readsItem f_Mo_readsFavour
        rw [if_pos rfl, o_136, M1 i1 a1 h, cP_s, if_pos rfl, o_136, M2 i1 a1 h, cP_s, if_neg n10, r_136_22, b_149 (x := 158) (m := 158) rfl (by omega), h.2.2, hD.2.2.1.2.2.1, hfull, if_pos (show nI 12 = 12 from rfl), O_136, cH_s, zR_0]
    · refine (favour_out (l := l) hC hs (by have := hD.1.2.1; omega)).via ?_ (fun i1 a1 h x i1' a1' hx hm => ?_)
      · unfold f_Re_readItem f_Re_readItem_b78
        rw [o_103, C1, cP_s, if_pos rfl, o_103, C2, cP_s, if_neg n10, r_103_1, r_106_1, o_109, T2, cP_s, if_neg hfull, if_pos rfl, o_103, cP_id]
      · have hm : f_Mo_readsFavour (mkH i1 l a1) 136 = some (x, mkH i1' l a1') := hm
        show f_Mo_readsItem _ 136 0 = _
        unfold f_Mo_readsItem
        rw [if_pos rfl, o_136, M1 i1 a1 h, cP_s, if_pos rfl, o_136, M2 i1 a1 h, cP_s, if_neg n10, O_136, hm, cH_s]
        rcases hx with rfl | rfl <;> rfl
  have C2 := cw_n (l := l) hT (w := 2) (by omega) hCT w2
  have M2 : ∀ i1 a1, RS g bl i1 a1 s w → f_Mo_isWord (mkH i1 l a1) 136 102 97 118 111 117 114 = some 0 := fun i1 a1 h => mw_n (w := 2) h.1 (by omega) h.2.1 w2
  by_cases w3 : wrd g bl s 3
  · have hs := knd_lt w3.1 (by omega)
    have C3 := cw_y (l := l) hT (w := 3) (by omega) hCT w3
    have M3 : ∀ i1 a1, RS g bl i1 a1 s w → f_Mo_isWord (mkH i1 l a1) 136 110 101 101 100 0 0 = some 1 := fun i1 a1 h => mw_y (w := 3) h.1 (by omega) h.2.1 w3
    by_cases hfull : nn = 5
    · refine Out.bad hCT.1 ?_ (fun i1 a1 h => ?_)
      · unfold f_Re_readItem f_Re_readItem_b45
        rw [o_103, C1, cP_s, if_pos rfl, o_103, C2, cP_s, if_pos rfl, o_103, C3, cP_s, if_neg n10, r_103_1, r_106_2, o_111, T3, cP_s, if_pos hfull, if_neg n10, FAIL]
      · show f_Mo_readsItem _ 136 0 = _
        unfold f_Mo_readsItem f_Mo_readsNeed f_Mo_readsItem_b129 f_Mo_readsItem_b130
        rw [if_pos rfl, o_136, M1 i1 a1 h, cP_s, if_pos rfl, o_136, M2 i1 a1 h, cP_s, if_pos rfl, o_136, M3 i1 a1 h, cP_s, if_neg n10, r_136_22, b_149 (x := 159) (m := 159) rfl (by omega), h.2.2, hD.2.2.1.2.2.2.1, hfull, if_pos (show nI 5 = 5 from rfl), O_136, cH_s, if_pos rfl, zR_0]
    · refine (need_out (l := l) hC hs (by have := hD.1.2.2; omega)).via ?_ (fun i1 a1 h x i1' a1' hx hm => ?_)
      · unfold f_Re_readItem f_Re_readItem_b45 f_Re_readItem_b78
        rw [o_103, C1, cP_s, if_pos rfl, o_103, C2, cP_s, if_pos rfl, o_103, C3, cP_s, if_neg n10, r_103_1, r_106_2, o_111, T3, cP_s, if_neg hfull, if_pos rfl, o_103, cP_id]
      · have hm : f_Mo_readsNeed (mkH i1 l a1) 136 = some (x, mkH i1' l a1') := hm
        show f_Mo_readsItem _ 136 0 = _
        unfold f_Mo_readsItem f_Mo_readsItem_b129 f_Mo_readsItem_b130
        rw [if_pos rfl, o_136, M1 i1 a1 h, cP_s, if_pos rfl, o_136, M2 i1 a1 h, cP_s, if_pos rfl, o_136, M3 i1 a1 h, cP_s, if_neg n10, O_136, hm, cH_s]
        rcases hx with rfl | rfl
        · rw [if_pos rfl, zR_0]
        · rw [if_neg n10, zR_1]
  · refine Out.bad hCT.1 ?_ (fun i1 a1 h => ?_)
    · unfold f_Re_readItem f_Re_readItem_b45
      rw [o_103, C1, cP_s, if_pos rfl, o_103, C2, cP_s, if_pos rfl, o_103, cw_n hT (by omega) hCT w3, cP_s, if_pos rfl, FAIL]
    · have W : f_Mo_isWord (mkH i1 l a1) 136 110 101 101 100 0 0 = some 0 := mw_n (w := 3) h.1 (by omega) h.2.1 w3
      show f_Mo_readsItem _ 136 0 = _
      unfold f_Mo_readsItem f_Mo_readsItem_b129 f_Mo_readsItem_b130
      rw [if_pos rfl, o_136, M1 i1 a1 h, cP_s, if_pos rfl, o_136, M2 i1 a1 h, cP_s, if_pos rfl, o_136, W, cP_s, if_pos rfl, zR_0]
end P2
