/-! ===== rings: the reference's checks of a row ===== -/
def okJ (D : Nat → Nat → Nat) (L : Nat) (r : Nat → Nat) (j : Nat) : Prop := (∀ e, e < j → ¬ r e = r j) ∧ r 0 ≤ r j ∧ 0 < D (r j) (r ((j + 1) % L))
section CK2
variable {i : Nat → Nat → Int32} {l : Nat → Nat → Int64} {a i1 a1 : Nat → Nat → Int32} {v : Nat → Int32} {n nf nn np dy L : Nat}
theorem b58_loop (hN : Now i a v n nf nn np dy) (h7 : a1 137 = v) {r : Nat → Nat} (hL : L ≤ 6) (hr : ∀ j, j < L → a1 141 j = nI (r j) ∧ r j < n) (K : Hp → Nat → Int32 → Int32 → Int32 → Option (Int32 × Hp)) {j : Nat} (hj : j < L) : ∀ (fu e : Nat) (fl : Int32), e ≤ j → j - e < fu → ((fl = 1 ∧ ∀ e', e' < e → ¬ r e' = r j) ∨ (fl = 0 ∧ ∃ e', e' < j ∧ r e' = r j)) → (okJ (owN v nf dy) L r j → f_Mo_layRing_b58 K fu (mkH i1 l a1) 136 (nI L) fl (nI j) (nI e) = K (mkH i1 l a1) 136 (nI L) 1 (nI (j + 1))) ∧ (¬ okJ (owN v nf dy) L r j → f_Mo_layRing_b58 K fu (mkH i1 l a1) 136 (nI L) fl (nI j) (nI e) = K (mkH i1 l a1) 136 (nI L) 0 (nI (j + 1))) := by
  have hn := hN.1.2.1.2.2
  intro fu
  induction fu with
  | zero => intro e _ _ h; omega
  | succ fu ih =>
    intro e fl he hf hfl
    show (_ → f_Mo_layRing_b58_k K (f_Mo_layRing_b58 K fu) _ _ _ _ _ _ = _) ∧ (_ → f_Mo_layRing_b58_k K (f_Mo_layRing_b58 K fu) _ _ _ _ _ _ = _)
    unfold f_Mo_layRing_b58_k f_Mo_layRing_b91 f_Mo_layRing_b92 f_Mo_layRing_b150 f_Mo_layRing_b151
    have rj := hr j hj
    by_cases h : e = j
    · subst h
      rw [ifn_y (by omega) (by omega) (by omega)]
      rcases hfl with ⟨rfl, g⟩ | ⟨rfl, e', g1, g2⟩
      · have r0 := hr 0 (by omega)
        have hm : (e + 1) % L < L := Nat.mod_lt _ (by omega)
        have rm := hr _ hm
        have hL0 : ¬ nI L = 0 := by
          rw [show (0 : Int32) = nI 0 from rfl, nI_eq' (by omega) (by omega)]
          omega
        rw [if_neg n10]
        have Z : ∀ κ : Int32 → Option (Int32 × Hp), aI (mkH i1 l a1) 11 141 0 κ = κ (nI (r 0)) := fun κ => (a_141 (m := 0) (by omega)).trans (by rw [r0.1])
        simp only [r_136_6, Z, a_141 (i := i1) (l := l) (a := a1) (show e < 6 by omega), rj.1, nI_s1]
        unfold dI
        rw [if_neg hL0, nI_mod (by omega) (by omega), a_141 (m := (e + 1) % L) (by omega), rm.1, o_136, owesTo_ok hN h7 rj.2 rm.2, cP_s]
        have hb := owN_bd hN hN.1.1.2 (r e) (r ((e + 1) % L))
        constructor
        · rintro ⟨q1, q2, q3⟩
          rw [if_neg (by rw [nI_lt' (by omega) (by omega)]; omega), if_neg (by rw [owB (owN_bd hN hN.1.1.2)]; exact fun x => x q3)]
        · intro q
          by_cases q2 : r e < r 0
          · rw [if_pos (by rw [nI_lt' (by omega) (by omega)]; exact q2)]
          · rw [if_neg (by rw [nI_lt' (by omega) (by omega)]; exact q2), if_pos (by rw [owB (owN_bd hN hN.1.1.2)]; exact fun x => q ⟨g, by omega, x⟩)]
      · rw [if_pos rfl, nI_s1]
        exact ⟨fun q => absurd g2 (q.1 e' g1), fun _ => rfl⟩
    · have re := hr e (by omega)
      rw [ifn_n (by omega) (by omega) (by omega), nI_s1]
      rcases hfl with ⟨rfl, g⟩ | ⟨rfl, g⟩
      · rw [if_neg n10]
        simp only [r_136_6, a_141 (i := i1) (l := l) (a := a1) (show j < 6 by omega), a_141 (i := i1) (l := l) (a := a1) (show e < 6 by omega), rj.1, re.1]
        by_cases q : r e = r j
        · rw [if_pos (by rw [q])]
          exact ih (e + 1) 0 (by omega) (by omega) (Or.inr ⟨rfl, e, by omega, q⟩)
        · rw [if_neg (by rw [nI_eq' (by omega) (by omega)]; exact q)]
          exact ih (e + 1) 1 (by omega) (by omega) (Or.inl ⟨rfl, fun e' he' => by
            by_cases ee : e' = e
            · rw [ee]; exact q
            · exact g e' (by omega)⟩)
      · rw [if_pos rfl]
        exact ih (e + 1) 0 (by omega) (by omega) (Or.inr ⟨rfl, g⟩)
theorem b44_loop (hN : Now i a v n nf nn np dy) (h7 : a1 137 = v) {r : Nat → Nat} (hL : L ≤ 6) (hr : ∀ j, j < L → a1 141 j = nI (r j) ∧ r j < n) : ∀ (fu j : Nat), j ≤ L → L - j < fu → (∀ e, e < j → okJ (owN v nf dy) L r e) → ((∀ e, e < L → okJ (owN v nf dy) L r e) ∧ f_Mo_layRing_b44 fu (mkH i1 l a1) 136 (nI L) 1 (nI j) = some (1, mkH i1 l a1)) ∨ ((¬ ∀ e, e < L → okJ (owN v nf dy) L r e) ∧ f_Mo_layRing_b44 fu (mkH i1 l a1) 136 (nI L) 1 (nI j) = some (0, mkH i1 l a1)) := by
  intro fu
  induction fu with
  | zero => intro e _ h; omega
  | succ fu ih =>
    intro j hj hf hF
    show (_ ∧ f_Mo_layRing_b44_k (f_Mo_layRing_b44 fu) _ _ _ _ _ = _) ∨ (_ ∧ f_Mo_layRing_b44_k (f_Mo_layRing_b44 fu) _ _ _ _ _ = _)
    unfold f_Mo_layRing_b44_k f_Mo_layRing_b159
    by_cases h : j = L
    · subst h
      exact Or.inl ⟨hF, by rw [ifn_y (by omega) (by omega) (by omega), zR_1]⟩
    · rw [ifn_n (by omega) (by omega) (by omega), if_neg n10]
      have B := b58_loop (l := l) (i1 := i1) hN h7 hL hr (f_Mo_layRing_b44 fu) (show j < L by omega) FU 0 1 (by omega) (FU_lt (by omega)) (Or.inl ⟨rfl, fun e he => by omega⟩)
      by_cases q : okJ (owN v nf dy) L r j
      · have B1 : f_Mo_layRing_b58 (f_Mo_layRing_b44 fu) FU (mkH i1 l a1) 136 (nI L) 1 (nI j) 0 = f_Mo_layRing_b44 fu (mkH i1 l a1) 136 (nI L) 1 (nI (j + 1)) := B.1 q
        rw [B1]
        exact ih (j + 1) (by omega) (by omega) (fun e he => by
          by_cases ee : e = j
          · rw [ee]; exact q
          · exact hF e (by omega))
      · have B1 : f_Mo_layRing_b58 (f_Mo_layRing_b44 fu) FU (mkH i1 l a1) 136 (nI L) 1 (nI j) 0 = f_Mo_layRing_b44 fu (mkH i1 l a1) 136 (nI L) 0 (nI (j + 1)) := B.2 q
        refine Or.inr ⟨fun x => q (x j (by omega)), ?_⟩
        rw [B1]
        cases fu with
        | zero => omega
        | succ fu =>
          show f_Mo_layRing_b44_k (f_Mo_layRing_b44 fu) _ _ _ _ _ = _
          unfold f_Mo_layRing_b44_k f_Mo_layRing_b159
          rw [if_pos rfl, zR_0, ite_self]
theorem okJ_ring {D : Nat → Nat → Nat} {r : Nat → Nat} (hr : ∀ j, j < L → r j < n) : (∀ e, e < L → okJ D L r e) ↔ RingP D n L r := by
  constructor
  · exact fun h => ⟨hr, fun j hj => (h j hj).1, fun j hj => (h j hj).2.1, fun j hj => (h j hj).2.2⟩
  · exact fun h e he => ⟨h.2.1 e he, h.2.2.1 e he, h.2.2.2 e he⟩
theorem layRing_ok (hN : Now i a v n nf nn np dy) (h7 : a1 137 = v) (hL : L ≤ 6) {c : Nat} (hc : c < 100000) : ∃ a2, (∀ b, b ≠ 141 → a2 b = a1 b) ∧ (∀ j, j < L → a2 141 j = nI (digC n L c j)) ∧ ((RingP (owN v nf dy) n L (digC n L c) ∧ f_Mo_layRing (mkH i1 l a1) 136 (nI c) (nI L) = some (1, mkH i1 l a2)) ∨ (¬ RingP (owN v nf dy) n L (digC n L c) ∧ f_Mo_layRing (mkH i1 l a1) 136 (nI c) (nI L) = some (0, mkH i1 l a2))) := by
  have hn := hN.1.2.1
  obtain ⟨a2, f1, e1, z1⟩ := lay_loop (i := i1) (l := l) (n := n) (L := L) (c := c) (by omega) hn.2.2 hL hc FU L a1 (Nat.le_refl _) (FU_lt (by omega)) (by rw [h7]; exact hn.1) (fun j h1 h2 => by omega)
  rw [Nat.sub_self, Nat.pow_zero, Nat.div_one] at f1
  have hd : ∀ j, j < L → digC n L c j < n := fun j _ => Nat.mod_lt _ (by omega)
  have F : f_Mo_layRing (mkH i1 l a1) 136 (nI c) (nI L) = f_Mo_layRing_b44 FU (mkH i1 l a2) 136 (nI L) 1 0 := f1
  refine ⟨a2, e1, z1, ?_⟩
  rw [F]
  rcases b44_loop (l := l) (i1 := i1) (a1 := a2) hN ((e1 137 (by omega)).trans h7) hL (fun j hj => ⟨z1 j hj, hd j hj⟩) FU 0 (by omega) (FU_lt (by omega)) (fun e he => by omega) with ⟨q, f2⟩ | ⟨q, f2⟩
  · exact Or.inl ⟨(okJ_ring hd).mp q, f2⟩
  · exact Or.inr ⟨fun x => q ((okJ_ring hd).mpr x), f2⟩
end CK2
