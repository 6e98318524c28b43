/-! ===== rings: the class's search ===== -/
def RingP (D : Nat → Nat → Nat) (n L : Nat) (r : Nat → Nat) : Prop := (∀ j, j < L → r j < n) ∧ (∀ j, j < L → ∀ e, e < j → ¬ r e = r j) ∧ (∀ j, j < L → r 0 ≤ r j) ∧ ∀ j, j < L → 0 < D (r j) (r ((j + 1) % L))
def PreP (D : Nat → Nat → Nat) (n k : Nat) (r : Nat → Nat) : Prop := (∀ j, j < k → r j < n) ∧ (∀ j, j < k → ∀ e, e < j → ¬ r e = r j) ∧ (∀ j, j < k → r 0 ≤ r j) ∧ ∀ j, j + 1 < k → 0 < D (r j) (r (j + 1))
/-- what a search says that has k members laid -/
def Srch (D : Nat → Nat → Nat) (n L k : Nat) (r : Nat → Nat) (g : Nat → Int32) (x : Int32) : Prop := (x = 1 ∧ ∃ r', (∀ j, j < k → r' j = r j) ∧ RingP D n L r' ∧ (∀ j, j < L → g j = nI (r' j)) ∧ ∀ r'', (∀ j, j < k → r'' j = r j) → RingP D n L r'' → lexN r' r'' L) ∨ (x = 0 ∧ ∀ r'', (∀ j, j < k → r'' j = r j) → ¬ RingP D n L r'')
section RG
variable {i : Nat → Nat → Int32} {l : Nat → Nat → Int64} {a : Nat → Nat → Int32} {n : Nat} {D : Nat → Nat → Nat}
theorem memb_ok {k : Nat} (hk : k < 6) : f_Ci_member (mkH i l a) 122 (nI k) = some (a 123 k) := by
  unfold f_Ci_member f_Ci_member_b23
  rw [if_neg (by rw [nI_lt0 (by omega)]; exact id), r_122_0, z_123, ifn_n (by omega) (by omega) (by omega), r_122_0, a_123 hk]
theorem holds_loop {k q : Nat} (hk : k ≤ 6) (hq : q < 6) {r : Nat → Nat} (hr : ∀ j, j < k → a 123 j = nI (r j) ∧ r j < 6) : ∀ (fu j : Nat), j ≤ k → k - j < fu → (∀ e, e < j → ¬ r e = q) → (f_Ci_holds_b2 (mkH i l a) fu 122 (nI q) (nI k) (nI j) = some 0 ∧ ∀ e, e < k → ¬ r e = q) ∨ (f_Ci_holds_b2 (mkH i l a) fu 122 (nI q) (nI k) (nI j) = some 1 ∧ ∃ e, e < k ∧ r e = q) := by
  intro fu
  induction fu with
  | zero => intro j _ h; omega
  | succ fu ih =>
    intro j hj hf hF
    show (f_Ci_holds_b2_k _ (f_Ci_holds_b2 _ fu) _ _ _ _ = _ ∧ _) ∨ (f_Ci_holds_b2_k _ (f_Ci_holds_b2 _ fu) _ _ _ _ = _ ∧ _)
    unfold f_Ci_holds_b2_k
    by_cases h : j = k
    · subst h
      exact Or.inl ⟨by rw [ifn_y (by omega) (by omega) (by omega)], hF⟩
    · rw [ifn_n (by omega) (by omega) (by omega), o_122, memb_ok (by omega), cP_s, (hr j (by omega)).1, nI_1]
      by_cases e : r j = q
      · rw [if_pos (by rw [e])]
        exact Or.inr ⟨rfl, j, by omega, e⟩
      · have := (hr j (by omega)).2
        rw [if_neg (by rw [nI_eq' (by omega) (by omega)]; exact e)]
        refine ih (j + 1) (by omega) (by omega) (fun e' he => ?_)
        by_cases ee : e' = j
        · rw [ee]; exact e
        · exact hF e' (by omega)
theorem holds_ok {k q : Nat} (hk : k ≤ 6) (hq : q < 6) {r : Nat → Nat} (hr : ∀ j, j < k → a 123 j = nI (r j) ∧ r j < 6) : (f_Ci_holds (mkH i l a) 122 (nI q) (nI k) = some 0 ∧ ∀ e, e < k → ¬ r e = q) ∨ (f_Ci_holds (mkH i l a) 122 (nI q) (nI k) = some 1 ∧ ∃ e, e < k ∧ r e = q) := holds_loop hk hq hr FU 0 (by omega) (FU_lt (by omega)) (fun e he => by omega)
theorem Dbt.e {a1 : Nat → Nat → Int32} (hD : Dbt i a n D) (h : ∀ b, b ≠ 123 → a1 b = a b) : Dbt i a1 n D := ⟨hD.1, hD.2.1, hD.2.2.1, fun p q hp hq => by rw [h 119 (by omega)]; exact hD.2.2.2 p q hp hq⟩
theorem owB (hDb : ∀ p q, D p q < 1000) (p q : Nat) : (nI (D p q) ≤ 0) = ¬ 0 < D p q := by
  have := hDb p q
  rw [show (0 : Int32) = nI 0 from rfl, nI_le' (by omega) (by omega)]
  apply propext
  omega
theorem srch_loop (hDb : ∀ p q, D p q < 1000) {L k : Nat} (hL : L ≤ 6) (hk1 : 1 ≤ k) (hkL : k < L) {r : Nat → Nat} (hP : PreP D n k r) (sf : Hp → Nat → Nat → Int32 → Int32 → Option (Int32 × Hp)) (hsf : ∀ (a1 : Nat → Nat → Int32) (r1 : Nat → Nat), Dbt i a1 n D → (∀ j, j < k + 1 → a1 123 j = nI (r1 j)) → PreP D n (k + 1) r1 → ∃ a2 x, sf (mkH i l a1) 122 117 (nI (k + 1)) (nI L) = some (x, mkH i l a2) ∧ (∀ b, b ≠ 123 → a2 b = a1 b) ∧ (∀ j, j < k + 1 → a2 123 j = a1 123 j) ∧ Srch D n L (k + 1) r1 (a2 123) x) : ∀ (fu q : Nat) (a : Nat → Nat → Int32), q ≤ n → n - q < fu → r 0 < q → Dbt i a n D → (∀ j, j < k → a 123 j = nI (r j)) → (∀ r'', (∀ j, j < k → r'' j = r j) → r'' k < q → ¬ RingP D n L r'') → ∃ a2 x, f_Ci_closes_b58 sf fu (mkH i l a) 122 117 (nI k) (nI L) (nI (r (k - 1))) (nI q) = some (x, mkH i l a2) ∧ (∀ b, b ≠ 123 → a2 b = a b) ∧ (∀ j, j < k → a2 123 j = a 123 j) ∧ Srch D n L k r (a2 123) x := by
  intro fu
  induction fu with
  | zero => intro q _ _ h; omega
  | succ fu ih =>
    intro q a hq hf h0 hD hA hF
    have hn := hD.2.1
    show ∃ a2 x, f_Ci_closes_b58_k sf (f_Ci_closes_b58 sf fu) _ _ _ _ _ _ _ = _ ∧ _
    unfold f_Ci_closes_b58_k f_Ci_closes_b110
    by_cases h : q = n
    · subst h
      refine ⟨a, 0, by rw [g_117_3, hD.1, ifn_y (by omega) (by omega) (by omega)], fun _ _ => rfl, fun _ _ => rfl, Or.inr ⟨rfl, fun r'' h1 h2 => hF r'' h1 (h2.1 k hkL) h2⟩⟩
    · have hqn : q < n := by omega
      have hlast : r (k - 1) < n := hP.1 (k - 1) (by omega)

      have NEXT : (∀ r'', (∀ j, j < k → r'' j = r j) → r'' k = q → ¬ RingP D n L r'') → ∀ a1 : Nat → Nat → Int32, (∀ b, b ≠ 123 → a1 b = a b) → (∀ j, j < k → a1 123 j = a 123 j) → ∃ a2 x, f_Ci_closes_b58 sf fu (mkH i l a1) 122 117 (nI k) (nI L) (nI (r (k - 1))) (nI (q + 1)) = some (x, mkH i l a2) ∧ (∀ b, b ≠ 123 → a2 b = a b) ∧ (∀ j, j < k → a2 123 j = a 123 j) ∧ Srch D n L k r (a2 123) x := by
        intro hne a1 e1 e2
        obtain ⟨a2, x, g1, g2, g3, g4⟩ := ih (q + 1) a1 (by omega) (by omega) (by omega) (hD.e e1) (fun j hj => (e2 j hj).trans (hA j hj)) (fun r'' h1 h2 => by
          by_cases e : r'' k = q
          · exact hne r'' h1 e
          · exact hF r'' h1 (by omega))
        exact ⟨a2, x, g1, fun b hb => (g2 b hb).trans (e1 b hb), fun j hj => (g3 j hj).trans (e2 j hj), g4⟩
      rw [g_117_3, hD.1, ifn_n (by omega) (by omega) (by omega), o_117, btw_ok hD hlast hqn, cP_s, nI_1]
      by_cases e1 : 0 < D (r (k - 1)) q
      · rw [if_neg (by rw [owB hDb]; exact fun x => x e1), o_122]
        rcases holds_ok (i := i) (l := l) (a := a) (k := k) (q := q) (by omega) (by omega) (r := r) (fun j hj => ⟨hA j hj, by have := hP.1 j hj; omega⟩) with ⟨f1, g1⟩ | ⟨f1, e, he, g1⟩
        · rw [f1, cP_s, if_pos rfl, r_122_0, s_123 (by omega), nI_s1]
          have R1 : ∀ j, j < k → (fun j => if j = k then q else r j) j = r j := fun j hj => if_neg (by omega)
          have Rk : (fun j => if j = k then q else r j) k = q := if_pos rfl
          have P1 : PreP D n (k + 1) (fun j => if j = k then q else r j) := by
            refine ⟨fun j hj => ?_, fun j hj e he => ?_, fun j hj => ?_, fun j hj => ?_⟩
            · by_cases ej : j = k
              · rw [ej, Rk]; exact hqn
              · rw [R1 j (by omega)]; exact hP.1 j (by omega)
            · by_cases ej : j = k
              · rw [ej, Rk, R1 e (by omega)]; exact g1 e (by omega)
              · rw [R1 j (by omega), R1 e (by omega)]; exact hP.2.1 j (by omega) e he
            · by_cases ej : j = k
              · rw [ej, Rk, R1 0 (by omega)]; omega
              · rw [R1 j (by omega), R1 0 (by omega)]; exact hP.2.2.1 j (by omega)
            · by_cases ej : j + 1 = k
              · rw [ej, Rk, R1 j (by omega), show j = k - 1 by omega]; exact e1
              · rw [R1 j (by omega), R1 (j + 1) (by omega)]; exact hP.2.2.2 j (by omega)
          obtain ⟨a2, x, t1, t2, t3, t4⟩ := hsf (va_up a 123 (upd (a 123) k (nI q))) _ (hD.e fun b hb => vu_n hb) (fun j hj => by
            rw [vu_s]
            by_cases ej : j = k
            · rw [ej, ud_s]; exact congrArg nI Rk.symm
            · rw [ud_n ej]; exact (hA j (by omega)).trans (congrArg nI (R1 j (by omega)).symm)) P1
          have s1 : ∀ b, b ≠ 123 → a2 b = a b := fun b hb => (t2 b hb).trans (vu_n hb)
          have s2 : ∀ j, j < k → a2 123 j = a 123 j := fun j hj => (t3 j (by omega)).trans (by rw [vu_s, ud_n (by omega)])
          rw [t1, cH_s]
          rcases t4 with ⟨rfl, r', u1, u2, u3, u4⟩ | ⟨rfl, u1⟩
          · rw [if_neg n10]
            refine ⟨a2, 1, rfl, s1, s2, Or.inl ⟨rfl, r', fun j hj => (u1 j (by omega)).trans (R1 j hj), u2, u3, fun r'' w1 w2 => ?_⟩⟩
            have rk : r' k = q := (u1 k (by omega)).trans Rk
            by_cases c1 : r'' k < q
            · exact absurd w2 (hF r'' w1 c1)
            · by_cases c2 : r'' k = q
              · refine u4 r'' (fun j hj => ?_) w2
                by_cases ej : j = k
                · rw [ej, Rk]; exact c2
                · rw [R1 j (by omega)]; exact w1 j (by omega)
              · exact Or.inr ⟨k, hkL, fun j hj => ((u1 j (by omega)).trans (R1 j hj)).trans (w1 j hj).symm, by omega⟩
          · rw [if_pos rfl]
            exact NEXT (fun r'' w1 w2 => u1 r'' (fun j hj => by
              by_cases ej : j = k
              · rw [ej, Rk]; exact w2
              · rw [R1 j (by omega)]; exact w1 j (by omega))) a2 s1 s2
        · rw [f1, cP_s, if_neg n10]
          exact NEXT (fun r'' w1 w2 w3 => w3.2.1 k hkL e he (by rw [w1 e he, w2, g1])) a (fun _ _ => rfl) (fun _ _ => rfl)
      · rw [if_pos (by rw [owB hDb]; exact e1)]
        refine NEXT (fun r'' w1 w2 w3 => e1 ?_) a (fun _ _ => rfl) (fun _ _ => rfl)
        have := w3.2.2.2 (k - 1) (by omega)
        rw [show k - 1 + 1 = k by omega, Nat.mod_eq_of_lt hkL, w2, w1 (k - 1) (by omega)] at this
        exact this
theorem ring_of {L : Nat} (hL1 : 1 ≤ L) {r : Nat → Nat} (hP : PreP D n L r) (hc : 0 < D (r (L - 1)) (r 0)) : RingP D n L r := by
  refine ⟨hP.1, hP.2.1, hP.2.2.1, fun j hj => ?_⟩
  by_cases e : j + 1 = L
  · rw [e, Nat.mod_self, show j = L - 1 by omega]
    exact hc
  · rw [Nat.mod_eq_of_lt (by omega)]
    exact hP.2.2.2 j (by omega)
theorem closes_ok (hDb : ∀ p q, D p q < 1000) {L : Nat} (hL : L ≤ n) : ∀ (rr k : Nat) (a : Nat → Nat → Int32) (r : Nat → Nat), 1 ≤ k → k ≤ L → L - k < rr → Dbt i a n D → (∀ j, j < k → a 123 j = nI (r j)) → PreP D n k r → ∃ a2 x, f_Ci_closes rr (mkH i l a) 122 117 (nI k) (nI L) = some (x, mkH i l a2) ∧ (∀ b, b ≠ 123 → a2 b = a b) ∧ (∀ j, j < k → a2 123 j = a 123 j) ∧ Srch D n L k r (a2 123) x := by
  intro rr
  induction rr with
  | zero => intro k _ _ _ _ h; omega
  | succ rr ih =>
    intro k a r hk1 hkL hrr hD hA hP
    have hn := hD.2.1
    show ∃ a2 x, f_Ci_closes_r (f_Ci_closes rr) _ _ _ _ _ = _ ∧ _
    unfold f_Ci_closes_r f_Ci_closes_b35 f_Ci_closes_b51
    have km : nI k - 1 = nI (k - 1) := nI_sub (a := k) (b := 1) (by omega)
    have M0 : f_Ci_member (mkH i l a) 122 0 = some (nI (r 0)) := by
      have := memb_ok (i := i) (l := l) (a := a) (k := 0) (by omega)
      rw [hA 0 (by omega)] at this
      exact this
    have h0n := hP.1 0 (by omega)
    have hkn := hP.1 (k - 1) (by omega)
    rw [o_122, M0, cP_s, o_122, km, memb_ok (by omega), hA (k - 1) (by omega), cP_s, if_neg (c := nI k < 1) (show ¬ nI k < nI 1 by rw [nI_lt' (by omega) (by omega)]; omega)]
    by_cases h : k = L
    · subst h
      rw [ifn_y (by omega) (by omega) (by omega), o_117, btw_ok hD hkn h0n, cP_s]
      by_cases e : 0 < D (r (k - 1)) (r 0)
      · rw [if_neg (by rw [owB hDb]; exact fun x => x e), zR_1]
        exact ⟨a, 1, rfl, fun _ _ => rfl, fun _ _ => rfl, Or.inl ⟨rfl, r, fun _ _ => rfl, ring_of hk1 hP e, hA, fun r'' w1 _ => Or.inl fun j hj => (w1 j hj).symm⟩⟩
      · rw [if_pos (by rw [owB hDb]; exact e), zR_0]
        refine ⟨a, 0, rfl, fun _ _ => rfl, fun _ _ => rfl, Or.inr ⟨rfl, fun r'' w1 w2 => e ?_⟩⟩
        have := w2.2.2.2 (k - 1) (by omega)
        rw [show k - 1 + 1 = k by omega, Nat.mod_self, w1 (k - 1) (by omega), w1 0 (by omega)] at this
        exact this
    · rw [ifn_n (by omega) (by omega) (by omega), r_122_0, z_123, if_pos (show nI k < nI 6 by rw [nI_lt' (by omega) (by omega)]; omega), lt_e, nI_s1]
      refine srch_loop hDb (by omega) hk1 (by omega) hP (f_Ci_closes rr) (fun a1 r1 g1 g2 g3 => ih (k + 1) a1 r1 (by omega) (by omega) (by omega) g1 g2 g3) FU (r 0 + 1) a (by omega) (FU_lt (by omega)) (by omega) hD hA (fun r'' w1 w2 w3 => ?_)
      have q1 := w3.2.2.1 k (by omega)
      have q2 := w3.2.1 k (by omega) 0 (by omega)
      rw [w1 0 (by omega)] at q1 q2
      omega
/-- what the whole search says: the size (0: none) and the row -/
def RingRes (D : Nat → Nat → Nat) (n : Nat) (x : Int32) (g : Nat → Int32) : Prop := (∃ L r, 2 ≤ L ∧ L ≤ n ∧ x = nI L ∧ RingP D n L r ∧ (∀ j, j < L → g j = nI (r j)) ∧ (∀ M, 2 ≤ M → M < L → ∀ r', ¬ RingP D n M r') ∧ ∀ r', RingP D n L r' → lexN r r' L) ∨ (x = 0 ∧ ∀ M, 2 ≤ M → M ≤ n → ∀ r', ¬ RingP D n M r')
theorem s123_0 {β : Type} {v : Int32} {κ : Hp → Option β} : sI (mkH i l a) 11 123 0 v κ = κ (mkH i l (va_up a 123 (upd (a 123) 0 v))) := s_123 (m := 0) (by omega)
theorem find_in (hDb : ∀ p q, D p q < 1000) {L : Nat} (hL2 : 2 ≤ L) (hL : L ≤ n) (k7 : Hp → Nat → Nat → Int32 → Option Hp) : ∀ (fu p : Nat) (a : Nat → Nat → Int32), p ≤ n → n - p < fu → Dbt i a n D → (∀ r', r' 0 < p → ¬ RingP D n L r') → ∃ a2, (∀ b, b ≠ 123 → a2 b = a b) ∧ ((f_Ci_find_b17 k7 fu (mkH i l a) 122 117 (nI L) (nI p) = some (mkH (up2 i 122 1 (nI L)) l a2) ∧ ∃ r, RingP D n L r ∧ (∀ j, j < L → a2 123 j = nI (r j)) ∧ ∀ r', RingP D n L r' → lexN r r' L) ∨ (f_Ci_find_b17 k7 fu (mkH i l a) 122 117 (nI L) (nI p) = k7 (mkH i l a2) 122 117 (nI (L + 1)) ∧ ∀ r', ¬ RingP D n L r')) := by
  intro fu
  induction fu with
  | zero => intro k _ _ h; omega
  | succ fu ih =>
    intro p a hp hf hD hF
    have hn := hD.2.1
    show ∃ a2, _ ∧ ((f_Ci_find_b17_k k7 (f_Ci_find_b17 k7 fu) _ _ _ _ _ = _ ∧ _) ∨ (f_Ci_find_b17_k k7 (f_Ci_find_b17 k7 fu) _ _ _ _ _ = _ ∧ _))
    unfold f_Ci_find_b17_k
    by_cases h : p = n
    · subst h
      exact ⟨a, fun _ _ => rfl, Or.inr ⟨by rw [g_117_3, hD.1, ifn_y (by omega) (by omega) (by omega), nI_s1], fun r' w => hF r' (w.1 0 (by omega)) w⟩⟩
    · obtain ⟨a1, x, t1, t2, t3, t4⟩ := closes_ok (i := i) (l := l) hDb hL 8 1 (va_up a 123 (upd (a 123) 0 (nI p))) (fun _ => p) (by omega) (by omega) (by omega) (hD.e fun b hb => vu_n hb) (fun j hj => by rw [vu_s, show j = 0 by omega, ud_s]) ⟨fun j hj => show p < n by omega, fun j hj e he => by omega, fun j hj => Nat.le_refl _, fun j hj => by omega⟩
      have T : f_Ci_closes 8 (mkH i l (va_up a 123 (upd (a 123) 0 (nI p)))) 122 117 1 (nI L) = some (x, mkH i l a1) := t1
      have s1 : ∀ b, b ≠ 123 → a1 b = a b := fun b hb => (t2 b hb).trans (vu_n hb)
      rw [g_117_3, hD.1, ifn_n (by omega) (by omega) (by omega), r_122_0, s123_0, T, cH_s, nI_1]
      rcases t4 with ⟨rfl, r', u1, u2, u3, u4⟩ | ⟨rfl, u1⟩
      · rw [if_neg n10, p_122_1]
        refine ⟨a1, s1, Or.inl ⟨rfl, r', u2, u3, fun r'' w => ?_⟩⟩
        have r0 : r' 0 = p := u1 0 (by omega)
        by_cases c1 : r'' 0 < p
        · exact absurd w (hF r'' c1)
        · by_cases c2 : r'' 0 = p
          · exact u4 r'' (fun j hj => by rw [show j = 0 by omega]; exact c2) w
          · exact Or.inr ⟨0, by omega, fun j hj => by omega, by omega⟩
      · rw [if_pos rfl]
        obtain ⟨a2, g1, g2⟩ := ih (p + 1) a1 (by omega) (by omega) (hD.e s1) (fun r'' w1 w2 => by
          by_cases c2 : r'' 0 = p
          · exact u1 r'' (fun j hj => by rw [show j = 0 by omega]; exact c2) w2
          · exact hF r'' (by omega) w2)
        exact ⟨a2, fun b hb => (g1 b hb).trans (s1 b hb), g2⟩
theorem find_out (hDb : ∀ p q, D p q < 1000) (h0 : i 122 1 = 0) : ∀ (fu M : Nat) (a : Nat → Nat → Int32), 2 ≤ M → M ≤ n + 1 → n + 1 - M < fu → Dbt i a n D → (∀ M', 2 ≤ M' → M' < M → ∀ r', ¬ RingP D n M' r') → ∃ a2 x, f_Ci_find_b7 fu (mkH i l a) 122 117 (nI M) = some (mkH (up2 i 122 1 x) l a2) ∧ (∀ b, b ≠ 123 → a2 b = a b) ∧ RingRes D n x (a2 123) := by
  intro fu
  induction fu with
  | zero => intro k _ _ _ h; omega
  | succ fu ih =>
    intro M a hM hMn hf hD hF
    have hn := hD.2.1
    show ∃ a2 x, f_Ci_find_b7_k (f_Ci_find_b7 fu) _ _ _ _ = _ ∧ _
    unfold f_Ci_find_b7_k
    by_cases h : n < M
    · refine ⟨a, 0, ?_, fun _ _ => rfl, Or.inr ⟨rfl, fun M' h1 h2 => hF M' h1 (by omega)⟩⟩
      rw [g_117_3, hD.1, if_pos (by rw [nI_lt' (by omega) (by omega)]; exact h), up2_id h0]
    · rw [g_117_3, hD.1, if_neg (by rw [nI_lt' (by omega) (by omega)]; exact h)]
      obtain ⟨a1, e1, g⟩ := find_in (i := i) (l := l) hDb hM (show M ≤ n by omega) (f_Ci_find_b7 fu) FU 0 a (by omega) (FU_lt (by omega)) hD (fun r' h => by omega)
      rcases g with ⟨g1, r, g2, g3, g4⟩ | ⟨g1, g2⟩
      · exact ⟨a1, nI M, g1, e1, Or.inl ⟨M, r, hM, by omega, rfl, g2, g3, hF, g4⟩⟩
      · obtain ⟨a2, x, k1, k2, k3⟩ := ih (M + 1) a1 (by omega) (by omega) (by omega) (hD.e e1) (fun M' h1 h2 r' => by
          by_cases e : M' = M
          · rw [e]; exact g2 r'
          · exact hF M' h1 (by omega) r')
        exact ⟨a2, x, g1.trans k1, fun b hb => (k2 b hb).trans (e1 b hb), k3⟩
theorem find_ok (hDb : ∀ p q, D p q < 1000) (hD : Dbt i a n D) (hn2 : 1 ≤ n) : ∃ a2 x, f_Ci_find (mkH i l a) 122 117 = some (mkH (up2 i 122 1 x) l a2) ∧ (∀ b, b ≠ 123 → a2 b = a b) ∧ RingRes D n x (a2 123) := by
  have hD' : Dbt (up2 i 122 1 0) a n D := ⟨(up2_n (by omega)).trans hD.1, hD.2.1, (up2_n (by omega)).trans hD.2.2.1, hD.2.2.2⟩
  have hn := hD.2.1
  obtain ⟨a2, x, k1, k2, k3⟩ := find_out (i := up2 i 122 1 0) (l := l) hDb up2_s FU 2 a (by omega) (by omega) (FU_lt (by omega)) hD' (fun M' h1 h2 => by omega)
  refine ⟨a2, x, ?_, k2, k3⟩
  unfold f_Ci_find
  rw [p_122_1]
  rw [up2_u] at k1
  exact k1
end RG
