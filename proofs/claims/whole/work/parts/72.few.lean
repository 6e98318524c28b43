/-! ===== call: fewest ===== -/
theorem bk_a : ∀ m, m < 64 → ∀ p, p < 6 → (m.testBit p = true → nI m &&& ((1 <<< (nI p &&& 31)) ^^^ -1) = nI (m ^^^ 2 ^ p)) ∧ (¬ m.testBit p = true → nI m &&& ((1 <<< (nI p &&& 31)) ^^^ -1) = nI m) := by decide +kernel
theorem bk_b : ∀ m, m < 64 → ∀ p, p < 6 → (((nI m >>> (nI p &&& 31)) &&& 1) = 1 ↔ m.testBit p = true) := by decide +kernel
theorem bk_c : ∀ m, m < 64 → ∀ t, t < 64 → ((nI t &&& (nI m ^^^ -1)) = 0 ↔ t &&& m = t) ∧ (t &&& m = t → nI m &&& (nI t ^^^ -1) = nI (m ^^^ t)) := by decide +kernel
theorem bk_d : ∀ n, n < 7 → mn (1 <<< (nI n &&& 31)) (nI 64) = nI (2 ^ n) ∧ (1 <<< (nI n &&& 31)) - 1 = nI (2 ^ n - 1) := by decide +kernel
section FX
variable {i : Nat → Nat → Int32} {l : Nat → Nat → Int64} {a : Nat → Nat → Int32} {v : Nat → Int32} {n nf nn np dy : Nat} {N : Nat → Int32} {g : Nat → Nat}
theorem mg_loop (hn : n ≤ 6) (h3 : i 117 3 = nI n) (hA : ∀ p, p < n → a 120 p = N p) {m : Nat} (hm : m < 2 ^ n) (hg : ∀ j, j < m → a 121 j = nI (g j)) (hb : ∀ j, g j ≤ 64) : ∀ (fu k : Nat), k ≤ n → n - k < fu → f_De_mostGroups_b7 (mkH i l a) fu 117 (nI m) (nI (mxG g m k)) (sM N m k) (nI k) = some (nI (FG N n g m)) := by
  have h64 := pw64 hn
  intro fu
  induction fu with
  | zero => intro k _ h; omega
  | succ fu ih =>
    intro k hk hf
    show f_De_mostGroups_b7_k _ (f_De_mostGroups_b7 _ fu) _ _ _ _ _ = _
    unfold f_De_mostGroups_b7_k f_De_mostGroups_b71 f_De_mostGroups_b54
    have MB := mxG_b (g := g) (fun j _ => hb j) (show m < 64 by omega) k
    by_cases h : k = n
    · subst h
      rw [g_117_3, h3, ifn_y (by omega) (by omega) (by omega)]
      unfold FG
      by_cases e : sM N m k = 0
      · rw [if_pos e, if_pos e, nI_s1]
      · rw [if_neg e, if_neg e]
    · have I := ih (k + 1) (by omega) (by omega)
      unfold mxG sM at I
      have B := bk_a m (by omega) k (by omega)
      rw [g_117_3, h3, ifn_n (by omega) (by omega) (by omega), lt_e, nI_s1]
      by_cases e : m.testBit k = true
      · have hl := sb_lt (by omega) (sb_p e) (p_ne k)
        rw [if_pos e, if_pos e] at I
        rw [B.1 e, ifn_n (by omega) (by omega) (by omega), r_117_2, a_121 (by omega), hg _ hl, lt_e, nI_mx (by omega) (by have := hb (m ^^^ 2 ^ k); omega), r_117_1, a_120 (by omega), hA k (by omega), lt_e]
        exact I
      · rw [if_neg e, if_neg e] at I
        rw [B.2 e, ifn_y (by omega) (by omega) (by omega)]
        exact I
theorem fp_in (hn : n ≤ 6) (h3 : i 117 3 = nI n) : ∀ (fu m : Nat) (a : Nat → Nat → Int32), 1 ≤ m → m ≤ 2 ^ n → 2 ^ n - m < fu → (∀ p, p < n → a 120 p = N p) → (∀ j, j < m → a 121 j = nI (tabF (FG' N n) (2 ^ n - 1) j)) → ∃ a1, f_De_fewestPayments_b44 fu (mkH i l a) 117 (nI (2 ^ n)) (nI m) = some (nI n - nI (tabF (FG' N n) (2 ^ n - 1) (2 ^ n - 1)), mkH i l a1) ∧ (∀ b, b ≠ 121 → a1 b = a b) ∧ a1 121 0 = 0 := by
  have h64 := pw64 hn
  have h2 := Nat.two_pow_pos n
  intro fu
  induction fu with
  | zero => intro k _ _ _ h; omega
  | succ fu ih =>
    intro m a hm1 hm hf hA hg
    show ∃ a1, f_De_fewestPayments_b44_k (f_De_fewestPayments_b44 fu) _ _ _ _ = _ ∧ _
    unfold f_De_fewestPayments_b44_k
    by_cases h : m = 2 ^ n
    · refine ⟨a, ?_, fun _ _ => rfl, by rw [hg 0 (by omega), tab_0]; rfl⟩
      rw [h, ifn_y (by omega) (by omega) (by omega), g_117_3, h3, r_117_2, show nI (2 ^ n) - 1 = nI (2 ^ n - 1) from nI_sub (a := 2 ^ n) (b := 1) (by omega), a_121 (by omega), hg _ (by omega)]
    · have T := mg_loop (l := l) hn h3 hA (show m < 2 ^ n by omega) hg (fun j => by have := tabG_b (N := N) (n := n) (2 ^ n - 1) j; omega) FU 0 (by omega) (FU_lt (by omega))
      have T' : f_De_mostGroups (mkH i l a) 117 (nI m) = some (nI (FG N n (tabF (FG' N n) (2 ^ n - 1)) m)) := T
      have E : tabF (FG' N n) (2 ^ n - 1) m = FG N n (tabF (FG' N n) (2 ^ n - 1)) m := by
        rw [tab_eq FG_c (2 ^ n - 1) m (by omega) (by omega)]
        exact if_pos (by omega)
      rw [← E] at T'
      rw [ifn_n (by omega) (by omega) (by omega), r_117_2, o_117, T', cP_s, s_121 (by omega), nI_s1]
      obtain ⟨a1, g1, g2, g3⟩ := ih (m + 1) (va_up a 121 (upd (a 121) m (nI (tabF (FG' N n) (2 ^ n - 1) m)))) (by omega) (by omega) (by omega) (fun p hp => by rw [vu_n (by omega)]; exact hA p hp) (fun j hj => by
        rw [vu_s]
        by_cases e : j = m
        · rw [e, ud_s]
        · rw [ud_n e]
          exact hg j (by omega))
      exact ⟨a1, g1, fun b hb => (g2 b hb).trans (vu_n hb), g3⟩
theorem fp_out {D : Nat → Nat → Nat} : ∀ (fu p : Nat) (a : Nat → Nat → Int32), p ≤ n → n - p < fu → Dbt i a n D → a 121 0 = 0 → (∀ q, q < p → a 120 q = netV D n q) → ∃ a1, f_De_fewestPayments_b2 fu (mkH i l a) 117 (nI p) = some (nI n - nI (tabF (FG' (netV D n) n) (2 ^ n - 1) (2 ^ n - 1)), mkH i l a1) ∧ (∀ b, b ≠ 120 → b ≠ 121 → a1 b = a b) ∧ a1 121 0 = 0 := by
  intro fu
  induction fu with
  | zero => intro k _ _ h; omega
  | succ fu ih =>
    intro p a hp hf hD h0 hA
    have hn := hD.2.1
    have h64 := pw64 hn
    show ∃ a1, f_De_fewestPayments_b2_k (f_De_fewestPayments_b2 fu) _ _ _ = _ ∧ _
    unfold f_De_fewestPayments_b2_k
    by_cases h : p = n
    · subst h
      obtain ⟨a1, g1, g2, g3⟩ := fp_in (l := l) hn hD.1 FU 1 a (by omega) (by have := Nat.two_pow_pos p; omega) (FU_lt (by omega)) hA (fun j hj => by rw [show j = 0 by omega, h0, tab_0]; rfl)
      refine ⟨a1, ?_, fun b _ hb => g2 b hb, g3⟩
      rw [g_117_3, hD.1, ifn_y (by omega) (by omega) (by omega), g_117_3, hD.1, r_117_2, z_121, lt_e, (bk_d p (by omega)).1]
      exact g1
    · rw [g_117_3, hD.1, ifn_n (by omega) (by omega) (by omega), r_117_1, o_117, bal_ok hD (by omega), cP_s, s_120 (by omega), nI_s1]
      obtain ⟨a1, g1, g2, g3⟩ := ih (p + 1) (va_up a 120 (upd (a 120) p (netV D n p))) (by omega) (by omega) ⟨hD.1, hD.2.1, hD.2.2.1, fun x y hx hy => by rw [vu_n (by omega)]; exact hD.2.2.2 x y hx hy⟩ (by rw [vu_n (by omega)]; exact h0) (fun j hj => by
        rw [vu_s]
        by_cases e : j = p
        · rw [e, ud_s]
        · rw [ud_n e]
          exact hA j (by omega))
      exact ⟨a1, g1, fun b h1 h2 => (g2 b h1 h2).trans (vu_n h1), g3⟩
/-- the reference: the nets of the sets -/
theorem mf_in (hN : Now i a v n nf nn np dy) {i1 : Nat → Nat → Int32} {m : Nat} (hm : m < 2 ^ n) (K : Hp → Nat → Int32 → Int32 → Option (Int32 × Hp)) (al : Int32) : ∀ (fu k : Nat) (a1 : Nat → Nat → Int32), k ≤ n → n - k < fu → a1 137 = v → a1 142 m = sM (netV (owN v nf dy) n) m k → ∃ a2, f_Mo_fewest_b25 K fu (mkH i1 l a1) 136 al (nI m) (nI k) = K (mkH i1 l a2) 136 al (nI (m + 1)) ∧ (∀ b, b ≠ 142 → a2 b = a1 b) ∧ (∀ j, j ≠ m → a2 142 j = a1 142 j) ∧ a2 142 m = sM (netV (owN v nf dy) n) m n := by
  have hn := hN.1.2.1
  have h64 := pw64 hn.2.2
  intro fu
  induction fu with
  | zero => intro k _ _ h; omega
  | succ fu ih =>
    intro k a1 hk hf h7 hA
    show ∃ a2, f_Mo_fewest_b25_k K (f_Mo_fewest_b25 K fu) _ _ _ _ _ = _ ∧ _
    unfold f_Mo_fewest_b25_k f_Mo_fewest_b58
    by_cases h : k = n
    · subst h
      exact ⟨a1, by rw [o_136, Mo_many_ok, cP_s, h7, hn.1, ifn_y (by omega) (by omega) (by omega), nI_s1], fun _ _ => rfl, fun _ _ => rfl, hA⟩
    · have B := bk_b m (by omega) k (by omega)
      rw [o_136, Mo_many_ok, cP_s, h7, hn.1, ifn_n (by omega) (by omega) (by omega), r_136_8, a_142 (by omega), hA, nI_s1]
      have NX : ∀ x : Int32, sM (netV (owN v nf dy) n) m (k + 1) = sM (netV (owN v nf dy) n) m k + x → ∃ a2, f_Mo_fewest_b25 K fu (mkH i1 l (va_up a1 142 (upd (a1 142) m (sM (netV (owN v nf dy) n) m k + x)))) 136 al (nI m) (nI (k + 1)) = K (mkH i1 l a2) 136 al (nI (m + 1)) ∧ (∀ b, b ≠ 142 → a2 b = a1 b) ∧ (∀ j, j ≠ m → a2 142 j = a1 142 j) ∧ a2 142 m = sM (netV (owN v nf dy) n) m n := by
        intro x hx
        obtain ⟨a2, g1, g2, g3, g4⟩ := ih (k + 1) (va_up a1 142 (upd (a1 142) m (sM (netV (owN v nf dy) n) m k + x))) (by omega) (by omega) ((vu_n (by omega)).trans h7) (by rw [vu_s, ud_s, hx])
        exact ⟨a2, g1, fun b hb => (g2 b hb).trans (vu_n hb), fun j hj => (g3 j hj).trans (by rw [vu_s, ud_n hj]), g4⟩
      by_cases e : m.testBit k = true
      · rw [if_pos (B.mpr e), o_136, netOf_ok hN h7 (by omega), cP_s, s_142 (by omega)]
        exact NX _ (if_pos e)
      · rw [if_neg (fun x => e (B.mp x)), s_142 (by omega)]
        exact NX 0 ((if_neg e).trans (a0 _).symm)
theorem mf_part {i1 a1 : Nat → Nat → Int32} (hn : n ≤ 6) {m : Nat} (hm : m < 2 ^ n) {h : Nat → Nat} (hb : ∀ j, h j ≤ 64) (hS : ∀ j, j < 2 ^ n → a1 142 j = sM N j n) (hT : ∀ j, j < m → a1 143 j = nI (h j)) (K : Hp → Nat → Int32 → Int32 → Option (Int32 × Hp)) (al : Int32) : ∀ (fu k : Nat), k ≤ m → m - k < fu → f_Mo_fewest_b91 K fu (mkH i1 l a1) 136 al (nI m) (nI (mxH N n h m k)) (nI (k + 1)) = K (mkH i1 l (va_up a1 143 (upd (a1 143) m (nI (mxH N n h m m))))) 136 al (nI (m + 1)) := by
  have h64 := pw64 hn
  intro fu
  induction fu with
  | zero => intro k _ h; omega
  | succ fu ih =>
    intro k hk hf
    show f_Mo_fewest_b91_k K (f_Mo_fewest_b91 K fu) _ _ _ _ _ _ = _
    unfold f_Mo_fewest_b91_k f_Mo_fewest_b132 f_Mo_fewest_b133 f_Mo_fewest_b147
    by_cases hq : k = m
    · subst hq
      rw [if_pos (by rw [nI_lt' (by omega) (by omega)]; omega), r_136_9, s_143 (by omega), nI_s1]
    · have I := ih (k + 1) (by omega) (by omega)
      have B := bk_c m (by omega) (k + 1) (by omega)
      have MB := mxH_b (N := N) (n := n) (m := m) hb k
      rw [if_neg (by rw [nI_lt' (by omega) (by omega)]; omega), nI_s1]
      have NO : ¬ ((k + 1) &&& m = k + 1 ∧ sM N (k + 1) n = 0) → mxH N n h m (k + 1) = mxH N n h m k := fun e => by
        have E : vlH N n h m (k + 1) = 0 := if_neg e
        exact if_pos (by omega)
      have Z : (0 : Int32) ≤ nI (mxH N n h m k) := by rw [nI_0le (by omega)]; exact trivial
      by_cases e1 : (k + 1) &&& m = k + 1
      · rw [if_pos (B.1.mpr e1), r_136_8, a_142 (by omega), hS _ (by omega)]
        by_cases e2 : sM N (k + 1) n = 0
        · have S : mxH N n h m (k + 1) = if h (m ^^^ (k + 1)) + 1 ≤ mxH N n h m k then mxH N n h m k else h (m ^^^ (k + 1)) + 1 := by
            have E : vlH N n h m (k + 1) = h (m ^^^ (k + 1)) + 1 := if_pos ⟨e1, e2⟩
            rw [← E]
            rfl
          have hl := sb_lt (show m < 64 by omega) (sb_of e1) (by omega)
          have hbb := hb (m ^^^ (k + 1))
          rw [if_pos e2, r_136_9, B.2 e1, a_143 (by omega), hT _ hl, nI_s1]
          by_cases e3 : h (m ^^^ (k + 1)) + 1 ≤ mxH N n h m k
          · rw [if_pos e3] at S
            rw [S] at I
            rw [ifn_y (by omega) (by omega) e3]
            exact I
          · rw [if_neg e3] at S
            rw [S] at I
            rw [ifn_n (by omega) (by omega) e3]
            exact I
        · rw [NO (fun x => e2 x.2)] at I
          rw [if_neg e2, if_pos Z]
          exact I
      · rw [NO (fun x => e1 x.1)] at I
        rw [if_neg (fun x => e1 (B.1.mp x)), if_pos Z]
        exact I
theorem mf_sets {i1 : Nat → Nat → Int32} (hn : n ≤ 6) : ∀ (fu m : Nat) (a1 : Nat → Nat → Int32), 1 ≤ m → m ≤ 2 ^ n → 2 ^ n - m < fu → a1 137 = v → v 1 = nI n → (∀ j, j < 2 ^ n → a1 142 j = sM N j n) → (∀ j, j < m → a1 143 j = nI (tabF (FH N n) (2 ^ n - 1) j)) → ∃ a2, f_Mo_fewest_b81 fu (mkH i1 l a1) 136 (nI (2 ^ n - 1)) (nI m) = some (nI n - nI (tabF (FH N n) (2 ^ n - 1) (2 ^ n - 1)), mkH i1 l a2) ∧ ∀ b, b ≠ 143 → a2 b = a1 b := by
  have h64 := pw64 hn
  have h2 := Nat.two_pow_pos n
  intro fu
  induction fu with
  | zero => intro k _ _ _ h; omega
  | succ fu ih =>
    intro m a1 hm1 hm hf h7 hv hS hT
    show ∃ a2, f_Mo_fewest_b81_k (f_Mo_fewest_b81 fu) _ _ _ _ = _ ∧ _
    unfold f_Mo_fewest_b81_k
    by_cases h : m = 2 ^ n
    · refine ⟨a1, ?_, fun _ _ => rfl⟩
      rw [if_pos (by rw [nI_lt' (by omega) (by omega)]; omega), o_136, Mo_many_ok, cP_s, h7, hv, r_136_9, a_143 (by omega), hT _ (by omega)]
    · rw [if_neg (by rw [nI_lt' (by omega) (by omega)]; omega)]
      have P := mf_part (l := l) (i1 := i1) hn (show m < 2 ^ n by omega) (fun j => by have := tabH_b (N := N) (n := n) (2 ^ n - 1) j; omega) hS hT (f_Mo_fewest_b81 fu) (nI (2 ^ n - 1)) FU 0 (by omega) (FU_lt (by omega))
      have E : tabF (FH N n) (2 ^ n - 1) m = mxH N n (tabF (FH N n) (2 ^ n - 1)) m m := by
        rw [tab_eq FH_c (2 ^ n - 1) m (by omega) (by omega)]
        exact if_pos (by omega)
      rw [← E] at P
      obtain ⟨a2, g1, g2⟩ := ih (m + 1) (va_up a1 143 (upd (a1 143) m (nI (tabF (FH N n) (2 ^ n - 1) m)))) (by omega) (by omega) (by omega) ((vu_n (by omega)).trans h7) hv (fun j hj => by rw [vu_n (by omega)]; exact hS j hj) (fun j hj => by
        rw [vu_s]
        by_cases e : j = m
        · rw [e, ud_s]
        · rw [ud_n e]
          exact hT j (by omega))
      exact ⟨a2, P.trans g1, fun b hb => (g2 b hb).trans (vu_n hb)⟩
theorem mf_out (hN : Now i a v n nf nn np dy) {i1 : Nat → Nat → Int32} : ∀ (fu m : Nat) (a1 : Nat → Nat → Int32), m ≤ 2 ^ n → 2 ^ n - m < fu → a1 137 = v → (∀ j, j < m → a1 142 j = sM (netV (owN v nf dy) n) j n) → ∃ a2, f_Mo_fewest_b11 fu (mkH i1 l a1) 136 (nI (2 ^ n - 1)) (nI m) = some (nI n - nI (tabF (FH (netV (owN v nf dy) n) n) (2 ^ n - 1) (2 ^ n - 1)), mkH i1 l a2) ∧ ∀ b, b ≠ 142 → b ≠ 143 → a2 b = a1 b := by
  have hn := hN.1.2.1
  have h64 := pw64 hn.2.2
  have h2 := Nat.two_pow_pos n
  intro fu
  induction fu with
  | zero => intro k _ _ h; omega
  | succ fu ih =>
    intro m a1 hm hf h7 hS
    show ∃ a2, f_Mo_fewest_b11_k (f_Mo_fewest_b11 fu) _ _ _ _ = _ ∧ _
    unfold f_Mo_fewest_b11_k
    by_cases h : m = 2 ^ n
    · have Z : ∀ {β : Type} {x : Int32} {κ : Hp → Option β}, sI (mkH i1 l a1) 11 143 0 x κ = κ (mkH i1 l (va_up a1 143 (upd (a1 143) 0 x))) := fun {β x κ} => s_143 (m := 0) (by omega)
      obtain ⟨a2, g1, g2⟩ := mf_sets (l := l) (i1 := i1) (N := netV (owN v nf dy) n) hn.2.2 FU 1 (va_up a1 143 (upd (a1 143) 0 0)) (Nat.le_refl _) (by omega) (FU_lt (by omega)) ((vu_n (by omega)).trans h7) hn.1 (fun j hj => by rw [vu_n (by omega)]; exact hS j (by omega)) (fun j hj => by rw [vu_s, show j = 0 by omega, ud_s, tab_0]; rfl)
      refine ⟨a2, ?_, fun b _ hb => (g2 b hb).trans (vu_n hb)⟩
      rw [if_pos (by rw [nI_lt' (by omega) (by omega)]; omega), r_136_9, Z]
      exact g1
    · rw [if_neg (by rw [nI_lt' (by omega) (by omega)]; omega), r_136_8, s_142 (by omega)]
      obtain ⟨a2, g1, g2, g3, g4⟩ := mf_in (l := l) (i1 := i1) hN (show m < 2 ^ n by omega) (f_Mo_fewest_b11 fu) (nI (2 ^ n - 1)) FU 0 (va_up a1 142 (upd (a1 142) m 0)) (by omega) (FU_lt (by omega)) ((vu_n (by omega)).trans h7) (by rw [vu_s, ud_s]; rfl)
      obtain ⟨a3, k1, k2⟩ := ih (m + 1) a2 (by omega) (by omega) ((g2 137 (by omega)).trans ((vu_n (by omega)).trans h7)) (fun j hj => by
        by_cases e : j = m
        · rw [e]
          exact g4
        · rw [g3 j e, vu_s, ud_n e]
          exact hS j (by omega))
      refine ⟨a3, ?_, fun b h1 h3 => (k2 b h1 h3).trans ((g2 b h1).trans (vu_n h1))⟩
      exact g1.trans k1
theorem inv_121 (H : Inv i l a) {g : Nat → Int32} (hg : g 0 = 0) : Inv i l (va_up a 121 g) := by
  obtain ⟨n, nf, nn, np, dy, hN⟩ := now_of H
  obtain ⟨h1, h2, h3, h4, h5, ⟨bl, t1, t2, t3, t4, t5⟩, h7, h8, h9⟩ := H
  have hE : ∀ (P : Nat → Prop), (∀ b, P b → b ≠ 121) → Eq2 P i a i (va_up a 121 g) := fun P hP b hb => ⟨fun _ => rfl, vu_n (hP b hb)⟩
  have e7 : va_up a 121 g 137 = a 137 := vu_n (by omega)
  have e8 : va_up a 121 g 138 = a 138 := vu_n (by omega)
  refine ⟨h1.c (hE _ fun b hb => by omega) (fun j _ => by rw [e7]), h2.c (hE _ fun b hb => by omega) (fun j _ _ => by rw [e7]), h3.c (hE _ fun b hb => by omega) (vu_n (by omega)) (fun j _ => by rw [e8]), h4.c (hE _ fun b hb => by omega) (vu_n (by omega)) (fun j _ => by rw [e8]), h5, ⟨bl, t1, t2, t3, fun j hj => by rw [vu_n (by omega), vu_n (by omega)]; exact t4 j hj, by rw [vu_s]; exact hg⟩, ?_, h8, ?_⟩
  · unfold Ref
    rw [vu_n (by omega)]
    exact h7
  · rw [e7]
    exact Pln.c hN.sw.1 (fun _ _ => rfl) (vu_n (by omega)) (fun _ _ => rfl) h9
theorem call_fewest (H : Inv i l a) : Call (fun G => f_Fa_fewest G 0) (fun G => f_Mo_fewest G 136) i l a := by
  obtain ⟨n, nf, nn, np, dy, hN⟩ := now_of H; obtain ⟨⟨a1, a2, a3, a4, a5⟩, ⟨b1, b2, b3, b4, b5, b6⟩, ⟨c1, c2, c3, c4, c5⟩, ⟨d1, d2, d3, d4, d5⟩⟩ := id hN
  obtain ⟨bl, t1, t2, t3, t4, t5⟩ := txt_of H
  obtain ⟨a1', f1, e1, hD⟩ := addUp_ok (l := l) hN hN.1.1.2
  obtain ⟨a2', f2, e2, z2⟩ := fp_out (l := l) FU 0 a1' (by omega) (FU_lt (by omega)) hD (by rw [e1 121 (by omega)]; exact t5) (fun q hq => by omega)
  have h7 : a2' 137 = a 137 := (e2 137 (by omega) (by omega)).trans (e1 137 (by omega))
  obtain ⟨a3', f3, e3⟩ := mf_out (l := l) (i1 := up2 (up2 i 117 3 (nI n)) 118 2 (nI n)) hN FU 0 a2' (Nat.zero_le _) (FU_lt (by have := pw64 a2.2.2; omega)) h7 (fun j hj => by omega)
  refine ⟨nI n - nI (tabF (FG' (netV (owN (a 137) nf dy) n) n) (2 ^ n - 1) (2 ^ n - 1)), up2 (up2 i 117 3 (nI n)) 118 2 (nI n), l, a2', up2 (up2 i 117 3 (nI n)) 118 2 (nI n), l, a3', ?_, ?_, ?_⟩
  · have f2' : f_De_fewestPayments (mkH (up2 (up2 i 117 3 (nI n)) 118 2 (nI n)) l a1') 117 = some (nI n - nI (tabF (FG' (netV (owN (a 137) nf dy) n) n) (2 ^ n - 1) (2 ^ n - 1)), mkH (up2 (up2 i 117 3 (nI n)) 118 2 (nI n)) l a2') := f2
    show f_Fa_fewest _ 0 = _
    unfold f_Fa_fewest
    simp only [r_0_3, r_2_0, r_2_1, r_2_2, r_2_3, r_2_4, g_2_5, o_0, o_2, o_3, o_5, o_7, o_9, o_11, O_0, O_2, O_3, O_5, O_7, O_9, O_11, r_0_8, p_124_0, cP_s, cH_s, n10, if_true, if_false, zR_0, zR_1, lt_e, r_0_6, o_117, O_117, b1, f1, f2']
  · show f_Mo_fewest _ 136 = _
    unfold f_Mo_fewest
    simp only [r_136_0, o_136, O_136, r_136_3, cP_s, cH_s, n10, if_true, if_false, zR_0, zR_1, lt_e, Mo_many_ok, Mo_day_ok, h7, a2.1]
    rw [(bk_d n (by omega)).2]
    have f3' := f3
    rw [← few_eq a2.2.2] at f3'
    exact f3'
  · have J := inv_dbt (x := nI n) (y := nI n) H e1
    have E : ∀ b, b ≠ 120 → b ≠ 121 → b ≠ 142 → b ≠ 143 → a3' b = a1' b := fun b h1 h2 h3 h4 => (e3 b h3 h4).trans (e2 b h1 h2)
    have z3 : a3' 121 0 = 0 := by rw [e3 121 (by omega) (by omega)]; exact z2
    have K : Inv (up2 (up2 i 117 3 (nI n)) 118 2 (nI n)) l (va_up a3' 121 (a1' 121)) := by
      have E' : ∀ b, b ≠ 120 → b ≠ 142 → b ≠ 143 → va_up a3' 121 (a1' 121) b = a1' b := fun b h1 h2 h3 => by
        by_cases e : b = 121
        · subst e
          exact vu_s
        · rw [vu_n e]
          exact E b h1 e h2 h3
      refine inv_same J (fun b hb => ⟨fun _ => rfl, E' b ?_ ?_ ?_⟩) (E' 137 (by omega) (by omega) (by omega)) (fun _ _ => rfl) (E' 134 (by omega) (by omega) (by omega)) rfl rfl ?_
      · unfold Away at hb; omega
      · unfold Away at hb; omega
      · unfold Away at hb; omega
      · obtain ⟨r0, r1, r2⟩ := J.2.2.2.2.2.2.1
        unfold Ref
        rw [E' 140 (by omega) (by omega) (by omega)]
        exact ⟨r0, r1, r2⟩
    have L := inv_121 K z3
    rw [vu_u, vu_id (f := a3') (b := 121) rfl] at L
    exact L
end FX
