/-! ===== checks of both at once; the end of a call on the street ===== -/
section CK
variable {i : Nat → Nat → Int32} {a : Nat → Nat → Int32} {n nf nn np dy : Nat}
theorem ck_fav (l : Nat → Nat → Int64) (hN : Now i a (a 137) n nf nn np dy) (x : Int32) : (f_Ta_has (mkH i l a) 5 x = some 0 ∧ ∀ (i1 : Nat → Nat → Int32) (l1 : Nat → Nat → Int64) (a1 : Nat → Nat → Int32), a1 137 = a 137 → f_Mo_isFavour (mkH i1 l1 a1) 136 x = some 0) ∨ (∃ p, p < nf ∧ x = nI p ∧ f_Ta_has (mkH i l a) 5 x = some 1 ∧ ∀ (i1 : Nat → Nat → Int32) (l1 : Nat → Nat → Int64) (a1 : Nat → Nat → Int32), a1 137 = a 137 → f_Mo_isFavour (mkH i1 l1 a1) 136 x = some 1) := by
  have h := hN.1.2.2.1
  have b3 := hN.2.1.2.2.1
  rcases rng x (n := nf) (by omega) with ⟨f, hf, rfl⟩ | ⟨-, hf⟩
  · exact Or.inr ⟨f, hf, rfl, Ta_has_in (m := 12) (w := 7) (by decide) b3 h.2 hf, fun i1 l1 a1 e => Mo_fav_in (n := nf) (by rw [e]; exact h.1) (by omega) hf⟩
  · exact Or.inl ⟨Ta_has_out (m := 12) (w := 7) (by decide) (by rw [b3]; exact hf), fun i1 l1 a1 e => Mo_fav_out (n := nf) (by rw [e]; exact h.1) (by omega) hf⟩
theorem ck_one (l : Nat → Nat → Int64) (hN : Now i a (a 137) n nf nn np dy) (x : Int32) : (f_Ta_has (mkH i l a) 3 x = some 0 ∧ ∀ (i1 : Nat → Nat → Int32) (l1 : Nat → Nat → Int64) (a1 : Nat → Nat → Int32), a1 137 = a 137 → f_Mo_isOne (mkH i1 l1 a1) 136 x = some 0) ∨ (∃ p, p < n ∧ x = nI p ∧ f_Ta_has (mkH i l a) 3 x = some 1 ∧ ∀ (i1 : Nat → Nat → Int32) (l1 : Nat → Nat → Int64) (a1 : Nat → Nat → Int32), a1 137 = a 137 → f_Mo_isOne (mkH i1 l1 a1) 136 x = some 1) := by
  have h := hN.1.2.1
  have b3 := hN.2.1.2.1
  rcases rng x (n := n) (by omega) with ⟨f, hf, rfl⟩ | ⟨-, hf⟩
  · exact Or.inr ⟨f, hf, rfl, Ta_has_in (m := 6) (w := 2) (by decide) b3 h.2.2 hf, fun i1 l1 a1 e => Mo_one_in (n := n) (by rw [e]; exact h.1) (by omega) hf⟩
  · exact Or.inl ⟨Ta_has_out (m := 6) (w := 2) (by decide) (by rw [b3]; exact hf), fun i1 l1 a1 e => Mo_one_out (n := n) (by rw [e]; exact h.1) (by omega) hf⟩
theorem ck_wi (x : Int32) {lo hi : Nat} {c d : Int32} {c' d' : Int64} (hc : c = nI lo) (hd : d = nI hi) (hc' : c' = (nI lo).toInt64) (hd' : d' = (nI hi).toInt64) (hl : lo ≤ hi) (hh : hi < 2147483647) : ((∀ G, f_Fa_isWithin G x c d = some 0) ∧ ∀ G, f_Mo_in G x.toInt64 c' d' = some 0) ∨ (∃ p, lo ≤ p ∧ p ≤ hi ∧ x = nI p ∧ (∀ G, f_Fa_isWithin G x c d = some 1) ∧ ∀ G, f_Mo_in G x.toInt64 c' d' = some 1) := by
  subst hc hd hc' hd'
  rcases rng2 x (lo := lo) (hi := hi) hh hl with ⟨p, h1, h2, rfl⟩ | h
  · exact Or.inr ⟨p, h1, h2, rfl, fun G => Fa_wi_in rfl rfl h1 h2 hh, fun G => Mo_in_in rfl rfl h1 h2 hh⟩
  · exact Or.inl ⟨fun G => Fa_wi_out h, fun G => Mo_in_out rfl rfl h⟩
theorem ck_thing (x : Int32) : ((∀ G, f_Fa_isThing G x = some 0) ∧ ∀ G, f_Mo_isThing G x = some 0) ∨ (∃ p, p ≤ 3 ∧ x = nI p ∧ (∀ G, f_Fa_isThing G x = some 1) ∧ ∀ G, f_Mo_isThing G x = some 1) := by
  rcases rng2 x (lo := 0) (hi := 3) (by omega) (by omega) with ⟨p, h1, h2, rfl⟩ | h
  · exact Or.inr ⟨p, h2, rfl, fun G => Fa_thing_in h2, fun G => Mo_thing_in h2⟩
  · exact Or.inl ⟨fun G => Fa_thing_out h, fun G => Mo_thing_out h⟩
theorem ck_day (x : Int32) : ((∀ G, f_Fa_isDay G x = some 0) ∧ ∀ G, f_Mo_isDay G x = some 0) ∨ (∃ p, p ≤ 99 ∧ x = nI p ∧ (∀ G, f_Fa_isDay G x = some 1) ∧ ∀ G, f_Mo_isDay G x = some 1) := by
  rcases rng2 x (lo := 0) (hi := 99) (by omega) (by omega) with ⟨p, h1, h2, rfl⟩ | h
  · exact Or.inr ⟨p, h2, rfl, fun G => Fa_day_in h2, fun G => Mo_day_in h2⟩
  · exact Or.inl ⟨fun G => Fa_day_out h, fun G => Mo_day_out h⟩
/-- the cells that a call on the street, its plan aside, leaves as they are -/
def Rest (b : Nat) : Prop := ¬ (2 ≤ b ∧ b ≤ 12) ∧ b ≠ 124
theorem ok_st {l : Nat → Nat → Int64} {fc fm : Hp → Option (Int32 × Hp)} {i1 a1 : Nat → Nat → Int32} {v : Nat → Int32} {r : Int32} (H : Inv i l a) (hE : Eq2 Rest i a i1 a1) (hF : fc (mkH i l a) = some (r, mkH i1 l a1)) (hM : ∀ (i1 : Nat → Nat → Int32) (a1 : Nat → Nat → Int32), a1 137 = a 137 → fm (mkH i1 l a1) = some (r, mkH i1 l (va_up a1 137 v))) (hN : Now i1 a1 v n nf nn np dy) (hP : ∀ j, 161 ≤ j → j < 484 → v j = a 137 j) (hPl : Pln i1 a1 v) : Call fc fm i l a := by
  refine ⟨r, i1, l, a1, i1, l, va_up a1 137 v, hF, hM i1 a1 (hE 137 (by unfold Rest; omega)).2, ?_⟩
  refine fin_now (n := n) (nf := nf) (nn := nn) (np := np) (dy := dy) H (fun b hb => ?_) ?_ (fun j h1 h2 => by rw [vu_s]; exact hP j h1 h2) ((hE 136 (by unfold Rest; omega)).1 _) ((hE 115 (by unfold Rest; omega)).1 _) (fun k _ => (hE 0 (by unfold Rest; omega)).1 k) ?_ ?_
  · have h := hE b (by unfold Away at hb; unfold Rest; omega)
    exact ⟨h.1, by rw [vu_n (by unfold Away at hb; omega)]; exact h.2⟩
  · rw [vu_s]
    obtain ⟨h1, h2, h3, h4⟩ := hN
    refine ⟨h1, h2, h3, ?_⟩
    rw [vu_n (by omega), vu_n (by omega), vu_n (by omega), vu_n (by omega), vu_n (by omega)]
    exact h4
  · rw [vu_n (by omega)]
    exact (hE 140 (by unfold Rest; omega)).2
  · rw [vu_s]
    rcases hPl with h | ⟨h0, nf', nn', c, g1, g2, g3, g4, g5, g6, g7, g8⟩
    · exact Or.inl h
    · refine Or.inr ⟨h0, nf', nn', c, g1, g2, g3, g4, g5, g6, g7, fun k hk => ?_⟩
      rw [vu_n (by omega)]
      exact g8 k hk
theorem upd_mt {g v : Nat → Int32} {o j k : Nat} {x : Int32} (h : j ≠ k → g j = v (o + j)) : upd g k x j = upd v (o + k) x (o + j) := by
  by_cases e : j = k
  · subst e
    rw [ud_s, ud_s]
  · rw [ud_n e, ud_n (by omega)]
    exact h e
theorem upd_nt {v : Nat → Int32} {y x : Int32} {j k : Nat} (hk : ¬ j = k) (h : y = v j) : y = upd v k x j := by
  rw [ud_n hk]
  exact h
theorem ix3 {p c : Nat} (hc : c < 3) : (118 : Int32) + 3 * nI p + nI c = nI (118 + (p * 3 + c)) := by
  rw [show (118 : Int32) = nI 118 from rfl, show (3 : Int32) = nI 3 from rfl, nI_mul, nI_add, nI_add]
  congr 1
  omega
theorem ix4 {p c : Nat} : (98 : Int32) + 4 * nI p + nI c = nI (98 + (p * 4 + c)) := by
  rw [show (98 : Int32) = nI 98 from rfl, show (4 : Int32) = nI 4 from rfl, nI_mul, nI_add, nI_add]
  congr 1
  omega
theorem a0 (x : Int32) : x + 0 = x := Int32.add_zero x
theorem nI_s1 (m : Nat) : nI m + 1 = nI (m + 1) := nI_add m 1
theorem nI_is {m k : Nat} {c : Int32} (hc : c = nI k) (hm : m < 1000) (hk : k < 1000) (h : m ≠ k) : (nI m = c) = False := by
  subst hc
  rw [nI_eq' (by omega) (by omega)]
  exact eq_false h
end CK
theorem cH_id {α : Type} {o : Option (α × Hp)} : (cH o fun x G => some (x, G)) = o := by
  rcases o with _ | ⟨x, G⟩
  · rfl
  · rfl
section WA
variable {v v' : Nat → Int32} {n nf nn np : Nat}
theorem wT_add {f b c : Nat} (h : wT v n nf np) (hv : ∀ j, j < np * 3 → v' (118 + j) = v (118 + j)) (h0 : v' (118 + (np * 3 + 0)) = nI f ∧ f < nf) (h1 : v' (118 + (np * 3 + 1)) = nI b ∧ b < n) (h2 : v' (118 + (np * 3 + 2)) = nI c ∧ c < n) : wT v' n nf (np + 1) := fun k hk => by
  by_cases e : k = np
  · subst e
    exact ⟨f, b, c, h0, h1, h2⟩
  · rw [hv _ (by omega), hv _ (by omega), hv _ (by omega)]
    exact h k (by omega)
theorem wN_add {p t s d : Nat} (h : wN v n nn) (hv : ∀ j, j < nn * 4 → v' (98 + j) = v (98 + j)) (h0 : v' (98 + (nn * 4 + 0)) = nI p ∧ p < n) (h1 : v' (98 + (nn * 4 + 1)) = nI t ∧ t ≤ 3) (h2 : v' (98 + (nn * 4 + 2)) = nI s ∧ 1 ≤ s ∧ s ≤ 40) (h3 : v' (98 + (nn * 4 + 3)) = nI d ∧ d ≤ 99) : wN v' n (nn + 1) := fun k hk => by
  by_cases e : k = nn
  · subst e
    exact ⟨p, t, s, d, h0, h1, h2, h3⟩
  · rw [hv _ (by omega), hv _ (by omega), hv _ (by omega), hv _ (by omega)]
    exact h k (by omega)
/-- the favours, one row of them aside -/
theorem wF_row {f nf' : Nat} (h : wF v n nf) (hv : ∀ j, j < nf * 7 → ¬ (f * 7 ≤ j ∧ j < f * 7 + 7) → v' (14 + j) = v (14 + j)) (h0 : favK v' n f) (hn : nf' = nf ∨ (nf' = nf + 1 ∧ f = nf)) : wF v' n nf' := fun k hk => by
  by_cases e : k = f
  · subst e
    exact h0
  · unfold favK
    rw [hv _ (by omega) (by omega), hv _ (by omega) (by omega), hv _ (by omega) (by omega), hv _ (by omega) (by omega), hv _ (by omega) (by omega), hv _ (by omega) (by omega), hv _ (by omega) (by omega)]
    exact h k (by omega)
end WA
