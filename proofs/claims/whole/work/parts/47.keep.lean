/-! ===== keeping the plan; refused calls ===== -/
/-- the places of a street on which its plan rests -/
def PlaceN (j : Nat) : Prop := (2 ≤ j ∧ j < 8) ∨ (14 ≤ j ∧ j < 118) ∨ j = 158 ∨ j = 159
section PK
variable {v v' : Nat → Int32} {n nf nn np dy : Nat}
theorem valF_v (hv : ∀ j, PlaceN j → v' j = v j) {f : Nat} {d : Int32} (hf : f < 12) : valF (fv v') f d = valF (fv v) f d := valF_c (fun k hk => hv _ (by unfold PlaceN; omega))
theorem mayN_v (hv : ∀ j, PlaceN j → v' j = v j) {k f : Nat} (hf : f < 12) (hk : k < 5) : mayN v' k f ↔ mayN v k f := by
  unfold mayN
  rw [hv _ (by unfold PlaceN; omega), hv _ (by unfold PlaceN; omega), hv _ (by unfold PlaceN; omega), hv _ (by unfold PlaceN; omega), hv _ (by unfold PlaceN; omega), hv _ (by unfold PlaceN; omega), valF_v hv hf]
theorem wthN_v (hv : ∀ j, PlaceN j → v' j = v j) {k f : Nat} (hf : f < 12) (hk : k < 5) : wthN v' k f = wthN v k f := by
  unfold wthN
  rw [hv _ (by unfold PlaceN; omega), valF_v hv hf]
theorem sumN_v (hv : ∀ j, PlaceN j → v' j = v j) {c : Nat → Nat} {k : Nat} (hnf : nf ≤ 12) (hk : k < 5) (hc : c k < nf) : ∀ j, j ≤ 5 → sumN v' nf c k j = sumN v nf c k j
  | 0, _ => rfl
  | j + 1, hj => by
    unfold sumN
    rw [sumN_v hv hnf hk hc j (by omega)]
    by_cases h : c j < nf
    · rw [hv _ (show PlaceN (98 + (j * 4 + 3)) by unfold PlaceN; omega), hv _ (show PlaceN (98 + (k * 4 + 3)) by unfold PlaceN; omega), hv _ (show PlaceN (14 + (c j * 7 + 1)) by unfold PlaceN; omega), hv _ (show PlaceN (14 + (c k * 7 + 1)) by unfold PlaceN; omega), wthN_v hv (by omega) (by omega)]
    · rw [if_neg (fun x => h x.1), if_neg (fun x => h x.1)]
theorem by_n (hW : WFb v 0 n nf nn np dy) {f : Nat} (hf : f < nf) : ∃ b, v (14 + (f * 7 + 1)) = nI b ∧ b < n ∧ n ≤ 6 := by
  obtain ⟨k, b, t, w, tl, m, -, ⟨e, h⟩, -⟩ := hW.2.2.1 f hf
  rw [Nat.zero_add] at e
  exact ⟨b, e, h, hW.1.2.1.2.2⟩
theorem okN_v (hW : WFb v 0 n nf nn np dy) (hv : ∀ j, PlaceN j → v' j = v j) {c : Nat → Nat} {k : Nat} (hk : k < nn) : okN v' nf c k ↔ okN v nf c k := by
  have hnf : nf ≤ 12 := hW.1.2.2.1.2
  have hnn : nn ≤ 5 := hW.1.2.2.2.1.2
  unfold okN
  by_cases h : c k < nf
  · obtain ⟨b, e, hb, hn⟩ := by_n hW h
    rw [mayN_v hv (by omega) (by omega), sumN_v hv hnf (by omega) h k (by omega), wthN_v hv (by omega) (by omega), hv _ (show PlaceN (14 + (c k * 7 + 1)) by unfold PlaceN; omega), e, nI_cl (by omega), hv _ (show PlaceN (2 + b) by unfold PlaceN; omega)]
  · constructor
    · rintro (x | x)
      · exact Or.inl x
      · exact absurd x.1 h
    · rintro (x | x)
      · exact Or.inl x
      · exact absurd x.1 h
theorem spnN_v (hv : ∀ j, PlaceN j → v' j = v j) {c : Nat → Nat} (hnf : nf ≤ 12) : ∀ j, j ≤ 5 → spnN v' nf c j = spnN v nf c j
  | 0, _ => rfl
  | j + 1, hj => by
    unfold spnN
    rw [spnN_v hv hnf j (by omega)]
    by_cases h : c j < nf
    · rw [wthN_v hv (by omega) (by omega)]
    · rw [if_neg h, if_neg h]
theorem bestN_v (hW : WFb v 0 n nf nn np dy) (hv : ∀ j, PlaceN j → v' j = v j) {c : Nat → Nat} (h : bestN v nf nn c) : bestN v' nf nn c := by
  have hnf : nf ≤ 12 := hW.1.2.2.1.2
  have hnn : nn ≤ 5 := hW.1.2.2.2.1.2
  refine ⟨fun k hk => (okN_v hW hv hk).mpr (h.1 k hk), fun c' hc' => ?_⟩
  have := h.2 c' (fun k hk => (okN_v hW hv hk).mp (hc' k hk))
  rw [spnN_v hv hnf nn hnn, spnN_v hv hnf nn hnn]
  exact this
theorem Pln.c {i a i' a' : Nat → Nat → Int32} (hW : WFb v 0 n nf nn np dy) (hi : ∀ k, k ≤ 2 → i' 124 k = i 124 k) (ha : a' 134 = a 134) (hv : ∀ j, PlaceN j → v' j = v j) (h : Pln i a v) : Pln i' a' v' := by
  rcases h with h | ⟨h0, nf', nn', c, h1, h2, h3, h4, h5, h6, h7, h8⟩
  · exact Or.inl (by rw [hi 0 (by omega)]; exact h)
  · have e1 : nf' = nf := by
      have := hW.1.2.2.1.1
      rw [Nat.zero_add, h1] at this
      exact (nI_eq (by omega) (by have := hW.1.2.2.1.2; omega)).mp this
    have e2 : nn' = nn := by
      have := hW.1.2.2.2.1.1
      rw [Nat.zero_add, h3] at this
      exact (nI_eq (by omega) (by have := hW.1.2.2.2.1.2; omega)).mp this
    subst e1 e2
    exact Or.inr ⟨by rw [hi 0 (by omega)]; exact h0, nf', nn', c, by rw [hv _ (by unfold PlaceN; omega)]; exact h1, h2, by rw [hv _ (by unfold PlaceN; omega)]; exact h3, h4, bestN_v hW hv h5, by rw [hi 1 (by omega)]; exact h6, by rw [hi 2 (by omega), spnN_v hv h2 nn' h4]; exact h7, fun k hk => by rw [ha]; exact h8 k hk⟩
end PK
/-- a call of both, from what holds between the calls to what holds again, with one answer -/
def Call {α : Type} (fc fm : Hp → Option (α × Hp)) (i : Nat → Nat → Int32) (l : Nat → Nat → Int64) (a : Nat → Nat → Int32) : Prop := ∃ r i1 l1 a1 i2 l2 a2, fc (mkH i l a) = some (r, mkH i1 l1 a1) ∧ fm (mkH i1 l1 a1) = some (r, mkH i2 l2 a2) ∧ Inv i2 l2 a2
section RF
variable {i : Nat → Nat → Int32} {l : Nat → Nat → Int64} {a : Nat → Nat → Int32}
theorem inv_same {i' a' : Nat → Nat → Int32} (H : Inv i l a) (hE : Eq2 (fun b => Away b ∨ (2 ≤ b ∧ b ≤ 12)) i a i' a') (h7 : a' 137 = a 137) (hi : ∀ k, k ≤ 2 → i' 124 k = i 124 k) (ha : a' 134 = a 134) (hT : i' 136 17 = i 136 17) (hR : i' 115 2 = i 115 2) (hRf : Ref i' a') : Inv i' l a' := by
  obtain ⟨n, nf, nn, np, dy, hW, -⟩ := id H.1
  refine inv_now H (hE.mono fun b hb => Or.inl hb) (H.1.c (hE.mono fun b hb => Or.inr ⟨by omega, by omega⟩) (fun j _ => by rw [h7])) (fun j _ _ => by rw [h7]) hT ⟨by rw [(hE 11 (Or.inr ⟨by omega, by omega⟩)).1]; exact H.2.2.2.2.1.1, by rw [hR]; exact H.2.2.2.2.1.2.2.2.2.2.2.2.2.2⟩ hRf H.2.2.2.2.2.2.2.1 ?_
  rw [h7]
  exact Pln.c hW hi ha (fun _ _ => rfl) H.2.2.2.2.2.2.2.2
theorem eq2_0 {P : Nat → Prop} {k x : Nat} {y z : Int32} {g : Nat → Int32} (hP : ∀ b, P b → b ≠ 0 ∧ b ≠ 140) : Eq2 P i a (up2 i 0 k y) (va_up a 140 g) := fun b hb => ⟨fun k' => up2_n (fun h => (hP b hb).1 h.1), vu_n (hP b hb).2⟩
theorem inv_ref {k x : Nat} (hk : (k = 10 ∧ x = 0) ∨ (k = 11 ∧ x = 1) ∨ (k = 12 ∧ x = 2)) (H : Inv i l a) : Inv (up2 i 0 k (i 0 k + 1)) l (va_up a 140 (upd (a 140) x (a 140 x + 1))) := by
  obtain ⟨-, -, -, -, -, -, ⟨r0, r1, r2⟩, -⟩ := id H
  refine inv_same H (fun b hb => ⟨fun k' => up2_n (fun h => ?_), vu_n ?_⟩) (vu_n (by omega)) (fun k' _ => up2_n (by omega)) (vu_n (by omega)) (up2_n (by omega)) (up2_n (by omega)) ?_
  · unfold Away at hb; omega
  · unfold Away at hb; omega
  · rcases hk with ⟨rfl, rfl⟩ | ⟨rfl, rfl⟩ | ⟨rfl, rfl⟩
    · exact ⟨by rw [up2_s, vu_s, ud_s, r0], by rw [up2_n (by omega), vu_s, ud_n (by omega)]; exact r1, by rw [up2_n (by omega), vu_s, ud_n (by omega)]; exact r2⟩
    · exact ⟨by rw [up2_n (by omega), vu_s, ud_n (by omega)]; exact r0, by rw [up2_s, vu_s, ud_s, r1], by rw [up2_n (by omega), vu_s, ud_n (by omega)]; exact r2⟩
    · exact ⟨by rw [up2_n (by omega), vu_s, ud_n (by omega)]; exact r0, by rw [up2_n (by omega), vu_s, ud_n (by omega)]; exact r1, by rw [up2_s, vu_s, ud_s, r2]⟩
/-- a call that both refuse as BAD, NO, FULL -/
theorem call_bad {fc fm : Hp → Option (Int32 × Hp)} {r : Int32} (H : Inv i l a) (h1 : fc (mkH i l a) = f_Fa_bad (mkH i l a) 0 r) (h2 : ∀ i1, fm (mkH i1 l a) = f_Mo_bad (mkH i1 l a) 136 r) : Call fc fm i l a := ⟨r, _, _, _, _, _, _, h1.trans (Fa_bad_ok r), (h2 _).trans (Mo_bad_ok r), inv_ref (Or.inl ⟨rfl, rfl⟩) H⟩
theorem call_no {fc fm : Hp → Option (Int32 × Hp)} {r : Int32} (H : Inv i l a) (h1 : fc (mkH i l a) = f_Fa_no (mkH i l a) 0 r) (h2 : ∀ i1, fm (mkH i1 l a) = f_Mo_no (mkH i1 l a) 136 r) : Call fc fm i l a := ⟨r, _, _, _, _, _, _, h1.trans (Fa_no_ok r), (h2 _).trans (Mo_no_ok r), inv_ref (Or.inr (Or.inl ⟨rfl, rfl⟩)) H⟩
theorem call_full {fc fm : Hp → Option (Int32 × Hp)} (H : Inv i l a) (h1 : fc (mkH i l a) = f_Fa_full (mkH i l a) 0) (h2 : ∀ i1, fm (mkH i1 l a) = f_Mo_full (mkH i1 l a) 136) : Call fc fm i l a := ⟨-4, _, _, _, _, _, _, h1.trans Fa_full_ok, (h2 _).trans Mo_full_ok, inv_ref (Or.inr (Or.inr ⟨rfl, rfl⟩)) H⟩
/-- a call that both answer without a change -/
theorem call_ask {α : Type} {fc fm : Hp → Option (α × Hp)} {r : α} (H : Inv i l a) (h1 : fc (mkH i l a) = some (r, mkH i l a)) (h2 : fm (mkH i l a) = some (r, mkH i l a)) : Call fc fm i l a := ⟨r, _, _, _, _, _, _, h1, h2, H⟩
end RF
