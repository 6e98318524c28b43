/-! ===== rows moved ===== -/
def cp2 (w v : Nat → Int32) (d s n : Nat) : Nat → Int32 := fun x => if d ≤ x ∧ x < d + n then v (s + (x - d)) else w x
theorem cp2_in {w v : Nat → Int32} {d s n j : Nat} (hj : j < n) : cp2 w v d s n (d + j) = v (s + j) := by
  unfold cp2
  rw [if_pos ⟨by omega, by omega⟩]
  congr 1
  omega
theorem cp2_out {w v : Nat → Int32} {d s n x : Nat} (hx : ¬ (d ≤ x ∧ x < d + n)) : cp2 w v d s n x = w x := if_neg hx
theorem cp2_0 {w v : Nat → Int32} {d s : Nat} : cp2 w v d s 0 = w := by
  funext x
  exact if_neg (by omega)
theorem cp2_s {w v : Nat → Int32} {d s j : Nat} : upd (cp2 w v d s j) (d + j) (v (s + j)) = cp2 w v d s (j + 1) := by
  funext x
  by_cases e : x = d + j
  · subst e
    rw [ud_s, cp2_in (by omega)]
  · rw [ud_n e]
    by_cases h : d ≤ x ∧ x < d + j
    · have hx : x = d + (x - d) := by omega
      rw [hx, cp2_in (by omega), cp2_in (by omega)]
    · rw [cp2_out h, cp2_out (by omega)]
theorem WFb.o {v v' : Nat → Int32} {o o' n nf nn np dy : Nat} (hv : ∀ j, j < 161 → v' (o' + j) = v (o + j)) (h : WFb v o n nf nn np dy) : WFb v' o' n nf nn np dy := by
  obtain ⟨⟨⟨a1, a2⟩, ⟨b1, b2⟩, ⟨c1, c2⟩, ⟨d1, d2⟩, ⟨e1, e2⟩⟩, h1, h2, h3, h4, h5⟩ := h
  refine ⟨⟨⟨by rw [hv _ (by omega)]; exact a1, a2⟩, ⟨by rw [hv _ (by omega)]; exact b1, b2⟩, ⟨by rw [hv _ (by omega)]; exact c1, c2⟩, ⟨by rw [hv _ (by omega)]; exact d1, d2⟩, ⟨by rw [hv _ (by omega)]; exact e1, e2⟩⟩, fun p hp => ?_, fun f hf => ?_, fun k hk => ?_, fun k hk => ?_, fun t ht => ?_⟩
  · rw [hv _ (by omega), hv _ (by omega)]
    exact h1 p hp
  · rw [hv _ (by omega), hv _ (by omega), hv _ (by omega), hv _ (by omega), hv _ (by omega), hv _ (by omega), hv _ (by omega)]
    exact h2 f hf
  · rw [hv _ (by omega), hv _ (by omega), hv _ (by omega), hv _ (by omega)]
    exact h3 k hk
  · rw [hv _ (by omega), hv _ (by omega), hv _ (by omega)]
    exact h4 k hk
  · rw [hv _ (by omega)]
    exact h5 t ht
theorem SR.o {i a : Nat → Nat → Int32} {q o o' n nf nn np : Nat} {v v' : Nat → Int32} (hv : ∀ j, j < 161 → v' (o' + j) = v (o + j)) (h : SR i a q v o n nf nn np) : SR i a q v' o' n nf nn np := by
  obtain ⟨⟨c0, c1, c2, c3, c4, c5⟩, h0, h1, h2, h3, h4, h5⟩ := h
  have b1 : n ≤ 6 := c1.2
  have b2 : nf ≤ 12 := c2.2
  have b3 : nn ≤ 5 := c3.2
  have b4 : np ≤ 12 := c4.2
  refine ⟨⟨c0, c1, c2, c3, c4, c5⟩, by rw [hv _ (by omega)]; exact h0, fun p hp => ?_, fun j hj => ?_, fun j hj => ?_, fun j hj => ?_, fun j hj => ?_⟩
  · rw [hv _ (by omega), hv _ (by omega)]
    exact h1 p hp
  · rw [hv _ (by omega)]
    exact h2 j hj
  · rw [hv _ (by omega)]
    exact h3 j hj
  · rw [hv _ (by omega)]
    exact h4 j hj
  · rw [hv _ (by omega)]
    exact h5 j hj
theorem SW.o {i a : Nat → Nat → Int32} {q o o' : Nat} {v v' : Nat → Int32} (hv : ∀ j, j < 161 → v' (o' + j) = v (o + j)) (h : SW i a q v o) : SW i a q v' o' := by
  obtain ⟨n, nf, nn, np, dy, h1, h2⟩ := h
  exact ⟨n, nf, nn, np, dy, h1.o hv, h2.o hv⟩
theorem Past.o {i a : Nat → Nat → Int32} {h ow ow' : Nat} {w w' : Nat → Int32} (hv : ∀ j, 161 ≤ j → j < 484 → w' (ow' + j) = w (ow + j)) (H : Past i a h w ow) : Past i a h w' ow' := by
  obtain ⟨u, h1, h2, h3, h4, h5⟩ := H
  refine ⟨u, h1, by rw [hv _ (by omega) (by omega)]; exact h2, h3, fun hu => (h4 hu).o (fun j hj => ?_), fun hu => (h5 hu).o (fun j hj => ?_)⟩
  · have := hv (162 + 161 * (u - 1) + j) (by omega) (by omega)
    rw [show ow' + (162 + 161 * (u - 1)) + j = ow' + (162 + 161 * (u - 1) + j) by omega, show ow + (162 + 161 * (u - 1)) + j = ow + (162 + 161 * (u - 1) + j) by omega]
    exact this
  · have := hv (162 + j) (by omega) (by omega)
    rw [show ow' + 162 + j = ow' + (162 + j) by omega, show ow + 162 + j = ow + (162 + j) by omega]
    exact this
theorem Past.cp {i a i1 a1 : Nat → Nat → Int32} {h h' ow : Nat} {w : Nat → Int32} (H : hok h = true) (e : i1 h 3 = i h' 3) (c1 : Cp i a i1 a1 (h + 12) (h' + 12)) (c2 : Cp i a i1 a1 (h + 23) (h' + 23)) (hP : Past i a h' w ow) : Past i1 a1 h w ow := by
  obtain ⟨u, h1, h2, h3, h4, h5⟩ := hP
  exact ⟨u, e.trans h1, h2, h3, fun hu => (h4 hu).cp (hok_k H).2.2.2.1 c1, fun hu => (h5 hu).cp (hok_k H).2.2.2.2 c2⟩
theorem ifle_y {α : Type} {K : Int32} {k j : Nat} {x y : α} (hK : K = nI k) (hk : k < 2147483648) (hj : j < 2147483648) (h : k ≤ j) : (if K ≤ nI j then x else y) = x := by
  subst hK
  exact if_pos (by rw [nI_le' hk hj]; exact h)
theorem ifle_n {α : Type} {K : Int32} {k j : Nat} {x y : α} (hK : K = nI k) (hk : k < 2147483648) (hj : j < 2147483648) (h : ¬ k ≤ j) : (if K ≤ nI j then x else y) = y := by
  subst hK
  exact if_neg (by rw [nI_le' hk hj]; exact h)
section MV2
variable {i : Nat → Nat → Int32} {l : Nat → Nat → Int64} {a : Nat → Nat → Int32}
theorem ix_sum {m j : Nat} : (484 : Int32) * nI m + nI j = nI (484 * m + j) := by
  rw [show (484 : Int32) = nI 484 from rfl, nI_mul, nI_add]
theorem Mo_image_loop {m : Nat} (hm : m < 2) : ∀ (fu j : Nat), j ≤ 484 → 484 - j < fu → f_Mo_image_b19 fu (mkH i l (va_up a 138 (cp2 (a 138) (a 137) (484 * m) 0 j))) 136 (nI m) (nI j) = some (1, mkH i l (va_up (va_up a 138 (cp2 (a 138) (a 137) (484 * m) 0 484)) 139 (upd (a 139) m 1))) := by
  intro fu
  induction fu with
  | zero => intro j _ h; omega
  | succ fu ih =>
    intro j hj hn
    show f_Mo_image_b19_k (f_Mo_image_b19 fu) _ _ _ _ = _
    unfold f_Mo_image_b19_k
    by_cases h : j = 484
    · subst h
      rw [ifle_y (K := 484) (k := 484) (j := 484) rfl (by omega) (by omega) (by omega), r_136_2, s_139 hm, vu_n (by omega)]
    · rw [ifle_n (K := 484) (k := 484) (j := j) rfl (by omega) (by omega) (by omega), r_136_1, r_136_0, a_137 (by omega), ix_sum, s_138 (by omega), nI_1, vu_s, vu_u, vu_n (by omega)]
      have e := cp2_s (w := a 138) (v := a 137) (d := 484 * m) (s := 0) (j := j)
      rw [Nat.zero_add] at e
      rw [e]
      exact ih (j + 1) (by omega) (by omega)
theorem Mo_from_loop {m : Nat} (hm : m < 2) : ∀ (fu j : Nat), j ≤ 484 → 484 - j < fu → f_Mo_from_b35 fu (mkH i l (va_up a 137 (cp2 (a 137) (a 138) 0 (484 * m) j))) 136 (nI m) (nI j) = some (1, mkH i l (va_up a 137 (cp2 (a 137) (a 138) 0 (484 * m) 484))) := by
  intro fu
  induction fu with
  | zero => intro j _ h; omega
  | succ fu ih =>
    intro j hj hn
    show f_Mo_from_b35_k (f_Mo_from_b35 fu) _ _ _ _ = _
    unfold f_Mo_from_b35_k
    by_cases h : j = 484
    · subst h
      rw [ifle_y (K := 484) (k := 484) (j := 484) rfl (by omega) (by omega) (by omega)]
    · rw [ifle_n (K := 484) (k := 484) (j := j) rfl (by omega) (by omega) (by omega), r_136_0, r_136_1, ix_sum, a_138 (by omega), s_137 (by omega), nI_1, vu_s, vu_u, vu_n (by omega)]
      have e := cp2_s (w := a 137) (v := a 138) (d := 0) (s := 484 * m) (j := j)
      rw [Nat.zero_add] at e
      rw [e]
      exact ih (j + 1) (by omega) (by omega)
end MV2
