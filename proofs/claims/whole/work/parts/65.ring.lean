/-! ===== rings: one answer only ===== -/
theorem lexN_as {r r' : Nat → Nat} {L : Nat} (h : lexN r r' L) (h' : lexN r' r L) : ∀ j, j < L → r j = r' j := by
  rcases h with h | ⟨k, hk, h1, h2⟩
  · exact h
  · rcases h' with h' | ⟨k', hk', g1, g2⟩
    · exact fun j hj => (h' j hj).symm
    · rcases Nat.lt_trichotomy k k' with e | e | e
      · have := g1 k e
        omega
      · subst e
        omega
      · have := h1 k' e
        omega
theorem RingRes.u {D : Nat → Nat → Nat} {n : Nat} {x y : Int32} {g g' : Nat → Int32} (hn : n ≤ 6) (h : RingRes D n x g) (h' : RingRes D n y g') : x = y ∧ (x = 0 ∨ ∃ L, 2 ≤ L ∧ L ≤ n ∧ x = nI L ∧ ∃ r : Nat → Nat, RingP D n L r ∧ ∀ j, j < L → g j = nI (r j) ∧ g' j = nI (r j)) := by
  rcases h with ⟨L, r, h1, h2, rfl, h3, h4, h5, h6⟩ | ⟨rfl, h1⟩
  · rcases h' with ⟨L', r', k1, k2, rfl, k3, k4, k5, k6⟩ | ⟨rfl, k1⟩
    · have e : L = L' := by
        rcases Nat.lt_trichotomy L L' with e | e | e
        · exact absurd h3 (k5 L h1 e r)
        · exact e
        · exact absurd k3 (h5 L' k1 e r')
      subst e
      refine ⟨rfl, Or.inr ⟨L, h1, h2, rfl, r, h3, fun j hj => ⟨h4 j hj, ?_⟩⟩⟩
      rw [k4 j hj, lexN_as (h6 r' k3) (k6 r h3) j hj]
    · exact absurd h3 (k1 L h1 h2 r)
  · rcases h' with ⟨L', r', k1, k2, rfl, k3, k4, k5, k6⟩ | ⟨rfl, k1⟩
    · exact absurd k3 (h1 L' k1 k2 r')
    · exact ⟨rfl, Or.inl rfl⟩
theorem sumTo_49 {g : Nat → Nat} : ∀ n, (∀ j, j < n → g j ≤ 49) → sumTo g n ≤ 49 * n
  | 0, _ => Nat.le_refl _
  | n + 1, h => by
    have I := sumTo_49 n (fun j hj => h j (by omega))
    have J := h n (by omega)
    show sumTo g n + g n ≤ _
    omega
theorem owN_bd {i a : Nat → Nat → Int32} {v : Nat → Int32} {n nf nn np dy : Nat} (hN : Now i a v n nf nn np dy) {d : Nat} (hd : d ≤ 99) (p q : Nat) : owN v nf d p q < 1000 := by
  have h := sumTo_49 (g := owF v d p q) nf (fun j hj => by
    unfold owF
    split
    · exact (uN_ok hN hj hd).2
    · omega)
  have := hN.1.2.2.1.2
  unfold owN
  omega
