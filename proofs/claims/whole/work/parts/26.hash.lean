/-! PURE: slots that are gone through one behind the other -/
def HT (occ : Nat → Option Nat) (hs f : Nat → Nat) (n : Nat) : Prop :=
  (∀ s j, s < 16384 → occ s = some j → j < n) ∧
  (∀ s s' j, s < 16384 → s' < 16384 → occ s = some j → occ s' = some j → s = s') ∧
  (∀ j, j < n → ∃ t, t < 16384 ∧ occ ((hs (f j) + t) % 16384) = some j ∧ ∀ t', t' < t → occ ((hs (f j) + t') % 16384) ≠ none)
theorem HT_0 {occ : Nat → Option Nat} {hs f : Nat → Nat} (h : ∀ s, s < 16384 → occ s = none) : HT occ hs f 0 := by
  refine ⟨fun s j hs0 ho => ?_, fun s s' j hs0 _ ho _ => ?_, fun j hj => by omega⟩
  · rw [h s hs0] at ho; cases ho
  · rw [h s hs0] at ho; cases ho
theorem HT_probe {occ : Nat → Option Nat} {hs f : Nat → Nat} {n : Nat} (h : HT occ hs f n) (hn : n < 16384) (y : Nat) :
    ∃ t, t < 16384 ∧ (∀ t', t' < t → ∃ j, j < n ∧ occ ((hs y + t') % 16384) = some j ∧ f j ≠ y) ∧
      ((occ ((hs y + t) % 16384) = none ∧ idx f y n = none) ∨ ∃ j, j < n ∧ occ ((hs y + t) % 16384) = some j ∧ f j = y) := by
  obtain ⟨h1, h2, h3⟩ := h
  have hm : ∀ t, (hs y + t) % 16384 < 16384 := fun t => Nat.mod_lt _ (by decide)
  have hex : ∃ t, t < 16384 ∧ (occ ((hs y + t) % 16384) = none ∨ ∃ j, occ ((hs y + t) % 16384) = some j ∧ f j = y) := by
    apply Classical.byContradiction
    intro hno
    have hall : ∀ t, t < 16384 → ∃ j, occ ((hs y + t) % 16384) = some j := by
      intro t ht
      cases ho : occ ((hs y + t) % 16384) with
      | none => exact absurd ⟨t, ht, Or.inl ho⟩ hno
      | some j => exact ⟨j, rfl⟩
    obtain ⟨i, j, hij, hj, he⟩ := pigeon 16383 (fun t => (occ ((hs y + t) % 16384)).getD 0) (by
      intro t ht
      obtain ⟨j, hj⟩ := hall t (by omega)
      show (occ ((hs y + t) % 16384)).getD 0 < 16383
      rw [hj]
      have := h1 _ j (hm t) hj
      show j < 16383
      omega)
    obtain ⟨a, ha⟩ := hall i (by omega)
    obtain ⟨c, hc⟩ := hall j (by omega)
    have he : (occ ((hs y + i) % 16384)).getD 0 = (occ ((hs y + j) % 16384)).getD 0 := he
    rw [ha, hc] at he
    have he : a = c := he
    subst he
    have := h2 _ _ a (hm i) (hm j) ha hc
    omega
  obtain ⟨t, ⟨ht, hs0⟩, hl⟩ := pk_least _ hex
  refine ⟨t, ht, fun t' ht' => ?_, ?_⟩
  · have hno := hl t' ht'
    cases ho : occ ((hs y + t') % 16384) with
    | none => exact absurd ⟨by omega, Or.inl ho⟩ hno
    | some j => exact ⟨j, h1 _ j (hm t') ho, rfl, fun e => hno ⟨by omega, Or.inr ⟨j, ho, e⟩⟩⟩
  · rcases hs0 with hs0 | ⟨j, hj, hf⟩
    · left
      refine ⟨hs0, ?_⟩
      cases hi : idx f y n with
      | none => rfl
      | some j =>
        obtain ⟨hj, hf⟩ := idx_some hi
        obtain ⟨u, hu, ho, hb⟩ := h3 j hj
        rw [hf] at ho hb
        by_cases c1 : t < u
        · exact absurd hs0 (hb t c1)
        · by_cases c2 : t = u
          · subst c2; rw [ho] at hs0; cases hs0
          · exact absurd ⟨hu, Or.inr ⟨j, ho, hf⟩⟩ (hl u (by omega))
    · right; exact ⟨j, h1 _ j (hm t) hj, hj, hf⟩
theorem HT_put {occ occ' : Nat → Option Nat} {hs f f' : Nat → Nat} {n t y : Nat} (h : HT occ hs f n) (hb : ∀ t', t' < t → occ ((hs y + t') % 16384) ≠ none) (ht : t < 16384) (ho : occ ((hs y + t) % 16384) = none)
    (h1 : occ' ((hs y + t) % 16384) = some n) (h2 : ∀ s, s < 16384 → s ≠ (hs y + t) % 16384 → occ' s = occ s) (hf : ∀ j, j < n → f' j = f j) (hy : f' n = y) : HT occ' hs f' (n + 1) := by
  obtain ⟨g1, g2, g3⟩ := h
  have hm : ∀ z t, (hs z + t) % 16384 < 16384 := fun z t => Nat.mod_lt _ (by decide)
  have hk : ∀ s, s < 16384 → occ s ≠ none → occ' s = occ s := fun s hs0 hne => h2 s hs0 (fun e => hne (by rw [e]; exact ho))
  refine ⟨fun s j hs0 hj => ?_, fun s s' j a1 a2 b1 b2 => ?_, fun j hj => ?_⟩
  · by_cases c : s = (hs y + t) % 16384
    · subst c; rw [h1] at hj; simp only [Option.some.injEq] at hj; omega
    · rw [h2 s hs0 c] at hj; have := g1 s j hs0 hj; omega
  · by_cases c : s = (hs y + t) % 16384
    · by_cases c' : s' = (hs y + t) % 16384
      · rw [c, c']
      · subst c
        rw [h1] at b1
        simp only [Option.some.injEq] at b1
        rw [h2 s' a2 c'] at b2
        have := g1 s' j a2 b2
        omega
    · by_cases c' : s' = (hs y + t) % 16384
      · subst c'
        rw [h1] at b2
        simp only [Option.some.injEq] at b2
        rw [h2 s a1 c] at b1
        have := g1 s j a1 b1
        omega
      · rw [h2 s a1 c] at b1
        rw [h2 s' a2 c'] at b2
        exact g2 s s' j a1 a2 b1 b2
  · by_cases c : j = n
    · subst c
      refine ⟨t, ht, ?_, fun t' ht' => ?_⟩
      · rw [hy]; exact h1
      · rw [hy, hk _ (hm y t') (hb t' ht')]; exact hb t' ht'
    · obtain ⟨u, hu, a1, a2⟩ := g3 j (by omega)
      refine ⟨u, hu, ?_, fun t' ht' => ?_⟩
      · rw [hf j (by omega), hk _ (hm _ u) (by rw [a1]; intro q; cases q)]; exact a1
      · rw [hf j (by omega), hk _ (hm _ t') (a2 t' ht')]; exact a2 t' ht'
