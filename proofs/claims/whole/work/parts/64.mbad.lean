/-! PURE: the reference tries a set of fences -/
def bwA (S : Su) (X : Nat → Bool) : Int32 := if big (PgOf S X) = true then (-1000000007 : Int32) else if cbd (ords S noX) (ends (PgOf S X)) = 0 then nI 0 else nI 1
def K7 (σ τ : Mm) : Prop := ∀ j, j ≠ 47 → j ≠ 50 → j ≠ 58 → j ≠ 60 → τ.1 48 j = σ.1 48 j
theorem badWith_eq {S : Su} {W : List Nat} {st : Nat} {σ : Mm} (hS : SuV S) (hC : SeM S σ) (hW : Wok W 42) (hM : WrM W σ) (hs : st < 64) :
    ∃ σ', f_X11_badWith (nI st) σ = some (bwA S (XF W st), σ') ∧ K7 σ σ' ∧ Fr laL σ σ' := by
  have hFX := FX_W (st := st) hS hW
  have hP := PgOf_V hS hFX
  obtain ⟨τ, υ, e1, e2, e3, e4, e5⟩ := mgo_eq (st := st) hS hW hM hC hs
  have h90 := ords_90 hS
  have hFl : Fr laL σ τ := e5.mo (by intro k hk; revert k; decide)
  unfold f_X11_badWith bwA
  rw [e1, p_bd]
  cases hb : big (PgOf S (XF W st)) with
  | true =>
    rw [show bI (!true) = nI 0 from bI_f, if_pos (show nI 0 = 0 from rfl), if_pos rfl]
    exact ⟨τ, rfl, fun j j1 j2 _ _ => e4 j j1 j2, hFl⟩
  | false =>
    have hn6 : ¬ 6000 < bN (bEnd (PgOf S (XF W st))) := of_decide_eq_false hb
    have e2' := e2.1.resolve_right hn6
    obtain ⟨m1, m2, m3, m4⟩ := e2'
    obtain ⟨ρ, r1, r2, r3, r4, r5⟩ := findResults_eq (P := PgOf S (XF W st)) (σ := τ) (n := bN (bEnd (PgOf S (XF W st)))) (F := bF (bEnd (PgOf S (XF W st)))) hP m2.2.1 m1 m4
    have hFr : Fr laL σ ρ := hFl.tr (r5.mo (by intro k hk; revert k; decide))
    have hKr : K7 σ ρ := fun j j1 j2 j3 j4 => by rw [r4 j j3]; exact e4 j j1 j2
    have hDr : LyD S (XF W st) (sK S) ρ := LyD_of e3 (r5.r1 66 (by decide)) (r5.r1 67 (by decide)) (r5.r1 68 (by decide)) (r5.r1 69 (by decide)) (r5.r1 70 (by decide)) (r5.r1 71 (by decide))
    obtain ⟨ρ', g1, g2, g3, g4, g5⟩ := findGoods_eq hS hFX (SeM_la hC hFr (fun j j1 _ _ j4 j5 j6 => hKr j j1 j4 j5 j6)) hDr
    have hE : EdM (ends (PgOf S (XF W st))) ρ' := by
      refine ⟨RoM_of r2 (g5.r1 88 (by decide)), by rw [g4 58 (by decide) (by decide), r3]; rfl, ?_⟩
      have := (er_ok hP (bF (bEnd (PgOf S (XF W st)))) (bN (bEnd (PgOf S (XF W st))))).2.2
      unfold ends
      omega
    have hcb := cbd_le (ords S noX) (ends (PgOf S (XF W st)))
    have hl6 := hE.2.2
    rw [show bI (!false) = nI 1 from bI_t, if_neg (show ¬ nI 1 = 0 by decide), r1, p_bd, g1, p_bd, badMany_eq hE ⟨g2, g3, h90⟩, p_bd, if_neg (show ¬ false = true by decide)]
    have hK' : K7 σ ρ' := fun j j1 j2 j3 j4 => by rw [g4 j j1 j4]; exact hKr j j1 j2 j3 j4
    have hF' : Fr laL σ ρ' := hFr.tr (g5.mo (by intro k hk; revert k; decide))
    by_cases c : cbd (ords S noX) (ends (PgOf S (XF W st))) = 0
    · rw [if_pos c, c, if_pos (show nI 0 = 0 from rfl)]
      exact ⟨ρ', rfl, hK', hF'⟩
    · rw [if_neg c, qi_0, i_ne (by omega) (by omega) c]
      exact ⟨ρ', rfl, hK', hF'⟩
