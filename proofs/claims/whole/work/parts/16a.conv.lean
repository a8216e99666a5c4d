theorem wr_1_21 : Cond.classLink RL 7 RX10 ∈ W0 := tb1 (i := 21) rfl rfl
theorem wr_1_22 : Cond.instantiable RX10 9 ∈ W0 := tb1 (i := 22) rfl rfl
theorem wr_4_159 : Cond.classLink RL 10 RX11 ∈ W0 := tb4 (i := 159) rfl rfl
theorem wr_4_160 : Cond.instantiable RX11 68 ∈ W0 := tb4 (i := 160) rfl rfl
def wds0 : Nat → Int64 := (vp_updL (vp_updL (vp_updL (vp_updL (vp_updL (vp_updL (vp_updL (vp_updL (vp_updL (fun _ => 0) (0 : Int32).toNatClampNeg (1919246692)) (1 : Int32).toNatClampNeg (513020621925)) (2 : Int32).toNatClampNeg (7370100)) (3 : Int32).toNatClampNeg (1937203568)) (4 : Int32).toNatClampNeg (6382692)) (5 : Int32).toNatClampNeg (439788397413)) (6 : Int32).toNatClampNeg (7562612)) (7 : Int32).toNatClampNeg (1801807216)) (8 : Int32).toNatClampNeg (418346264942))
def mm0 : Mm := (fun _ _ => 0, fun k => if k = 65 then wds0 else fun _ => 0)
theorem arr4 {cA : ClassId} {f f' : Nat → Option Nat} (h0 : f 0 = f' 0) (h1 : f 1 = f' 1) (h2 : f 2 = f' 2) (h3 : f 3 = f' 3) : vp_cell cA (4, .inr (.inr (.inr (.inr f)))) = vp_cell cA (4, .inr (.inr (.inr (.inr f')))) := by
  show arrV cA 4 (fun j => va_rf (f j)) = arrV cA 4 (fun j => va_rf (f' j))
  unfold arrV
  congr 1
  apply congrArg
  funext j
  match j with
  | ⟨0, _⟩ => show va_rf (f 0) = va_rf (f' 0); rw [h0]
  | ⟨1, _⟩ => show va_rf (f 1) = va_rf (f' 1); rw [h1]
  | ⟨2, _⟩ => show va_rf (f 2) = va_rf (f' 2); rw [h2]
  | ⟨3, _⟩ => show va_rf (f 3) = va_rf (f' 3); rw [h3]
def adf (qX : Nat) (uX : Nat → Nat) (qM : Nat) (uM : Nat → Nat) : Nat → Nat := fun k => ([qX, (uX 1), (uX 2), (uX 3), (uX 4), (uX 5), (uX 6), (uX 7), (uX 8), (uX 9), (uX 10), (uX 11), (uX 12), (uX 13), (uX 14), (uX 15), (uX 16), (uX 17), (uX 18), (uX 19), (uX 20), (uX 21), (uX 22), (uX 23), (uX 24), (uX 25), (uX 26), (uX 27), (uX 28), (uX 29), (uX 30), (uX 31), (uX 32), (uX 33), (uX 34), (uX 35), (uX 36), (uX 37), (uX 38), (uX 39), (uX 40), (uX 41), (uX 42), (uX 43), (uX 44), (uX 45), (uX 46), (uX 47), qM, (uM 1), (uM 2), (uM 3), (uM 4), (uM 5), (uM 6), (uM 7), (uM 8), (uM 9), (uM 10), (uM 11), (uM 12), (uM 13), (uM 14), (uM 15), (uM 16), (uM 17), (uM 18), (uM 19), (uM 20), (uM 21), (uM 22), (uM 23), (uM 24), (uM 25), (uM 26), (uM 27), (uM 28), (uM 29), (uM 30), (uM 31), (uM 32), (uM 33), (uM 34), (uM 35), (uM 36), (uM 37), (uM 38), (uM 39), (uM 40), (uM 41), (uM 42), (uM 43), (uM 44), (uM 45), (uM 46)] : List Nat).getD k 0
def caf (vX vM : Nat → ClassId) : Nat → ClassId := fun k => ([0, 0, (vX 0), 0, 0, (vX 1), 0, 0, (vX 2), (vX 3), (vX 4), (vX 5), (vX 6), 0, (vX 7), (vX 8), (vX 9), (vX 10), 0, (vX 11), (vX 12), (vX 13), (vX 14), (vX 15), (vX 16), (vX 17), 0, (vX 18), 0, (vX 19), (vX 20), 0, (vX 21), (vX 22), (vX 23), (vX 24), (vX 25), 0, (vX 26), (vX 27), 0, (vX 28), 0, (vX 29), 0, (vX 30), 0, (vX 31), 0, (vM 0), (vM 1), (vM 2), (vM 3), (vM 4), (vM 5), (vM 6), (vM 7), (vM 8), (vM 9), (vM 10), (vM 11), (vM 12), (vM 13), (vM 14), (vM 15), (vM 16), (vM 17), (vM 18), (vM 19), (vM 20), (vM 21), (vM 22), (vM 23), (vM 24), (vM 25), (vM 26), (vM 27), (vM 28), (vM 29), (vM 30), (vM 31), (vM 32), (vM 33), (vM 34), (vM 35), (vM 36), (vM 37), (vM 38), (vM 39), (vM 40), (vM 41), (vM 42), (vM 43), (vM 44), (vM 45)] : List ClassId).getD k 0
theorem vaP_of {E : En} {σ : Mm} {H : Heap} (h : ∀ (k : Nat) (d : Ly), lay[k]? = some d → va_at (dD E) vwCl (ad E k, cE E σ k d) H) : va_P (dD E) vwCl (wd E σ) H := by
  intro k q hq
  cases hd : lay[k]? with
  | none =>
    unfold wd at hq
    rw [List.getElem?_mapIdx, hd] at hq
    cases hq
  | some d =>
    rw [wd_at hd] at hq
    cases hq
    exact h k d hd
theorem vaD_of {E : En} {σ : Mm} {A : Nat → Prop} {ws : va_W} (hD : va_D A ws) (h : ∀ (k : Nat) (d : Ly), lay[k]? = some d → ∃ e : va_E, ws[k]? = some (ad E k, e)) : va_D A (wd E σ) := by
  have g : ∀ (k : Nat) (q : Nat × va_E), (wd E σ)[k]? = some q → ∃ e : va_E, ws[k]? = some (q.1, e) := by
    intro k q hq
    cases hd : lay[k]? with
    | none =>
      unfold wd at hq
      rw [List.getElem?_mapIdx, hd] at hq
      cases hq
    | some d =>
      rw [wd_at hd] at hq
      cases hq
      exact h k d hd
  refine ⟨fun i j p q hi hj e => ?_, fun k q hk => ?_⟩
  · obtain ⟨e1, h1⟩ := g i p hi
    obtain ⟨e2, h2⟩ := g j q hj
    exact hD.1 i j _ _ h1 h2 e
  · obtain ⟨e1, h1⟩ := g k q hk
    exact hD.2 k (q.1, e1) h1
theorem vaK_of {E : En} {U : State} {tys : List (ClassId × FieldType)} (hK : va_K (dD E) vwCl tys U) (h : ∀ (k : Nat) (d : Ly), lay[k]? = some d → ∃ j : Nat, tys[j]? = some (match d with | .inl (t, _) => (cA E k, tyO t) | .inr _ => (cA E 2, FieldType.int))) : va_K (dD E) vwCl (tyl E) U := by
  refine ⟨hK.1, fun k q hq => ?_⟩
  cases hd : lay[k]? with
  | none =>
    unfold tyl at hq
    rw [List.getElem?_mapIdx, hd] at hq
    cases hq
  | some d =>
    obtain ⟨j, hj⟩ := h k d hd
    unfold tyl at hq
    rw [List.getElem?_mapIdx, hd] at hq
    cases hq
    exact hK.2 j _ hj
theorem mi_at {E : En} {σ : Mm} {k j : Nat} {fs : List (Option (Option Nat))} {f : Option (Option Nat)} (h : fs[j]? = some f) : vp_V (fs.mapIdx (fun j f => fv E σ k j f)) j = fv E σ k j f := by
  unfold vp_V
  rw [List.getD_eq_getElem?_getD, List.getElem?_mapIdx, h]
  rfl
theorem ob_mi {o : Nat} {cC : ClassId} {N : Nat} {iS : Nat → Nat} {H : Heap} {V : Nat → Value} {E : En} {σ : Mm} {k : Nat} {fs : List (Option (Option Nat))} (h : t_OB o cC N iS H V) (hv : ∀ (j : Nat) (f : Option (Option Nat)), fs[j]? = some f → j < N → V j = fv E σ k j f) (hlen : ∀ j, j < N → ∃ f, fs[j]? = some f) : t_OB o cC N iS H (vp_V (fs.mapIdx (fun j f => fv E σ k j f))) := h.to (fun j hj => by
  obtain ⟨f, hf⟩ := hlen j hj
  rw [mi_at hf]
  exact hv j f hf hj)
def fsM : List (Option (Option Nat)) := [none, some (some 49), some (some 50), some (some 51), some (some 52), some (some 53), some (some 54), none, some (some 55), some (some 56), some (some 57), none, some (some 58), none, some (some 59), none, none, none, none, some (some 60), some (some 61), some (some 62), some (some 63), some (some 64), none, none, none, none, none, some (some 65), some (some 66), some (some 67), some (some 68), some (some 69), some (some 70), some (some 71), some (some 72), none, some (some 73), some (some 74), some (some 75), some (some 76), some (some 77), some (some 78), some (some 79), some (some 80), some (some 81), none, none, none, none, some (some 82), some (some 83), some (some 84), some (some 85), some (some 86), some (some 87), some (some 88), none, some (some 89), none, some (some 90), some (some 91), none, some (some 92), some (some 93), none, some (some 94)]
theorem va_at_inr {D : va_G} {cl : List vw_C} {a ci N : Nat} {fs : List Value} {H : Heap} {C : String} {T : u_T} (hc : cl[ci]? = some (C, T, N)) (h : t_OB a (D.1 ci) N (D.2 ci) H (vp_V fs)) : va_at D cl (a, .inr (ci, fs)) H := ⟨_, hc, h⟩
set_option maxHeartbeats 1000000 in
set_option maxRecDepth 100000 in
theorem wd48a {l : Launch} {sz qX qM : Nat} {uX uM : Nat → Nat} {vX vM dC : Nat → ClassId} {dI : Nat → Nat → Nat} {zS kS vS : Nat → Nat} {H : Heap} (hP : va_P (dC, dI) vwCl (wC10 qX uX vX ++ wC11 qM uM vM) H) : t_OB qM (dC 11) 68 (dI 11) H (vp_V (fsM.mapIdx (fun j f => fv (l, sz, adf qX uX qM uM, caf vX vM, dC, dI, zS, kS, vS) mm0 48 j f))) := by
  obtain ⟨r, hr, ht⟩ := hP 48 _ rfl
  have hr1 := Option.some.inj (show some (RX11, TX11, 68) = some r from hr)
  subst hr1
  refine ob_mi (fs := fsM) ht (fun j f hf hj => ?_) (fun j hj => ⟨_, List.getElem?_eq_getElem (by simpa [fsM] using hj)⟩)
  have hj : j < 68 := hj
  match j, hf, hj with
  | 0, hf, _ => have hf := Option.some.inj (show some (none) = some f from hf); subst hf; rfl
  | 1, hf, _ => have hf := Option.some.inj (show some (some (some 49)) = some f from hf); subst hf; rfl
  | 2, hf, _ => have hf := Option.some.inj (show some (some (some 50)) = some f from hf); subst hf; rfl
  | 3, hf, _ => have hf := Option.some.inj (show some (some (some 51)) = some f from hf); subst hf; rfl
  | 4, hf, _ => have hf := Option.some.inj (show some (some (some 52)) = some f from hf); subst hf; rfl
  | 5, hf, _ => have hf := Option.some.inj (show some (some (some 53)) = some f from hf); subst hf; rfl
  | 6, hf, _ => have hf := Option.some.inj (show some (some (some 54)) = some f from hf); subst hf; rfl
  | 7, hf, _ => have hf := Option.some.inj (show some (none) = some f from hf); subst hf; rfl
  | 8, hf, _ => have hf := Option.some.inj (show some (some (some 55)) = some f from hf); subst hf; rfl
  | 9, hf, _ => have hf := Option.some.inj (show some (some (some 56)) = some f from hf); subst hf; rfl
  | 10, hf, _ => have hf := Option.some.inj (show some (some (some 57)) = some f from hf); subst hf; rfl
  | 11, hf, _ => have hf := Option.some.inj (show some (none) = some f from hf); subst hf; rfl
  | 12, hf, _ => have hf := Option.some.inj (show some (some (some 58)) = some f from hf); subst hf; rfl
  | 13, hf, _ => have hf := Option.some.inj (show some (none) = some f from hf); subst hf; rfl
  | 14, hf, _ => have hf := Option.some.inj (show some (some (some 59)) = some f from hf); subst hf; rfl
  | 15, hf, _ => have hf := Option.some.inj (show some (none) = some f from hf); subst hf; rfl
  | 16, hf, _ => have hf := Option.some.inj (show some (none) = some f from hf); subst hf; rfl
  | 17, hf, _ => have hf := Option.some.inj (show some (none) = some f from hf); subst hf; rfl
  | 18, hf, _ => have hf := Option.some.inj (show some (none) = some f from hf); subst hf; rfl
  | 19, hf, _ => have hf := Option.some.inj (show some (some (some 60)) = some f from hf); subst hf; rfl
  | 20, hf, _ => have hf := Option.some.inj (show some (some (some 61)) = some f from hf); subst hf; rfl
  | 21, hf, _ => have hf := Option.some.inj (show some (some (some 62)) = some f from hf); subst hf; rfl
  | 22, hf, _ => have hf := Option.some.inj (show some (some (some 63)) = some f from hf); subst hf; rfl
  | 23, hf, _ => have hf := Option.some.inj (show some (some (some 64)) = some f from hf); subst hf; rfl
  | 24, hf, _ => have hf := Option.some.inj (show some (none) = some f from hf); subst hf; rfl
  | 25, hf, _ => have hf := Option.some.inj (show some (none) = some f from hf); subst hf; rfl
  | 26, hf, _ => have hf := Option.some.inj (show some (none) = some f from hf); subst hf; rfl
  | 27, hf, _ => have hf := Option.some.inj (show some (none) = some f from hf); subst hf; rfl
  | 28, hf, _ => have hf := Option.some.inj (show some (none) = some f from hf); subst hf; rfl
  | 29, hf, _ => have hf := Option.some.inj (show some (some (some 65)) = some f from hf); subst hf; rfl
  | 30, hf, _ => have hf := Option.some.inj (show some (some (some 66)) = some f from hf); subst hf; rfl
  | 31, hf, _ => have hf := Option.some.inj (show some (some (some 67)) = some f from hf); subst hf; rfl
  | 32, hf, _ => have hf := Option.some.inj (show some (some (some 68)) = some f from hf); subst hf; rfl
  | 33, hf, _ => have hf := Option.some.inj (show some (some (some 69)) = some f from hf); subst hf; rfl
  | 34, hf, _ => have hf := Option.some.inj (show some (some (some 70)) = some f from hf); subst hf; rfl
  | 35, hf, _ => have hf := Option.some.inj (show some (some (some 71)) = some f from hf); subst hf; rfl
  | 36, hf, _ => have hf := Option.some.inj (show some (some (some 72)) = some f from hf); subst hf; rfl
  | 37, hf, _ => have hf := Option.some.inj (show some (none) = some f from hf); subst hf; rfl
  | 38, hf, _ => have hf := Option.some.inj (show some (some (some 73)) = some f from hf); subst hf; rfl
  | 39, hf, _ => have hf := Option.some.inj (show some (some (some 74)) = some f from hf); subst hf; rfl
  | 40, hf, _ => have hf := Option.some.inj (show some (some (some 75)) = some f from hf); subst hf; rfl
  | 41, hf, _ => have hf := Option.some.inj (show some (some (some 76)) = some f from hf); subst hf; rfl
  | 42, hf, _ => have hf := Option.some.inj (show some (some (some 77)) = some f from hf); subst hf; rfl
  | 43, hf, _ => have hf := Option.some.inj (show some (some (some 78)) = some f from hf); subst hf; rfl
  | 44, hf, _ => have hf := Option.some.inj (show some (some (some 79)) = some f from hf); subst hf; rfl
  | 45, hf, _ => have hf := Option.some.inj (show some (some (some 80)) = some f from hf); subst hf; rfl
  | 46, hf, _ => have hf := Option.some.inj (show some (some (some 81)) = some f from hf); subst hf; rfl
  | 47, hf, _ => have hf := Option.some.inj (show some (none) = some f from hf); subst hf; rfl
  | 48, hf, _ => have hf := Option.some.inj (show some (none) = some f from hf); subst hf; rfl
  | 49, hf, _ => have hf := Option.some.inj (show some (none) = some f from hf); subst hf; rfl
  | 50, hf, _ => have hf := Option.some.inj (show some (none) = some f from hf); subst hf; rfl
  | 51, hf, _ => have hf := Option.some.inj (show some (some (some 82)) = some f from hf); subst hf; rfl
  | 52, hf, _ => have hf := Option.some.inj (show some (some (some 83)) = some f from hf); subst hf; rfl
  | 53, hf, _ => have hf := Option.some.inj (show some (some (some 84)) = some f from hf); subst hf; rfl
  | 54, hf, _ => have hf := Option.some.inj (show some (some (some 85)) = some f from hf); subst hf; rfl
  | 55, hf, _ => have hf := Option.some.inj (show some (some (some 86)) = some f from hf); subst hf; rfl
  | 56, hf, _ => have hf := Option.some.inj (show some (some (some 87)) = some f from hf); subst hf; rfl
  | 57, hf, _ => have hf := Option.some.inj (show some (some (some 88)) = some f from hf); subst hf; rfl
  | 58, hf, _ => have hf := Option.some.inj (show some (none) = some f from hf); subst hf; rfl
  | 59, hf, _ => have hf := Option.some.inj (show some (some (some 89)) = some f from hf); subst hf; rfl
  | 60, hf, _ => have hf := Option.some.inj (show some (none) = some f from hf); subst hf; rfl
  | 61, hf, _ => have hf := Option.some.inj (show some (some (some 90)) = some f from hf); subst hf; rfl
  | 62, hf, _ => have hf := Option.some.inj (show some (some (some 91)) = some f from hf); subst hf; rfl
  | 63, hf, _ => have hf := Option.some.inj (show some (none) = some f from hf); subst hf; rfl
  | 64, hf, _ => have hf := Option.some.inj (show some (some (some 92)) = some f from hf); subst hf; rfl
  | 65, hf, _ => have hf := Option.some.inj (show some (some (some 93)) = some f from hf); subst hf; rfl
  | 66, hf, _ => have hf := Option.some.inj (show some (none) = some f from hf); subst hf; rfl
  | 67, hf, _ => have hf := Option.some.inj (show some (some (some 94)) = some f from hf); subst hf; rfl
  | k + 68, _, h => exact absurd h (by omega)
theorem ad48 {l : Launch} {sz qX qM : Nat} {uX uM : Nat → Nat} {vX vM dC : Nat → ClassId} {dI : Nat → Nat → Nat} {zS kS vS : Nat → Nat} : ad (l, sz, adf qX uX qM uM, caf vX vM, dC, dI, zS, kS, vS) 48 = qM := rfl
set_option maxHeartbeats 400000 in
set_option maxRecDepth 100000 in
theorem wd48 {l : Launch} {sz qX qM : Nat} {uX uM : Nat → Nat} {vX vM dC : Nat → ClassId} {dI : Nat → Nat → Nat} {zS kS vS : Nat → Nat} {H : Heap} (hP : va_P (dC, dI) vwCl (wC10 qX uX vX ++ wC11 qM uM vM) H) : va_at (dC, dI) vwCl (ad (l, sz, adf qX uX qM uM, caf vX vM, dC, dI, zS, kS, vS) 48, .inr (11, fsM.mapIdx (fun j f => fv (l, sz, adf qX uX qM uM, caf vX vM, dC, dI, zS, kS, vS) mm0 48 j f))) H := by
  rw [ad48]
  exact va_at_inr (C := RX11) (T := TX11) (N := 68) rfl (wd48a hP)
