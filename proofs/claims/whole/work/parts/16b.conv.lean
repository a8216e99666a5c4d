set_option maxHeartbeats 4000000 in
set_option maxRecDepth 100000 in
theorem wdP_start {l : Launch} {sz qX qM : Nat} {uX uM : Nat → Nat} {vX vM dC : Nat → ClassId} {dI : Nat → Nat → Nat} {zS kS vS : Nat → Nat} {H : Heap} (hP : va_P (dC, dI) vwCl (wC10 qX uX vX ++ wC11 qM uM vM) H) : va_P (dC, dI) vwCl (wd (l, sz, adf qX uX qM uM, caf vX vM, dC, dI, zS, kS, vS) mm0) H := by
  refine vaP_of (E := (l, sz, adf qX uX qM uM, caf vX vM, dC, dI, zS, kS, vS)) (fun k d hk => ?_)
  have h39 : va_at (dC, dI) vwCl (uX 39, .inl ((vX 27), 4, .inr (.inr (.inr (.inr (fun i => some (adf qX uX qM uM (39 + 1 + 2 * i)))))))) H := by
    have h := hP 39 _ rfl
    refine Eq.trans h ?_
    exact congrArg some (arr4 rfl rfl rfl rfl)
  match k, hk with
  | 0, hk => have hk := Option.some.inj (show some (.inr (10, [some (some 1), some (some 3), some (some 4), some (some 6), some (some 7), some (some 31), none, some (some 37), some (some 39)]) : Ly) = some d from hk); subst hk; exact hP 0 _ rfl
  | 1, hk => have hk := Option.some.inj (show some (.inr (0, [some (some 2), none]) : Ly) = some d from hk); subst hk; exact hP 1 _ rfl
  | 2, hk => have hk := Option.some.inj (show some (.inl (0, 7) : Ly) = some d from hk); subst hk; exact hP 2 _ rfl
  | 3, hk => have hk := Option.some.inj (show some (.inr (3, [some (some 4), none, none, none, none]) : Ly) = some d from hk); subst hk; exact hP 3 _ rfl
  | 4, hk => have hk := Option.some.inj (show some (.inr (8, [some (some 5), none]) : Ly) = some d from hk); subst hk; exact hP 4 _ rfl
  | 5, hk => have hk := Option.some.inj (show some (.inl (0, 120) : Ly) = some d from hk); subst hk; exact hP 5 _ rfl
  | 6, hk => have hk := Option.some.inj (show some (.inr (7, [some (some 7), some (some 13), some (some 18), some (some 26), some (some 28), some (some 30), none, none]) : Ly) = some d from hk); subst hk; exact hP 6 _ rfl
  | 7, hk => have hk := Option.some.inj (show some (.inr (5, [none, some (some 8), some (some 9), none, some (some 10), some (some 11), some (some 12), none]) : Ly) = some d from hk); subst hk; exact hP 7 _ rfl
  | 8, hk => have hk := Option.some.inj (show some (.inl (0, 6) : Ly) = some d from hk); subst hk; exact hP 8 _ rfl
  | 9, hk => have hk := Option.some.inj (show some (.inl (0, 210) : Ly) = some d from hk); subst hk; exact hP 9 _ rfl
  | 10, hk => have hk := Option.some.inj (show some (.inl (0, 3) : Ly) = some d from hk); subst hk; exact hP 10 _ rfl
  | 11, hk => have hk := Option.some.inj (show some (.inl (0, 3) : Ly) = some d from hk); subst hk; exact hP 11 _ rfl
  | 12, hk => have hk := Option.some.inj (show some (.inl (0, 3) : Ly) = some d from hk); subst hk; exact hP 12 _ rfl
  | 13, hk => have hk := Option.some.inj (show some (.inr (1, [none, none, some none, some (some 14), some (some 15), some (some 16), some (some 17)]) : Ly) = some d from hk); subst hk; exact hP 13 _ rfl
  | 14, hk => have hk := Option.some.inj (show some (.inl (0, 390) : Ly) = some d from hk); subst hk; exact hP 14 _ rfl
  | 15, hk => have hk := Option.some.inj (show some (.inl (0, 7) : Ly) = some d from hk); subst hk; exact hP 15 _ rfl
  | 16, hk => have hk := Option.some.inj (show some (.inl (0, 3) : Ly) = some d from hk); subst hk; exact hP 16 _ rfl
  | 17, hk => have hk := Option.some.inj (show some (.inl (0, 3) : Ly) = some d from hk); subst hk; exact hP 17 _ rfl
  | 18, hk => have hk := Option.some.inj (show some (.inr (9, [some (some 19), some (some 20), some (some 21), some (some 22), some (some 23), some (some 24), some (some 25), none, none]) : Ly) = some d from hk); subst hk; exact hP 18 _ rfl
  | 19, hk => have hk := Option.some.inj (show some (.inl (2, 6000) : Ly) = some d from hk); subst hk; exact hP 19 _ rfl
  | 20, hk => have hk := Option.some.inj (show some (.inl (0, 16384) : Ly) = some d from hk); subst hk; exact hP 20 _ rfl
  | 21, hk => have hk := Option.some.inj (show some (.inl (0, 6000) : Ly) = some d from hk); subst hk; exact hP 21 _ rfl
  | 22, hk => have hk := Option.some.inj (show some (.inl (0, 6000) : Ly) = some d from hk); subst hk; exact hP 22 _ rfl
  | 23, hk => have hk := Option.some.inj (show some (.inl (0, 36000) : Ly) = some d from hk); subst hk; exact hP 23 _ rfl
  | 24, hk => have hk := Option.some.inj (show some (.inl (0, 6000) : Ly) = some d from hk); subst hk; exact hP 24 _ rfl
  | 25, hk => have hk := Option.some.inj (show some (.inl (0, 6000) : Ly) = some d from hk); subst hk; exact hP 25 _ rfl
  | 26, hk => have hk := Option.some.inj (show some (.inr (4, [some (some 27), none]) : Ly) = some d from hk); subst hk; exact hP 26 _ rfl
  | 27, hk => have hk := Option.some.inj (show some (.inl (0, 6000) : Ly) = some d from hk); subst hk; exact hP 27 _ rfl
  | 28, hk => have hk := Option.some.inj (show some (.inr (4, [some (some 29), none]) : Ly) = some d from hk); subst hk; exact hP 28 _ rfl
  | 29, hk => have hk := Option.some.inj (show some (.inl (0, 90) : Ly) = some d from hk); subst hk; exact hP 29 _ rfl
  | 30, hk => have hk := Option.some.inj (show some (.inl (0, 6) : Ly) = some d from hk); subst hk; exact hP 30 _ rfl
  | 31, hk => have hk := Option.some.inj (show some (.inr (5, [none, some (some 32), some (some 33), none, some (some 34), some (some 35), some (some 36), none]) : Ly) = some d from hk); subst hk; exact hP 31 _ rfl
  | 32, hk => have hk := Option.some.inj (show some (.inl (0, 6) : Ly) = some d from hk); subst hk; exact hP 32 _ rfl
  | 33, hk => have hk := Option.some.inj (show some (.inl (0, 210) : Ly) = some d from hk); subst hk; exact hP 33 _ rfl
  | 34, hk => have hk := Option.some.inj (show some (.inl (0, 3) : Ly) = some d from hk); subst hk; exact hP 34 _ rfl
  | 35, hk => have hk := Option.some.inj (show some (.inl (0, 3) : Ly) = some d from hk); subst hk; exact hP 35 _ rfl
  | 36, hk => have hk := Option.some.inj (show some (.inl (0, 3) : Ly) = some d from hk); subst hk; exact hP 36 _ rfl
  | 37, hk => have hk := Option.some.inj (show some (.inr (2, [some (some 38), some none, none, none]) : Ly) = some d from hk); subst hk; exact hP 37 _ rfl
  | 38, hk => have hk := Option.some.inj (show some (.inl (0, 3) : Ly) = some d from hk); subst hk; exact hP 38 _ rfl
  | 39, hk => have hk := Option.some.inj (show some (.inl (3, 4) : Ly) = some d from hk); subst hk; exact h39
  | 40, hk => have hk := Option.some.inj (show some (.inr (6, [none, none, some (some 41)]) : Ly) = some d from hk); subst hk; exact hP 40 _ rfl
  | 41, hk => have hk := Option.some.inj (show some (.inl (2, 40) : Ly) = some d from hk); subst hk; exact hP 41 _ rfl
  | 42, hk => have hk := Option.some.inj (show some (.inr (6, [none, none, some (some 43)]) : Ly) = some d from hk); subst hk; exact hP 42 _ rfl
  | 43, hk => have hk := Option.some.inj (show some (.inl (2, 40) : Ly) = some d from hk); subst hk; exact hP 43 _ rfl
  | 44, hk => have hk := Option.some.inj (show some (.inr (6, [none, none, some (some 45)]) : Ly) = some d from hk); subst hk; exact hP 44 _ rfl
  | 45, hk => have hk := Option.some.inj (show some (.inl (2, 40) : Ly) = some d from hk); subst hk; exact hP 45 _ rfl
  | 46, hk => have hk := Option.some.inj (show some (.inr (6, [none, none, some (some 47)]) : Ly) = some d from hk); subst hk; exact hP 46 _ rfl
  | 47, hk => have hk := Option.some.inj (show some (.inl (2, 40) : Ly) = some d from hk); subst hk; exact hP 47 _ rfl
  | 48, hk => have hk := Option.some.inj (show some (.inr (11, [none, some (some 49), some (some 50), some (some 51), some (some 52), some (some 53), some (some 54), none, some (some 55), some (some 56), some (some 57), none, some (some 58), none, some (some 59), none, none, none, none, some (some 60), some (some 61), some (some 62), some (some 63), some (some 64), none, none, none, none, none, some (some 65), some (some 66), some (some 67), some (some 68), some (some 69), some (some 70), some (some 71), some (some 72), none, some (some 73), some (some 74), some (some 75), some (some 76), some (some 77), some (some 78), some (some 79), some (some 80), some (some 81), none, none, none, none, some (some 82), some (some 83), some (some 84), some (some 85), some (some 86), some (some 87), some (some 88), none, some (some 89), none, some (some 90), some (some 91), none, some (some 92), some (some 93), none, some (some 94)]) : Ly) = some d from hk); subst hk; exact wd48 hP
  | 49, hk => have hk := Option.some.inj (show some (.inl (0, 6) : Ly) = some d from hk); subst hk; exact hP 49 _ rfl
  | 50, hk => have hk := Option.some.inj (show some (.inl (0, 42) : Ly) = some d from hk); subst hk; exact hP 50 _ rfl
  | 51, hk => have hk := Option.some.inj (show some (.inl (0, 42) : Ly) = some d from hk); subst hk; exact hP 51 _ rfl
  | 52, hk => have hk := Option.some.inj (show some (.inl (0, 42) : Ly) = some d from hk); subst hk; exact hP 52 _ rfl
  | 53, hk => have hk := Option.some.inj (show some (.inl (0, 42) : Ly) = some d from hk); subst hk; exact hP 53 _ rfl
  | 54, hk => have hk := Option.some.inj (show some (.inl (0, 42) : Ly) = some d from hk); subst hk; exact hP 54 _ rfl
  | 55, hk => have hk := Option.some.inj (show some (.inl (0, 6) : Ly) = some d from hk); subst hk; exact hP 55 _ rfl
  | 56, hk => have hk := Option.some.inj (show some (.inl (0, 3) : Ly) = some d from hk); subst hk; exact hP 56 _ rfl
  | 57, hk => have hk := Option.some.inj (show some (.inl (0, 3) : Ly) = some d from hk); subst hk; exact hP 57 _ rfl
  | 58, hk => have hk := Option.some.inj (show some (.inl (0, 120) : Ly) = some d from hk); subst hk; exact hP 58 _ rfl
  | 59, hk => have hk := Option.some.inj (show some (.inl (0, 7) : Ly) = some d from hk); subst hk; exact hP 59 _ rfl
  | 60, hk => have hk := Option.some.inj (show some (.inl (0, 234) : Ly) = some d from hk); subst hk; exact hP 60 _ rfl
  | 61, hk => have hk := Option.some.inj (show some (.inl (0, 4) : Ly) = some d from hk); subst hk; exact hP 61 _ rfl
  | 62, hk => have hk := Option.some.inj (show some (.inl (0, 4) : Ly) = some d from hk); subst hk; exact hP 62 _ rfl
  | 63, hk => have hk := Option.some.inj (show some (.inl (2, 160) : Ly) = some d from hk); subst hk; exact hP 63 _ rfl
  | 64, hk => have hk := Option.some.inj (show some (.inl (2, 40) : Ly) = some d from hk); subst hk; exact hP 64 _ rfl
  | 65, hk => have hk := Option.some.inj (show some (.inl (2, 9) : Ly) = some d from hk); subst hk; exact hP 65 _ rfl
  | 66, hk => have hk := Option.some.inj (show some (.inl (0, 6) : Ly) = some d from hk); subst hk; exact hP 66 _ rfl
  | 67, hk => have hk := Option.some.inj (show some (.inl (0, 84) : Ly) = some d from hk); subst hk; exact hP 67 _ rfl
  | 68, hk => have hk := Option.some.inj (show some (.inl (0, 84) : Ly) = some d from hk); subst hk; exact hP 68 _ rfl
  | 69, hk => have hk := Option.some.inj (show some (.inl (0, 84) : Ly) = some d from hk); subst hk; exact hP 69 _ rfl
  | 70, hk => have hk := Option.some.inj (show some (.inl (0, 84) : Ly) = some d from hk); subst hk; exact hP 70 _ rfl
  | 71, hk => have hk := Option.some.inj (show some (.inl (0, 84) : Ly) = some d from hk); subst hk; exact hP 71 _ rfl
  | 72, hk => have hk := Option.some.inj (show some (.inl (0, 6) : Ly) = some d from hk); subst hk; exact hP 72 _ rfl
  | 73, hk => have hk := Option.some.inj (show some (.inl (0, 7) : Ly) = some d from hk); subst hk; exact hP 73 _ rfl
  | 74, hk => have hk := Option.some.inj (show some (.inl (0, 3) : Ly) = some d from hk); subst hk; exact hP 74 _ rfl
  | 75, hk => have hk := Option.some.inj (show some (.inl (0, 3) : Ly) = some d from hk); subst hk; exact hP 75 _ rfl
  | 76, hk => have hk := Option.some.inj (show some (.inl (0, 3) : Ly) = some d from hk); subst hk; exact hP 76 _ rfl
  | 77, hk => have hk := Option.some.inj (show some (.inl (0, 3) : Ly) = some d from hk); subst hk; exact hP 77 _ rfl
  | 78, hk => have hk := Option.some.inj (show some (.inl (0, 3) : Ly) = some d from hk); subst hk; exact hP 78 _ rfl
  | 79, hk => have hk := Option.some.inj (show some (.inl (0, 3) : Ly) = some d from hk); subst hk; exact hP 79 _ rfl
  | 80, hk => have hk := Option.some.inj (show some (.inl (0, 6) : Ly) = some d from hk); subst hk; exact hP 80 _ rfl
  | 81, hk => have hk := Option.some.inj (show some (.inl (0, 6) : Ly) = some d from hk); subst hk; exact hP 81 _ rfl
  | 82, hk => have hk := Option.some.inj (show some (.inl (2, 6001) : Ly) = some d from hk); subst hk; exact hP 82 _ rfl
  | 83, hk => have hk := Option.some.inj (show some (.inl (0, 36006) : Ly) = some d from hk); subst hk; exact hP 83 _ rfl
  | 84, hk => have hk := Option.some.inj (show some (.inl (0, 6001) : Ly) = some d from hk); subst hk; exact hP 84 _ rfl
  | 85, hk => have hk := Option.some.inj (show some (.inl (0, 16384) : Ly) = some d from hk); subst hk; exact hP 85 _ rfl
  | 86, hk => have hk := Option.some.inj (show some (.inl (1, 6001) : Ly) = some d from hk); subst hk; exact hP 86 _ rfl
  | 87, hk => have hk := Option.some.inj (show some (.inl (0, 6001) : Ly) = some d from hk); subst hk; exact hP 87 _ rfl
  | 88, hk => have hk := Option.some.inj (show some (.inl (0, 6001) : Ly) = some d from hk); subst hk; exact hP 88 _ rfl
  | 89, hk => have hk := Option.some.inj (show some (.inl (0, 128) : Ly) = some d from hk); subst hk; exact hP 89 _ rfl
  | 90, hk => have hk := Option.some.inj (show some (.inl (2, 7) : Ly) = some d from hk); subst hk; exact hP 90 _ rfl
  | 91, hk => have hk := Option.some.inj (show some (.inl (0, 6001) : Ly) = some d from hk); subst hk; exact hP 91 _ rfl
  | 92, hk => have hk := Option.some.inj (show some (.inl (0, 6001) : Ly) = some d from hk); subst hk; exact hP 92 _ rfl
  | 93, hk => have hk := Option.some.inj (show some (.inl (0, 6001) : Ly) = some d from hk); subst hk; exact hP 93 _ rfl
  | 94, hk => have hk := Option.some.inj (show some (.inl (0, 3) : Ly) = some d from hk); subst hk; exact hP 94 _ rfl
  | k + 95, hk => simp [lay] at hk
set_option maxHeartbeats 4000000 in
set_option maxRecDepth 100000 in
theorem wdD_start {l : Launch} {sz qX qM : Nat} {uX uM : Nat → Nat} {vX vM dC : Nat → ClassId} {dI : Nat → Nat → Nat} {zS kS vS : Nat → Nat} {A : Nat → Prop} (hD : va_D A (wC10 qX uX vX ++ wC11 qM uM vM)) : va_D A (wd (l, sz, adf qX uX qM uM, caf vX vM, dC, dI, zS, kS, vS) mm0) := by
  refine vaD_of (E := (l, sz, adf qX uX qM uM, caf vX vM, dC, dI, zS, kS, vS)) hD (fun k d hk => ?_)
  match k, hk with
  | 0, hk => have hk := Option.some.inj (show some (.inr (10, [some (some 1), some (some 3), some (some 4), some (some 6), some (some 7), some (some 31), none, some (some 37), some (some 39)]) : Ly) = some d from hk); subst hk; exact ⟨_, rfl⟩
  | 1, hk => have hk := Option.some.inj (show some (.inr (0, [some (some 2), none]) : Ly) = some d from hk); subst hk; exact ⟨_, rfl⟩
  | 2, hk => have hk := Option.some.inj (show some (.inl (0, 7) : Ly) = some d from hk); subst hk; exact ⟨_, rfl⟩
  | 3, hk => have hk := Option.some.inj (show some (.inr (3, [some (some 4), none, none, none, none]) : Ly) = some d from hk); subst hk; exact ⟨_, rfl⟩
  | 4, hk => have hk := Option.some.inj (show some (.inr (8, [some (some 5), none]) : Ly) = some d from hk); subst hk; exact ⟨_, rfl⟩
  | 5, hk => have hk := Option.some.inj (show some (.inl (0, 120) : Ly) = some d from hk); subst hk; exact ⟨_, rfl⟩
  | 6, hk => have hk := Option.some.inj (show some (.inr (7, [some (some 7), some (some 13), some (some 18), some (some 26), some (some 28), some (some 30), none, none]) : Ly) = some d from hk); subst hk; exact ⟨_, rfl⟩
  | 7, hk => have hk := Option.some.inj (show some (.inr (5, [none, some (some 8), some (some 9), none, some (some 10), some (some 11), some (some 12), none]) : Ly) = some d from hk); subst hk; exact ⟨_, rfl⟩
  | 8, hk => have hk := Option.some.inj (show some (.inl (0, 6) : Ly) = some d from hk); subst hk; exact ⟨_, rfl⟩
  | 9, hk => have hk := Option.some.inj (show some (.inl (0, 210) : Ly) = some d from hk); subst hk; exact ⟨_, rfl⟩
  | 10, hk => have hk := Option.some.inj (show some (.inl (0, 3) : Ly) = some d from hk); subst hk; exact ⟨_, rfl⟩
  | 11, hk => have hk := Option.some.inj (show some (.inl (0, 3) : Ly) = some d from hk); subst hk; exact ⟨_, rfl⟩
  | 12, hk => have hk := Option.some.inj (show some (.inl (0, 3) : Ly) = some d from hk); subst hk; exact ⟨_, rfl⟩
  | 13, hk => have hk := Option.some.inj (show some (.inr (1, [none, none, some none, some (some 14), some (some 15), some (some 16), some (some 17)]) : Ly) = some d from hk); subst hk; exact ⟨_, rfl⟩
  | 14, hk => have hk := Option.some.inj (show some (.inl (0, 390) : Ly) = some d from hk); subst hk; exact ⟨_, rfl⟩
  | 15, hk => have hk := Option.some.inj (show some (.inl (0, 7) : Ly) = some d from hk); subst hk; exact ⟨_, rfl⟩
  | 16, hk => have hk := Option.some.inj (show some (.inl (0, 3) : Ly) = some d from hk); subst hk; exact ⟨_, rfl⟩
  | 17, hk => have hk := Option.some.inj (show some (.inl (0, 3) : Ly) = some d from hk); subst hk; exact ⟨_, rfl⟩
  | 18, hk => have hk := Option.some.inj (show some (.inr (9, [some (some 19), some (some 20), some (some 21), some (some 22), some (some 23), some (some 24), some (some 25), none, none]) : Ly) = some d from hk); subst hk; exact ⟨_, rfl⟩
  | 19, hk => have hk := Option.some.inj (show some (.inl (2, 6000) : Ly) = some d from hk); subst hk; exact ⟨_, rfl⟩
  | 20, hk => have hk := Option.some.inj (show some (.inl (0, 16384) : Ly) = some d from hk); subst hk; exact ⟨_, rfl⟩
  | 21, hk => have hk := Option.some.inj (show some (.inl (0, 6000) : Ly) = some d from hk); subst hk; exact ⟨_, rfl⟩
  | 22, hk => have hk := Option.some.inj (show some (.inl (0, 6000) : Ly) = some d from hk); subst hk; exact ⟨_, rfl⟩
  | 23, hk => have hk := Option.some.inj (show some (.inl (0, 36000) : Ly) = some d from hk); subst hk; exact ⟨_, rfl⟩
  | 24, hk => have hk := Option.some.inj (show some (.inl (0, 6000) : Ly) = some d from hk); subst hk; exact ⟨_, rfl⟩
  | 25, hk => have hk := Option.some.inj (show some (.inl (0, 6000) : Ly) = some d from hk); subst hk; exact ⟨_, rfl⟩
  | 26, hk => have hk := Option.some.inj (show some (.inr (4, [some (some 27), none]) : Ly) = some d from hk); subst hk; exact ⟨_, rfl⟩
  | 27, hk => have hk := Option.some.inj (show some (.inl (0, 6000) : Ly) = some d from hk); subst hk; exact ⟨_, rfl⟩
  | 28, hk => have hk := Option.some.inj (show some (.inr (4, [some (some 29), none]) : Ly) = some d from hk); subst hk; exact ⟨_, rfl⟩
  | 29, hk => have hk := Option.some.inj (show some (.inl (0, 90) : Ly) = some d from hk); subst hk; exact ⟨_, rfl⟩
  | 30, hk => have hk := Option.some.inj (show some (.inl (0, 6) : Ly) = some d from hk); subst hk; exact ⟨_, rfl⟩
  | 31, hk => have hk := Option.some.inj (show some (.inr (5, [none, some (some 32), some (some 33), none, some (some 34), some (some 35), some (some 36), none]) : Ly) = some d from hk); subst hk; exact ⟨_, rfl⟩
  | 32, hk => have hk := Option.some.inj (show some (.inl (0, 6) : Ly) = some d from hk); subst hk; exact ⟨_, rfl⟩
  | 33, hk => have hk := Option.some.inj (show some (.inl (0, 210) : Ly) = some d from hk); subst hk; exact ⟨_, rfl⟩
  | 34, hk => have hk := Option.some.inj (show some (.inl (0, 3) : Ly) = some d from hk); subst hk; exact ⟨_, rfl⟩
  | 35, hk => have hk := Option.some.inj (show some (.inl (0, 3) : Ly) = some d from hk); subst hk; exact ⟨_, rfl⟩
  | 36, hk => have hk := Option.some.inj (show some (.inl (0, 3) : Ly) = some d from hk); subst hk; exact ⟨_, rfl⟩
  | 37, hk => have hk := Option.some.inj (show some (.inr (2, [some (some 38), some none, none, none]) : Ly) = some d from hk); subst hk; exact ⟨_, rfl⟩
  | 38, hk => have hk := Option.some.inj (show some (.inl (0, 3) : Ly) = some d from hk); subst hk; exact ⟨_, rfl⟩
  | 39, hk => have hk := Option.some.inj (show some (.inl (3, 4) : Ly) = some d from hk); subst hk; exact ⟨_, rfl⟩
  | 40, hk => have hk := Option.some.inj (show some (.inr (6, [none, none, some (some 41)]) : Ly) = some d from hk); subst hk; exact ⟨_, rfl⟩
  | 41, hk => have hk := Option.some.inj (show some (.inl (2, 40) : Ly) = some d from hk); subst hk; exact ⟨_, rfl⟩
  | 42, hk => have hk := Option.some.inj (show some (.inr (6, [none, none, some (some 43)]) : Ly) = some d from hk); subst hk; exact ⟨_, rfl⟩
  | 43, hk => have hk := Option.some.inj (show some (.inl (2, 40) : Ly) = some d from hk); subst hk; exact ⟨_, rfl⟩
  | 44, hk => have hk := Option.some.inj (show some (.inr (6, [none, none, some (some 45)]) : Ly) = some d from hk); subst hk; exact ⟨_, rfl⟩
  | 45, hk => have hk := Option.some.inj (show some (.inl (2, 40) : Ly) = some d from hk); subst hk; exact ⟨_, rfl⟩
  | 46, hk => have hk := Option.some.inj (show some (.inr (6, [none, none, some (some 47)]) : Ly) = some d from hk); subst hk; exact ⟨_, rfl⟩
  | 47, hk => have hk := Option.some.inj (show some (.inl (2, 40) : Ly) = some d from hk); subst hk; exact ⟨_, rfl⟩
  | 48, hk => have hk := Option.some.inj (show some (.inr (11, [none, some (some 49), some (some 50), some (some 51), some (some 52), some (some 53), some (some 54), none, some (some 55), some (some 56), some (some 57), none, some (some 58), none, some (some 59), none, none, none, none, some (some 60), some (some 61), some (some 62), some (some 63), some (some 64), none, none, none, none, none, some (some 65), some (some 66), some (some 67), some (some 68), some (some 69), some (some 70), some (some 71), some (some 72), none, some (some 73), some (some 74), some (some 75), some (some 76), some (some 77), some (some 78), some (some 79), some (some 80), some (some 81), none, none, none, none, some (some 82), some (some 83), some (some 84), some (some 85), some (some 86), some (some 87), some (some 88), none, some (some 89), none, some (some 90), some (some 91), none, some (some 92), some (some 93), none, some (some 94)]) : Ly) = some d from hk); subst hk; exact ⟨_, rfl⟩
  | 49, hk => have hk := Option.some.inj (show some (.inl (0, 6) : Ly) = some d from hk); subst hk; exact ⟨_, rfl⟩
  | 50, hk => have hk := Option.some.inj (show some (.inl (0, 42) : Ly) = some d from hk); subst hk; exact ⟨_, rfl⟩
  | 51, hk => have hk := Option.some.inj (show some (.inl (0, 42) : Ly) = some d from hk); subst hk; exact ⟨_, rfl⟩
  | 52, hk => have hk := Option.some.inj (show some (.inl (0, 42) : Ly) = some d from hk); subst hk; exact ⟨_, rfl⟩
  | 53, hk => have hk := Option.some.inj (show some (.inl (0, 42) : Ly) = some d from hk); subst hk; exact ⟨_, rfl⟩
  | 54, hk => have hk := Option.some.inj (show some (.inl (0, 42) : Ly) = some d from hk); subst hk; exact ⟨_, rfl⟩
  | 55, hk => have hk := Option.some.inj (show some (.inl (0, 6) : Ly) = some d from hk); subst hk; exact ⟨_, rfl⟩
  | 56, hk => have hk := Option.some.inj (show some (.inl (0, 3) : Ly) = some d from hk); subst hk; exact ⟨_, rfl⟩
  | 57, hk => have hk := Option.some.inj (show some (.inl (0, 3) : Ly) = some d from hk); subst hk; exact ⟨_, rfl⟩
  | 58, hk => have hk := Option.some.inj (show some (.inl (0, 120) : Ly) = some d from hk); subst hk; exact ⟨_, rfl⟩
  | 59, hk => have hk := Option.some.inj (show some (.inl (0, 7) : Ly) = some d from hk); subst hk; exact ⟨_, rfl⟩
  | 60, hk => have hk := Option.some.inj (show some (.inl (0, 234) : Ly) = some d from hk); subst hk; exact ⟨_, rfl⟩
  | 61, hk => have hk := Option.some.inj (show some (.inl (0, 4) : Ly) = some d from hk); subst hk; exact ⟨_, rfl⟩
  | 62, hk => have hk := Option.some.inj (show some (.inl (0, 4) : Ly) = some d from hk); subst hk; exact ⟨_, rfl⟩
  | 63, hk => have hk := Option.some.inj (show some (.inl (2, 160) : Ly) = some d from hk); subst hk; exact ⟨_, rfl⟩
  | 64, hk => have hk := Option.some.inj (show some (.inl (2, 40) : Ly) = some d from hk); subst hk; exact ⟨_, rfl⟩
  | 65, hk => have hk := Option.some.inj (show some (.inl (2, 9) : Ly) = some d from hk); subst hk; exact ⟨_, rfl⟩
  | 66, hk => have hk := Option.some.inj (show some (.inl (0, 6) : Ly) = some d from hk); subst hk; exact ⟨_, rfl⟩
  | 67, hk => have hk := Option.some.inj (show some (.inl (0, 84) : Ly) = some d from hk); subst hk; exact ⟨_, rfl⟩
  | 68, hk => have hk := Option.some.inj (show some (.inl (0, 84) : Ly) = some d from hk); subst hk; exact ⟨_, rfl⟩
  | 69, hk => have hk := Option.some.inj (show some (.inl (0, 84) : Ly) = some d from hk); subst hk; exact ⟨_, rfl⟩
  | 70, hk => have hk := Option.some.inj (show some (.inl (0, 84) : Ly) = some d from hk); subst hk; exact ⟨_, rfl⟩
  | 71, hk => have hk := Option.some.inj (show some (.inl (0, 84) : Ly) = some d from hk); subst hk; exact ⟨_, rfl⟩
  | 72, hk => have hk := Option.some.inj (show some (.inl (0, 6) : Ly) = some d from hk); subst hk; exact ⟨_, rfl⟩
  | 73, hk => have hk := Option.some.inj (show some (.inl (0, 7) : Ly) = some d from hk); subst hk; exact ⟨_, rfl⟩
  | 74, hk => have hk := Option.some.inj (show some (.inl (0, 3) : Ly) = some d from hk); subst hk; exact ⟨_, rfl⟩
  | 75, hk => have hk := Option.some.inj (show some (.inl (0, 3) : Ly) = some d from hk); subst hk; exact ⟨_, rfl⟩
  | 76, hk => have hk := Option.some.inj (show some (.inl (0, 3) : Ly) = some d from hk); subst hk; exact ⟨_, rfl⟩
  | 77, hk => have hk := Option.some.inj (show some (.inl (0, 3) : Ly) = some d from hk); subst hk; exact ⟨_, rfl⟩
  | 78, hk => have hk := Option.some.inj (show some (.inl (0, 3) : Ly) = some d from hk); subst hk; exact ⟨_, rfl⟩
  | 79, hk => have hk := Option.some.inj (show some (.inl (0, 3) : Ly) = some d from hk); subst hk; exact ⟨_, rfl⟩
  | 80, hk => have hk := Option.some.inj (show some (.inl (0, 6) : Ly) = some d from hk); subst hk; exact ⟨_, rfl⟩
  | 81, hk => have hk := Option.some.inj (show some (.inl (0, 6) : Ly) = some d from hk); subst hk; exact ⟨_, rfl⟩
  | 82, hk => have hk := Option.some.inj (show some (.inl (2, 6001) : Ly) = some d from hk); subst hk; exact ⟨_, rfl⟩
  | 83, hk => have hk := Option.some.inj (show some (.inl (0, 36006) : Ly) = some d from hk); subst hk; exact ⟨_, rfl⟩
  | 84, hk => have hk := Option.some.inj (show some (.inl (0, 6001) : Ly) = some d from hk); subst hk; exact ⟨_, rfl⟩
  | 85, hk => have hk := Option.some.inj (show some (.inl (0, 16384) : Ly) = some d from hk); subst hk; exact ⟨_, rfl⟩
  | 86, hk => have hk := Option.some.inj (show some (.inl (1, 6001) : Ly) = some d from hk); subst hk; exact ⟨_, rfl⟩
  | 87, hk => have hk := Option.some.inj (show some (.inl (0, 6001) : Ly) = some d from hk); subst hk; exact ⟨_, rfl⟩
  | 88, hk => have hk := Option.some.inj (show some (.inl (0, 6001) : Ly) = some d from hk); subst hk; exact ⟨_, rfl⟩
  | 89, hk => have hk := Option.some.inj (show some (.inl (0, 128) : Ly) = some d from hk); subst hk; exact ⟨_, rfl⟩
  | 90, hk => have hk := Option.some.inj (show some (.inl (2, 7) : Ly) = some d from hk); subst hk; exact ⟨_, rfl⟩
  | 91, hk => have hk := Option.some.inj (show some (.inl (0, 6001) : Ly) = some d from hk); subst hk; exact ⟨_, rfl⟩
  | 92, hk => have hk := Option.some.inj (show some (.inl (0, 6001) : Ly) = some d from hk); subst hk; exact ⟨_, rfl⟩
  | 93, hk => have hk := Option.some.inj (show some (.inl (0, 6001) : Ly) = some d from hk); subst hk; exact ⟨_, rfl⟩
  | 94, hk => have hk := Option.some.inj (show some (.inl (0, 3) : Ly) = some d from hk); subst hk; exact ⟨_, rfl⟩
  | k + 95, hk => simp [lay] at hk
set_option maxHeartbeats 4000000 in
set_option maxRecDepth 100000 in
theorem wdK_start {l : Launch} {sz qX qM : Nat} {uX uM : Nat → Nat} {vX vM dC : Nat → ClassId} {dI : Nat → Nat → Nat} {zS kS vS : Nat → Nat} {U : State} (hK : va_K (dC, dI) vwCl (tC10 vX ++ tC11 vM) U) : va_K (dC, dI) vwCl (tyl (l, sz, adf qX uX qM uM, caf vX vM, dC, dI, zS, kS, vS)) U := by
  refine vaK_of (E := (l, sz, adf qX uX qM uM, caf vX vM, dC, dI, zS, kS, vS)) hK (fun k d hk => ?_)
  match k, hk with
  | 0, hk => have hk := Option.some.inj (show some (.inr (10, [some (some 1), some (some 3), some (some 4), some (some 6), some (some 7), some (some 31), none, some (some 37), some (some 39)]) : Ly) = some d from hk); subst hk; exact ⟨0, rfl⟩
  | 1, hk => have hk := Option.some.inj (show some (.inr (0, [some (some 2), none]) : Ly) = some d from hk); subst hk; exact ⟨0, rfl⟩
  | 2, hk => have hk := Option.some.inj (show some (.inl (0, 7) : Ly) = some d from hk); subst hk; exact ⟨0, rfl⟩
  | 3, hk => have hk := Option.some.inj (show some (.inr (3, [some (some 4), none, none, none, none]) : Ly) = some d from hk); subst hk; exact ⟨0, rfl⟩
  | 4, hk => have hk := Option.some.inj (show some (.inr (8, [some (some 5), none]) : Ly) = some d from hk); subst hk; exact ⟨0, rfl⟩
  | 5, hk => have hk := Option.some.inj (show some (.inl (0, 120) : Ly) = some d from hk); subst hk; exact ⟨1, rfl⟩
  | 6, hk => have hk := Option.some.inj (show some (.inr (7, [some (some 7), some (some 13), some (some 18), some (some 26), some (some 28), some (some 30), none, none]) : Ly) = some d from hk); subst hk; exact ⟨0, rfl⟩
  | 7, hk => have hk := Option.some.inj (show some (.inr (5, [none, some (some 8), some (some 9), none, some (some 10), some (some 11), some (some 12), none]) : Ly) = some d from hk); subst hk; exact ⟨0, rfl⟩
  | 8, hk => have hk := Option.some.inj (show some (.inl (0, 6) : Ly) = some d from hk); subst hk; exact ⟨2, rfl⟩
  | 9, hk => have hk := Option.some.inj (show some (.inl (0, 210) : Ly) = some d from hk); subst hk; exact ⟨3, rfl⟩
  | 10, hk => have hk := Option.some.inj (show some (.inl (0, 3) : Ly) = some d from hk); subst hk; exact ⟨4, rfl⟩
  | 11, hk => have hk := Option.some.inj (show some (.inl (0, 3) : Ly) = some d from hk); subst hk; exact ⟨5, rfl⟩
  | 12, hk => have hk := Option.some.inj (show some (.inl (0, 3) : Ly) = some d from hk); subst hk; exact ⟨6, rfl⟩
  | 13, hk => have hk := Option.some.inj (show some (.inr (1, [none, none, some none, some (some 14), some (some 15), some (some 16), some (some 17)]) : Ly) = some d from hk); subst hk; exact ⟨0, rfl⟩
  | 14, hk => have hk := Option.some.inj (show some (.inl (0, 390) : Ly) = some d from hk); subst hk; exact ⟨7, rfl⟩
  | 15, hk => have hk := Option.some.inj (show some (.inl (0, 7) : Ly) = some d from hk); subst hk; exact ⟨8, rfl⟩
  | 16, hk => have hk := Option.some.inj (show some (.inl (0, 3) : Ly) = some d from hk); subst hk; exact ⟨9, rfl⟩
  | 17, hk => have hk := Option.some.inj (show some (.inl (0, 3) : Ly) = some d from hk); subst hk; exact ⟨10, rfl⟩
  | 18, hk => have hk := Option.some.inj (show some (.inr (9, [some (some 19), some (some 20), some (some 21), some (some 22), some (some 23), some (some 24), some (some 25), none, none]) : Ly) = some d from hk); subst hk; exact ⟨0, rfl⟩
  | 19, hk => have hk := Option.some.inj (show some (.inl (2, 6000) : Ly) = some d from hk); subst hk; exact ⟨11, rfl⟩
  | 20, hk => have hk := Option.some.inj (show some (.inl (0, 16384) : Ly) = some d from hk); subst hk; exact ⟨12, rfl⟩
  | 21, hk => have hk := Option.some.inj (show some (.inl (0, 6000) : Ly) = some d from hk); subst hk; exact ⟨13, rfl⟩
  | 22, hk => have hk := Option.some.inj (show some (.inl (0, 6000) : Ly) = some d from hk); subst hk; exact ⟨14, rfl⟩
  | 23, hk => have hk := Option.some.inj (show some (.inl (0, 36000) : Ly) = some d from hk); subst hk; exact ⟨15, rfl⟩
  | 24, hk => have hk := Option.some.inj (show some (.inl (0, 6000) : Ly) = some d from hk); subst hk; exact ⟨16, rfl⟩
  | 25, hk => have hk := Option.some.inj (show some (.inl (0, 6000) : Ly) = some d from hk); subst hk; exact ⟨17, rfl⟩
  | 26, hk => have hk := Option.some.inj (show some (.inr (4, [some (some 27), none]) : Ly) = some d from hk); subst hk; exact ⟨0, rfl⟩
  | 27, hk => have hk := Option.some.inj (show some (.inl (0, 6000) : Ly) = some d from hk); subst hk; exact ⟨18, rfl⟩
  | 28, hk => have hk := Option.some.inj (show some (.inr (4, [some (some 29), none]) : Ly) = some d from hk); subst hk; exact ⟨0, rfl⟩
  | 29, hk => have hk := Option.some.inj (show some (.inl (0, 90) : Ly) = some d from hk); subst hk; exact ⟨19, rfl⟩
  | 30, hk => have hk := Option.some.inj (show some (.inl (0, 6) : Ly) = some d from hk); subst hk; exact ⟨20, rfl⟩
  | 31, hk => have hk := Option.some.inj (show some (.inr (5, [none, some (some 32), some (some 33), none, some (some 34), some (some 35), some (some 36), none]) : Ly) = some d from hk); subst hk; exact ⟨0, rfl⟩
  | 32, hk => have hk := Option.some.inj (show some (.inl (0, 6) : Ly) = some d from hk); subst hk; exact ⟨21, rfl⟩
  | 33, hk => have hk := Option.some.inj (show some (.inl (0, 210) : Ly) = some d from hk); subst hk; exact ⟨22, rfl⟩
  | 34, hk => have hk := Option.some.inj (show some (.inl (0, 3) : Ly) = some d from hk); subst hk; exact ⟨23, rfl⟩
  | 35, hk => have hk := Option.some.inj (show some (.inl (0, 3) : Ly) = some d from hk); subst hk; exact ⟨24, rfl⟩
  | 36, hk => have hk := Option.some.inj (show some (.inl (0, 3) : Ly) = some d from hk); subst hk; exact ⟨25, rfl⟩
  | 37, hk => have hk := Option.some.inj (show some (.inr (2, [some (some 38), some none, none, none]) : Ly) = some d from hk); subst hk; exact ⟨0, rfl⟩
  | 38, hk => have hk := Option.some.inj (show some (.inl (0, 3) : Ly) = some d from hk); subst hk; exact ⟨26, rfl⟩
  | 39, hk => have hk := Option.some.inj (show some (.inl (3, 4) : Ly) = some d from hk); subst hk; exact ⟨27, rfl⟩
  | 40, hk => have hk := Option.some.inj (show some (.inr (6, [none, none, some (some 41)]) : Ly) = some d from hk); subst hk; exact ⟨0, rfl⟩
  | 41, hk => have hk := Option.some.inj (show some (.inl (2, 40) : Ly) = some d from hk); subst hk; exact ⟨28, rfl⟩
  | 42, hk => have hk := Option.some.inj (show some (.inr (6, [none, none, some (some 43)]) : Ly) = some d from hk); subst hk; exact ⟨0, rfl⟩
  | 43, hk => have hk := Option.some.inj (show some (.inl (2, 40) : Ly) = some d from hk); subst hk; exact ⟨29, rfl⟩
  | 44, hk => have hk := Option.some.inj (show some (.inr (6, [none, none, some (some 45)]) : Ly) = some d from hk); subst hk; exact ⟨0, rfl⟩
  | 45, hk => have hk := Option.some.inj (show some (.inl (2, 40) : Ly) = some d from hk); subst hk; exact ⟨30, rfl⟩
  | 46, hk => have hk := Option.some.inj (show some (.inr (6, [none, none, some (some 47)]) : Ly) = some d from hk); subst hk; exact ⟨0, rfl⟩
  | 47, hk => have hk := Option.some.inj (show some (.inl (2, 40) : Ly) = some d from hk); subst hk; exact ⟨31, rfl⟩
  | 48, hk => have hk := Option.some.inj (show some (.inr (11, [none, some (some 49), some (some 50), some (some 51), some (some 52), some (some 53), some (some 54), none, some (some 55), some (some 56), some (some 57), none, some (some 58), none, some (some 59), none, none, none, none, some (some 60), some (some 61), some (some 62), some (some 63), some (some 64), none, none, none, none, none, some (some 65), some (some 66), some (some 67), some (some 68), some (some 69), some (some 70), some (some 71), some (some 72), none, some (some 73), some (some 74), some (some 75), some (some 76), some (some 77), some (some 78), some (some 79), some (some 80), some (some 81), none, none, none, none, some (some 82), some (some 83), some (some 84), some (some 85), some (some 86), some (some 87), some (some 88), none, some (some 89), none, some (some 90), some (some 91), none, some (some 92), some (some 93), none, some (some 94)]) : Ly) = some d from hk); subst hk; exact ⟨0, rfl⟩
  | 49, hk => have hk := Option.some.inj (show some (.inl (0, 6) : Ly) = some d from hk); subst hk; exact ⟨32, rfl⟩
  | 50, hk => have hk := Option.some.inj (show some (.inl (0, 42) : Ly) = some d from hk); subst hk; exact ⟨33, rfl⟩
  | 51, hk => have hk := Option.some.inj (show some (.inl (0, 42) : Ly) = some d from hk); subst hk; exact ⟨34, rfl⟩
  | 52, hk => have hk := Option.some.inj (show some (.inl (0, 42) : Ly) = some d from hk); subst hk; exact ⟨35, rfl⟩
  | 53, hk => have hk := Option.some.inj (show some (.inl (0, 42) : Ly) = some d from hk); subst hk; exact ⟨36, rfl⟩
  | 54, hk => have hk := Option.some.inj (show some (.inl (0, 42) : Ly) = some d from hk); subst hk; exact ⟨37, rfl⟩
  | 55, hk => have hk := Option.some.inj (show some (.inl (0, 6) : Ly) = some d from hk); subst hk; exact ⟨38, rfl⟩
  | 56, hk => have hk := Option.some.inj (show some (.inl (0, 3) : Ly) = some d from hk); subst hk; exact ⟨39, rfl⟩
  | 57, hk => have hk := Option.some.inj (show some (.inl (0, 3) : Ly) = some d from hk); subst hk; exact ⟨40, rfl⟩
  | 58, hk => have hk := Option.some.inj (show some (.inl (0, 120) : Ly) = some d from hk); subst hk; exact ⟨41, rfl⟩
  | 59, hk => have hk := Option.some.inj (show some (.inl (0, 7) : Ly) = some d from hk); subst hk; exact ⟨42, rfl⟩
  | 60, hk => have hk := Option.some.inj (show some (.inl (0, 234) : Ly) = some d from hk); subst hk; exact ⟨43, rfl⟩
  | 61, hk => have hk := Option.some.inj (show some (.inl (0, 4) : Ly) = some d from hk); subst hk; exact ⟨44, rfl⟩
  | 62, hk => have hk := Option.some.inj (show some (.inl (0, 4) : Ly) = some d from hk); subst hk; exact ⟨45, rfl⟩
  | 63, hk => have hk := Option.some.inj (show some (.inl (2, 160) : Ly) = some d from hk); subst hk; exact ⟨46, rfl⟩
  | 64, hk => have hk := Option.some.inj (show some (.inl (2, 40) : Ly) = some d from hk); subst hk; exact ⟨47, rfl⟩
  | 65, hk => have hk := Option.some.inj (show some (.inl (2, 9) : Ly) = some d from hk); subst hk; exact ⟨48, rfl⟩
  | 66, hk => have hk := Option.some.inj (show some (.inl (0, 6) : Ly) = some d from hk); subst hk; exact ⟨49, rfl⟩
  | 67, hk => have hk := Option.some.inj (show some (.inl (0, 84) : Ly) = some d from hk); subst hk; exact ⟨50, rfl⟩
  | 68, hk => have hk := Option.some.inj (show some (.inl (0, 84) : Ly) = some d from hk); subst hk; exact ⟨51, rfl⟩
  | 69, hk => have hk := Option.some.inj (show some (.inl (0, 84) : Ly) = some d from hk); subst hk; exact ⟨52, rfl⟩
  | 70, hk => have hk := Option.some.inj (show some (.inl (0, 84) : Ly) = some d from hk); subst hk; exact ⟨53, rfl⟩
  | 71, hk => have hk := Option.some.inj (show some (.inl (0, 84) : Ly) = some d from hk); subst hk; exact ⟨54, rfl⟩
  | 72, hk => have hk := Option.some.inj (show some (.inl (0, 6) : Ly) = some d from hk); subst hk; exact ⟨55, rfl⟩
  | 73, hk => have hk := Option.some.inj (show some (.inl (0, 7) : Ly) = some d from hk); subst hk; exact ⟨56, rfl⟩
  | 74, hk => have hk := Option.some.inj (show some (.inl (0, 3) : Ly) = some d from hk); subst hk; exact ⟨57, rfl⟩
  | 75, hk => have hk := Option.some.inj (show some (.inl (0, 3) : Ly) = some d from hk); subst hk; exact ⟨58, rfl⟩
  | 76, hk => have hk := Option.some.inj (show some (.inl (0, 3) : Ly) = some d from hk); subst hk; exact ⟨59, rfl⟩
  | 77, hk => have hk := Option.some.inj (show some (.inl (0, 3) : Ly) = some d from hk); subst hk; exact ⟨60, rfl⟩
  | 78, hk => have hk := Option.some.inj (show some (.inl (0, 3) : Ly) = some d from hk); subst hk; exact ⟨61, rfl⟩
  | 79, hk => have hk := Option.some.inj (show some (.inl (0, 3) : Ly) = some d from hk); subst hk; exact ⟨62, rfl⟩
  | 80, hk => have hk := Option.some.inj (show some (.inl (0, 6) : Ly) = some d from hk); subst hk; exact ⟨63, rfl⟩
  | 81, hk => have hk := Option.some.inj (show some (.inl (0, 6) : Ly) = some d from hk); subst hk; exact ⟨64, rfl⟩
  | 82, hk => have hk := Option.some.inj (show some (.inl (2, 6001) : Ly) = some d from hk); subst hk; exact ⟨65, rfl⟩
  | 83, hk => have hk := Option.some.inj (show some (.inl (0, 36006) : Ly) = some d from hk); subst hk; exact ⟨66, rfl⟩
  | 84, hk => have hk := Option.some.inj (show some (.inl (0, 6001) : Ly) = some d from hk); subst hk; exact ⟨67, rfl⟩
  | 85, hk => have hk := Option.some.inj (show some (.inl (0, 16384) : Ly) = some d from hk); subst hk; exact ⟨68, rfl⟩
  | 86, hk => have hk := Option.some.inj (show some (.inl (1, 6001) : Ly) = some d from hk); subst hk; exact ⟨69, rfl⟩
  | 87, hk => have hk := Option.some.inj (show some (.inl (0, 6001) : Ly) = some d from hk); subst hk; exact ⟨70, rfl⟩
  | 88, hk => have hk := Option.some.inj (show some (.inl (0, 6001) : Ly) = some d from hk); subst hk; exact ⟨71, rfl⟩
  | 89, hk => have hk := Option.some.inj (show some (.inl (0, 128) : Ly) = some d from hk); subst hk; exact ⟨72, rfl⟩
  | 90, hk => have hk := Option.some.inj (show some (.inl (2, 7) : Ly) = some d from hk); subst hk; exact ⟨73, rfl⟩
  | 91, hk => have hk := Option.some.inj (show some (.inl (0, 6001) : Ly) = some d from hk); subst hk; exact ⟨74, rfl⟩
  | 92, hk => have hk := Option.some.inj (show some (.inl (0, 6001) : Ly) = some d from hk); subst hk; exact ⟨75, rfl⟩
  | 93, hk => have hk := Option.some.inj (show some (.inl (0, 6001) : Ly) = some d from hk); subst hk; exact ⟨76, rfl⟩
  | 94, hk => have hk := Option.some.inj (show some (.inl (0, 3) : Ly) = some d from hk); subst hk; exact ⟨77, rfl⟩
  | k + 95, hk => simp [lay] at hk
