/-! PURE: the object in the reference -/
/-- what would stand after an undo -/
def rs6 (σ : Mm) : Mm := (fun c j => if c = 48 then (if j = 0 then σ.1 48 16 else if j = 7 then σ.1 48 17 else if j = 11 then σ.1 48 18 else σ.1 48 j) else if 50 ≤ c ∧ c ≤ 54 then σ.1 60 (5 * j + (c - 50)) else if c = 49 then σ.1 60 (210 + 2 * j) else if c = 55 then σ.1 60 (211 + 2 * j) else if c = 56 then σ.1 60 (222 + 2 * j) else if c = 57 then σ.1 60 (223 + 2 * j) else σ.1 c j, σ.2)
def KnM (S : Su) (σ : Mm) : Prop := (∃ W, Wok W 42 ∧ WrM W σ) ∧ (σ.1 48 48 = nI 0 ∨ (σ.1 48 48 = nI 1 ∧ TkM (PgOf S noX) σ ∧ GdM (ords S noX) σ))
def ShM (A : Ob) (σ : Mm) : Prop := ∀ s, s < 4 → σ.1 61 s = nI (oQ A s) ∧ σ.1 62 s = nI (oZ A s) ∧ ∀ i, i < oZ A s → σ.2 63 (40 * s + i) = oV A s i
def AM (A : Ob) (σ : Mm) : Prop := OV A ∧ SeM (oS A) σ ∧ KnM (oS A) σ ∧ σ.1 48 15 = bI (oB A) ∧ (oB A = true → SeM (oK A) (rs6 σ)) ∧ TpM (oT A) (oN A) σ ∧ ShM A σ ∧ ∀ e, e < 7 → σ.1 59 e = oE A e
theorem rs6_48 {σ : Mm} : (rs6 σ).1 48 0 = σ.1 48 16 ∧ (rs6 σ).1 48 7 = σ.1 48 17 ∧ (rs6 σ).1 48 11 = σ.1 48 18 := ⟨rfl, rfl, rfl⟩
theorem rs6_5 {σ : Mm} {c j : Nat} (h1 : 50 ≤ c) (h2 : c ≤ 54) : (rs6 σ).1 c j = σ.1 60 (5 * j + (c - 50)) := by
  show (if c = 48 then _ else if 50 ≤ c ∧ c ≤ 54 then _ else _) = _
  rw [if_neg (by omega), if_pos ⟨h1, h2⟩]
theorem rs6_x {σ : Mm} {j : Nat} : (rs6 σ).1 49 j = σ.1 60 (210 + 2 * j) ∧ (rs6 σ).1 55 j = σ.1 60 (211 + 2 * j) ∧ (rs6 σ).1 56 j = σ.1 60 (222 + 2 * j) ∧ (rs6 σ).1 57 j = σ.1 60 (223 + 2 * j) := ⟨rfl, rfl, rfl, rfl⟩
theorem SeM_rs6 {K : Su} {σ τ : Mm} (h : SeM K (rs6 σ)) (e60 : τ.1 60 = σ.1 60) (e16 : τ.1 48 16 = σ.1 48 16) (e17 : τ.1 48 17 = σ.1 48 17) (e18 : τ.1 48 18 = σ.1 48 18) : SeM K (rs6 τ) := by
  have f5 : ∀ c, 50 ≤ c → c ≤ 54 → (rs6 τ).1 c = (rs6 σ).1 c := fun c a b => by
    funext j
    rw [rs6_5 a b, rs6_5 a b, e60]
  refine SeM_of h ?_ ?_ ?_ ?_ (f5 50 (by omega) (by omega)) (f5 51 (by omega) (by omega)) (f5 52 (by omega) (by omega)) (f5 53 (by omega) (by omega)) (f5 54 (by omega) (by omega)) ?_ ?_ ?_
  · rw [rs6_48.1, rs6_48.1, e16]
  · rw [rs6_48.2.1, rs6_48.2.1, e17]
  · rw [rs6_48.2.2, rs6_48.2.2, e18]
  · funext j; rw [rs6_x.1, rs6_x.1, e60]
  · funext j; rw [rs6_x.2.1, rs6_x.2.1, e60]
  · funext j; rw [rs6_x.2.2.1, rs6_x.2.2.1, e60]
  · funext j; rw [rs6_x.2.2.2, rs6_x.2.2.2, e60]
theorem EdM_of {es : List Nat} {σ τ : Mm} (h : EdM es σ) (e88 : τ.1 88 = σ.1 88) (e58 : τ.1 48 58 = σ.1 48 58) : EdM es τ := ⟨RoM_of h.1 e88, by rw [e58]; exact h.2.1, h.2.2⟩
theorem GdM_of {gs : List Nat} {σ τ : Mm} (h : GdM gs σ) (e89 : τ.1 89 = σ.1 89) (e60 : τ.1 48 60 = σ.1 48 60) : GdM gs τ := ⟨RoM_of h.1 e89, by rw [e60]; exact h.2.1, h.2.2⟩
theorem TkM_of {P : Pg} {σ τ : Mm} (h : TkM P σ) (e49 : τ.1 48 49 = σ.1 48 49) (e50 : τ.1 48 50 = σ.1 48 50) (e58 : τ.1 48 58 = σ.1 48 58) (e82 : τ.2 82 = σ.2 82) (e83 : τ.1 83 = σ.1 83) (e84 : τ.1 84 = σ.1 84) (e85 : τ.1 85 = σ.1 85) (e87 : τ.1 87 = σ.1 87) (e88 : τ.1 88 = σ.1 88) : TkM P τ := by
  rcases h with ⟨h1, h2, h3, h4, h5, h6⟩ | ⟨h1, h2⟩
  · exact Or.inl ⟨h1, TuM_of h2 e50 e82 e84 e85, fun d hd => by rw [e83]; exact h3 d hd, fun s hs => by rw [e87]; exact h4 s hs, by rw [e49]; exact h5, EdM_of h6 e88 e58⟩
  · exact Or.inr ⟨h1, by rw [e49]; exact h2⟩
theorem WrM_of {W : List Nat} {σ τ : Mm} (h : WrM W σ) (e37 : τ.1 48 37 = σ.1 48 37) (e72 : τ.1 72 = σ.1 72) : WrM W τ := by
  unfold WrM at *
  rw [e37, e72]
  exact h
theorem KnM_of {S : Su} {σ τ : Mm} (h : KnM S σ) (e37 : τ.1 48 37 = σ.1 48 37) (e48 : τ.1 48 48 = σ.1 48 48) (e49 : τ.1 48 49 = σ.1 48 49) (e50 : τ.1 48 50 = σ.1 48 50) (e58 : τ.1 48 58 = σ.1 48 58) (e60 : τ.1 48 60 = σ.1 48 60) (e72 : τ.1 72 = σ.1 72) (e82 : τ.2 82 = σ.2 82) (e83 : τ.1 83 = σ.1 83) (e84 : τ.1 84 = σ.1 84) (e85 : τ.1 85 = σ.1 85) (e87 : τ.1 87 = σ.1 87) (e88 : τ.1 88 = σ.1 88) (e89 : τ.1 89 = σ.1 89) : KnM S τ := by
  obtain ⟨⟨W, w1, w2⟩, h⟩ := h
  refine ⟨⟨W, w1, WrM_of w2 e37 e72⟩, ?_⟩
  rcases h with h | ⟨h, a, b⟩
  · exact Or.inl (by rw [e48]; exact h)
  · exact Or.inr ⟨by rw [e48]; exact h, TkM_of a e49 e50 e58 e82 e83 e84 e85 e87 e88, GdM_of b e89 e60⟩
theorem TpM_of {t : Nat → Nat} {n : Nat} {σ τ : Mm} (h : TpM t n σ) (e13 : τ.1 48 13 = σ.1 48 13) (e58 : τ.1 58 = σ.1 58) (e65 : τ.2 65 = σ.2 65) : TpM t n τ := ⟨h.1, by rw [e13]; exact h.2.1, fun i hi => by rw [e58]; exact h.2.2.1 i hi, fun w hw => by rw [e65]; exact h.2.2.2 w hw⟩
theorem ShM_of {A : Ob} {σ τ : Mm} (h : ShM A σ) (e61 : τ.1 61 = σ.1 61) (e62 : τ.1 62 = σ.1 62) (e63 : τ.2 63 = σ.2 63) : ShM A τ := by
  intro s hs
  rw [e61, e62, e63]
  exact h s hs
/-- what the reference keeps has not changed -/
def KpM (σ τ : Mm) : Prop := (∀ j, j = 0 ∨ j = 7 ∨ j = 11 ∨ j = 13 ∨ j = 15 ∨ j = 16 ∨ j = 17 ∨ j = 18 → τ.1 48 j = σ.1 48 j) ∧ ∀ k, 49 ≤ k → k ≤ 65 → τ.1 k = σ.1 k ∧ τ.2 k = σ.2 k
theorem AM_ch {A : Ob} {σ τ : Mm} (h : AM A σ) (e : KpM σ τ) (hk : KnM (oS A) τ) : AM A τ := by
  obtain ⟨h1, h2, h3, h4, h5, h6, h7, h8⟩ := h
  obtain ⟨e1, e2⟩ := e
  exact ⟨h1, SeM_of h2 (e1 0 (by omega)) (e1 7 (by omega)) (e1 11 (by omega)) (e2 49 (by omega) (by omega)).1 (e2 50 (by omega) (by omega)).1 (e2 51 (by omega) (by omega)).1 (e2 52 (by omega) (by omega)).1 (e2 53 (by omega) (by omega)).1 (e2 54 (by omega) (by omega)).1 (e2 55 (by omega) (by omega)).1 (e2 56 (by omega) (by omega)).1 (e2 57 (by omega) (by omega)).1, hk, by rw [e1 15 (by omega)]; exact h4, fun q => SeM_rs6 (h5 q) (e2 60 (by omega) (by omega)).1 (e1 16 (by omega)) (e1 17 (by omega)) (e1 18 (by omega)), TpM_of h6 (e1 13 (by omega)) (e2 58 (by omega) (by omega)).1 (e2 65 (by omega) (by omega)).2, ShM_of h7 (e2 61 (by omega) (by omega)).1 (e2 62 (by omega) (by omega)).1 (e2 63 (by omega) (by omega)).2, fun q hq => by rw [(e2 59 (by omega) (by omega)).1]; exact h8 q hq⟩
theorem KnM_fr {S : Su} {σ τ : Mm} (h : KnM S σ) (e : FrC σ τ) : KnM S τ := KnM_of h (by rw [(e 48 (by omega)).1]) (by rw [(e 48 (by omega)).1]) (by rw [(e 48 (by omega)).1]) (by rw [(e 48 (by omega)).1]) (by rw [(e 48 (by omega)).1]) (by rw [(e 48 (by omega)).1]) (e 72 (by omega)).1 (e 82 (by omega)).2 (e 83 (by omega)).1 (e 84 (by omega)).1 (e 85 (by omega)).1 (e 87 (by omega)).1 (e 88 (by omega)).1 (e 89 (by omega)).1
theorem AM_fr {A : Ob} {σ τ : Mm} (h : AM A σ) (e : FrC σ τ) : AM A τ := AM_ch h ⟨fun j _ => by rw [(e 48 (by omega)).1], fun k a _ => e k (by omega)⟩ (KnM_fr h.2.2.1 e)
theorem AM_fd {A : Ob} {σ : Mm} {e : Nat} (h : AM A σ) (he : e < 7) : AM (tel A e) (fd σ e) := by
  obtain ⟨h1, h2, h3, h4, h5, h6, h7, h8⟩ := h
  have hF : Fr [59] σ (fd σ e) := (Fr.rf _ _).sI (by decide)
  refine ⟨OV_tel h1, SeM_Fr h2 hF (by rw [hF.r1 48 (by decide)]) (by rw [hF.r1 48 (by decide)]) (by rw [hF.r1 48 (by decide)]) (by decide), KnM_of h3 (by rw [hF.r1 48 (by decide)]) (by rw [hF.r1 48 (by decide)]) (by rw [hF.r1 48 (by decide)]) (by rw [hF.r1 48 (by decide)]) (by rw [hF.r1 48 (by decide)]) (by rw [hF.r1 48 (by decide)]) (hF.r1 72 (by decide)) (hF.r2 82 (by decide)) (hF.r1 83 (by decide)) (hF.r1 84 (by decide)) (hF.r1 85 (by decide)) (hF.r1 87 (by decide)) (hF.r1 88 (by decide)) (hF.r1 89 (by decide)), by rw [hF.r1 48 (by decide)]; exact h4, fun q => SeM_rs6 (h5 q) (hF.r1 60 (by decide)) (by rw [hF.r1 48 (by decide)]) (by rw [hF.r1 48 (by decide)]) (by rw [hF.r1 48 (by decide)]), TpM_of h6 (by rw [hF.r1 48 (by decide)]) (hF.r1 58 (by decide)) (hF.r2 65 (by decide)), ShM_of h7 (hF.r1 61 (by decide)) (hF.r1 62 (by decide)) (hF.r2 63 (by decide)), fun d hd => ?_⟩
  show (sI σ 59 e (σ.1 59 e + nI 1)).1 59 d = upq (oE A) e (oE A e + nI 1) d
  by_cases c : d = e
  · rw [c, r_sI0, upq_s, h8 e he]
  · rw [r_sIj c, upq_n c]; exact h8 d hd
theorem finds_eq {A : Ob} {σ : Mm} {e : Nat} (h : AM A σ) (he : e < 7) : ∃ σ', f_X11_finds (er7 e) σ = some (er7 e, σ') ∧ AM (tel A e) σ' ∧ FrM σ σ' := by
  have hx : (-1000000001 : Int32) - er7 e = nI e := co_dec (N := 7) (P := fun e => (-1000000001 : Int32) - er7 e = nI e) (by decide +kernel) he
  exact ⟨fd σ e, finds_g he hx, AM_fd h he, FrM_of ((Fr.rf [59] σ).sI (by decide)) (by decide)⟩
/-- both answer alike -/
def Ans {α : Type} (f : Mm → Option (α × Mm)) (g : Mm → Option (α × Mm)) (σ : Mm) : Prop := ∃ r σ1 σ2 A, f σ = some (r, σ1) ∧ g σ1 = some (r, σ2) ∧ AC A σ2 ∧ AM A σ2
theorem Ans_of {α : Type} {f g : Mm → Option (α × Mm)} {σ : Mm} {A A' : Ob} {r : α} (hm : AM A σ) (h1 : ∃ σ1, f σ = some (r, σ1) ∧ AC A' σ1 ∧ FrC σ σ1) (h2 : ∀ σ1, AM A σ1 → ∃ σ2, g σ1 = some (r, σ2) ∧ AM A' σ2 ∧ FrM σ1 σ2) : Ans f g σ := by
  obtain ⟨σ1, a1, a2, a3⟩ := h1
  obtain ⟨σ2, b1, b2, b3⟩ := h2 σ1 (AM_fr hm a3)
  exact ⟨r, σ1, σ2, A', a1, b1, AC_fr a2 b3, b2⟩
