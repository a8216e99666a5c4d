/-! THE MEMORY: ints and longs by (cell, place); cells are numbered by 'lay' -/
abbrev Mm : Type := (Nat → Nat → Int32) × (Nat → Nat → Int64)
def sR (σ : Mm) (k : Nat) (f : Nat → Int32) : Mm := (fun a => if a = k then f else σ.1 a, σ.2)
def sQ (σ : Mm) (k : Nat) (f : Nat → Int64) : Mm := (σ.1, fun a => if a = k then f else σ.2 a)
def sI (σ : Mm) (k j : Nat) (v : Int32) : Mm := sR σ k (upd (σ.1 k) j v)
def sL (σ : Mm) (k j : Nat) (v : Int64) : Mm := sQ σ k (vp_updL (σ.2 k) j v)
/-- a cell: an array (kind, length), or an object (class, its fields: int, long, a known cell) -/
abbrev Ly : Type := (Nat × Nat) ⊕ (Nat × List (Option (Option Nat)))
def lay : List Ly := [
  .inr (10, [some (some 1), some (some 3), some (some 4), some (some 6), some (some 7), some (some 31), none, some (some 37), some (some 39)]),
  .inr (0, [some (some 2), none]),
  .inl (0, 7),
  .inr (3, [some (some 4), none, none, none, none]),
  .inr (8, [some (some 5), none]),
  .inl (0, 120),
  .inr (7, [some (some 7), some (some 13), some (some 18), some (some 26), some (some 28), some (some 30), none, none]),
  .inr (5, [none, some (some 8), some (some 9), none, some (some 10), some (some 11), some (some 12), none]),
  .inl (0, 6),
  .inl (0, 210),
  .inl (0, 3),
  .inl (0, 3),
  .inl (0, 3),
  .inr (1, [none, none, some none, some (some 14), some (some 15), some (some 16), some (some 17)]),
  .inl (0, 390),
  .inl (0, 7),
  .inl (0, 3),
  .inl (0, 3),
  .inr (9, [some (some 19), some (some 20), some (some 21), some (some 22), some (some 23), some (some 24), some (some 25), none, none]),
  .inl (2, 6000),
  .inl (0, 16384),
  .inl (0, 6000),
  .inl (0, 6000),
  .inl (0, 36000),
  .inl (0, 6000),
  .inl (0, 6000),
  .inr (4, [some (some 27), none]),
  .inl (0, 6000),
  .inr (4, [some (some 29), none]),
  .inl (0, 90),
  .inl (0, 6),
  .inr (5, [none, some (some 32), some (some 33), none, some (some 34), some (some 35), some (some 36), none]),
  .inl (0, 6),
  .inl (0, 210),
  .inl (0, 3),
  .inl (0, 3),
  .inl (0, 3),
  .inr (2, [some (some 38), some none, none, none]),
  .inl (0, 3),
  .inl (3, 4),
  .inr (6, [none, none, some (some 41)]),
  .inl (2, 40),
  .inr (6, [none, none, some (some 43)]),
  .inl (2, 40),
  .inr (6, [none, none, some (some 45)]),
  .inl (2, 40),
  .inr (6, [none, none, some (some 47)]),
  .inl (2, 40),
  .inr (11, [none, some (some 49), some (some 50), some (some 51), some (some 52), some (some 53), some (some 54), none, some (some 55), some (some 56), some (some 57), none, some (some 58), none, some (some 59), none, none, none, none, some (some 60), some (some 61), some (some 62), some (some 63), some (some 64), none, none, none, none, none, some (some 65), some (some 66), some (some 67), some (some 68), some (some 69), some (some 70), some (some 71), some (some 72), none, some (some 73), some (some 74), some (some 75), some (some 76), some (some 77), some (some 78), some (some 79), some (some 80), some (some 81), none, none, none, none, some (some 82), some (some 83), some (some 84), some (some 85), some (some 86), some (some 87), some (some 88), none, some (some 89), none, some (some 90), some (some 91), none, some (some 92), some (some 93), none, some (some 94)]),
  .inl (0, 6),
  .inl (0, 42),
  .inl (0, 42),
  .inl (0, 42),
  .inl (0, 42),
  .inl (0, 42),
  .inl (0, 6),
  .inl (0, 3),
  .inl (0, 3),
  .inl (0, 120),
  .inl (0, 7),
  .inl (0, 234),
  .inl (0, 4),
  .inl (0, 4),
  .inl (2, 160),
  .inl (2, 40),
  .inl (2, 9),
  .inl (0, 6),
  .inl (0, 84),
  .inl (0, 84),
  .inl (0, 84),
  .inl (0, 84),
  .inl (0, 84),
  .inl (0, 6),
  .inl (0, 7),
  .inl (0, 3),
  .inl (0, 3),
  .inl (0, 3),
  .inl (0, 3),
  .inl (0, 3),
  .inl (0, 3),
  .inl (0, 6),
  .inl (0, 6),
  .inl (2, 6001),
  .inl (0, 36006),
  .inl (0, 6001),
  .inl (0, 16384),
  .inl (1, 6001),
  .inl (0, 6001),
  .inl (0, 6001),
  .inl (0, 128),
  .inl (2, 7),
  .inl (0, 6001),
  .inl (0, 6001),
  .inl (0, 6001),
  .inl (0, 3)]
/-- launch, bound, cells' addresses, array classes, classes, slots, static tables' addresses, texts' addresses, their rows' addresses -/
abbrev En : Type := Launch × Nat × (Nat → Nat) × (Nat → ClassId) × (Nat → ClassId) × (Nat → Nat → Nat) × (Nat → Nat) × (Nat → Nat) × (Nat → Nat)
def ad (E : En) (k : Nat) : Nat := E.2.2.1 k
def cA (E : En) (t : Nat) : ClassId := E.2.2.2.1 t
def dD (E : En) : va_G := (E.2.2.2.2.1, E.2.2.2.2.2.1)
def zA (E : En) : Nat → Nat := E.2.2.2.2.2.2.1
def kA (E : En) : Nat → Nat := E.2.2.2.2.2.2.2.1
def vA (E : En) : Nat → Nat := E.2.2.2.2.2.2.2.2
def AA (E : En) : Nat → Prop := fun q => E.2.1 ≤ q
def tyO (t : Nat) : FieldType := match t with
  | 0 => .int
  | 1 => .boolean
  | 2 => .long
  | _ => .object "ManyHands$Sheet"
def tyl (E : En) : List (ClassId × FieldType) := lay.mapIdx (fun k d => match d with
  | .inl (t, _) => (cA E k, tyO t)
  | .inr _ => (cA E 2, .int))
theorem tyl_at {E : En} {k t n : Nat} (h : lay[k]? = some (.inl (t, n))) : (tyl E)[k]? = some (cA E k, tyO t) := by
  unfold tyl
  rw [List.getElem?_mapIdx, h]
  rfl
def fv (E : En) (σ : Mm) (k j : Nat) (f : Option (Option Nat)) : Value := match f with
  | none => .int (σ.1 k j)
  | some none => .long (σ.2 k j)
  | some (some q) => .ref (ad E q)
def cE (E : En) (σ : Mm) (k : Nat) (d : Ly) : va_E := match d with
  | .inl (0, n) => .inl (cA E k, n, .inl (σ.1 k))
  | .inl (1, n) => .inl (cA E k, n, .inl (σ.1 k))
  | .inl (2, n) => .inl (cA E k, n, .inr (.inl (σ.2 k)))
  | .inl (_, n) => .inl (cA E k, n, .inr (.inr (.inr (.inr (fun i => some (ad E (k + 1 + 2 * i)))))))
  | .inr (ci, fs) => .inr (ci, fs.mapIdx (fun j f => fv E σ k j f))
def wd (E : En) (σ : Mm) : va_W := lay.mapIdx (fun k d => (ad E k, cE E σ k d))
theorem wd_at {E : En} {σ : Mm} {k : Nat} {d : Ly} (h : lay[k]? = some d) : (wd E σ)[k]? = some (ad E k, cE E σ k d) := by
  unfold wd
  rw [List.getElem?_mapIdx, h]
  rfl
theorem cE_congr {E : En} {σ σ' : Mm} {k : Nat} (h1 : σ'.1 k = σ.1 k) (h2 : σ'.2 k = σ.2 k) (d : Ly) : cE E σ' k d = cE E σ k d := by
  unfold cE fv
  rw [h1, h2]
theorem wd_set {E : En} {σ σ' : Mm} {k : Nat} {d : Ly} (h : lay[k]? = some d) (hn : ∀ a, a ≠ k → σ'.1 a = σ.1 a ∧ σ'.2 a = σ.2 a) : (wd E σ).set k (ad E k, cE E σ' k d) = wd E σ' := by
  apply List.ext_getElem?
  intro i
  rw [List.getElem?_set]
  by_cases hi : k = i
  · subst hi
    rw [if_pos rfl, wd_at h]
    rw [if_pos]
    have := wd_at (E := E) (σ := σ) h
    exact (List.getElem?_eq_some_iff.mp this).1
  · rw [if_neg hi]
    unfold wd
    rw [List.getElem?_mapIdx, List.getElem?_mapIdx]
    cases hd : lay[i]? with
    | none => rfl
    | some e =>
      show some (ad E i, cE E σ i e) = some (ad E i, cE E σ' i e)
      rw [cE_congr (hn i (fun q => hi q.symm)).1 (hn i (fun q => hi q.symm)).2]
theorem sR_ne (σ : Mm) (k : Nat) (f : Nat → Int32) : ∀ a, a ≠ k → (sR σ k f).1 a = σ.1 a ∧ (sR σ k f).2 a = σ.2 a := fun a h => ⟨by show (if a = k then f else σ.1 a) = _; rw [if_neg h], rfl⟩
theorem sQ_ne (σ : Mm) (k : Nat) (f : Nat → Int64) : ∀ a, a ≠ k → (sQ σ k f).1 a = σ.1 a ∧ (sQ σ k f).2 a = σ.2 a := fun a h => ⟨rfl, by show (if a = k then f else σ.2 a) = _; rw [if_neg h]⟩
theorem sR_eq (σ : Mm) (k : Nat) (f : Nat → Int32) : (sR σ k f).1 k = f := by show (if k = k then f else σ.1 k) = _; rw [if_pos rfl]
theorem sQ_eq (σ : Mm) (k : Nat) (f : Nat → Int64) : (sQ σ k f).2 k = f := by show (if k = k then f else σ.2 k) = _; rw [if_pos rfl]
/-- the words that every method needs -/
def W0 : List Cond := lw_tbl.filter goodWord
theorem W0_of {w : Cond} (h : w ∈ lw_tbl) (hg : goodWord w = true) : w ∈ W0 := List.mem_filter.mpr ⟨h, hg⟩
theorem W0_tbl {w : Cond} (h : w ∈ W0) : w ∈ lw_tbl := (List.mem_filter.mp h).1
theorem W0_good {w : Cond} (h : w ∈ W0) : (w.onTables && w.keeps) = true ∨ ∃ ty, w = .arrayClass ty := good_of_word (List.mem_filter.mp h).2
def stT : List (String × String × List Int32) := [("ManyHands", "UNDER", [-1, 0, 0, 0, 3, 0, 0, 0]), ("ManyHands", "PARTS_OF_KIND", [1, 3, 7, 15, 7, 1, 17, 5]), ("ManyHands$Reader", "KIND_OF_WORD", [1, 2, 2, 3, 4, 5, 7, 0, 6]), ("ManyHands$Reader", "PARTS_OF_WORD", [2, 2, 6, 14, 6, 0, 4, 0, 16])]
def stS : List (Nat × String) := [(97, "read"), (99, "write"), (101, "put"), (103, "swap"), (105, "add"), (107, "fence"), (109, "set"), (111, "keep"), (113, "again")]
def stLen : List Nat := [4, 5, 3, 4, 3, 5, 3, 4, 5]
def stByt : List (List Int32) := [[114, 101, 97, 100], [119, 114, 105, 116, 101], [112, 117, 116], [115, 119, 97, 112], [97, 100, 100], [102, 101, 110, 99, 101], [115, 101, 116], [107, 101, 101, 112], [97, 103, 97, 105, 110]]
/-- the statics, as they stand from the start on -/
def Stt (E : En) (U : State) : Prop :=
  (∀ (i : Nat) (q : String × String × List Int32), stT[i]? = some q → va_Z q.1 q.2.1 "[I" (.ref (zA E i)) (AA E) U U.heap ∧ va_T .int (zA E i) q.2.2.length (fun j => .int (q.2.2.getD j 0)) (AA E) U U.heap) ∧
  (∀ (i : Nat) (q : Nat × String), stS[i]? = some q → vk_R RX3 q.1 q.2 (kA E i) U) ∧ vk_S 9 stLen stByt (kA E) (vA E) (AA E) U U.heap ∧ va_Z "java/lang/String" "COMPACT_STRINGS" "Z" (.int 1) (AA E) U U.heap ∧ va_Zq "jdk/internal/util/Preconditions" "SIOOBE_FORMATTER" "Ljava/util/function/BiFunction;" (AA E) U U.heap
theorem Stt.warm {E : En} {s U : State} {H : Heap} {locs : List Loc} (h : Stt E s) (hS : va_S (AA E) s.heap H locs) (hU : U.heap = H) (hW : s.WarmedH U.vm) : Stt E U := by
  have hk : ∀ a : Nat, a < s.heap.size → ¬ AA E a → U.heap[a]? = s.heap[a]? := fun a h1 h2 => by rw [hU]; exact hS.2.1 a h1 h2
  refine ⟨fun i q hq => ⟨((h.1 i q hq).1.kept hk).moved hW.alike, ((h.1 i q hq).2.kept hk).moved hW.alike⟩, fun i q hq => (h.2.1 i q hq).warm hW, (h.2.2.1.kept hk).moved hW.alike, (h.2.2.2.1.kept hk).moved hW.alike, (h.2.2.2.2.kept hk).moved hW.alike⟩
theorem Stt.same {E : En} {s U : State} (h : Stt E s) (hU : U.heap = s.heap) (hV : U.vm = s.vm) : Stt E U := by
  have hk : ∀ a : Nat, a < s.heap.size → ¬ AA E a → U.heap[a]? = s.heap[a]? := fun a _ _ => by rw [hU]
  have ha : s.vm.Alike U.vm := by rw [hV]; exact Vm.Alike.refl s.vm
  refine ⟨fun i q hq => ⟨((h.1 i q hq).1.kept hk).moved ha, ((h.1 i q hq).2.kept hk).moved ha⟩, fun i q hq => (h.2.1 i q hq).same hV, (h.2.2.1.kept hk).moved ha, (h.2.2.2.1.kept hk).moved ha, (h.2.2.2.2.kept hk).moved ha⟩
/-- the world at a method's start, and at its end -/
def Wd (E : En) (σ : Mm) (U : State) : Prop := va_P (dD E) vwCl (wd E σ) U.heap ∧ va_K (dD E) vwCl (tyl E) U ∧ va_D (AA E) (wd E σ) ∧ Stt E U
def Wp (E : En) (σ : Mm) (t : State) : Prop := va_P (dD E) vwCl (wd E σ) t.heap ∧ va_D (AA E) (wd E σ)
theorem Wd_blind {E : En} {σ : Mm} {av : List Value} : FrameBlind (va_Pc av (Wd E σ)) := by
  rintro a U g mk ⟨e1, h1, h2, h3, h4⟩
  exact ⟨e1, h1, va_K.moved (u := U) (U := U.calling g mk a) (Vm.Alike.refl U.vm) h2, h3, h4.same rfl rfl⟩
/-- what a walk stands in: program, environment, room, start, method, arguments, frames below, its own, code, cells and slots made ahead -/
abbrev Cx : Type := Program × Env × Room × State × MethodId × Array Value × List Frame × Method × Code × Nat × Nat
def Gp (G : Cx) : Program := G.1
def Ge (G : Cx) : Env := G.2.1
def GR (G : Cx) : Room := G.2.2.1
def Gs (G : Cx) : State := G.2.2.2.1
def Gm (G : Cx) : MethodId := G.2.2.2.2.1
def Ga (G : Cx) : Array Value := G.2.2.2.2.2.1
def Gb (G : Cx) : List Frame := G.2.2.2.2.2.2.1
def Gh (G : Cx) : Method := G.2.2.2.2.2.2.2.1
def Gc (G : Cx) : Code := G.2.2.2.2.2.2.2.2.1
def Gn (G : Cx) : Nat := G.2.2.2.2.2.2.2.2.2.1
def Go (G : Cx) : Nat := G.2.2.2.2.2.2.2.2.2.2
def Fx (E : En) (G : Cx) (cc : ByteArray) (nL : Nat) (own : String) : Prop :=
  (Gp G).tables.exec = Jvm.exec ∧ (Gc G).code = cc ∧ (Gc G).maxLocals = nL ∧ (Gs G).vm.findClass own = some (Gm G).cls ∧ (∀ w ∈ W0, w.before (Ga G) (Gs G) = true) ∧ va_K (dD E) vwCl (tyl E) (Gs G) ∧ Stt E (Gs G) ∧ (Gh G).locks = false ∧ Gn G ≤ (GR G).cells ∧ Go G ≤ (GR G).slots
/-- from here on, if the function's value is some (r, σ'), the machine comes to Z r σ' -/
def KR {ρ : Type} (E : En) (G : Cx) (nL : Nat) (Z : ρ → Mm → State → Prop) (o : Option (ρ × Mm)) (pc : Nat) (lv : List (Nat × Value)) (st : List Value) (σ : Mm) : Prop :=
  ∀ (H : Heap) (locs : List Loc) (ls : Array Slot) (r : ρ) (σ' : Mm), o = some (r, σ') → va_P (dD E) vwCl (wd E σ) H → va_D (AA E) (wd E σ) → va_S (AA E) (Gs G).heap H locs → lv_has ls nL lv →
    W (Gp G) E.1 (Ge G) (GR G) (Gs G) (Gm G) (Ga G) (Gb G) (Gh G) (Gc G) H locs (Gn G) (Go G) (Z r σ') (F0 (Gm G) pc ls st)
def ix (i : Int32) : Nat := i.toNatClampNeg
def ck {β : Type} (i : Int32) (n : Nat) (o : Option β) : Option β := if i < 0 ∨ n ≤ i.toNatClampNeg then none else o
def cb {β : Type} (v : Int32) (o : Option β) : Option β := if v = 0 ∨ v = 1 then o else none
def nm {α β : Type} (a : α) (f : α → β) : β := f a
def bd {ρ β : Type} (o : Option (ρ × Mm)) (f : ρ → Mm → Option β) : Option β := match o with
  | none => none
  | some q => f q.1 q.2
def fx {γ : Type} (bot : γ) : Nat → (γ → γ) → γ
  | 0, _ => bot
  | n + 1, F => F (fx bot n F)
def FU : Nat := 40000
theorem ck_some {β : Type} {i : Int32} {n : Nat} {o : Option β} {r : β} (h : ck i n o = some r) : vp_in i n ∧ o = some r := by
  unfold ck at h
  by_cases hc : i < 0 ∨ n ≤ i.toNatClampNeg
  · rw [if_pos hc] at h; cases h
  · rw [if_neg hc] at h; exact ⟨hc, h⟩
theorem cb_some {β : Type} {v : Int32} {o : Option β} {r : β} (h : cb v o = some r) : (v = 0 ∨ v = 1) ∧ o = some r := by
  unfold cb at h
  by_cases hc : v = 0 ∨ v = 1
  · rw [if_pos hc] at h; exact ⟨hc, h⟩
  · rw [if_neg hc] at h; cases h
theorem bd_some {ρ β : Type} {o : Option (ρ × Mm)} {f : ρ → Mm → Option β} {r : β} (h : bd o f = some r) : ∃ (q : ρ) (σ : Mm), o = some (q, σ) ∧ f q σ = some r := by
  cases o with
  | none => cases h
  | some q => exact ⟨q.1, q.2, rfl, h⟩
theorem nar_b {v : Int32} (h : v = 0 ∨ v = 1) : narrow .boolean (.int v) = .int v := by
  rcases h with rfl | rfl <;> decide
def irm (x y : Int32) : Int32 := x - x / y * y
def lrm (x y : Int64) : Int64 := x - x / y * y
section KROWS
variable {ρ : Type} {E : En} {G : Cx} {cc : ByteArray} {nL : Nat} {own : String} {Z : ρ → Mm → State → Prop} {o o1 o2 : Option (ρ × Mm)} {pc : Nat} {lv lv' : List (Nat × Value)} {st : List Value} {σ : Mm}
theorem k_none : KR E G nL Z none pc lv st σ := fun H locs ls r σ2 ho hP hD hS hl => by cases ho
theorem k_sub (ks : List Nat) (h : lv_pick lv ks = lv') (k : KR E G nL Z o pc lv' st σ) : KR E G nL Z o pc lv st σ := fun H locs ls r σ2 ho hP hD hS hl => k H locs ls r σ2 ho hP hD hS (lv_sub hl ks h)
theorem k_nm {α : Type} {a : α} {f : α → Option (ρ × Mm)} (k : KR E G nL Z (f a) pc lv st σ) : KR E G nL Z (nm a f) pc lv st σ := k
theorem k_nmI {e : Int32} {f : Int32 → Option (ρ × Mm)} (k : ∀ v : Int32, KR E G nL Z (f v) pc lv (.int v :: st) σ) : KR E G nL Z (nm e f) pc lv (.int e :: st) σ := k e
theorem k_nmL {e : Int64} {f : Int64 → Option (ρ × Mm)} (k : ∀ v : Int64, KR E G nL Z (f v) pc lv (.long v :: st) σ) : KR E G nL Z (nm e f) pc lv (.long e :: st) σ := k e
theorem k_case {c : Prop} {inst : Decidable c} (kt : c → KR E G nL Z o1 pc lv st σ) (kf : ¬ c → KR E G nL Z o2 pc lv st σ) : KR E G nL Z (if c then o1 else o2) pc lv st σ := by
  by_cases h : c
  · rw [if_pos h]; exact kt h
  · rw [if_neg h]; exact kf h
theorem k_iconst (F : Fx E G cc nL own) {n : Int} {v : Int32} (d : decode cc pc = .ok (.iconst n, 1)) (hv : Int32.ofInt n = v) (k : KR E G nL Z o (pc + 1) lv (.int v :: st) σ) : KR E G nL Z o pc lv st σ := fun H locs ls r σ2 ho hP hD hS hl => lv_iconst F.1 F.2.1 d hv (k H locs ls r σ2 ho hP hD hS hl)
theorem k_bipush (F : Fx E G cc nL own) {n : Int} {v : Int32} (d : decode cc pc = .ok (.bipush n, 2)) (hv : (Int8.ofInt n).toInt32 = v) (k : KR E G nL Z o (pc + 2) lv (.int v :: st) σ) : KR E G nL Z o pc lv st σ := fun H locs ls r σ2 ho hP hD hS hl => lv_bipush F.1 F.2.1 d hv (k H locs ls r σ2 ho hP hD hS hl)
theorem k_sipush (F : Fx E G cc nL own) {n : Int} {v : Int32} (d : decode cc pc = .ok (.sipush n, 3)) (hv : (Int16.ofInt n).toInt32 = v) (k : KR E G nL Z o (pc + 3) lv (.int v :: st) σ) : KR E G nL Z o pc lv st σ := fun H locs ls r σ2 ho hP hD hS hl => lv_sipush F.1 F.2.1 d hv (k H locs ls r σ2 ho hP hD hS hl)
theorem k_lconst (F : Fx E G cc nL own) {n : Fin 2} {v : Int64} (d : decode cc pc = .ok (.lconst n, 1)) (hv : Int64.ofNat (n : Nat) = v) (k : KR E G nL Z o (pc + 1) lv (.long v :: st) σ) : KR E G nL Z o pc lv st σ := fun H locs ls r σ2 ho hP hD hS hl => lv_lconst F.1 F.2.1 d hv (k H locs ls r σ2 ho hP hD hS hl)
theorem k_ldc (F : Fx E G cc nL own) {index : Nat} {v : Int32} (hc : Cond.constant own index v ∈ W0) (d : decode cc pc = .ok (.ldc index, 2)) (k : KR E G nL Z o (pc + 2) lv (.int v :: st) σ) : KR E G nL Z o pc lv st σ := fun H locs ls r σ2 ho hP hD hS hl => lv_ldc F.1 F.2.1 F.2.2.2.1 (F.2.2.2.2.1 _ hc) d (k H locs ls r σ2 ho hP hD hS hl)
theorem k_ldcw (F : Fx E G cc nL own) {index : Nat} {v : Int32} (hc : Cond.constant own index v ∈ W0) (d : decode cc pc = .ok (.ldc_w index, 3)) (k : KR E G nL Z o (pc + 3) lv (.int v :: st) σ) : KR E G nL Z o pc lv st σ := fun H locs ls r σ2 ho hP hD hS hl => lv_ldcw F.1 F.2.1 F.2.2.2.1 (F.2.2.2.2.1 _ hc) d (k H locs ls r σ2 ho hP hD hS hl)
theorem k_ldc2 (F : Fx E G cc nL own) {index : Nat} {v : Int64} (hc : Cond.constantLong own index v ∈ W0) (d : decode cc pc = .ok (.ldc2_w index, 3)) (k : KR E G nL Z o (pc + 3) lv (.long v :: st) σ) : KR E G nL Z o pc lv st σ := fun H locs ls r σ2 ho hP hD hS hl => lv_ldc2 F.1 F.2.1 F.2.2.2.1 (F.2.2.2.2.1 _ hc) d (k H locs ls r σ2 ho hP hD hS hl)
theorem k_iload_n (F : Fx E G cc nL own) {q : Fin 4} {x : Int32} (i j : Nat) (d : decode cc pc = .ok (.iload_n q, 1)) (hi : (q : Nat) = i) (hl0 : lv[j]? = some (i, .int x)) (k : KR E G nL Z o (pc + 1) lv (.int x :: st) σ) : KR E G nL Z o pc lv st σ := fun H locs ls r σ2 ho hP hD hS hl => lv_iload_n F.1 F.2.1 d hi (lv_at hl j hl0) (k H locs ls r σ2 ho hP hD hS hl)
theorem k_iload (F : Fx E G cc nL own) {x : Int32} (i j : Nat) (d : decode cc pc = .ok (.iload i, 2)) (hl0 : lv[j]? = some (i, .int x)) (k : KR E G nL Z o (pc + 2) lv (.int x :: st) σ) : KR E G nL Z o pc lv st σ := fun H locs ls r σ2 ho hP hD hS hl => lv_iload F.1 F.2.1 d (lv_at hl j hl0) (k H locs ls r σ2 ho hP hD hS hl)
theorem k_istore_n (F : Fx E G cc nL own) {q : Fin 4} {x : Int32} (i : Nat) (d : decode cc pc = .ok (.istore_n q, 1)) (hi : (q : Nat) = i) (hn : i < nL) (hl0 : (i, Value.int x) :: lv.filter (fun q => !(q.1 == i) && !(q.1 + 1 == i && q.2.category == 2)) = lv') (k : KR E G nL Z o (pc + 1) lv' st σ) : KR E G nL Z o pc lv (.int x :: st) σ := fun H locs ls r σ2 ho hP hD hS hl => lv_istore_n F.1 F.2.1 d hi hl hn hl0 (fun ls hl => k H locs ls r σ2 ho hP hD hS hl)
theorem k_istore (F : Fx E G cc nL own) {x : Int32} (i : Nat) (d : decode cc pc = .ok (.istore i, 2)) (hn : i < nL) (hl0 : (i, Value.int x) :: lv.filter (fun q => !(q.1 == i) && !(q.1 + 1 == i && q.2.category == 2)) = lv') (k : KR E G nL Z o (pc + 2) lv' st σ) : KR E G nL Z o pc lv (.int x :: st) σ := fun H locs ls r σ2 ho hP hD hS hl => lv_istore F.1 F.2.1 d hl hn hl0 (fun ls hl => k H locs ls r σ2 ho hP hD hS hl)
theorem k_lload_n (F : Fx E G cc nL own) {q : Fin 4} {x : Int64} (i j : Nat) (d : decode cc pc = .ok (.lload_n q, 1)) (hi : (q : Nat) = i) (hl0 : lv[j]? = some (i, .long x)) (k : KR E G nL Z o (pc + 1) lv (.long x :: st) σ) : KR E G nL Z o pc lv st σ := fun H locs ls r σ2 ho hP hD hS hl => lv_lload_n F.1 F.2.1 d hi (lv_at hl j hl0) (k H locs ls r σ2 ho hP hD hS hl)
theorem k_lload (F : Fx E G cc nL own) {x : Int64} (i j : Nat) (d : decode cc pc = .ok (.lload i, 2)) (hl0 : lv[j]? = some (i, .long x)) (k : KR E G nL Z o (pc + 2) lv (.long x :: st) σ) : KR E G nL Z o pc lv st σ := fun H locs ls r σ2 ho hP hD hS hl => lv_lload F.1 F.2.1 d (lv_at hl j hl0) (k H locs ls r σ2 ho hP hD hS hl)
theorem k_lstore_n (F : Fx E G cc nL own) {q : Fin 4} {x : Int64} (i : Nat) (d : decode cc pc = .ok (.lstore_n q, 1)) (hi : (q : Nat) = i) (hn : i + 1 < nL) (hl0 : (i, Value.long x) :: lv.filter (fun q => !(q.1 == i) && (!(q.1 == i + 1) && !(q.1 + 1 == i && q.2.category == 2))) = lv') (k : KR E G nL Z o (pc + 1) lv' st σ) : KR E G nL Z o pc lv (.long x :: st) σ := fun H locs ls r σ2 ho hP hD hS hl => lv_lstore_n F.1 F.2.1 d hi hl hn hl0 (fun ls hl => k H locs ls r σ2 ho hP hD hS hl)
theorem k_lstore (F : Fx E G cc nL own) {x : Int64} (i : Nat) (d : decode cc pc = .ok (.lstore i, 2)) (hn : i + 1 < nL) (hl0 : (i, Value.long x) :: lv.filter (fun q => !(q.1 == i) && (!(q.1 == i + 1) && !(q.1 + 1 == i && q.2.category == 2))) = lv') (k : KR E G nL Z o (pc + 2) lv' st σ) : KR E G nL Z o pc lv (.long x :: st) σ := fun H locs ls r σ2 ho hP hD hS hl => lv_lstore F.1 F.2.1 d hl hn hl0 (fun ls hl => k H locs ls r σ2 ho hP hD hS hl)
theorem k_aload_n (F : Fx E G cc nL own) {q : Fin 4} {x : Nat} (i j : Nat) (d : decode cc pc = .ok (.aload_n q, 1)) (hi : (q : Nat) = i) (hl0 : lv[j]? = some (i, .ref x)) (k : KR E G nL Z o (pc + 1) lv (.ref x :: st) σ) : KR E G nL Z o pc lv st σ := fun H locs ls r σ2 ho hP hD hS hl => lv_aload_n F.1 F.2.1 d hi (lv_at hl j hl0) (k H locs ls r σ2 ho hP hD hS hl)
theorem k_aload (F : Fx E G cc nL own) {x : Nat} (i j : Nat) (d : decode cc pc = .ok (.aload i, 2)) (hl0 : lv[j]? = some (i, .ref x)) (k : KR E G nL Z o (pc + 2) lv (.ref x :: st) σ) : KR E G nL Z o pc lv st σ := fun H locs ls r σ2 ho hP hD hS hl => lv_aload F.1 F.2.1 d (lv_at hl j hl0) (k H locs ls r σ2 ho hP hD hS hl)
theorem k_astore_n (F : Fx E G cc nL own) {q : Fin 4} {x : Nat} (i : Nat) (d : decode cc pc = .ok (.astore_n q, 1)) (hi : (q : Nat) = i) (hn : i < nL) (hl0 : (i, Value.ref x) :: lv.filter (fun q => !(q.1 == i) && !(q.1 + 1 == i && q.2.category == 2)) = lv') (k : KR E G nL Z o (pc + 1) lv' st σ) : KR E G nL Z o pc lv (.ref x :: st) σ := fun H locs ls r σ2 ho hP hD hS hl => lv_astore_n F.1 F.2.1 d hi hl hn hl0 (fun ls hl => k H locs ls r σ2 ho hP hD hS hl)
theorem k_astore (F : Fx E G cc nL own) {x : Nat} (i : Nat) (d : decode cc pc = .ok (.astore i, 2)) (hn : i < nL) (hl0 : (i, Value.ref x) :: lv.filter (fun q => !(q.1 == i) && !(q.1 + 1 == i && q.2.category == 2)) = lv') (k : KR E G nL Z o (pc + 2) lv' st σ) : KR E G nL Z o pc lv (.ref x :: st) σ := fun H locs ls r σ2 ho hP hD hS hl => lv_astore F.1 F.2.1 d hl hn hl0 (fun ls hl => k H locs ls r σ2 ho hP hD hS hl)
theorem k_iinc (F : Fx E G cc nL own) {n : Int} {x c : Int32} {f : Int32 → Option (ρ × Mm)} (i j : Nat) {lw : Int32 → List (Nat × Value)} (d : decode cc pc = .ok (.iinc i n, 3)) (hk : lv[j]? = some (i, .int x)) (hv : Int32.ofInt n = c) (hn : i < nL) (hl0 : ∀ v : Int32, (i, Value.int v) :: lv.filter (fun q => !(q.1 == i) && !(q.1 + 1 == i && q.2.category == 2)) = lw v) (k : ∀ v : Int32, KR E G nL Z (f v) (pc + 3) (lw v) st σ) : KR E G nL Z (nm (x + c) f) pc lv st σ := fun H locs ls r σ2 ho hP hD hS hl => lv_iinc F.1 F.2.1 d hl hk (show x + Int32.ofInt n = x + c by rw [hv]) hn (hl0 _) (fun ls hl => k _ H locs ls r σ2 ho hP hD hS hl)
theorem k_iadd (F : Fx E G cc nL own) {x y : Int32} (d : decode cc pc = .ok (.iadd, 1)) (k : KR E G nL Z o (pc + 1) lv (.int (x + y) :: st) σ) : KR E G nL Z o pc lv (.int y :: .int x :: st) σ := fun H locs ls r σ2 ho hP hD hS hl => lv_iadd F.1 F.2.1 d  (k H locs ls r σ2 ho hP hD hS hl)
theorem k_isub (F : Fx E G cc nL own) {x y : Int32} (d : decode cc pc = .ok (.isub, 1)) (k : KR E G nL Z o (pc + 1) lv (.int (x - y) :: st) σ) : KR E G nL Z o pc lv (.int y :: .int x :: st) σ := fun H locs ls r σ2 ho hP hD hS hl => lv_isub F.1 F.2.1 d  (k H locs ls r σ2 ho hP hD hS hl)
theorem k_imul (F : Fx E G cc nL own) {x y : Int32} (d : decode cc pc = .ok (.imul, 1)) (k : KR E G nL Z o (pc + 1) lv (.int (x * y) :: st) σ) : KR E G nL Z o pc lv (.int y :: .int x :: st) σ := fun H locs ls r σ2 ho hP hD hS hl => lv_imul F.1 F.2.1 d  (k H locs ls r σ2 ho hP hD hS hl)
theorem k_iand (F : Fx E G cc nL own) {x y : Int32} (d : decode cc pc = .ok (.iand, 1)) (k : KR E G nL Z o (pc + 1) lv (.int (x &&& y) :: st) σ) : KR E G nL Z o pc lv (.int y :: .int x :: st) σ := fun H locs ls r σ2 ho hP hD hS hl => lv_iand F.1 F.2.1 d  (k H locs ls r σ2 ho hP hD hS hl)
theorem k_ior (F : Fx E G cc nL own) {x y : Int32} (d : decode cc pc = .ok (.ior, 1)) (k : KR E G nL Z o (pc + 1) lv (.int (x ||| y) :: st) σ) : KR E G nL Z o pc lv (.int y :: .int x :: st) σ := fun H locs ls r σ2 ho hP hD hS hl => lv_ior F.1 F.2.1 d  (k H locs ls r σ2 ho hP hD hS hl)
theorem k_ixor (F : Fx E G cc nL own) {x y : Int32} (d : decode cc pc = .ok (.ixor, 1)) (k : KR E G nL Z o (pc + 1) lv (.int (x ^^^ y) :: st) σ) : KR E G nL Z o pc lv (.int y :: .int x :: st) σ := fun H locs ls r σ2 ho hP hD hS hl => lv_ixor F.1 F.2.1 d  (k H locs ls r σ2 ho hP hD hS hl)
theorem k_ishl (F : Fx E G cc nL own) {x y : Int32} (d : decode cc pc = .ok (.ishl, 1)) (k : KR E G nL Z o (pc + 1) lv (.int (x <<< (y &&& 31)) :: st) σ) : KR E G nL Z o pc lv (.int y :: .int x :: st) σ := fun H locs ls r σ2 ho hP hD hS hl => lv_ishl F.1 F.2.1 d  (k H locs ls r σ2 ho hP hD hS hl)
theorem k_ishr (F : Fx E G cc nL own) {x y : Int32} (d : decode cc pc = .ok (.ishr, 1)) (k : KR E G nL Z o (pc + 1) lv (.int (x >>> (y &&& 31)) :: st) σ) : KR E G nL Z o pc lv (.int y :: .int x :: st) σ := fun H locs ls r σ2 ho hP hD hS hl => lv_ishr F.1 F.2.1 d  (k H locs ls r σ2 ho hP hD hS hl)
theorem k_iushr (F : Fx E G cc nL own) {x y : Int32} (d : decode cc pc = .ok (.iushr, 1)) (k : KR E G nL Z o (pc + 1) lv (.int ((x.toUInt32 >>> (y.toUInt32 &&& Int32.toUInt32 31)).toInt32) :: st) σ) : KR E G nL Z o pc lv (.int y :: .int x :: st) σ := fun H locs ls r σ2 ho hP hD hS hl => lv_iushr F.1 F.2.1 d rfl (k H locs ls r σ2 ho hP hD hS hl)
theorem k_idiv (F : Fx E G cc nL own) {x y : Int32} (d : decode cc pc = .ok (.idiv, 1)) (hy : ¬ y = 0) (k : KR E G nL Z o (pc + 1) lv (.int (x / y) :: st) σ) : KR E G nL Z o pc lv (.int y :: .int x :: st) σ := fun H locs ls r σ2 ho hP hD hS hl => lv_idiv F.1 F.2.1 d hy (k H locs ls r σ2 ho hP hD hS hl)
theorem k_irem (F : Fx E G cc nL own) {x y : Int32} (d : decode cc pc = .ok (.irem, 1)) (hy : ¬ y = 0) (k : KR E G nL Z o (pc + 1) lv (.int (irm x y) :: st) σ) : KR E G nL Z o pc lv (.int y :: .int x :: st) σ := fun H locs ls r σ2 ho hP hD hS hl => lv_irem F.1 F.2.1 d hy (k H locs ls r σ2 ho hP hD hS hl)
theorem k_ladd (F : Fx E G cc nL own) {x y : Int64} (d : decode cc pc = .ok (.ladd, 1)) (k : KR E G nL Z o (pc + 1) lv (.long (x + y) :: st) σ) : KR E G nL Z o pc lv (.long y :: .long x :: st) σ := fun H locs ls r σ2 ho hP hD hS hl => lv_ladd F.1 F.2.1 d  (k H locs ls r σ2 ho hP hD hS hl)
theorem k_lsub (F : Fx E G cc nL own) {x y : Int64} (d : decode cc pc = .ok (.lsub, 1)) (k : KR E G nL Z o (pc + 1) lv (.long (x - y) :: st) σ) : KR E G nL Z o pc lv (.long y :: .long x :: st) σ := fun H locs ls r σ2 ho hP hD hS hl => lv_lsub F.1 F.2.1 d  (k H locs ls r σ2 ho hP hD hS hl)
theorem k_lmul (F : Fx E G cc nL own) {x y : Int64} (d : decode cc pc = .ok (.lmul, 1)) (k : KR E G nL Z o (pc + 1) lv (.long (x * y) :: st) σ) : KR E G nL Z o pc lv (.long y :: .long x :: st) σ := fun H locs ls r σ2 ho hP hD hS hl => lv_lmul F.1 F.2.1 d  (k H locs ls r σ2 ho hP hD hS hl)
theorem k_land (F : Fx E G cc nL own) {x y : Int64} (d : decode cc pc = .ok (.land, 1)) (k : KR E G nL Z o (pc + 1) lv (.long (x &&& y) :: st) σ) : KR E G nL Z o pc lv (.long y :: .long x :: st) σ := fun H locs ls r σ2 ho hP hD hS hl => lv_land F.1 F.2.1 d  (k H locs ls r σ2 ho hP hD hS hl)
theorem k_lor (F : Fx E G cc nL own) {x y : Int64} (d : decode cc pc = .ok (.lor, 1)) (k : KR E G nL Z o (pc + 1) lv (.long (x ||| y) :: st) σ) : KR E G nL Z o pc lv (.long y :: .long x :: st) σ := fun H locs ls r σ2 ho hP hD hS hl => lv_lor F.1 F.2.1 d  (k H locs ls r σ2 ho hP hD hS hl)
theorem k_lxor (F : Fx E G cc nL own) {x y : Int64} (d : decode cc pc = .ok (.lxor, 1)) (k : KR E G nL Z o (pc + 1) lv (.long (x ^^^ y) :: st) σ) : KR E G nL Z o pc lv (.long y :: .long x :: st) σ := fun H locs ls r σ2 ho hP hD hS hl => lv_lxor F.1 F.2.1 d  (k H locs ls r σ2 ho hP hD hS hl)
theorem k_ldiv (F : Fx E G cc nL own) {x y : Int64} (d : decode cc pc = .ok (.ldiv, 1)) (hy : ¬ y = 0) (k : KR E G nL Z o (pc + 1) lv (.long (x / y) :: st) σ) : KR E G nL Z o pc lv (.long y :: .long x :: st) σ := fun H locs ls r σ2 ho hP hD hS hl => lv_ldiv F.1 F.2.1 d hy (k H locs ls r σ2 ho hP hD hS hl)
theorem k_lrem (F : Fx E G cc nL own) {x y : Int64} (d : decode cc pc = .ok (.lrem, 1)) (hy : ¬ y = 0) (k : KR E G nL Z o (pc + 1) lv (.long (lrm x y) :: st) σ) : KR E G nL Z o pc lv (.long y :: .long x :: st) σ := fun H locs ls r σ2 ho hP hD hS hl => lv_lrem F.1 F.2.1 d hy (k H locs ls r σ2 ho hP hD hS hl)
theorem k_lshl (F : Fx E G cc nL own) {x : Int64} {y : Int32} (d : decode cc pc = .ok (.lshl, 1)) (k : KR E G nL Z o (pc + 1) lv (.long (x <<< (y.toInt64 &&& 63)) :: st) σ) : KR E G nL Z o pc lv (.int y :: .long x :: st) σ := fun H locs ls r σ2 ho hP hD hS hl => lv_lshl F.1 F.2.1 d rfl (k H locs ls r σ2 ho hP hD hS hl)
theorem k_lshr (F : Fx E G cc nL own) {x : Int64} {y : Int32} (d : decode cc pc = .ok (.lshr, 1)) (k : KR E G nL Z o (pc + 1) lv (.long (x >>> (y.toInt64 &&& 63)) :: st) σ) : KR E G nL Z o pc lv (.int y :: .long x :: st) σ := fun H locs ls r σ2 ho hP hD hS hl => lv_lshr F.1 F.2.1 d rfl (k H locs ls r σ2 ho hP hD hS hl)
theorem k_lushr (F : Fx E G cc nL own) {x : Int64} {y : Int32} (d : decode cc pc = .ok (.lushr, 1)) (k : KR E G nL Z o (pc + 1) lv (.long ((x.toUInt64 >>> (y.toInt64.toUInt64 &&& Int64.toUInt64 63)).toInt64) :: st) σ) : KR E G nL Z o pc lv (.int y :: .long x :: st) σ := fun H locs ls r σ2 ho hP hD hS hl => lv_lushr F.1 F.2.1 d rfl (k H locs ls r σ2 ho hP hD hS hl)
theorem k_i2l (F : Fx E G cc nL own) {x : Int32} (d : decode cc pc = .ok (.i2l, 1)) (k : KR E G nL Z o (pc + 1) lv (.long x.toInt64 :: st) σ) : KR E G nL Z o pc lv (.int x :: st) σ := fun H locs ls r σ2 ho hP hD hS hl => lv_i2l F.1 F.2.1 d rfl (k H locs ls r σ2 ho hP hD hS hl)
theorem k_l2i (F : Fx E G cc nL own) {x : Int64} (d : decode cc pc = .ok (.l2i, 1)) (k : KR E G nL Z o (pc + 1) lv (.int x.toInt32 :: st) σ) : KR E G nL Z o pc lv (.long x :: st) σ := fun H locs ls r σ2 ho hP hD hS hl => lv_l2i F.1 F.2.1 d rfl (k H locs ls r σ2 ho hP hD hS hl)
theorem k_i2b (F : Fx E G cc nL own) {x : Int32} (d : decode cc pc = .ok (.i2b, 1)) (k : KR E G nL Z o (pc + 1) lv (.int x.toInt8.toInt32 :: st) σ) : KR E G nL Z o pc lv (.int x :: st) σ := fun H locs ls r σ2 ho hP hD hS hl => lv_i2b F.1 F.2.1 d rfl (k H locs ls r σ2 ho hP hD hS hl)
theorem k_i2s (F : Fx E G cc nL own) {x : Int32} (d : decode cc pc = .ok (.i2s, 1)) (k : KR E G nL Z o (pc + 1) lv (.int x.toInt16.toInt32 :: st) σ) : KR E G nL Z o pc lv (.int x :: st) σ := fun H locs ls r σ2 ho hP hD hS hl => lv_i2s F.1 F.2.1 d rfl (k H locs ls r σ2 ho hP hD hS hl)
theorem k_lcmp (F : Fx E G cc nL own) {x y : Int64} (d : decode cc pc = .ok (.lcmp, 1)) (k : KR E G nL Z o (pc + 1) lv (.int (lg_cmp x y) :: st) σ) : KR E G nL Z o pc lv (.long y :: .long x :: st) σ := fun H locs ls r σ2 ho hP hD hS hl => W.lcmp F.1 F.2.1 d  (k H locs ls r σ2 ho hP hD hS hl)
theorem k_dup (F : Fx E G cc nL own) {v : Value} (d : decode cc pc = .ok (.dup, 1)) (h1 : v.category = 1) (k : KR E G nL Z o (pc + 1) lv (v :: v :: st) σ) : KR E G nL Z o pc lv (v :: st) σ := fun H locs ls r σ2 ho hP hD hS hl => lv_dup F.1 F.2.1 d h1 (k H locs ls r σ2 ho hP hD hS hl)
theorem k_dup2 (F : Fx E G cc nL own) {v u : Value} (d : decode cc pc = .ok (.dup2, 1)) (h1 : v.category = 1) (h2 : u.category = 1) (k : KR E G nL Z o (pc + 1) lv (v :: u :: v :: u :: st) σ) : KR E G nL Z o pc lv (v :: u :: st) σ := fun H locs ls r σ2 ho hP hD hS hl => lv_dup2_11 F.1 F.2.1 d h1 h2 (k H locs ls r σ2 ho hP hD hS hl)
theorem k_pop (F : Fx E G cc nL own) {v : Value} (d : decode cc pc = .ok (.pop, 1)) (h1 : v.category = 1) (k : KR E G nL Z o (pc + 1) lv st σ) : KR E G nL Z o pc lv (v :: st) σ := fun H locs ls r σ2 ho hP hD hS hl => lv_pop F.1 F.2.1 d h1 (k H locs ls r σ2 ho hP hD hS hl)
theorem k_icmp_eq (F : Fx E G cc nL own) {x y : Int32} {off : Int} (tgt : Nat) {inst : Decidable (x = y)} (d : decode cc pc = .ok (.if_icmp .eq off, 3)) (ht : (pc : Int) + off = (tgt : Int)) (kt : x = y → KR E G nL Z o1 tgt lv st σ) (kf : ¬ x = y → KR E G nL Z o2 (pc + 3) lv st σ) : KR E G nL Z (if x = y then o1 else o2) pc lv (.int y :: .int x :: st) σ := fun H locs ls r σ2 ho hP hD hS hl => lv_icmp_eq F.1 F.2.1 d ht (fun h => kt h H locs ls r σ2 (by rw [if_pos h] at ho; exact ho) hP hD hS hl) (fun h => kf h H locs ls r σ2 (by rw [if_neg h] at ho; exact ho) hP hD hS hl)
theorem k_if_eq (F : Fx E G cc nL own) {x : Int32} {off : Int} (tgt : Nat) {inst : Decidable (x = 0)} (d : decode cc pc = .ok (.ifCond .eq off, 3)) (ht : (pc : Int) + off = (tgt : Int)) (kt : x = 0 → KR E G nL Z o1 tgt lv st σ) (kf : ¬ x = 0 → KR E G nL Z o2 (pc + 3) lv st σ) : KR E G nL Z (if x = 0 then o1 else o2) pc lv (.int x :: st) σ := fun H locs ls r σ2 ho hP hD hS hl => lv_if_eq F.1 F.2.1 d ht (fun h => kt h H locs ls r σ2 (by rw [if_pos h] at ho; exact ho) hP hD hS hl) (fun h => kf h H locs ls r σ2 (by rw [if_neg h] at ho; exact ho) hP hD hS hl)
theorem k_icmp_lt (F : Fx E G cc nL own) {x y : Int32} {off : Int} (tgt : Nat) {inst : Decidable (x < y)} (d : decode cc pc = .ok (.if_icmp .lt off, 3)) (ht : (pc : Int) + off = (tgt : Int)) (kt : x < y → KR E G nL Z o1 tgt lv st σ) (kf : ¬ x < y → KR E G nL Z o2 (pc + 3) lv st σ) : KR E G nL Z (if x < y then o1 else o2) pc lv (.int y :: .int x :: st) σ := fun H locs ls r σ2 ho hP hD hS hl => lv_icmp_lt F.1 F.2.1 d ht (fun h => kt h H locs ls r σ2 (by rw [if_pos h] at ho; exact ho) hP hD hS hl) (fun h => kf h H locs ls r σ2 (by rw [if_neg h] at ho; exact ho) hP hD hS hl)
theorem k_if_lt (F : Fx E G cc nL own) {x : Int32} {off : Int} (tgt : Nat) {inst : Decidable (x < 0)} (d : decode cc pc = .ok (.ifCond .lt off, 3)) (ht : (pc : Int) + off = (tgt : Int)) (kt : x < 0 → KR E G nL Z o1 tgt lv st σ) (kf : ¬ x < 0 → KR E G nL Z o2 (pc + 3) lv st σ) : KR E G nL Z (if x < 0 then o1 else o2) pc lv (.int x :: st) σ := fun H locs ls r σ2 ho hP hD hS hl => lv_if_lt F.1 F.2.1 d ht (fun h => kt h H locs ls r σ2 (by rw [if_pos h] at ho; exact ho) hP hD hS hl) (fun h => kf h H locs ls r σ2 (by rw [if_neg h] at ho; exact ho) hP hD hS hl)
theorem k_icmp_ge (F : Fx E G cc nL own) {x y : Int32} {off : Int} (tgt : Nat) {inst : Decidable (y ≤ x)} (d : decode cc pc = .ok (.if_icmp .ge off, 3)) (ht : (pc : Int) + off = (tgt : Int)) (kt : y ≤ x → KR E G nL Z o1 tgt lv st σ) (kf : ¬ y ≤ x → KR E G nL Z o2 (pc + 3) lv st σ) : KR E G nL Z (if y ≤ x then o1 else o2) pc lv (.int y :: .int x :: st) σ := fun H locs ls r σ2 ho hP hD hS hl => lv_icmp_ge F.1 F.2.1 d ht (fun h => kt h H locs ls r σ2 (by rw [if_pos h] at ho; exact ho) hP hD hS hl) (fun h => kf h H locs ls r σ2 (by rw [if_neg h] at ho; exact ho) hP hD hS hl)
theorem k_if_ge (F : Fx E G cc nL own) {x : Int32} {off : Int} (tgt : Nat) {inst : Decidable (0 ≤ x)} (d : decode cc pc = .ok (.ifCond .ge off, 3)) (ht : (pc : Int) + off = (tgt : Int)) (kt : 0 ≤ x → KR E G nL Z o1 tgt lv st σ) (kf : ¬ 0 ≤ x → KR E G nL Z o2 (pc + 3) lv st σ) : KR E G nL Z (if 0 ≤ x then o1 else o2) pc lv (.int x :: st) σ := fun H locs ls r σ2 ho hP hD hS hl => lv_if_ge F.1 F.2.1 d ht (fun h => kt h H locs ls r σ2 (by rw [if_pos h] at ho; exact ho) hP hD hS hl) (fun h => kf h H locs ls r σ2 (by rw [if_neg h] at ho; exact ho) hP hD hS hl)
theorem k_icmp_gt (F : Fx E G cc nL own) {x y : Int32} {off : Int} (tgt : Nat) {inst : Decidable (y < x)} (d : decode cc pc = .ok (.if_icmp .gt off, 3)) (ht : (pc : Int) + off = (tgt : Int)) (kt : y < x → KR E G nL Z o1 tgt lv st σ) (kf : ¬ y < x → KR E G nL Z o2 (pc + 3) lv st σ) : KR E G nL Z (if y < x then o1 else o2) pc lv (.int y :: .int x :: st) σ := fun H locs ls r σ2 ho hP hD hS hl => lv_icmp_gt F.1 F.2.1 d ht (fun h => kt h H locs ls r σ2 (by rw [if_pos h] at ho; exact ho) hP hD hS hl) (fun h => kf h H locs ls r σ2 (by rw [if_neg h] at ho; exact ho) hP hD hS hl)
theorem k_if_gt (F : Fx E G cc nL own) {x : Int32} {off : Int} (tgt : Nat) {inst : Decidable (0 < x)} (d : decode cc pc = .ok (.ifCond .gt off, 3)) (ht : (pc : Int) + off = (tgt : Int)) (kt : 0 < x → KR E G nL Z o1 tgt lv st σ) (kf : ¬ 0 < x → KR E G nL Z o2 (pc + 3) lv st σ) : KR E G nL Z (if 0 < x then o1 else o2) pc lv (.int x :: st) σ := fun H locs ls r σ2 ho hP hD hS hl => lv_if_gt F.1 F.2.1 d ht (fun h => kt h H locs ls r σ2 (by rw [if_pos h] at ho; exact ho) hP hD hS hl) (fun h => kf h H locs ls r σ2 (by rw [if_neg h] at ho; exact ho) hP hD hS hl)
theorem k_icmp_le (F : Fx E G cc nL own) {x y : Int32} {off : Int} (tgt : Nat) {inst : Decidable (x ≤ y)} (d : decode cc pc = .ok (.if_icmp .le off, 3)) (ht : (pc : Int) + off = (tgt : Int)) (kt : x ≤ y → KR E G nL Z o1 tgt lv st σ) (kf : ¬ x ≤ y → KR E G nL Z o2 (pc + 3) lv st σ) : KR E G nL Z (if x ≤ y then o1 else o2) pc lv (.int y :: .int x :: st) σ := fun H locs ls r σ2 ho hP hD hS hl => lv_icmp_le F.1 F.2.1 d ht (fun h => kt h H locs ls r σ2 (by rw [if_pos h] at ho; exact ho) hP hD hS hl) (fun h => kf h H locs ls r σ2 (by rw [if_neg h] at ho; exact ho) hP hD hS hl)
theorem k_if_le (F : Fx E G cc nL own) {x : Int32} {off : Int} (tgt : Nat) {inst : Decidable (x ≤ 0)} (d : decode cc pc = .ok (.ifCond .le off, 3)) (ht : (pc : Int) + off = (tgt : Int)) (kt : x ≤ 0 → KR E G nL Z o1 tgt lv st σ) (kf : ¬ x ≤ 0 → KR E G nL Z o2 (pc + 3) lv st σ) : KR E G nL Z (if x ≤ 0 then o1 else o2) pc lv (.int x :: st) σ := fun H locs ls r σ2 ho hP hD hS hl => lv_if_le F.1 F.2.1 d ht (fun h => kt h H locs ls r σ2 (by rw [if_pos h] at ho; exact ho) hP hD hS hl) (fun h => kf h H locs ls r σ2 (by rw [if_neg h] at ho; exact ho) hP hD hS hl)
theorem k_icmp_ne (F : Fx E G cc nL own) {x y : Int32} {off : Int} (tgt : Nat) {inst : Decidable (x = y)} (d : decode cc pc = .ok (.if_icmp .ne off, 3)) (ht : (pc : Int) + off = (tgt : Int)) (kf : x = y → KR E G nL Z o1 (pc + 3) lv st σ) (kt : ¬ x = y → KR E G nL Z o2 tgt lv st σ) : KR E G nL Z (if x = y then o1 else o2) pc lv (.int y :: .int x :: st) σ := fun H locs ls r σ2 ho hP hD hS hl => lv_icmp_ne F.1 F.2.1 d ht (fun h => kt h H locs ls r σ2 (by rw [if_neg h] at ho; exact ho) hP hD hS hl) (fun h => kf h H locs ls r σ2 (by rw [if_pos h] at ho; exact ho) hP hD hS hl)
theorem k_if_ne (F : Fx E G cc nL own) {x : Int32} {off : Int} (tgt : Nat) {inst : Decidable (x = 0)} (d : decode cc pc = .ok (.ifCond .ne off, 3)) (ht : (pc : Int) + off = (tgt : Int)) (kf : x = 0 → KR E G nL Z o1 (pc + 3) lv st σ) (kt : ¬ x = 0 → KR E G nL Z o2 tgt lv st σ) : KR E G nL Z (if x = 0 then o1 else o2) pc lv (.int x :: st) σ := fun H locs ls r σ2 ho hP hD hS hl => lv_if_ne F.1 F.2.1 d ht (fun h => kt h H locs ls r σ2 (by rw [if_neg h] at ho; exact ho) hP hD hS hl) (fun h => kf h H locs ls r σ2 (by rw [if_pos h] at ho; exact ho) hP hD hS hl)
theorem k_goto (F : Fx E G cc nL own) {off : Int} (tgt : Nat) (d : decode cc pc = .ok (.goto off, 3)) (ht : (pc : Int) + off = (tgt : Int)) (k : KR E G nL Z o tgt lv st σ) : KR E G nL Z o pc lv st σ := fun H locs ls r σ2 ho hP hD hS hl => lv_goto F.1 F.2.1 d ht (k H locs ls r σ2 ho hP hD hS hl)
theorem k_tin (F : Fx E G cc nL own) {dflt lo hi : Int} {offs : Array Int} {len : Nat} {x : Int32} {off : Int} (tgt : Nat) (d : decode cc pc = .ok (.tableswitch dflt lo hi offs, len)) (h1 : ¬ x.toInt < lo) (h2 : ¬ hi < x.toInt) (ho1 : offs[(x.toInt - lo).toNat]? = some off) (ht : (pc : Int) + off = (tgt : Int)) (k : KR E G nL Z o tgt lv st σ) : KR E G nL Z o pc lv (.int x :: st) σ := fun H locs ls r σ2 ho hP hD hS hl => lv_tableIn F.1 F.2.1 d h1 h2 ho1 ht (k H locs ls r σ2 ho hP hD hS hl)
theorem k_tout (F : Fx E G cc nL own) {dflt lo hi : Int} {offs : Array Int} {len : Nat} {x : Int32} (tgt : Nat) (d : decode cc pc = .ok (.tableswitch dflt lo hi offs, len)) (h1 : x.toInt < lo ∨ hi < x.toInt) (ht : (pc : Int) + dflt = (tgt : Int)) (k : KR E G nL Z o tgt lv st σ) : KR E G nL Z o pc lv (.int x :: st) σ := fun H locs ls r σ2 ho hP hD hS hl => lv_tableOut F.1 F.2.1 d h1 ht (k H locs ls r σ2 ho hP hD hS hl)
theorem k_look (F : Fx E G cc nL own) {dflt : Int} {ps : Array (Int × Int)} {len : Nat} {x : Int32} {off : Int} (tgt : Nat) (d : decode cc pc = .ok (.lookupswitch dflt ps, len)) (hp : (ps.toList.zip (ps.toList.drop 1)).all (fun (a, next) => a.1 < next.1) = true) (ho1 : Op.lookupswitch.offset ps.toList dflt x.toInt = off) (ht : (pc : Int) + off = (tgt : Int)) (k : KR E G nL Z o tgt lv st σ) : KR E G nL Z o pc lv (.int x :: st) σ := fun H locs ls r σ2 ho hP hD hS hl => lv_lookup F.1 F.2.1 d hp ho1 ht (k H locs ls r σ2 ho hP hD hS hl)
theorem fs_at {E : En} {σ : Mm} {k j : Nat} {fs : List (Option (Option Nat))} {f : Option (Option Nat)} (h : fs[j]? = some f) : (fs.mapIdx (fun j f => fv E σ k j f))[j]? = some (fv E σ k j f) := by rw [List.getElem?_mapIdx, h]; rfl
theorem k_getI (F : Fx E G cc nL own) {ci N index : Nat} {C : String} {T : u_T} {fs : List (Option (Option Nat))} {k j : Nat} (hf : fs[j]? = some (none)) (hL : lay[k]? = some (.inr (ci, fs))) (hc : vwCl[ci]? = some (C, T, N)) (hin : ∀ w ∈ u_ws C T N, w ∈ W0) (hj : j < N) (hlink : Cond.fieldLink own index (T j).1 (T j).2.1 (T j).2.2.1 ∈ W0) (d : decode cc pc = .ok (.getfield index, 3)) (kk : KR E G nL Z o (pc + 3) lv (.int (σ.1 k j) :: st) σ) : KR E G nL Z o pc lv (.ref (ad E k) :: st) σ := fun H locs ls r σ2 ho hP hD hS hl => va_get (v := .int (σ.1 k j)) F.1 F.2.1 F.2.2.2.2.1 hin F.2.2.2.1 F.2.2.2.2.2.1 hP k (wd_at hL) hc j hj (F.2.2.2.2.1 _ hlink) (fun _ h9 => h9) (fs_at hf) d (kk H locs ls r σ2 ho hP hD hS hl)
theorem k_getL (F : Fx E G cc nL own) {ci N index : Nat} {C : String} {T : u_T} {fs : List (Option (Option Nat))} {k j : Nat} (hf : fs[j]? = some (some none)) (hL : lay[k]? = some (.inr (ci, fs))) (hc : vwCl[ci]? = some (C, T, N)) (hin : ∀ w ∈ u_ws C T N, w ∈ W0) (hj : j < N) (hlink : Cond.fieldLink own index (T j).1 (T j).2.1 (T j).2.2.1 ∈ W0) (d : decode cc pc = .ok (.getfield index, 3)) (kk : KR E G nL Z o (pc + 3) lv (.long (σ.2 k j) :: st) σ) : KR E G nL Z o pc lv (.ref (ad E k) :: st) σ := fun H locs ls r σ2 ho hP hD hS hl => va_get (v := .long (σ.2 k j)) F.1 F.2.1 F.2.2.2.2.1 hin F.2.2.2.1 F.2.2.2.2.2.1 hP k (wd_at hL) hc j hj (F.2.2.2.2.1 _ hlink) (fun _ h9 => h9) (fs_at hf) d (kk H locs ls r σ2 ho hP hD hS hl)
theorem k_getR (F : Fx E G cc nL own) {ci N index : Nat} {C : String} {T : u_T} {fs : List (Option (Option Nat))} {k j : Nat} {q : Nat} (hf : fs[j]? = some (some (some q))) (hL : lay[k]? = some (.inr (ci, fs))) (hc : vwCl[ci]? = some (C, T, N)) (hin : ∀ w ∈ u_ws C T N, w ∈ W0) (hj : j < N) (hlink : Cond.fieldLink own index (T j).1 (T j).2.1 (T j).2.2.1 ∈ W0) (d : decode cc pc = .ok (.getfield index, 3)) (kk : KR E G nL Z o (pc + 3) lv (.ref (ad E q) :: st) σ) : KR E G nL Z o pc lv (.ref (ad E k) :: st) σ := fun H locs ls r σ2 ho hP hD hS hl => va_get (v := .ref (ad E q)) F.1 F.2.1 F.2.2.2.2.1 hin F.2.2.2.1 F.2.2.2.2.2.1 hP k (wd_at hL) hc j hj (F.2.2.2.2.1 _ hlink) (fun _ h9 => h9) (fs_at hf) d (kk H locs ls r σ2 ho hP hD hS hl)
theorem k_putI (F : Fx E G cc nL own) {ci N index : Nat} {C : String} {T : u_T} {fs : List (Option (Option Nat))} {k j : Nat} {x : Int32} {f : Mm → Option (ρ × Mm)} (hf : fs[j]? = some (none)) (hj2 : j < fs.length) (ty0 : Nat → FieldType) (hty : ∀ k, k < N → parseFieldDescriptor (T k).2.2.1 = some (ty0 k)) (hnm : ∀ a, a < N → ∀ b, b < N → a ≠ b → (T a).2.1 ≠ (T b).2.1) (hfin : (T j).2.2.2 = false) (hd : parseFieldDescriptor (T j).2.2.1 = some .int) (hL : lay[k]? = some (.inr (ci, fs))) (hc : vwCl[ci]? = some (C, T, N)) (hin : ∀ w ∈ u_ws C T N, w ∈ W0) (hj : j < N) (hlink : Cond.fieldLink own index (T j).1 (T j).2.1 (T j).2.2.1 ∈ W0) (d : decode cc pc = .ok (.putfield index, 3)) (kk : ∀ σ3 : Mm, KR E G nL Z (f σ3) (pc + 3) lv st σ3) : KR E G nL Z (nm (sI σ k j x) f) pc lv (.int x :: .ref (ad E k) :: st) σ := by
  intro H locs ls r σ2 ho hP hD hS hl
  have e1 : fs.length = (fs.mapIdx (fun j f => fv E σ k j f)).length := by rw [List.length_mapIdx]
  refine va_put (v := .int x) (ty := .int) F.1 F.2.1 F.2.2.2.2.1 hin ty0 hty hnm F.2.2.2.1 F.2.2.2.2.2.1 hP hD hS k (wd_at hL) hc j hj (F.2.2.2.2.1 _ hlink) (fun _ h9 => h9) hfin hd rfl rfl (e1 ▸ hj2) d (fun H1 locs1 hP1 hD1 hS1 => ?_)
  have e : (wd E σ).set k (ad E k, .inr (ci, (fs.mapIdx (fun j f => fv E σ k j f)).set j (.int x))) = wd E (sI σ k j x) := by
    rw [← wd_set (σ' := sI σ k j x) hL (sR_ne _ _ _)]
    congr 2
    show Sum.inr (ci, _) = Sum.inr (ci, _)
    congr 2
    apply List.ext_getElem?
    intro i
    rw [List.getElem?_set, List.getElem?_mapIdx, List.getElem?_mapIdx]
    by_cases hi : j = i
    · subst hi
      rw [if_pos rfl, if_pos (e1 ▸ hj2), hf]
      show some (Value.int x) = some (Value.int ((sR σ k (upd (σ.1 k) j x)).1 k j))
      rw [sR_eq]; simp [upd]
    · rw [if_neg hi]
      cases hq : fs[i]? with
      | none => rfl
      | some g =>
        show some (fv E σ k i g) = some (fv E (sI σ k j x) k i g)
        rcases g with _ | (_ | q)
        · show some (Value.int _) = some (Value.int ((sR σ k (upd (σ.1 k) j x)).1 k i))
          rw [sR_eq]; simp [upd, Ne.symm hi]
        · rfl
        · rfl
  rw [e] at hP1 hD1
  exact kk _ H1 locs1 ls r σ2 ho hP1 hD1 hS1 hl
theorem k_putZ (F : Fx E G cc nL own) {ci N index : Nat} {C : String} {T : u_T} {fs : List (Option (Option Nat))} {k j : Nat} {x : Int32} {f : Mm → Option (ρ × Mm)} (hf : fs[j]? = some (none)) (hj2 : j < fs.length) (ty0 : Nat → FieldType) (hty : ∀ k, k < N → parseFieldDescriptor (T k).2.2.1 = some (ty0 k)) (hnm : ∀ a, a < N → ∀ b, b < N → a ≠ b → (T a).2.1 ≠ (T b).2.1) (hfin : (T j).2.2.2 = false) (hd : parseFieldDescriptor (T j).2.2.1 = some .boolean) (hL : lay[k]? = some (.inr (ci, fs))) (hc : vwCl[ci]? = some (C, T, N)) (hin : ∀ w ∈ u_ws C T N, w ∈ W0) (hj : j < N) (hlink : Cond.fieldLink own index (T j).1 (T j).2.1 (T j).2.2.1 ∈ W0) (d : decode cc pc = .ok (.putfield index, 3)) (kk : ∀ σ3 : Mm, KR E G nL Z (f σ3) (pc + 3) lv st σ3) : KR E G nL Z (cb x (nm (sI σ k j x) f)) pc lv (.int x :: .ref (ad E k) :: st) σ := by
  intro H locs ls r σ2 ho hP hD hS hl
  obtain ⟨hb, ho⟩ := cb_some ho
  have e1 : fs.length = (fs.mapIdx (fun j f => fv E σ k j f)).length := by rw [List.length_mapIdx]
  refine va_put (v := .int x) (ty := .boolean) F.1 F.2.1 F.2.2.2.2.1 hin ty0 hty hnm F.2.2.2.1 F.2.2.2.2.2.1 hP hD hS k (wd_at hL) hc j hj (F.2.2.2.2.1 _ hlink) (fun _ h9 => h9) hfin hd (nar_b hb) (by rcases hb with rfl | rfl <;> rfl) (e1 ▸ hj2) d (fun H1 locs1 hP1 hD1 hS1 => ?_)
  have e : (wd E σ).set k (ad E k, .inr (ci, (fs.mapIdx (fun j f => fv E σ k j f)).set j (.int x))) = wd E (sI σ k j x) := by
    rw [← wd_set (σ' := sI σ k j x) hL (sR_ne _ _ _)]
    congr 2
    show Sum.inr (ci, _) = Sum.inr (ci, _)
    congr 2
    apply List.ext_getElem?
    intro i
    rw [List.getElem?_set, List.getElem?_mapIdx, List.getElem?_mapIdx]
    by_cases hi : j = i
    · subst hi
      rw [if_pos rfl, if_pos (e1 ▸ hj2), hf]
      show some (Value.int x) = some (Value.int ((sR σ k (upd (σ.1 k) j x)).1 k j))
      rw [sR_eq]; simp [upd]
    · rw [if_neg hi]
      cases hq : fs[i]? with
      | none => rfl
      | some g =>
        show some (fv E σ k i g) = some (fv E (sI σ k j x) k i g)
        rcases g with _ | (_ | q)
        · show some (Value.int _) = some (Value.int ((sR σ k (upd (σ.1 k) j x)).1 k i))
          rw [sR_eq]; simp [upd, Ne.symm hi]
        · rfl
        · rfl
  rw [e] at hP1 hD1
  exact kk _ H1 locs1 ls r σ2 ho hP1 hD1 hS1 hl
theorem k_putL (F : Fx E G cc nL own) {ci N index : Nat} {C : String} {T : u_T} {fs : List (Option (Option Nat))} {k j : Nat} {x : Int64} {f : Mm → Option (ρ × Mm)} (hf : fs[j]? = some (some none)) (hj2 : j < fs.length) (ty0 : Nat → FieldType) (hty : ∀ k, k < N → parseFieldDescriptor (T k).2.2.1 = some (ty0 k)) (hnm : ∀ a, a < N → ∀ b, b < N → a ≠ b → (T a).2.1 ≠ (T b).2.1) (hfin : (T j).2.2.2 = false) (hd : parseFieldDescriptor (T j).2.2.1 = some .long) (hL : lay[k]? = some (.inr (ci, fs))) (hc : vwCl[ci]? = some (C, T, N)) (hin : ∀ w ∈ u_ws C T N, w ∈ W0) (hj : j < N) (hlink : Cond.fieldLink own index (T j).1 (T j).2.1 (T j).2.2.1 ∈ W0) (d : decode cc pc = .ok (.putfield index, 3)) (kk : ∀ σ3 : Mm, KR E G nL Z (f σ3) (pc + 3) lv st σ3) : KR E G nL Z (nm (sL σ k j x) f) pc lv (.long x :: .ref (ad E k) :: st) σ := by
  intro H locs ls r σ2 ho hP hD hS hl
  have e1 : fs.length = (fs.mapIdx (fun j f => fv E σ k j f)).length := by rw [List.length_mapIdx]
  refine va_put (v := .long x) (ty := .long) F.1 F.2.1 F.2.2.2.2.1 hin ty0 hty hnm F.2.2.2.1 F.2.2.2.2.2.1 hP hD hS k (wd_at hL) hc j hj (F.2.2.2.2.1 _ hlink) (fun _ h9 => h9) hfin hd rfl rfl (e1 ▸ hj2) d (fun H1 locs1 hP1 hD1 hS1 => ?_)
  have e : (wd E σ).set k (ad E k, .inr (ci, (fs.mapIdx (fun j f => fv E σ k j f)).set j (.long x))) = wd E (sL σ k j x) := by
    rw [← wd_set (σ' := sL σ k j x) hL (sQ_ne _ _ _)]
    congr 2
    show Sum.inr (ci, _) = Sum.inr (ci, _)
    congr 2
    apply List.ext_getElem?
    intro i
    rw [List.getElem?_set, List.getElem?_mapIdx, List.getElem?_mapIdx]
    by_cases hi : j = i
    · subst hi
      rw [if_pos rfl, if_pos (e1 ▸ hj2), hf]
      show some (Value.long x) = some (Value.long ((sQ σ k (vp_updL (σ.2 k) j x)).2 k j))
      rw [sQ_eq]; simp [vp_updL]
    · rw [if_neg hi]
      cases hq : fs[i]? with
      | none => rfl
      | some g =>
        show some (fv E σ k i g) = some (fv E (sL σ k j x) k i g)
        rcases g with _ | (_ | q)
        · rfl
        · show some (Value.long _) = some (Value.long ((sQ σ k (vp_updL (σ.2 k) j x)).2 k i))
          rw [sQ_eq]; simp [vp_updL, Ne.symm hi]
        · rfl
  rw [e] at hP1 hD1
  exact kk _ H1 locs1 ls r σ2 ho hP1 hD1 hS1 hl
theorem k_iald (F : Fx E G cc nL own) {k n : Nat} {i : Int32} (hL : lay[k]? = some (.inl (0, n))) (d : decode cc pc = .ok (.iaload, 1)) (kk : KR E G nL Z o (pc + 1) lv (.int (σ.1 k (ix i)) :: st) σ) : KR E G nL Z (ck i n o) pc lv (.int i :: .ref (ad E k) :: st) σ := fun H locs ls r σ2 ho hP hD hS hl => va_iald F.1 F.2.1 F.2.2.2.2.2.1 hP k k (wd_at hL) (tyl_at hL) (ck_some ho).1 d (kk H locs ls r σ2 (ck_some ho).2 hP hD hS hl)
theorem k_zald (F : Fx E G cc nL own) {k n : Nat} {i : Int32} (hL : lay[k]? = some (.inl (1, n))) (d : decode cc pc = .ok (.baload, 1)) (kk : KR E G nL Z o (pc + 1) lv (.int (σ.1 k (ix i)) :: st) σ) : KR E G nL Z (ck i n o) pc lv (.int i :: .ref (ad E k) :: st) σ := fun H locs ls r σ2 ho hP hD hS hl => va_zald F.1 F.2.1 F.2.2.2.2.2.1 hP k k (wd_at hL) (tyl_at hL) (ck_some ho).1 d (kk H locs ls r σ2 (ck_some ho).2 hP hD hS hl)
theorem k_lald (F : Fx E G cc nL own) {k n : Nat} {i : Int32} (hL : lay[k]? = some (.inl (2, n))) (d : decode cc pc = .ok (.laload, 1)) (kk : KR E G nL Z o (pc + 1) lv (.long (σ.2 k (ix i)) :: st) σ) : KR E G nL Z (ck i n o) pc lv (.int i :: .ref (ad E k) :: st) σ := fun H locs ls r σ2 ho hP hD hS hl => va_lald F.1 F.2.1 F.2.2.2.2.2.1 hP k k (wd_at hL) (tyl_at hL) (ck_some ho).1 d (kk H locs ls r σ2 (ck_some ho).2 hP hD hS hl)
theorem k_aald (F : Fx E G cc nL own) {k n : Nat} {i : Int32} (hL : lay[k]? = some (.inl (3, n))) (d : decode cc pc = .ok (.aaload, 1)) (kk : KR E G nL Z o (pc + 1) lv (.ref (ad E (k + 1 + 2 * ix i)) :: st) σ) : KR E G nL Z (ck i n o) pc lv (.int i :: .ref (ad E k) :: st) σ := fun H locs ls r σ2 ho hP hD hS hl => va_aldq F.1 F.2.1 F.2.2.2.2.2.1 hP k k (wd_at hL) (tyl_at hL) (ck_some ho).1 d (kk H locs ls r σ2 (ck_some ho).2 hP hD hS hl)
theorem k_alen0 (F : Fx E G cc nL own) {k n : Nat} {v : Int32} (hL : lay[k]? = some (.inl (0, n))) (hv : Int32.ofNat n = v) (d : decode cc pc = .ok (.arraylength, 1)) (kk : KR E G nL Z o (pc + 1) lv (.int v :: st) σ) : KR E G nL Z o pc lv (.ref (ad E k) :: st) σ := fun H locs ls r σ2 ho hP hD hS hl => va_alen F.1 F.2.1 F.2.2.2.2.2.1 hP k k (wd_at hL) (tyl_at hL) hv d (kk H locs ls r σ2 ho hP hD hS hl)
theorem k_alen1 (F : Fx E G cc nL own) {k n : Nat} {v : Int32} (hL : lay[k]? = some (.inl (1, n))) (hv : Int32.ofNat n = v) (d : decode cc pc = .ok (.arraylength, 1)) (kk : KR E G nL Z o (pc + 1) lv (.int v :: st) σ) : KR E G nL Z o pc lv (.ref (ad E k) :: st) σ := fun H locs ls r σ2 ho hP hD hS hl => va_alen F.1 F.2.1 F.2.2.2.2.2.1 hP k k (wd_at hL) (tyl_at hL) hv d (kk H locs ls r σ2 ho hP hD hS hl)
theorem k_alen2 (F : Fx E G cc nL own) {k n : Nat} {v : Int32} (hL : lay[k]? = some (.inl (2, n))) (hv : Int32.ofNat n = v) (d : decode cc pc = .ok (.arraylength, 1)) (kk : KR E G nL Z o (pc + 1) lv (.int v :: st) σ) : KR E G nL Z o pc lv (.ref (ad E k) :: st) σ := fun H locs ls r σ2 ho hP hD hS hl => va_alen F.1 F.2.1 F.2.2.2.2.2.1 hP k k (wd_at hL) (tyl_at hL) hv d (kk H locs ls r σ2 ho hP hD hS hl)
theorem k_alen3 (F : Fx E G cc nL own) {k n : Nat} {v : Int32} (hL : lay[k]? = some (.inl (3, n))) (hv : Int32.ofNat n = v) (d : decode cc pc = .ok (.arraylength, 1)) (kk : KR E G nL Z o (pc + 1) lv (.int v :: st) σ) : KR E G nL Z o pc lv (.ref (ad E k) :: st) σ := fun H locs ls r σ2 ho hP hD hS hl => va_alen F.1 F.2.1 F.2.2.2.2.2.1 hP k k (wd_at hL) (tyl_at hL) hv d (kk H locs ls r σ2 ho hP hD hS hl)
theorem k_iast (F : Fx E G cc nL own) {k n : Nat} {i : Int32} {x : Int32} {f : Mm → Option (ρ × Mm)} (hL : lay[k]? = some (.inl (0, n))) (d : decode cc pc = .ok (.iastore, 1)) (kk : ∀ σ3 : Mm, KR E G nL Z (f σ3) (pc + 1) lv st σ3) : KR E G nL Z (ck i n (nm (sI σ k (ix i) x) f)) pc lv (.int x :: .int i :: .ref (ad E k) :: st) σ := by
  intro H locs ls r σ2 ho hP hD hS hl
  obtain ⟨hi, ho⟩ := ck_some ho
  refine va_iast F.1 F.2.1 F.2.2.2.2.2.1 hP hD hS k k (wd_at hL) (tyl_at hL) hi d (fun H1 locs1 hP1 hD1 hS1 => ?_)
  have e : (wd E σ).set k (ad E k, .inl (cA E k, n, .inl (upd (σ.1 k) i.toNatClampNeg x))) = wd E (sI σ k (ix i) x) := by
    rw [← wd_set (σ' := sI σ k (ix i) x) hL (sR_ne _ _ _)]
    congr 2
    show Sum.inl (cA E k, n, Sum.inl _) = Sum.inl (cA E k, n, Sum.inl ((sR σ k (upd (σ.1 k) (ix i) x)).1 k))
    rw [sR_eq]; rfl
  rw [e] at hP1 hD1
  exact kk _ H1 locs1 ls r σ2 ho hP1 hD1 hS1 hl
theorem k_zast (F : Fx E G cc nL own) {k n : Nat} {i : Int32} {x : Int32} {f : Mm → Option (ρ × Mm)} (hL : lay[k]? = some (.inl (1, n))) (d : decode cc pc = .ok (.bastore, 1)) (kk : ∀ σ3 : Mm, KR E G nL Z (f σ3) (pc + 1) lv st σ3) : KR E G nL Z (ck i n (cb x (nm (sI σ k (ix i) x) f))) pc lv (.int x :: .int i :: .ref (ad E k) :: st) σ := by
  intro H locs ls r σ2 ho hP hD hS hl
  obtain ⟨hi, ho⟩ := ck_some ho
  obtain ⟨hb, ho⟩ := cb_some ho
  refine va_zast F.1 F.2.1 F.2.2.2.2.2.1 hP hD hS k k (wd_at hL) (tyl_at hL) hi d (fun H1 locs1 hP1 hD1 hS1 => ?_)
  have hz : vp_nar .boolean x = x := by unfold vp_nar; rw [nar_b hb]
  try rw [hz] at hP1 hD1
  have e : (wd E σ).set k (ad E k, .inl (cA E k, n, .inl (upd (σ.1 k) i.toNatClampNeg x))) = wd E (sI σ k (ix i) x) := by
    rw [← wd_set (σ' := sI σ k (ix i) x) hL (sR_ne _ _ _)]
    congr 2
    show Sum.inl (cA E k, n, Sum.inl _) = Sum.inl (cA E k, n, Sum.inl ((sR σ k (upd (σ.1 k) (ix i) x)).1 k))
    rw [sR_eq]; rfl
  rw [e] at hP1 hD1
  exact kk _ H1 locs1 ls r σ2 ho hP1 hD1 hS1 hl
theorem k_last (F : Fx E G cc nL own) {k n : Nat} {i : Int32} {x : Int64} {f : Mm → Option (ρ × Mm)} (hL : lay[k]? = some (.inl (2, n))) (d : decode cc pc = .ok (.lastore, 1)) (kk : ∀ σ3 : Mm, KR E G nL Z (f σ3) (pc + 1) lv st σ3) : KR E G nL Z (ck i n (nm (sL σ k (ix i) x) f)) pc lv (.long x :: .int i :: .ref (ad E k) :: st) σ := by
  intro H locs ls r σ2 ho hP hD hS hl
  obtain ⟨hi, ho⟩ := ck_some ho
  refine va_last F.1 F.2.1 F.2.2.2.2.2.1 hP hD hS k k (wd_at hL) (tyl_at hL) hi d (fun H1 locs1 hP1 hD1 hS1 => ?_)
  have e : (wd E σ).set k (ad E k, .inl (cA E k, n, .inr (.inl (vp_updL (σ.2 k) i.toNatClampNeg x)))) = wd E (sL σ k (ix i) x) := by
    rw [← wd_set (σ' := sL σ k (ix i) x) hL (sQ_ne _ _ _)]
    congr 2
    show Sum.inl (cA E k, n, Sum.inr (Sum.inl _)) = Sum.inl (cA E k, n, Sum.inr (Sum.inl ((sQ σ k (vp_updL (σ.2 k) (ix i) x)).2 k)))
    rw [sQ_eq]; rfl
  rw [e] at hP1 hD1
  exact kk _ H1 locs1 ls r σ2 ho hP1 hD1 hS1 hl
theorem k_sget (F : Fx E G cc nL own) {index : Nat} {q : String × String × List Int32} (i : Nat) (hq : stT[i]? = some q) (hlink : Cond.fieldLink own index q.1 q.2.1 "[I" ∈ W0) (d : decode cc pc = .ok (.getstatic index, 3)) (kk : KR E G nL Z o (pc + 3) lv (.ref (zA E i) :: st) σ) : KR E G nL Z o pc lv st σ := fun H locs ls r σ2 ho hP hD hS hl => va_gets F.1 F.2.1 (F.2.2.2.2.2.2.1.1 i q hq).1 hS F.2.2.2.1 (F.2.2.2.2.1 _ hlink) (fun _ h9 => h9) d (kk H locs ls r σ2 ho hP hD hS hl)
theorem k_sld (F : Fx E G cc nL own) {q : String × String × List Int32} {i : Int32} (t : Nat) (hq : stT[t]? = some q) (d : decode cc pc = .ok (.iaload, 1)) (kk : KR E G nL Z o (pc + 1) lv (.int (q.2.2.getD (ix i) 0) :: st) σ) : KR E G nL Z (ck i q.2.2.length o) pc lv (.int i :: .ref (zA E t) :: st) σ := fun H locs ls r σ2 ho hP hD hS hl => va_ti F.1 F.2.1 (F.2.2.2.2.2.2.1.1 t q hq).2 hS (ck_some ho).1 rfl d (kk H locs ls r σ2 (ck_some ho).2 hP hD hS hl)
end KROWS
