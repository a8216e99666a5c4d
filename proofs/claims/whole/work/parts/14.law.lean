/-! THE CLAIM OUT OF ONE WALK OF THE LAW'S BODY. Your part is whole_start (and what it stands on); all else here is the same for every law, but numbers. -/
def R_law : String := "ManyHandsLaw"
def lw_P (b : Addr) (xs : List Int32) (args : Array Value) (s : State) : Prop := args = #[.ref b] ∧ s.IntsAt b xs ∧ xs.length ≤ 3072 ∧ (Jvm.Cond.and given_1 narrow_1).before args s = true
def lw_Q (_ : Array Value) (s : State) (o : Outcome) (t : State) : Prop := o = .returned (some (.int 1)) ∧ Framed s o t [] 600000 7302250
def lw_Z (below : List Frame) (a : Array Value) (s : State) : State → Prop := fun t => ∃ o, t.status = .running ∧ Ended t below o ∧ lw_Q a s o t
/-- the law's own end, with 1 on the stack, nothing written that was there before, its room as the claim has it -/
theorem lw_ret {p : Program} {l : Launch} {e : Env} {s : State} {m : MethodId} {below : List Frame} {meth : Method} {c : Code} {b : Nat} (hx : p.tables.exec = Jvm.exec) (hb : c.code = code) (hr : meth.sig.returnType = ret) (hlocks : meth.locks = false) {pc : Nat} {H : Heap} {ls : Array Slot} (hdg : decode code pc = .ok (.ireturn, 1)) : W p l e room_1 s m #[Value.ref b] below meth c H [] 600000 7302250 (lw_Z below #[Value.ref b] s) (F0 m pc ls [.int 1]) := by
  intro T hT X
  obtain ⟨fs, hret, hrun, hended, hW, hframe⟩ := X.leave (v := some (.int 1)) (hlocks := hlocks) (fun h => by rw [hr] at h; cases h)
  have hmeth' : T.vm.method? m = some meth := X.method'
  refine ⟨T.setFrames fs, ?_, .returned (some (.int 1)), hrun, hended, rfl, ⟨_, rfl⟩, hW, hframe⟩
  jvm_step X.here [X.here.top, hx, hb, hdg, hmeth', hr, ret, narrow_b1]
  (try refine ⟨rfl, ?_⟩); (try refine ⟨rfl, ?_⟩)
  first | (intro acts; rw [hret _ acts rfl rfl rfl]) | rw [hret _ _ rfl rfl rfl]
  exact Steps.refl _
/-- what holds at the law's entry: the machine, the code, the tables' words (any of lw_tbl by 'hts w (by decide +kernel)'), the script of L ints xs at the cell b, what the Statement gives of the start (any of its parts by flat_of_before) -/
def lw_At (p : Program) (s : State) (m : MethodId) (meth : Method) (c : Code) (b L : Nat) (xs : Nat → Int32) : Prop :=
  p.tables.exec = Jvm.exec ∧ c.code = code ∧ meth.sig.returnType = ret ∧ c.maxLocals = 4 ∧ s.vm.findClass R_law = some m.cls ∧ (∀ w ∈ lw_tbl, w.before #[Value.ref b] s = true) ∧ va_X b L xs s s.heap ∧ b < s.heap.size ∧ meth.locks = false ∧ (Jvm.Cond.and given_1 narrow_1).before #[Value.ref b] s = true
theorem ci_6 : Int32.ofInt (6) = 6 := by decide
abbrev H_L_law : Nat := 16
def Sx (E : En) (G : Cx) (b L : Nat) (xs : Nat → Int32) : Prop := va_X b L xs (Gs G) (Gs G).heap ∧ b < (Gs G).heap.size ∧ ¬ AA E b
def Lx (E : En) (G : Cx) (b : Nat) : Prop := E.2.1 = (Gs G).heap.size ∧ GR G = room_1 ∧ Ga G = #[.ref b] ∧ Gn G ≤ 600000 ∧ Go G ≤ 7302250
def ZW (G : Cx) (_ : Unit) (_ : Mm) : State → Prop := lw_Z (Gb G) (Ga G) (Gs G)
theorem k_scl {ρ : Type} {E : En} {G : Cx} {cc : ByteArray} {nL : Nat} {own : String} {Z : ρ → Mm → State → Prop} {o : Option (ρ × Mm)} {pc b L : Nat} {xs : Nat → Int32} {lv : List (Nat × Value)} {st : List Value} {σ : Mm} (F : Fx E G cc nL own) (X : Sx E G b L xs) (d : decode cc pc = .ok (.arraylength, 1)) (k : KR E G nL Z o (pc + 1) lv (.int (Int32.ofNat L) :: st) σ) : KR E G nL Z o pc lv (.ref b :: st) σ := fun H locs ls r σ2 ho hP hD hS hl => va_slen F.1 F.2.1 X.1 X.2.1 X.2.2 hS d (k H locs ls r σ2 ho hP hD hS hl)
theorem k_scld {ρ : Type} {E : En} {G : Cx} {cc : ByteArray} {nL : Nat} {own : String} {Z : ρ → Mm → State → Prop} {o : Option (ρ × Mm)} {pc b L : Nat} {xs : Nat → Int32} {lv : List (Nat × Value)} {st : List Value} {σ : Mm} {i : Int32} (F : Fx E G cc nL own) (X : Sx E G b L xs) (d : decode cc pc = .ok (.iaload, 1)) (k : KR E G nL Z o (pc + 1) lv (.int (xs (ix i)) :: st) σ) : KR E G nL Z (ck i L o) pc lv (.int i :: .ref b :: st) σ := fun H locs ls r σ2 ho hP hD hS hl => va_sld F.1 F.2.1 X.1 X.2.1 X.2.2 hS (ck_some ho).1 d (k H locs ls r σ2 (ck_some ho).2 hP hD hS hl)
theorem k_lawret {E : En} {G : Cx} {b pc d : Nat} {lv : List (Nat × Value)} {σ : Mm} (B : Bx E G cL_law 4 RL d ret) (C : Lx E G b) (dd : decode cL_law pc = .ok (.ireturn, 1)) : KR E G 4 (ZW G) (some ((), σ)) pc lv [.int 1] σ := by
  intro H locs ls r σ2 ho hP hD hS hl
  obtain ⟨hx, hb, hml, hown, hts, hK, hT, hlk, hcl, hsl⟩ := B.1
  obtain ⟨c1, c2, c3, c4, c5⟩ := C
  refine va_forget (fun q hq => by have := hS.2.2 q hq; unfold AA at this; rw [c1] at this; exact this) ?_
  refine W.widen (k := 600000) (n := 7302250) c4 c5 ?_
  unfold ZW
  rw [c2, c3]
  exact lw_ret hx hb B.2.2 hlk dd
theorem hR_L_law_X10_after : H_X10_after + 1 ≤ H_L_law ∧ 8 + (7 + 11) + 40 * H_X10_after ≤ 40 * H_L_law := by decide
theorem hR_L_law_X10_as : H_X10_as + 1 ≤ H_L_law ∧ 8 + (5 + 11) + 40 * H_X10_as ≤ 40 * H_L_law := by decide
theorem hR_L_law_X10_bad : H_X10_bad + 1 ≤ H_L_law ∧ 8 + (1 + 11) + 40 * H_X10_bad ≤ 40 * H_L_law := by decide
theorem hR_L_law_X10_cell : H_X10_cell + 1 ≤ H_L_law ∧ 8 + (4 + 11) + 40 * H_X10_cell ≤ 40 * H_L_law := by decide
theorem hR_L_law_X10_change : H_X10_change + 1 ≤ H_L_law ∧ 8 + (6 + 11) + 40 * H_X10_change ≤ 40 * H_L_law := by decide
theorem hR_L_law_X10_clear : H_X10_clear + 1 ≤ H_L_law ∧ 8 + (2 + 11) + 40 * H_X10_clear ≤ 40 * H_L_law := by decide
theorem hR_L_law_X10_copy : H_X10_copy + 1 ≤ H_L_law ∧ 8 + (8 + 11) + 40 * H_X10_copy ≤ 40 * H_L_law := by decide
theorem hR_L_law_X10_cost : H_X10_cost + 1 ≤ H_L_law ∧ 8 + (3 + 11) + 40 * H_X10_cost ≤ 40 * H_L_law := by decide
theorem hR_L_law_X10_ends : H_X10_ends + 1 ≤ H_L_law ∧ 8 + (1 + 11) + 40 * H_X10_ends ≤ 40 * H_L_law := by decide
theorem hR_L_law_X10_feed : H_X10_feed + 1 ≤ H_L_law ∧ 8 + (3 + 11) + 40 * H_X10_feed ≤ 40 * H_L_law := by decide
theorem hR_L_law_X10_fences : H_X10_fences + 1 ≤ H_L_law ∧ 8 + (2 + 11) + 40 * H_X10_fences ≤ 40 * H_L_law := by decide
theorem hR_L_law_X10_hand : H_X10_hand + 1 ≤ H_L_law ∧ 8 + (3 + 11) + 40 * H_X10_hand ≤ 40 * H_L_law := by decide
theorem hR_L_law_X10_heal : H_X10_heal + 1 ≤ H_L_law ∧ 8 + (5 + 11) + 40 * H_X10_heal ≤ 40 * H_L_law := by decide
theorem hR_L_law_X10_image : H_X10_image + 1 ≤ H_L_law ∧ 8 + (1 + 11) + 40 * H_X10_image ≤ 40 * H_L_law := by decide
theorem hR_L_law_X10_inOrder : H_X10_inOrder + 1 ≤ H_L_law ∧ 8 + (3 + 11) + 40 * H_X10_inOrder ≤ 40 * H_L_law := by decide
theorem hR_L_law_X10_judge : H_X10_judge + 1 ≤ H_L_law ∧ 8 + (3 + 11) + 40 * H_X10_judge ≤ 40 * H_L_law := by decide
theorem hR_L_law_X10_lead : H_X10_lead + 1 ≤ H_L_law ∧ 8 + (4 + 11) + 40 * H_X10_lead ≤ 40 * H_L_law := by decide
theorem hR_L_law_X10_look : H_X10_look + 1 ≤ H_L_law ∧ 8 + (2 + 11) + 40 * H_X10_look ≤ 40 * H_L_law := by decide
theorem hR_L_law_X10_machine : H_X10_machine + 1 ≤ H_L_law ∧ 8 + (3 + 11) + 40 * H_X10_machine ≤ 40 * H_L_law := by decide
theorem hR_L_law_X10_moves : H_X10_moves + 1 ≤ H_L_law ∧ 8 + (3 + 11) + 40 * H_X10_moves ≤ 40 * H_L_law := by decide
theorem hR_L_law_X10_orders : H_X10_orders + 1 ≤ H_L_law ∧ 8 + (1 + 11) + 40 * H_X10_orders ≤ 40 * H_L_law := by decide
theorem hR_L_law_X10_played : H_X10_played + 1 ≤ H_L_law ∧ 8 + (3 + 11) + 40 * H_X10_played ≤ 40 * H_L_law := by decide
theorem hR_L_law_X10_result : H_X10_result + 1 ≤ H_L_law ∧ 8 + (2 + 11) + 40 * H_X10_result ≤ 40 * H_L_law := by decide
theorem hR_L_law_X10_round : H_X10_round + 1 ≤ H_L_law ∧ 8 + (1 + 11) + 40 * H_X10_round ≤ 40 * H_L_law := by decide
theorem hR_L_law_X10_sheet : H_X10_sheet + 1 ≤ H_L_law ∧ 8 + (4 + 11) + 40 * H_X10_sheet ≤ 40 * H_L_law := by decide
theorem hR_L_law_X10_states : H_X10_states + 1 ≤ H_L_law ∧ 8 + (1 + 11) + 40 * H_X10_states ≤ 40 * H_L_law := by decide
theorem hR_L_law_X10_status : H_X10_status + 1 ≤ H_L_law ∧ 8 + (2 + 11) + 40 * H_X10_status ≤ 40 * H_L_law := by decide
theorem hR_L_law_X10_step : H_X10_step + 1 ≤ H_L_law ∧ 8 + (5 + 11) + 40 * H_X10_step ≤ 40 * H_L_law := by decide
theorem hR_L_law_X10_steps : H_X10_steps + 1 ≤ H_L_law ∧ 8 + (2 + 11) + 40 * H_X10_steps ≤ 40 * H_L_law := by decide
theorem hR_L_law_X10_stuck : H_X10_stuck + 1 ≤ H_L_law ∧ 8 + (1 + 11) + 40 * H_X10_stuck ≤ 40 * H_L_law := by decide
theorem hR_L_law_X10_tear : H_X10_tear + 1 ≤ H_L_law ∧ 8 + (2 + 11) + 40 * H_X10_tear ≤ 40 * H_L_law := by decide
theorem hR_L_law_X10_text : H_X10_text + 1 ≤ H_L_law ∧ 8 + (2 + 11) + 40 * H_X10_text ≤ 40 * H_L_law := by decide
theorem hR_L_law_X10_turn : H_X10_turn + 1 ≤ H_L_law ∧ 8 + (3 + 11) + 40 * H_X10_turn ≤ 40 * H_L_law := by decide
theorem hR_L_law_X10_undo : H_X10_undo + 1 ≤ H_L_law ∧ 8 + (1 + 11) + 40 * H_X10_undo ≤ 40 * H_L_law := by decide
theorem hR_L_law_X10_wipe : H_X10_wipe + 1 ≤ H_L_law ∧ 8 + (2 + 11) + 40 * H_X10_wipe ≤ 40 * H_L_law := by decide
theorem hR_L_law_X10_worst : H_X10_worst + 1 ≤ H_L_law ∧ 8 + (2 + 11) + 40 * H_X10_worst ≤ 40 * H_L_law := by decide
theorem hR_L_law_X10_write : H_X10_write + 1 ≤ H_L_law ∧ 8 + (7 + 11) + 40 * H_X10_write ≤ 40 * H_L_law := by decide
theorem hR_L_law_X11_after : H_X11_after + 1 ≤ H_L_law ∧ 8 + (6 + 11) + 40 * H_X11_after ≤ 40 * H_L_law := by decide
theorem hR_L_law_X11_as : H_X11_as + 1 ≤ H_L_law ∧ 8 + (5 + 11) + 40 * H_X11_as ≤ 40 * H_L_law := by decide
theorem hR_L_law_X11_bad : H_X11_bad + 1 ≤ H_L_law ∧ 8 + (1 + 11) + 40 * H_X11_bad ≤ 40 * H_L_law := by decide
theorem hR_L_law_X11_cell : H_X11_cell + 1 ≤ H_L_law ∧ 8 + (4 + 11) + 40 * H_X11_cell ≤ 40 * H_L_law := by decide
theorem hR_L_law_X11_change : H_X11_change + 1 ≤ H_L_law ∧ 8 + (5 + 11) + 40 * H_X11_change ≤ 40 * H_L_law := by decide
theorem hR_L_law_X11_clear : H_X11_clear + 1 ≤ H_L_law ∧ 8 + (2 + 11) + 40 * H_X11_clear ≤ 40 * H_L_law := by decide
theorem hR_L_law_X11_copy : H_X11_copy + 1 ≤ H_L_law ∧ 8 + (7 + 11) + 40 * H_X11_copy ≤ 40 * H_L_law := by decide
theorem hR_L_law_X11_cost : H_X11_cost + 1 ≤ H_L_law ∧ 8 + (3 + 11) + 40 * H_X11_cost ≤ 40 * H_L_law := by decide
theorem hR_L_law_X11_ends : H_X11_ends + 1 ≤ H_L_law ∧ 8 + (1 + 11) + 40 * H_X11_ends ≤ 40 * H_L_law := by decide
theorem hR_L_law_X11_feed : H_X11_feed + 1 ≤ H_L_law ∧ 8 + (4 + 11) + 40 * H_X11_feed ≤ 40 * H_L_law := by decide
theorem hR_L_law_X11_fences : H_X11_fences + 1 ≤ H_L_law ∧ 8 + (4 + 11) + 40 * H_X11_fences ≤ 40 * H_L_law := by decide
theorem hR_L_law_X11_hand : H_X11_hand + 1 ≤ H_L_law ∧ 8 + (3 + 11) + 40 * H_X11_hand ≤ 40 * H_L_law := by decide
theorem hR_L_law_X11_heal : H_X11_heal + 1 ≤ H_L_law ∧ 8 + (10 + 11) + 40 * H_X11_heal ≤ 40 * H_L_law := by decide
theorem hR_L_law_X11_image : H_X11_image + 1 ≤ H_L_law ∧ 8 + (1 + 11) + 40 * H_X11_image ≤ 40 * H_L_law := by decide
theorem hR_L_law_X11_inOrder : H_X11_inOrder + 1 ≤ H_L_law ∧ 8 + (2 + 11) + 40 * H_X11_inOrder ≤ 40 * H_L_law := by decide
theorem hR_L_law_X11_judge : H_X11_judge + 1 ≤ H_L_law ∧ 8 + (4 + 11) + 40 * H_X11_judge ≤ 40 * H_L_law := by decide
theorem hR_L_law_X11_lead : H_X11_lead + 1 ≤ H_L_law ∧ 8 + (4 + 11) + 40 * H_X11_lead ≤ 40 * H_L_law := by decide
theorem hR_L_law_X11_look : H_X11_look + 1 ≤ H_L_law ∧ 8 + (2 + 11) + 40 * H_X11_look ≤ 40 * H_L_law := by decide
theorem hR_L_law_X11_machine : H_X11_machine + 1 ≤ H_L_law ∧ 8 + (3 + 11) + 40 * H_X11_machine ≤ 40 * H_L_law := by decide
theorem hR_L_law_X11_moves : H_X11_moves + 1 ≤ H_L_law ∧ 8 + (5 + 11) + 40 * H_X11_moves ≤ 40 * H_L_law := by decide
theorem hR_L_law_X11_orders : H_X11_orders + 1 ≤ H_L_law ∧ 8 + (1 + 11) + 40 * H_X11_orders ≤ 40 * H_L_law := by decide
theorem hR_L_law_X11_played : H_X11_played + 1 ≤ H_L_law ∧ 8 + (2 + 11) + 40 * H_X11_played ≤ 40 * H_L_law := by decide
theorem hR_L_law_X11_result : H_X11_result + 1 ≤ H_L_law ∧ 8 + (2 + 11) + 40 * H_X11_result ≤ 40 * H_L_law := by decide
theorem hR_L_law_X11_round : H_X11_round + 1 ≤ H_L_law ∧ 8 + (5 + 11) + 40 * H_X11_round ≤ 40 * H_L_law := by decide
theorem hR_L_law_X11_sheet : H_X11_sheet + 1 ≤ H_L_law ∧ 8 + (4 + 11) + 40 * H_X11_sheet ≤ 40 * H_L_law := by decide
theorem hR_L_law_X11_states : H_X11_states + 1 ≤ H_L_law ∧ 8 + (1 + 11) + 40 * H_X11_states ≤ 40 * H_L_law := by decide
theorem hR_L_law_X11_status : H_X11_status + 1 ≤ H_L_law ∧ 8 + (4 + 11) + 40 * H_X11_status ≤ 40 * H_L_law := by decide
theorem hR_L_law_X11_step : H_X11_step + 1 ≤ H_L_law ∧ 8 + (6 + 11) + 40 * H_X11_step ≤ 40 * H_L_law := by decide
theorem hR_L_law_X11_steps : H_X11_steps + 1 ≤ H_L_law ∧ 8 + (2 + 11) + 40 * H_X11_steps ≤ 40 * H_L_law := by decide
theorem hR_L_law_X11_stuck : H_X11_stuck + 1 ≤ H_L_law ∧ 8 + (5 + 11) + 40 * H_X11_stuck ≤ 40 * H_L_law := by decide
theorem hR_L_law_X11_tear : H_X11_tear + 1 ≤ H_L_law ∧ 8 + (2 + 11) + 40 * H_X11_tear ≤ 40 * H_L_law := by decide
theorem hR_L_law_X11_text : H_X11_text + 1 ≤ H_L_law ∧ 8 + (3 + 11) + 40 * H_X11_text ≤ 40 * H_L_law := by decide
theorem hR_L_law_X11_turn : H_X11_turn + 1 ≤ H_L_law ∧ 8 + (3 + 11) + 40 * H_X11_turn ≤ 40 * H_L_law := by decide
theorem hR_L_law_X11_undo : H_X11_undo + 1 ≤ H_L_law ∧ 8 + (1 + 11) + 40 * H_X11_undo ≤ 40 * H_L_law := by decide
theorem hR_L_law_X11_wipe : H_X11_wipe + 1 ≤ H_L_law ∧ 8 + (2 + 11) + 40 * H_X11_wipe ≤ 40 * H_L_law := by decide
theorem hR_L_law_X11_worst : H_X11_worst + 1 ≤ H_L_law ∧ 8 + (2 + 11) + 40 * H_X11_worst ≤ 40 * H_L_law := by decide
theorem hR_L_law_X11_write : H_X11_write + 1 ≤ H_L_law ∧ 8 + (7 + 11) + 40 * H_X11_write ≤ 40 * H_L_law := by decide
def f_L_law_1128 (L18 : Int32 → Mm → Option (Unit × Mm)) (Lq : Nat) (xsq : Nat → Int32) (xq3 : Int32) (σ : Mm) : Option (Unit × Mm) :=
  nm (xq3 + (6 : Int32)) (fun vq7 => L18 vq7 σ)
def f_L_law_L18 (Lq : Nat) (xsq : Nat → Int32) (L18 : Int32 → Mm → Option (Unit × Mm)) (xq3 : Int32) (σ : Mm) : Option (Unit × Mm) :=
  (if ((Int32.ofNat Lq) - (6 : Int32)) < xq3 then some ((), σ) else ck xq3 Lq (nm ((xsq (ix xq3)) &&& (63 : Int32)) (fun vq1 => (if vq1 = (0 : Int32) then ck (xq3 + (1 : Int32)) Lq (ck (xq3 + (2 : Int32)) Lq (bd (f_X10_feed (xsq (ix (xq3 + (1 : Int32)))) (xsq (ix (xq3 + (2 : Int32)))) σ) (fun rq4 σ3 => ck (xq3 + (1 : Int32)) Lq (ck (xq3 + (2 : Int32)) Lq (bd (f_X11_feed (xsq (ix (xq3 + (1 : Int32)))) (xsq (ix (xq3 + (2 : Int32)))) σ3) (fun rq6 σ5 => (if rq4 = rq6 then f_L_law_1128 L18 Lq xsq xq3 σ5 else none))))))) else (if vq1 = (1 : Int32) then bd (f_X10_wipe σ) (fun rq10 σ9 => bd (f_X11_wipe σ9) (fun rq12 σ11 => (if rq10 = rq12 then f_L_law_1128 L18 Lq xsq xq3 σ11 else none))) else (if vq1 = (2 : Int32) then bd (f_X10_text σ) (fun rq15 σ14 => bd (f_X11_text σ14) (fun rq17 σ16 => (if rq15 = rq17 then f_L_law_1128 L18 Lq xsq xq3 σ16 else none))) else (if vq1 = (3 : Int32) then ck (xq3 + (1 : Int32)) Lq (bd (f_X10_steps (xsq (ix (xq3 + (1 : Int32)))) σ) (fun rq20 σ19 => ck (xq3 + (1 : Int32)) Lq (bd (f_X11_steps (xsq (ix (xq3 + (1 : Int32)))) σ19) (fun rq22 σ21 => (if rq20 = rq22 then f_L_law_1128 L18 Lq xsq xq3 σ21 else none))))) else (if vq1 = (4 : Int32) then ck (xq3 + (1 : Int32)) Lq (ck (xq3 + (2 : Int32)) Lq (ck (xq3 + (3 : Int32)) Lq (bd (f_X10_step (xsq (ix (xq3 + (1 : Int32)))) (xsq (ix (xq3 + (2 : Int32)))) (xsq (ix (xq3 + (3 : Int32)))) σ) (fun rq25 σ24 => ck (xq3 + (1 : Int32)) Lq (ck (xq3 + (2 : Int32)) Lq (ck (xq3 + (3 : Int32)) Lq (bd (f_X11_step (xsq (ix (xq3 + (1 : Int32)))) (xsq (ix (xq3 + (2 : Int32)))) (xsq (ix (xq3 + (3 : Int32)))) σ24) (fun rq27 σ26 => (if rq25 = rq27 then f_L_law_1128 L18 Lq xsq xq3 σ26 else none))))))))) else (if vq1 = (5 : Int32) then ck (xq3 + (1 : Int32)) Lq (ck (xq3 + (2 : Int32)) Lq (ck (xq3 + (3 : Int32)) Lq (bd (f_X10_as (xsq (ix (xq3 + (1 : Int32)))) (xsq (ix (xq3 + (2 : Int32)))) (xsq (ix (xq3 + (3 : Int32)))) σ) (fun rq30 σ29 => ck (xq3 + (1 : Int32)) Lq (ck (xq3 + (2 : Int32)) Lq (ck (xq3 + (3 : Int32)) Lq (bd (f_X11_as (xsq (ix (xq3 + (1 : Int32)))) (xsq (ix (xq3 + (2 : Int32)))) (xsq (ix (xq3 + (3 : Int32)))) σ29) (fun rq32 σ31 => (if rq30 = rq32 then f_L_law_1128 L18 Lq xsq xq3 σ31 else none))))))))) else (if vq1 = (6 : Int32) then ck (xq3 + (1 : Int32)) Lq (ck (xq3 + (2 : Int32)) Lq (ck (xq3 + (3 : Int32)) Lq (bd (f_X10_change (xsq (ix (xq3 + (1 : Int32)))) (xsq (ix (xq3 + (2 : Int32)))) (xsq (ix (xq3 + (3 : Int32)))) σ) (fun rq35 σ34 => ck (xq3 + (1 : Int32)) Lq (ck (xq3 + (2 : Int32)) Lq (ck (xq3 + (3 : Int32)) Lq (bd (f_X11_change (xsq (ix (xq3 + (1 : Int32)))) (xsq (ix (xq3 + (2 : Int32)))) (xsq (ix (xq3 + (3 : Int32)))) σ34) (fun rq37 σ36 => (if rq35 = rq37 then f_L_law_1128 L18 Lq xsq xq3 σ36 else none))))))))) else (if vq1 = (7 : Int32) then ck (xq3 + (1 : Int32)) Lq (ck (xq3 + (2 : Int32)) Lq (bd (f_X10_cell (xsq (ix (xq3 + (1 : Int32)))) (xsq (ix (xq3 + (2 : Int32)))) σ) (fun rq40 σ39 => ck (xq3 + (1 : Int32)) Lq (ck (xq3 + (2 : Int32)) Lq (bd (f_X11_cell (xsq (ix (xq3 + (1 : Int32)))) (xsq (ix (xq3 + (2 : Int32)))) σ39) (fun rq42 σ41 => (if rq40 = rq42 then f_L_law_1128 L18 Lq xsq xq3 σ41 else none))))))) else (if vq1 = (8 : Int32) then ck (xq3 + (1 : Int32)) Lq (bd (f_X10_machine (xsq (ix (xq3 + (1 : Int32)))) σ) (fun rq45 σ44 => ck (xq3 + (1 : Int32)) Lq (bd (f_X11_machine (xsq (ix (xq3 + (1 : Int32)))) σ44) (fun rq47 σ46 => (if rq45 = rq47 then f_L_law_1128 L18 Lq xsq xq3 σ46 else none))))) else (if vq1 = (9 : Int32) then ck (xq3 + (1 : Int32)) Lq (ck (xq3 + (2 : Int32)) Lq (bd (f_X10_hand (xsq (ix (xq3 + (1 : Int32)))) (xsq (ix (xq3 + (2 : Int32)))) σ) (fun rq50 σ49 => ck (xq3 + (1 : Int32)) Lq (ck (xq3 + (2 : Int32)) Lq (bd (f_X11_hand (xsq (ix (xq3 + (1 : Int32)))) (xsq (ix (xq3 + (2 : Int32)))) σ49) (fun rq52 σ51 => (if rq50 = rq52 then f_L_law_1128 L18 Lq xsq xq3 σ51 else none))))))) else (if vq1 = (10 : Int32) then bd (f_X10_clear σ) (fun rq55 σ54 => bd (f_X11_clear σ54) (fun rq57 σ56 => (if rq55 = rq57 then f_L_law_1128 L18 Lq xsq xq3 σ56 else none))) else (if vq1 = (11 : Int32) then bd (f_X10_states σ) (fun rq60 σ59 => bd (f_X11_states σ59) (fun rq62 σ61 => (if rq60 = rq62 then f_L_law_1128 L18 Lq xsq xq3 σ61 else none))) else (if vq1 = (12 : Int32) then bd (f_X10_ends σ) (fun rq65 σ64 => bd (f_X11_ends σ64) (fun rq67 σ66 => (if rq65 = rq67 then f_L_law_1128 L18 Lq xsq xq3 σ66 else none))) else (if vq1 = (13 : Int32) then ck (xq3 + (1 : Int32)) Lq (bd (f_X10_result (xsq (ix (xq3 + (1 : Int32)))) σ) (fun rq70 σ69 => ck (xq3 + (1 : Int32)) Lq (bd (f_X11_result (xsq (ix (xq3 + (1 : Int32)))) σ69) (fun rq72 σ71 => (if rq70 = rq72 then f_L_law_1128 L18 Lq xsq xq3 σ71 else none))))) else (if vq1 = (14 : Int32) then bd (f_X10_orders σ) (fun rq75 σ74 => bd (f_X11_orders σ74) (fun rq77 σ76 => (if rq75 = rq77 then f_L_law_1128 L18 Lq xsq xq3 σ76 else none))) else (if vq1 = (15 : Int32) then ck (xq3 + (1 : Int32)) Lq (bd (f_X10_inOrder (xsq (ix (xq3 + (1 : Int32)))) σ) (fun rq80 σ79 => ck (xq3 + (1 : Int32)) Lq (bd (f_X11_inOrder (xsq (ix (xq3 + (1 : Int32)))) σ79) (fun rq82 σ81 => (if rq80 = rq82 then f_L_law_1128 L18 Lq xsq xq3 σ81 else none))))) else (if vq1 = (16 : Int32) then bd (f_X10_bad σ) (fun rq85 σ84 => bd (f_X11_bad σ84) (fun rq87 σ86 => (if rq85 = rq87 then f_L_law_1128 L18 Lq xsq xq3 σ86 else none))) else (if vq1 = (17 : Int32) then bd (f_X10_worst σ) (fun rq90 σ89 => bd (f_X11_worst σ89) (fun rq92 σ91 => (if rq90 = rq92 then f_L_law_1128 L18 Lq xsq xq3 σ91 else none))) else (if vq1 = (18 : Int32) then ck (xq3 + (1 : Int32)) Lq (bd (f_X10_turn (xsq (ix (xq3 + (1 : Int32)))) σ) (fun rq95 σ94 => ck (xq3 + (1 : Int32)) Lq (bd (f_X11_turn (xsq (ix (xq3 + (1 : Int32)))) σ94) (fun rq97 σ96 => (if rq95 = rq97 then f_L_law_1128 L18 Lq xsq xq3 σ96 else none))))) else (if vq1 = (19 : Int32) then bd (f_X10_stuck σ) (fun rq100 σ99 => bd (f_X11_stuck σ99) (fun rq102 σ101 => (if rq100 = rq102 then f_L_law_1128 L18 Lq xsq xq3 σ101 else none))) else (if vq1 = (20 : Int32) then bd (f_X10_round σ) (fun rq105 σ104 => bd (f_X11_round σ104) (fun rq107 σ106 => (if rq105 = rq107 then f_L_law_1128 L18 Lq xsq xq3 σ106 else none))) else (if vq1 = (21 : Int32) then ck (xq3 + (1 : Int32)) Lq (ck (xq3 + (2 : Int32)) Lq (bd (f_X10_heal (xsq (ix (xq3 + (1 : Int32)))) (xsq (ix (xq3 + (2 : Int32)))) σ) (fun rq110 σ109 => ck (xq3 + (1 : Int32)) Lq (ck (xq3 + (2 : Int32)) Lq (bd (f_X11_heal (xsq (ix (xq3 + (1 : Int32)))) (xsq (ix (xq3 + (2 : Int32)))) σ109) (fun rq112 σ111 => (if rq110 = rq112 then f_L_law_1128 L18 Lq xsq xq3 σ111 else none))))))) else (if vq1 = (22 : Int32) then bd (f_X10_fences σ) (fun rq115 σ114 => bd (f_X11_fences σ114) (fun rq117 σ116 => (if rq115 = rq117 then f_L_law_1128 L18 Lq xsq xq3 σ116 else none))) else (if vq1 = (23 : Int32) then ck (xq3 + (1 : Int32)) Lq (bd (f_X10_cost (xsq (ix (xq3 + (1 : Int32)))) σ) (fun rq120 σ119 => ck (xq3 + (1 : Int32)) Lq (bd (f_X11_cost (xsq (ix (xq3 + (1 : Int32)))) σ119) (fun rq122 σ121 => (if rq120 = rq122 then f_L_law_1128 L18 Lq xsq xq3 σ121 else none))))) else (if vq1 = (24 : Int32) then ck (xq3 + (1 : Int32)) Lq (bd (f_X10_played (xsq (ix (xq3 + (1 : Int32)))) σ) (fun rq125 σ124 => ck (xq3 + (1 : Int32)) Lq (bd (f_X11_played (xsq (ix (xq3 + (1 : Int32)))) σ124) (fun rq127 σ126 => (if rq125 = rq127 then f_L_law_1128 L18 Lq xsq xq3 σ126 else none))))) else (if vq1 = (25 : Int32) then ck (xq3 + (1 : Int32)) Lq (bd (f_X10_judge (xsq (ix (xq3 + (1 : Int32)))) σ) (fun rq130 σ129 => ck (xq3 + (1 : Int32)) Lq (bd (f_X11_judge (xsq (ix (xq3 + (1 : Int32)))) σ129) (fun rq132 σ131 => (if rq130 = rq132 then f_L_law_1128 L18 Lq xsq xq3 σ131 else none))))) else (if vq1 = (26 : Int32) then ck (xq3 + (1 : Int32)) Lq (bd (f_X10_moves (xsq (ix (xq3 + (1 : Int32)))) σ) (fun rq135 σ134 => ck (xq3 + (1 : Int32)) Lq (bd (f_X11_moves (xsq (ix (xq3 + (1 : Int32)))) σ134) (fun rq137 σ136 => (if rq135 = rq137 then f_L_law_1128 L18 Lq xsq xq3 σ136 else none))))) else (if vq1 = (27 : Int32) then ck (xq3 + (1 : Int32)) Lq (ck (xq3 + (2 : Int32)) Lq (bd (f_X10_after (xsq (ix (xq3 + (1 : Int32)))) (xsq (ix (xq3 + (2 : Int32)))) σ) (fun rq140 σ139 => ck (xq3 + (1 : Int32)) Lq (ck (xq3 + (2 : Int32)) Lq (bd (f_X11_after (xsq (ix (xq3 + (1 : Int32)))) (xsq (ix (xq3 + (2 : Int32)))) σ139) (fun rq142 σ141 => (if rq140 = rq142 then f_L_law_1128 L18 Lq xsq xq3 σ141 else none))))))) else (if vq1 = (28 : Int32) then ck (xq3 + (1 : Int32)) Lq (ck (xq3 + (2 : Int32)) Lq (ck (xq3 + (3 : Int32)) Lq (bd (f_X10_sheet (xsq (ix (xq3 + (1 : Int32)))) (xsq (ix (xq3 + (2 : Int32)))) (xsq (ix (xq3 + (3 : Int32)))) σ) (fun rq145 σ144 => ck (xq3 + (1 : Int32)) Lq (ck (xq3 + (2 : Int32)) Lq (ck (xq3 + (3 : Int32)) Lq (bd (f_X11_sheet (xsq (ix (xq3 + (1 : Int32)))) (xsq (ix (xq3 + (2 : Int32)))) (xsq (ix (xq3 + (3 : Int32)))) σ144) (fun rq147 σ146 => (if rq145 = rq147 then f_L_law_1128 L18 Lq xsq xq3 σ146 else none))))))))) else (if vq1 = (29 : Int32) then ck (xq3 + (1 : Int32)) Lq (ck (xq3 + (2 : Int32)) Lq (ck (xq3 + (3 : Int32)) Lq (ck (xq3 + (4 : Int32)) Lq (bd (f_X10_write (xsq (ix (xq3 + (1 : Int32)))) (xsq (ix (xq3 + (2 : Int32)))) (((((xsq (ix (xq3 + (3 : Int32))))).toInt64) <<< (((32 : Int32)).toInt64 &&& 63)) ||| ((((xsq (ix (xq3 + (4 : Int32))))).toInt64) &&& (4294967295 : Int64))) σ) (fun rq150 σ149 => ck (xq3 + (1 : Int32)) Lq (ck (xq3 + (2 : Int32)) Lq (ck (xq3 + (3 : Int32)) Lq (ck (xq3 + (4 : Int32)) Lq (bd (f_X11_write (xsq (ix (xq3 + (1 : Int32)))) (xsq (ix (xq3 + (2 : Int32)))) (((((xsq (ix (xq3 + (3 : Int32))))).toInt64) <<< (((32 : Int32)).toInt64 &&& 63)) ||| ((((xsq (ix (xq3 + (4 : Int32))))).toInt64) &&& (4294967295 : Int64))) σ149) (fun rq152 σ151 => (if (lg_cmp rq150 rq152) = 0 then f_L_law_1128 L18 Lq xsq xq3 σ151 else none))))))))))) else (if vq1 = (30 : Int32) then ck (xq3 + (1 : Int32)) Lq (ck (xq3 + (2 : Int32)) Lq (ck (xq3 + (3 : Int32)) Lq (ck (xq3 + (4 : Int32)) Lq (ck (xq3 + (5 : Int32)) Lq (bd (f_X10_copy (xsq (ix (xq3 + (1 : Int32)))) (xsq (ix (xq3 + (2 : Int32)))) (xsq (ix (xq3 + (3 : Int32)))) (xsq (ix (xq3 + (4 : Int32)))) (xsq (ix (xq3 + (5 : Int32)))) σ) (fun rq155 σ154 => ck (xq3 + (1 : Int32)) Lq (ck (xq3 + (2 : Int32)) Lq (ck (xq3 + (3 : Int32)) Lq (ck (xq3 + (4 : Int32)) Lq (ck (xq3 + (5 : Int32)) Lq (bd (f_X11_copy (xsq (ix (xq3 + (1 : Int32)))) (xsq (ix (xq3 + (2 : Int32)))) (xsq (ix (xq3 + (3 : Int32)))) (xsq (ix (xq3 + (4 : Int32)))) (xsq (ix (xq3 + (5 : Int32)))) σ154) (fun rq157 σ156 => (if rq155 = rq157 then f_L_law_1128 L18 Lq xsq xq3 σ156 else none))))))))))))) else (if vq1 = (31 : Int32) then ck (xq3 + (1 : Int32)) Lq (bd (f_X10_lead (xsq (ix (xq3 + (1 : Int32)))) σ) (fun rq160 σ159 => ck (xq3 + (1 : Int32)) Lq (bd (f_X11_lead (xsq (ix (xq3 + (1 : Int32)))) σ159) (fun rq162 σ161 => (if rq160 = rq162 then f_L_law_1128 L18 Lq xsq xq3 σ161 else none))))) else (if vq1 = (32 : Int32) then bd (f_X10_image σ) (fun rq165 σ164 => bd (f_X11_image σ164) (fun rq167 σ166 => (if rq165 = rq167 then f_L_law_1128 L18 Lq xsq xq3 σ166 else none))) else (if vq1 = (33 : Int32) then bd (f_X10_undo σ) (fun rq170 σ169 => bd (f_X11_undo σ169) (fun rq172 σ171 => (if rq170 = rq172 then f_L_law_1128 L18 Lq xsq xq3 σ171 else none))) else (if vq1 = (34 : Int32) then bd (f_X10_tear σ) (fun rq175 σ174 => bd (f_X11_tear σ174) (fun rq177 σ176 => (if rq175 = rq177 then f_L_law_1128 L18 Lq xsq xq3 σ176 else none))) else (if vq1 = (35 : Int32) then ck (xq3 + (1 : Int32)) Lq (bd (f_X10_look (xsq (ix (xq3 + (1 : Int32)))) σ) (fun rq180 σ179 => ck (xq3 + (1 : Int32)) Lq (bd (f_X11_look (xsq (ix (xq3 + (1 : Int32)))) σ179) (fun rq182 σ181 => (if rq180 = rq182 then f_L_law_1128 L18 Lq xsq xq3 σ181 else none))))) else (if vq1 = (36 : Int32) then ck (xq3 + (1 : Int32)) Lq (bd (f_X10_status (xsq (ix (xq3 + (1 : Int32)))) σ) (fun rq185 σ184 => ck (xq3 + (1 : Int32)) Lq (bd (f_X11_status (xsq (ix (xq3 + (1 : Int32)))) σ184) (fun rq187 σ186 => (if rq185 = rq187 then f_L_law_1128 L18 Lq xsq xq3 σ186 else none))))) else f_L_law_1128 L18 Lq xsq xq3 σ))))))))))))))))))))))))))))))))))))))))
set_option maxHeartbeats 4000000 in
set_option maxRecDepth 100000 in
theorem t_L_law_1128 {E : En} {G : Cx} {bq : Nat} (B : Bx E G cL_law 4 RL H_L_law ret) (C9 : Lx E G bq) (Lq : Nat) (xsq : Nat → Int32) (xq3 : Int32) (hXq : Sx E G bq Lq xsq) (L18 : Int32 → Mm → Option (Unit × Mm)) (hL18 : ∀ (xq3 : Int32)  (σ : Mm), KR E G 4 (ZW G) (L18 xq3 σ) 18 [(0, .ref bq), (1, .ref (ad E 0)), (2, .ref (ad E 48)), (3, .int xq3)] [] σ)  (σ : Mm) : KR E G 4 (ZW G) (f_L_law_1128 L18 Lq xsq xq3 σ) 1128 [(0, .ref bq), (1, .ref (ad E 0)), (2, .ref (ad E 48)), (3, .int xq3)] [] σ := by
  have F := B.1
  unfold f_L_law_1128
  refine k_iinc (pc := 1128) F (c := (6 : Int32)) (lw := fun wq => [(3, .int wq), (0, .ref bq), (1, .ref (ad E 0)), (2, .ref (ad E 48))]) 3 3 dL_law_1128 rfl ci_6 (by decide) (fun _ => rfl) (fun vq7 => ?_)
  refine k_goto (pc := 1131) F 18 dL_law_1131 (by decide) ?_
  exact k_sub [1, 2, 3, 0] rfl (hL18 vq7 σ)
set_option maxHeartbeats 4000000 in
set_option maxRecDepth 100000 in
theorem t_L_law_L18b {E : En} {G : Cx} {bq : Nat} (B : Bx E G cL_law 4 RL H_L_law ret) (C9 : Lx E G bq) (Lq : Nat) (xsq : Nat → Int32) (hXq : Sx E G bq Lq xsq)  (L18 : Int32 → Mm → Option (Unit × Mm)) (hL18 : ∀ (xq3 : Int32)  (σ : Mm), KR E G 4 (ZW G) (L18 xq3 σ) 18 [(0, .ref bq), (1, .ref (ad E 0)), (2, .ref (ad E 48)), (3, .int xq3)] [] σ) (xq3 : Int32)  (σ : Mm) : KR E G 4 (ZW G) (f_L_law_L18 Lq xsq L18 xq3 σ) 18 [(0, .ref bq), (1, .ref (ad E 0)), (2, .ref (ad E 48)), (3, .int xq3)] [] σ := by
  have F := B.1
  unfold f_L_law_L18
  refine k_iload_n (pc := 18) F 3 3 dL_law_18 rfl rfl ?_
  refine k_aload_n (pc := 19) F 0 0 dL_law_19 rfl rfl ?_
  refine k_scl (pc := 20) F hXq dL_law_20 ?_
  refine k_bipush (pc := 21) F (v := (6 : Int32)) dL_law_21 cb_6 ?_
  refine k_isub (pc := 23) F dL_law_23 ?_
  refine k_icmp_gt (pc := 24) F 1134 dL_law_24 (by decide) (fun _ => ?_) (fun _ => ?_)
  · refine k_iconst (pc := 1134) F (v := (1 : Int32)) dL_law_1134 ci_1 ?_
    exact k_lawret (pc := 1135) B C9 dL_law_1135
  · refine k_aload_n (pc := 27) F 0 0 dL_law_27 rfl rfl ?_
    refine k_iload_n (pc := 28) F 3 3 dL_law_28 rfl rfl ?_
    refine k_scld (pc := 29) F hXq dL_law_29 ?_
    refine k_bipush (pc := 30) F (v := (63 : Int32)) dL_law_30 cb_63 ?_
    refine k_iand (pc := 32) F dL_law_32 ?_
    refine k_nmI (fun vq1 => ?_)
    refine k_case (fun hwq2 => ?_) (fun hwq2 => ?_)
    · refine k_tin (pc := 33) F 196 dL_law_33 (by rw [hwq2]; decide) (by rw [hwq2]; decide) (by rw [hwq2]; rfl) (by decide) ?_
      refine k_aload_n (pc := 196) F 1 1 dL_law_196 rfl rfl ?_
      refine k_aload_n (pc := 197) F 0 0 dL_law_197 rfl rfl ?_
      refine k_iload_n (pc := 198) F 3 3 dL_law_198 rfl rfl ?_
      refine k_iconst (pc := 199) F (v := (1 : Int32)) dL_law_199 ci_1 ?_
      refine k_iadd (pc := 200) F dL_law_200 ?_
      refine k_scld (pc := 201) F hXq dL_law_201 ?_
      refine k_aload_n (pc := 202) F 0 0 dL_law_202 rfl rfl ?_
      refine k_iload_n (pc := 203) F 3 3 dL_law_203 rfl rfl ?_
      refine k_iconst (pc := 204) F (v := (2 : Int32)) dL_law_204 ci_2 ?_
      refine k_iadd (pc := 205) F dL_law_205 ?_
      refine k_scld (pc := 206) F hXq dL_law_206 ?_
      refine k_callVI (pc := 207) B (k := 0) (As := [.int (xsq (ix (xq3 + (1 : Int32)))), .int (xsq (ix (xq3 + (2 : Int32))))]) (rest := []) (ct_X10_feed E (xsq (ix (xq3 + (1 : Int32)))) (xsq (ix (xq3 + (2 : Int32))))  σ) rfl rfl mv_X10_feed w_2_94 rfl hR_L_law_X10_feed rfl (Nat.le_of_ble_eq_true rfl) dL_law_207 (fun rq4 σ3 hoq => ?_)
      refine k_aload_n (pc := 210) F 2 2 dL_law_210 rfl rfl ?_
      refine k_aload_n (pc := 211) F 0 0 dL_law_211 rfl rfl ?_
      refine k_iload_n (pc := 212) F 3 3 dL_law_212 rfl rfl ?_
      refine k_iconst (pc := 213) F (v := (1 : Int32)) dL_law_213 ci_1 ?_
      refine k_iadd (pc := 214) F dL_law_214 ?_
      refine k_scld (pc := 215) F hXq dL_law_215 ?_
      refine k_aload_n (pc := 216) F 0 0 dL_law_216 rfl rfl ?_
      refine k_iload_n (pc := 217) F 3 3 dL_law_217 rfl rfl ?_
      refine k_iconst (pc := 218) F (v := (2 : Int32)) dL_law_218 ci_2 ?_
      refine k_iadd (pc := 219) F dL_law_219 ?_
      refine k_scld (pc := 220) F hXq dL_law_220 ?_
      refine k_callVI (pc := 221) B (k := 48) (As := [.int (xsq (ix (xq3 + (1 : Int32)))), .int (xsq (ix (xq3 + (2 : Int32))))]) (rest := [.int rq4]) (ct_X11_feed E (xsq (ix (xq3 + (1 : Int32)))) (xsq (ix (xq3 + (2 : Int32))))  σ3) rfl rfl mv_X11_feed w_5_136 rfl hR_L_law_X11_feed rfl (Nat.le_of_ble_eq_true rfl) dL_law_221 (fun rq6 σ5 hoq => ?_)
      refine k_icmp_eq (pc := 224) F 1128 dL_law_224 (by decide) (fun _ => ?_) (fun _ => ?_)
      · exact k_sub [0, 1, 2, 3] rfl (t_L_law_1128 B C9 Lq xsq xq3 hXq L18 hL18  σ5)
      · refine k_iconst (pc := 227) F (v := (0 : Int32)) dL_law_227 ci_0 ?_
        exact k_none
    refine k_case (fun hwq8 => ?_) (fun hwq8 => ?_)
    · refine k_tin (pc := 33) F 229 dL_law_33 (by rw [hwq8]; decide) (by rw [hwq8]; decide) (by rw [hwq8]; rfl) (by decide) ?_
      refine k_aload_n (pc := 229) F 1 1 dL_law_229 rfl rfl ?_
      refine k_callVI (pc := 230) B (k := 0) (As := []) (rest := []) (ct_X10_wipe E   σ) rfl rfl mv_X10_wipe w_2_107 rfl hR_L_law_X10_wipe rfl (Nat.le_of_ble_eq_true rfl) dL_law_230 (fun rq10 σ9 hoq => ?_)
      refine k_aload_n (pc := 233) F 2 2 dL_law_233 rfl rfl ?_
      refine k_callVI (pc := 234) B (k := 48) (As := []) (rest := [.int rq10]) (ct_X11_wipe E   σ9) rfl rfl mv_X11_wipe w_5_149 rfl hR_L_law_X11_wipe rfl (Nat.le_of_ble_eq_true rfl) dL_law_234 (fun rq12 σ11 hoq => ?_)
      refine k_icmp_eq (pc := 237) F 1128 dL_law_237 (by decide) (fun _ => ?_) (fun _ => ?_)
      · exact k_sub [0, 1, 2, 3] rfl (t_L_law_1128 B C9 Lq xsq xq3 hXq L18 hL18  σ11)
      · refine k_iconst (pc := 240) F (v := (0 : Int32)) dL_law_240 ci_0 ?_
        exact k_none
    refine k_case (fun hwq13 => ?_) (fun hwq13 => ?_)
    · refine k_tin (pc := 33) F 242 dL_law_33 (by rw [hwq13]; decide) (by rw [hwq13]; decide) (by rw [hwq13]; rfl) (by decide) ?_
      refine k_aload_n (pc := 242) F 1 1 dL_law_242 rfl rfl ?_
      refine k_callVI (pc := 243) B (k := 0) (As := []) (rest := []) (ct_X10_text E   σ) rfl rfl mv_X10_text w_2_111 rfl hR_L_law_X10_text rfl (Nat.le_of_ble_eq_true rfl) dL_law_243 (fun rq15 σ14 hoq => ?_)
      refine k_aload_n (pc := 246) F 2 2 dL_law_246 rfl rfl ?_
      refine k_callVI (pc := 247) B (k := 48) (As := []) (rest := [.int rq15]) (ct_X11_text E   σ14) rfl rfl mv_X11_text w_5_153 rfl hR_L_law_X11_text rfl (Nat.le_of_ble_eq_true rfl) dL_law_247 (fun rq17 σ16 hoq => ?_)
      refine k_icmp_eq (pc := 250) F 1128 dL_law_250 (by decide) (fun _ => ?_) (fun _ => ?_)
      · exact k_sub [0, 1, 2, 3] rfl (t_L_law_1128 B C9 Lq xsq xq3 hXq L18 hL18  σ16)
      · refine k_iconst (pc := 253) F (v := (0 : Int32)) dL_law_253 ci_0 ?_
        exact k_none
    refine k_case (fun hwq18 => ?_) (fun hwq18 => ?_)
    · refine k_tin (pc := 33) F 255 dL_law_33 (by rw [hwq18]; decide) (by rw [hwq18]; decide) (by rw [hwq18]; rfl) (by decide) ?_
      refine k_aload_n (pc := 255) F 1 1 dL_law_255 rfl rfl ?_
      refine k_aload_n (pc := 256) F 0 0 dL_law_256 rfl rfl ?_
      refine k_iload_n (pc := 257) F 3 3 dL_law_257 rfl rfl ?_
      refine k_iconst (pc := 258) F (v := (1 : Int32)) dL_law_258 ci_1 ?_
      refine k_iadd (pc := 259) F dL_law_259 ?_
      refine k_scld (pc := 260) F hXq dL_law_260 ?_
      refine k_callVI (pc := 261) B (k := 0) (As := [.int (xsq (ix (xq3 + (1 : Int32))))]) (rest := []) (ct_X10_steps E (xsq (ix (xq3 + (1 : Int32))))  σ) rfl rfl mv_X10_steps w_2_217 rfl hR_L_law_X10_steps rfl (Nat.le_of_ble_eq_true rfl) dL_law_261 (fun rq20 σ19 hoq => ?_)
      refine k_aload_n (pc := 264) F 2 2 dL_law_264 rfl rfl ?_
      refine k_aload_n (pc := 265) F 0 0 dL_law_265 rfl rfl ?_
      refine k_iload_n (pc := 266) F 3 3 dL_law_266 rfl rfl ?_
      refine k_iconst (pc := 267) F (v := (1 : Int32)) dL_law_267 ci_1 ?_
      refine k_iadd (pc := 268) F dL_law_268 ?_
      refine k_scld (pc := 269) F hXq dL_law_269 ?_
      refine k_callVI (pc := 270) B (k := 48) (As := [.int (xsq (ix (xq3 + (1 : Int32))))]) (rest := [.int rq20]) (ct_X11_steps E (xsq (ix (xq3 + (1 : Int32))))  σ19) rfl rfl mv_X11_steps w_5_185 rfl hR_L_law_X11_steps rfl (Nat.le_of_ble_eq_true rfl) dL_law_270 (fun rq22 σ21 hoq => ?_)
      refine k_icmp_eq (pc := 273) F 1128 dL_law_273 (by decide) (fun _ => ?_) (fun _ => ?_)
      · exact k_sub [0, 1, 2, 3] rfl (t_L_law_1128 B C9 Lq xsq xq3 hXq L18 hL18  σ21)
      · refine k_iconst (pc := 276) F (v := (0 : Int32)) dL_law_276 ci_0 ?_
        exact k_none
    refine k_case (fun hwq23 => ?_) (fun hwq23 => ?_)
    · refine k_tin (pc := 33) F 278 dL_law_33 (by rw [hwq23]; decide) (by rw [hwq23]; decide) (by rw [hwq23]; rfl) (by decide) ?_
      refine k_aload_n (pc := 278) F 1 1 dL_law_278 rfl rfl ?_
      refine k_aload_n (pc := 279) F 0 0 dL_law_279 rfl rfl ?_
      refine k_iload_n (pc := 280) F 3 3 dL_law_280 rfl rfl ?_
      refine k_iconst (pc := 281) F (v := (1 : Int32)) dL_law_281 ci_1 ?_
      refine k_iadd (pc := 282) F dL_law_282 ?_
      refine k_scld (pc := 283) F hXq dL_law_283 ?_
      refine k_aload_n (pc := 284) F 0 0 dL_law_284 rfl rfl ?_
      refine k_iload_n (pc := 285) F 3 3 dL_law_285 rfl rfl ?_
      refine k_iconst (pc := 286) F (v := (2 : Int32)) dL_law_286 ci_2 ?_
      refine k_iadd (pc := 287) F dL_law_287 ?_
      refine k_scld (pc := 288) F hXq dL_law_288 ?_
      refine k_aload_n (pc := 289) F 0 0 dL_law_289 rfl rfl ?_
      refine k_iload_n (pc := 290) F 3 3 dL_law_290 rfl rfl ?_
      refine k_iconst (pc := 291) F (v := (3 : Int32)) dL_law_291 ci_3 ?_
      refine k_iadd (pc := 292) F dL_law_292 ?_
      refine k_scld (pc := 293) F hXq dL_law_293 ?_
      refine k_callVI (pc := 294) B (k := 0) (As := [.int (xsq (ix (xq3 + (1 : Int32)))), .int (xsq (ix (xq3 + (2 : Int32)))), .int (xsq (ix (xq3 + (3 : Int32))))]) (rest := []) (ct_X10_step E (xsq (ix (xq3 + (1 : Int32)))) (xsq (ix (xq3 + (2 : Int32)))) (xsq (ix (xq3 + (3 : Int32))))  σ) rfl rfl mv_X10_step w_2_225 rfl hR_L_law_X10_step rfl (Nat.le_of_ble_eq_true rfl) dL_law_294 (fun rq25 σ24 hoq => ?_)
      refine k_aload_n (pc := 297) F 2 2 dL_law_297 rfl rfl ?_
      refine k_aload_n (pc := 298) F 0 0 dL_law_298 rfl rfl ?_
      refine k_iload_n (pc := 299) F 3 3 dL_law_299 rfl rfl ?_
      refine k_iconst (pc := 300) F (v := (1 : Int32)) dL_law_300 ci_1 ?_
      refine k_iadd (pc := 301) F dL_law_301 ?_
      refine k_scld (pc := 302) F hXq dL_law_302 ?_
      refine k_aload_n (pc := 303) F 0 0 dL_law_303 rfl rfl ?_
      refine k_iload_n (pc := 304) F 3 3 dL_law_304 rfl rfl ?_
      refine k_iconst (pc := 305) F (v := (2 : Int32)) dL_law_305 ci_2 ?_
      refine k_iadd (pc := 306) F dL_law_306 ?_
      refine k_scld (pc := 307) F hXq dL_law_307 ?_
      refine k_aload_n (pc := 308) F 0 0 dL_law_308 rfl rfl ?_
      refine k_iload_n (pc := 309) F 3 3 dL_law_309 rfl rfl ?_
      refine k_iconst (pc := 310) F (v := (3 : Int32)) dL_law_310 ci_3 ?_
      refine k_iadd (pc := 311) F dL_law_311 ?_
      refine k_scld (pc := 312) F hXq dL_law_312 ?_
      refine k_callVI (pc := 313) B (k := 48) (As := [.int (xsq (ix (xq3 + (1 : Int32)))), .int (xsq (ix (xq3 + (2 : Int32)))), .int (xsq (ix (xq3 + (3 : Int32))))]) (rest := [.int rq25]) (ct_X11_step E (xsq (ix (xq3 + (1 : Int32)))) (xsq (ix (xq3 + (2 : Int32)))) (xsq (ix (xq3 + (3 : Int32))))  σ24) rfl rfl mv_X11_step w_5_193 rfl hR_L_law_X11_step rfl (Nat.le_of_ble_eq_true rfl) dL_law_313 (fun rq27 σ26 hoq => ?_)
      refine k_icmp_eq (pc := 316) F 1128 dL_law_316 (by decide) (fun _ => ?_) (fun _ => ?_)
      · exact k_sub [0, 1, 2, 3] rfl (t_L_law_1128 B C9 Lq xsq xq3 hXq L18 hL18  σ26)
      · refine k_iconst (pc := 319) F (v := (0 : Int32)) dL_law_319 ci_0 ?_
        exact k_none
    refine k_case (fun hwq28 => ?_) (fun hwq28 => ?_)
    · refine k_tin (pc := 33) F 321 dL_law_33 (by rw [hwq28]; decide) (by rw [hwq28]; decide) (by rw [hwq28]; rfl) (by decide) ?_
      refine k_aload_n (pc := 321) F 1 1 dL_law_321 rfl rfl ?_
      refine k_aload_n (pc := 322) F 0 0 dL_law_322 rfl rfl ?_
      refine k_iload_n (pc := 323) F 3 3 dL_law_323 rfl rfl ?_
      refine k_iconst (pc := 324) F (v := (1 : Int32)) dL_law_324 ci_1 ?_
      refine k_iadd (pc := 325) F dL_law_325 ?_
      refine k_scld (pc := 326) F hXq dL_law_326 ?_
      refine k_aload_n (pc := 327) F 0 0 dL_law_327 rfl rfl ?_
      refine k_iload_n (pc := 328) F 3 3 dL_law_328 rfl rfl ?_
      refine k_iconst (pc := 329) F (v := (2 : Int32)) dL_law_329 ci_2 ?_
      refine k_iadd (pc := 330) F dL_law_330 ?_
      refine k_scld (pc := 331) F hXq dL_law_331 ?_
      refine k_aload_n (pc := 332) F 0 0 dL_law_332 rfl rfl ?_
      refine k_iload_n (pc := 333) F 3 3 dL_law_333 rfl rfl ?_
      refine k_iconst (pc := 334) F (v := (3 : Int32)) dL_law_334 ci_3 ?_
      refine k_iadd (pc := 335) F dL_law_335 ?_
      refine k_scld (pc := 336) F hXq dL_law_336 ?_
      refine k_callVI (pc := 337) B (k := 0) (As := [.int (xsq (ix (xq3 + (1 : Int32)))), .int (xsq (ix (xq3 + (2 : Int32)))), .int (xsq (ix (xq3 + (3 : Int32))))]) (rest := []) (ct_X10_as E (xsq (ix (xq3 + (1 : Int32)))) (xsq (ix (xq3 + (2 : Int32)))) (xsq (ix (xq3 + (3 : Int32))))  σ) rfl rfl mv_X10_as w_3_0 rfl hR_L_law_X10_as rfl (Nat.le_of_ble_eq_true rfl) dL_law_337 (fun rq30 σ29 hoq => ?_)
      refine k_aload_n (pc := 340) F 2 2 dL_law_340 rfl rfl ?_
      refine k_aload_n (pc := 341) F 0 0 dL_law_341 rfl rfl ?_
      refine k_iload_n (pc := 342) F 3 3 dL_law_342 rfl rfl ?_
      refine k_iconst (pc := 343) F (v := (1 : Int32)) dL_law_343 ci_1 ?_
      refine k_iadd (pc := 344) F dL_law_344 ?_
      refine k_scld (pc := 345) F hXq dL_law_345 ?_
      refine k_aload_n (pc := 346) F 0 0 dL_law_346 rfl rfl ?_
      refine k_iload_n (pc := 347) F 3 3 dL_law_347 rfl rfl ?_
      refine k_iconst (pc := 348) F (v := (2 : Int32)) dL_law_348 ci_2 ?_
      refine k_iadd (pc := 349) F dL_law_349 ?_
      refine k_scld (pc := 350) F hXq dL_law_350 ?_
      refine k_aload_n (pc := 351) F 0 0 dL_law_351 rfl rfl ?_
      refine k_iload_n (pc := 352) F 3 3 dL_law_352 rfl rfl ?_
      refine k_iconst (pc := 353) F (v := (3 : Int32)) dL_law_353 ci_3 ?_
      refine k_iadd (pc := 354) F dL_law_354 ?_
      refine k_scld (pc := 355) F hXq dL_law_355 ?_
      refine k_callVI (pc := 356) B (k := 48) (As := [.int (xsq (ix (xq3 + (1 : Int32)))), .int (xsq (ix (xq3 + (2 : Int32)))), .int (xsq (ix (xq3 + (3 : Int32))))]) (rest := [.int rq30]) (ct_X11_as E (xsq (ix (xq3 + (1 : Int32)))) (xsq (ix (xq3 + (2 : Int32)))) (xsq (ix (xq3 + (3 : Int32))))  σ29) rfl rfl mv_X11_as w_5_202 rfl hR_L_law_X11_as rfl (Nat.le_of_ble_eq_true rfl) dL_law_356 (fun rq32 σ31 hoq => ?_)
      refine k_icmp_eq (pc := 359) F 1128 dL_law_359 (by decide) (fun _ => ?_) (fun _ => ?_)
      · exact k_sub [0, 1, 2, 3] rfl (t_L_law_1128 B C9 Lq xsq xq3 hXq L18 hL18  σ31)
      · refine k_iconst (pc := 362) F (v := (0 : Int32)) dL_law_362 ci_0 ?_
        exact k_none
    refine k_case (fun hwq33 => ?_) (fun hwq33 => ?_)
    · refine k_tin (pc := 33) F 364 dL_law_33 (by rw [hwq33]; decide) (by rw [hwq33]; decide) (by rw [hwq33]; rfl) (by decide) ?_
      refine k_aload_n (pc := 364) F 1 1 dL_law_364 rfl rfl ?_
      refine k_aload_n (pc := 365) F 0 0 dL_law_365 rfl rfl ?_
      refine k_iload_n (pc := 366) F 3 3 dL_law_366 rfl rfl ?_
      refine k_iconst (pc := 367) F (v := (1 : Int32)) dL_law_367 ci_1 ?_
      refine k_iadd (pc := 368) F dL_law_368 ?_
      refine k_scld (pc := 369) F hXq dL_law_369 ?_
      refine k_aload_n (pc := 370) F 0 0 dL_law_370 rfl rfl ?_
      refine k_iload_n (pc := 371) F 3 3 dL_law_371 rfl rfl ?_
      refine k_iconst (pc := 372) F (v := (2 : Int32)) dL_law_372 ci_2 ?_
      refine k_iadd (pc := 373) F dL_law_373 ?_
      refine k_scld (pc := 374) F hXq dL_law_374 ?_
      refine k_aload_n (pc := 375) F 0 0 dL_law_375 rfl rfl ?_
      refine k_iload_n (pc := 376) F 3 3 dL_law_376 rfl rfl ?_
      refine k_iconst (pc := 377) F (v := (3 : Int32)) dL_law_377 ci_3 ?_
      refine k_iadd (pc := 378) F dL_law_378 ?_
      refine k_scld (pc := 379) F hXq dL_law_379 ?_
      refine k_callVI (pc := 380) B (k := 0) (As := [.int (xsq (ix (xq3 + (1 : Int32)))), .int (xsq (ix (xq3 + (2 : Int32)))), .int (xsq (ix (xq3 + (3 : Int32))))]) (rest := []) (ct_X10_change E (xsq (ix (xq3 + (1 : Int32)))) (xsq (ix (xq3 + (2 : Int32)))) (xsq (ix (xq3 + (3 : Int32))))  σ) rfl rfl mv_X10_change w_3_9 rfl hR_L_law_X10_change rfl (Nat.le_of_ble_eq_true rfl) dL_law_380 (fun rq35 σ34 hoq => ?_)
      refine k_aload_n (pc := 383) F 2 2 dL_law_383 rfl rfl ?_
      refine k_aload_n (pc := 384) F 0 0 dL_law_384 rfl rfl ?_
      refine k_iload_n (pc := 385) F 3 3 dL_law_385 rfl rfl ?_
      refine k_iconst (pc := 386) F (v := (1 : Int32)) dL_law_386 ci_1 ?_
      refine k_iadd (pc := 387) F dL_law_387 ?_
      refine k_scld (pc := 388) F hXq dL_law_388 ?_
      refine k_aload_n (pc := 389) F 0 0 dL_law_389 rfl rfl ?_
      refine k_iload_n (pc := 390) F 3 3 dL_law_390 rfl rfl ?_
      refine k_iconst (pc := 391) F (v := (2 : Int32)) dL_law_391 ci_2 ?_
      refine k_iadd (pc := 392) F dL_law_392 ?_
      refine k_scld (pc := 393) F hXq dL_law_393 ?_
      refine k_aload_n (pc := 394) F 0 0 dL_law_394 rfl rfl ?_
      refine k_iload_n (pc := 395) F 3 3 dL_law_395 rfl rfl ?_
      refine k_iconst (pc := 396) F (v := (3 : Int32)) dL_law_396 ci_3 ?_
      refine k_iadd (pc := 397) F dL_law_397 ?_
      refine k_scld (pc := 398) F hXq dL_law_398 ?_
      refine k_callVI (pc := 399) B (k := 48) (As := [.int (xsq (ix (xq3 + (1 : Int32)))), .int (xsq (ix (xq3 + (2 : Int32)))), .int (xsq (ix (xq3 + (3 : Int32))))]) (rest := [.int rq35]) (ct_X11_change E (xsq (ix (xq3 + (1 : Int32)))) (xsq (ix (xq3 + (2 : Int32)))) (xsq (ix (xq3 + (3 : Int32))))  σ34) rfl rfl mv_X11_change w_5_206 rfl hR_L_law_X11_change rfl (Nat.le_of_ble_eq_true rfl) dL_law_399 (fun rq37 σ36 hoq => ?_)
      refine k_icmp_eq (pc := 402) F 1128 dL_law_402 (by decide) (fun _ => ?_) (fun _ => ?_)
      · exact k_sub [0, 1, 2, 3] rfl (t_L_law_1128 B C9 Lq xsq xq3 hXq L18 hL18  σ36)
      · refine k_iconst (pc := 405) F (v := (0 : Int32)) dL_law_405 ci_0 ?_
        exact k_none
    refine k_case (fun hwq38 => ?_) (fun hwq38 => ?_)
    · refine k_tin (pc := 33) F 407 dL_law_33 (by rw [hwq38]; decide) (by rw [hwq38]; decide) (by rw [hwq38]; rfl) (by decide) ?_
      refine k_aload_n (pc := 407) F 1 1 dL_law_407 rfl rfl ?_
      refine k_aload_n (pc := 408) F 0 0 dL_law_408 rfl rfl ?_
      refine k_iload_n (pc := 409) F 3 3 dL_law_409 rfl rfl ?_
      refine k_iconst (pc := 410) F (v := (1 : Int32)) dL_law_410 ci_1 ?_
      refine k_iadd (pc := 411) F dL_law_411 ?_
      refine k_scld (pc := 412) F hXq dL_law_412 ?_
      refine k_aload_n (pc := 413) F 0 0 dL_law_413 rfl rfl ?_
      refine k_iload_n (pc := 414) F 3 3 dL_law_414 rfl rfl ?_
      refine k_iconst (pc := 415) F (v := (2 : Int32)) dL_law_415 ci_2 ?_
      refine k_iadd (pc := 416) F dL_law_416 ?_
      refine k_scld (pc := 417) F hXq dL_law_417 ?_
      refine k_callVI (pc := 418) B (k := 0) (As := [.int (xsq (ix (xq3 + (1 : Int32)))), .int (xsq (ix (xq3 + (2 : Int32))))]) (rest := []) (ct_X10_cell E (xsq (ix (xq3 + (1 : Int32)))) (xsq (ix (xq3 + (2 : Int32))))  σ) rfl rfl mv_X10_cell w_3_22 rfl hR_L_law_X10_cell rfl (Nat.le_of_ble_eq_true rfl) dL_law_418 (fun rq40 σ39 hoq => ?_)
      refine k_aload_n (pc := 421) F 2 2 dL_law_421 rfl rfl ?_
      refine k_aload_n (pc := 422) F 0 0 dL_law_422 rfl rfl ?_
      refine k_iload_n (pc := 423) F 3 3 dL_law_423 rfl rfl ?_
      refine k_iconst (pc := 424) F (v := (1 : Int32)) dL_law_424 ci_1 ?_
      refine k_iadd (pc := 425) F dL_law_425 ?_
      refine k_scld (pc := 426) F hXq dL_law_426 ?_
      refine k_aload_n (pc := 427) F 0 0 dL_law_427 rfl rfl ?_
      refine k_iload_n (pc := 428) F 3 3 dL_law_428 rfl rfl ?_
      refine k_iconst (pc := 429) F (v := (2 : Int32)) dL_law_429 ci_2 ?_
      refine k_iadd (pc := 430) F dL_law_430 ?_
      refine k_scld (pc := 431) F hXq dL_law_431 ?_
      refine k_callVI (pc := 432) B (k := 48) (As := [.int (xsq (ix (xq3 + (1 : Int32)))), .int (xsq (ix (xq3 + (2 : Int32))))]) (rest := [.int rq40]) (ct_X11_cell E (xsq (ix (xq3 + (1 : Int32)))) (xsq (ix (xq3 + (2 : Int32))))  σ39) rfl rfl mv_X11_cell w_5_218 rfl hR_L_law_X11_cell rfl (Nat.le_of_ble_eq_true rfl) dL_law_432 (fun rq42 σ41 hoq => ?_)
      refine k_icmp_eq (pc := 435) F 1128 dL_law_435 (by decide) (fun _ => ?_) (fun _ => ?_)
      · exact k_sub [0, 1, 2, 3] rfl (t_L_law_1128 B C9 Lq xsq xq3 hXq L18 hL18  σ41)
      · refine k_iconst (pc := 438) F (v := (0 : Int32)) dL_law_438 ci_0 ?_
        exact k_none
    refine k_case (fun hwq43 => ?_) (fun hwq43 => ?_)
    · refine k_tin (pc := 33) F 440 dL_law_33 (by rw [hwq43]; decide) (by rw [hwq43]; decide) (by rw [hwq43]; rfl) (by decide) ?_
      refine k_aload_n (pc := 440) F 1 1 dL_law_440 rfl rfl ?_
      refine k_aload_n (pc := 441) F 0 0 dL_law_441 rfl rfl ?_
      refine k_iload_n (pc := 442) F 3 3 dL_law_442 rfl rfl ?_
      refine k_iconst (pc := 443) F (v := (1 : Int32)) dL_law_443 ci_1 ?_
      refine k_iadd (pc := 444) F dL_law_444 ?_
      refine k_scld (pc := 445) F hXq dL_law_445 ?_
      refine k_callVI (pc := 446) B (k := 0) (As := [.int (xsq (ix (xq3 + (1 : Int32))))]) (rest := []) (ct_X10_machine E (xsq (ix (xq3 + (1 : Int32))))  σ) rfl rfl mv_X10_machine w_3_26 rfl hR_L_law_X10_machine rfl (Nat.le_of_ble_eq_true rfl) dL_law_446 (fun rq45 σ44 hoq => ?_)
      refine k_aload_n (pc := 449) F 2 2 dL_law_449 rfl rfl ?_
      refine k_aload_n (pc := 450) F 0 0 dL_law_450 rfl rfl ?_
      refine k_iload_n (pc := 451) F 3 3 dL_law_451 rfl rfl ?_
      refine k_iconst (pc := 452) F (v := (1 : Int32)) dL_law_452 ci_1 ?_
      refine k_iadd (pc := 453) F dL_law_453 ?_
      refine k_scld (pc := 454) F hXq dL_law_454 ?_
      refine k_callVI (pc := 455) B (k := 48) (As := [.int (xsq (ix (xq3 + (1 : Int32))))]) (rest := [.int rq45]) (ct_X11_machine E (xsq (ix (xq3 + (1 : Int32))))  σ44) rfl rfl mv_X11_machine w_5_222 rfl hR_L_law_X11_machine rfl (Nat.le_of_ble_eq_true rfl) dL_law_455 (fun rq47 σ46 hoq => ?_)
      refine k_icmp_eq (pc := 458) F 1128 dL_law_458 (by decide) (fun _ => ?_) (fun _ => ?_)
      · exact k_sub [0, 1, 2, 3] rfl (t_L_law_1128 B C9 Lq xsq xq3 hXq L18 hL18  σ46)
      · refine k_iconst (pc := 461) F (v := (0 : Int32)) dL_law_461 ci_0 ?_
        exact k_none
    refine k_case (fun hwq48 => ?_) (fun hwq48 => ?_)
    · refine k_tin (pc := 33) F 463 dL_law_33 (by rw [hwq48]; decide) (by rw [hwq48]; decide) (by rw [hwq48]; rfl) (by decide) ?_
      refine k_aload_n (pc := 463) F 1 1 dL_law_463 rfl rfl ?_
      refine k_aload_n (pc := 464) F 0 0 dL_law_464 rfl rfl ?_
      refine k_iload_n (pc := 465) F 3 3 dL_law_465 rfl rfl ?_
      refine k_iconst (pc := 466) F (v := (1 : Int32)) dL_law_466 ci_1 ?_
      refine k_iadd (pc := 467) F dL_law_467 ?_
      refine k_scld (pc := 468) F hXq dL_law_468 ?_
      refine k_aload_n (pc := 469) F 0 0 dL_law_469 rfl rfl ?_
      refine k_iload_n (pc := 470) F 3 3 dL_law_470 rfl rfl ?_
      refine k_iconst (pc := 471) F (v := (2 : Int32)) dL_law_471 ci_2 ?_
      refine k_iadd (pc := 472) F dL_law_472 ?_
      refine k_scld (pc := 473) F hXq dL_law_473 ?_
      refine k_callVI (pc := 474) B (k := 0) (As := [.int (xsq (ix (xq3 + (1 : Int32)))), .int (xsq (ix (xq3 + (2 : Int32))))]) (rest := []) (ct_X10_hand E (xsq (ix (xq3 + (1 : Int32)))) (xsq (ix (xq3 + (2 : Int32))))  σ) rfl rfl mv_X10_hand w_3_30 rfl hR_L_law_X10_hand rfl (Nat.le_of_ble_eq_true rfl) dL_law_474 (fun rq50 σ49 hoq => ?_)
      refine k_aload_n (pc := 477) F 2 2 dL_law_477 rfl rfl ?_
      refine k_aload_n (pc := 478) F 0 0 dL_law_478 rfl rfl ?_
      refine k_iload_n (pc := 479) F 3 3 dL_law_479 rfl rfl ?_
      refine k_iconst (pc := 480) F (v := (1 : Int32)) dL_law_480 ci_1 ?_
      refine k_iadd (pc := 481) F dL_law_481 ?_
      refine k_scld (pc := 482) F hXq dL_law_482 ?_
      refine k_aload_n (pc := 483) F 0 0 dL_law_483 rfl rfl ?_
      refine k_iload_n (pc := 484) F 3 3 dL_law_484 rfl rfl ?_
      refine k_iconst (pc := 485) F (v := (2 : Int32)) dL_law_485 ci_2 ?_
      refine k_iadd (pc := 486) F dL_law_486 ?_
      refine k_scld (pc := 487) F hXq dL_law_487 ?_
      refine k_callVI (pc := 488) B (k := 48) (As := [.int (xsq (ix (xq3 + (1 : Int32)))), .int (xsq (ix (xq3 + (2 : Int32))))]) (rest := [.int rq50]) (ct_X11_hand E (xsq (ix (xq3 + (1 : Int32)))) (xsq (ix (xq3 + (2 : Int32))))  σ49) rfl rfl mv_X11_hand w_5_226 rfl hR_L_law_X11_hand rfl (Nat.le_of_ble_eq_true rfl) dL_law_488 (fun rq52 σ51 hoq => ?_)
      refine k_icmp_eq (pc := 491) F 1128 dL_law_491 (by decide) (fun _ => ?_) (fun _ => ?_)
      · exact k_sub [0, 1, 2, 3] rfl (t_L_law_1128 B C9 Lq xsq xq3 hXq L18 hL18  σ51)
      · refine k_iconst (pc := 494) F (v := (0 : Int32)) dL_law_494 ci_0 ?_
        exact k_none
    refine k_case (fun hwq53 => ?_) (fun hwq53 => ?_)
    · refine k_tin (pc := 33) F 496 dL_law_33 (by rw [hwq53]; decide) (by rw [hwq53]; decide) (by rw [hwq53]; rfl) (by decide) ?_
      refine k_aload_n (pc := 496) F 1 1 dL_law_496 rfl rfl ?_
      refine k_callVI (pc := 497) B (k := 0) (As := []) (rest := []) (ct_X10_clear E   σ) rfl rfl mv_X10_clear w_3_34 rfl hR_L_law_X10_clear rfl (Nat.le_of_ble_eq_true rfl) dL_law_497 (fun rq55 σ54 hoq => ?_)
      refine k_aload_n (pc := 500) F 2 2 dL_law_500 rfl rfl ?_
      refine k_callVI (pc := 501) B (k := 48) (As := []) (rest := [.int rq55]) (ct_X11_clear E   σ54) rfl rfl mv_X11_clear w_5_230 rfl hR_L_law_X11_clear rfl (Nat.le_of_ble_eq_true rfl) dL_law_501 (fun rq57 σ56 hoq => ?_)
      refine k_icmp_eq (pc := 504) F 1128 dL_law_504 (by decide) (fun _ => ?_) (fun _ => ?_)
      · exact k_sub [0, 1, 2, 3] rfl (t_L_law_1128 B C9 Lq xsq xq3 hXq L18 hL18  σ56)
      · refine k_iconst (pc := 507) F (v := (0 : Int32)) dL_law_507 ci_0 ?_
        exact k_none
    refine k_case (fun hwq58 => ?_) (fun hwq58 => ?_)
    · refine k_tin (pc := 33) F 509 dL_law_33 (by rw [hwq58]; decide) (by rw [hwq58]; decide) (by rw [hwq58]; rfl) (by decide) ?_
      refine k_aload_n (pc := 509) F 1 1 dL_law_509 rfl rfl ?_
      refine k_callVI (pc := 510) B (k := 0) (As := []) (rest := []) (ct_X10_states E   σ) rfl rfl mv_X10_states w_3_38 rfl hR_L_law_X10_states rfl (Nat.le_of_ble_eq_true rfl) dL_law_510 (fun rq60 σ59 hoq => ?_)
      refine k_aload_n (pc := 513) F 2 2 dL_law_513 rfl rfl ?_
      refine k_callVI (pc := 514) B (k := 48) (As := []) (rest := [.int rq60]) (ct_X11_states E   σ59) rfl rfl mv_X11_states w_5_234 rfl hR_L_law_X11_states rfl (Nat.le_of_ble_eq_true rfl) dL_law_514 (fun rq62 σ61 hoq => ?_)
      refine k_icmp_eq (pc := 517) F 1128 dL_law_517 (by decide) (fun _ => ?_) (fun _ => ?_)
      · exact k_sub [0, 1, 2, 3] rfl (t_L_law_1128 B C9 Lq xsq xq3 hXq L18 hL18  σ61)
      · refine k_iconst (pc := 520) F (v := (0 : Int32)) dL_law_520 ci_0 ?_
        exact k_none
    refine k_case (fun hwq63 => ?_) (fun hwq63 => ?_)
    · refine k_tin (pc := 33) F 522 dL_law_33 (by rw [hwq63]; decide) (by rw [hwq63]; decide) (by rw [hwq63]; rfl) (by decide) ?_
      refine k_aload_n (pc := 522) F 1 1 dL_law_522 rfl rfl ?_
      refine k_callVI (pc := 523) B (k := 0) (As := []) (rest := []) (ct_X10_ends E   σ) rfl rfl mv_X10_ends w_3_141 rfl hR_L_law_X10_ends rfl (Nat.le_of_ble_eq_true rfl) dL_law_523 (fun rq65 σ64 hoq => ?_)
      refine k_aload_n (pc := 526) F 2 2 dL_law_526 rfl rfl ?_
      refine k_callVI (pc := 527) B (k := 48) (As := []) (rest := [.int rq65]) (ct_X11_ends E   σ64) rfl rfl mv_X11_ends w_6_102 rfl hR_L_law_X11_ends rfl (Nat.le_of_ble_eq_true rfl) dL_law_527 (fun rq67 σ66 hoq => ?_)
      refine k_icmp_eq (pc := 530) F 1128 dL_law_530 (by decide) (fun _ => ?_) (fun _ => ?_)
      · exact k_sub [0, 1, 2, 3] rfl (t_L_law_1128 B C9 Lq xsq xq3 hXq L18 hL18  σ66)
      · refine k_iconst (pc := 533) F (v := (0 : Int32)) dL_law_533 ci_0 ?_
        exact k_none
    refine k_case (fun hwq68 => ?_) (fun hwq68 => ?_)
    · refine k_tin (pc := 33) F 535 dL_law_33 (by rw [hwq68]; decide) (by rw [hwq68]; decide) (by rw [hwq68]; rfl) (by decide) ?_
      refine k_aload_n (pc := 535) F 1 1 dL_law_535 rfl rfl ?_
      refine k_aload_n (pc := 536) F 0 0 dL_law_536 rfl rfl ?_
      refine k_iload_n (pc := 537) F 3 3 dL_law_537 rfl rfl ?_
      refine k_iconst (pc := 538) F (v := (1 : Int32)) dL_law_538 ci_1 ?_
      refine k_iadd (pc := 539) F dL_law_539 ?_
      refine k_scld (pc := 540) F hXq dL_law_540 ?_
      refine k_callVI (pc := 541) B (k := 0) (As := [.int (xsq (ix (xq3 + (1 : Int32))))]) (rest := []) (ct_X10_result E (xsq (ix (xq3 + (1 : Int32))))  σ) rfl rfl mv_X10_result w_3_145 rfl hR_L_law_X10_result rfl (Nat.le_of_ble_eq_true rfl) dL_law_541 (fun rq70 σ69 hoq => ?_)
      refine k_aload_n (pc := 544) F 2 2 dL_law_544 rfl rfl ?_
      refine k_aload_n (pc := 545) F 0 0 dL_law_545 rfl rfl ?_
      refine k_iload_n (pc := 546) F 3 3 dL_law_546 rfl rfl ?_
      refine k_iconst (pc := 547) F (v := (1 : Int32)) dL_law_547 ci_1 ?_
      refine k_iadd (pc := 548) F dL_law_548 ?_
      refine k_scld (pc := 549) F hXq dL_law_549 ?_
      refine k_callVI (pc := 550) B (k := 48) (As := [.int (xsq (ix (xq3 + (1 : Int32))))]) (rest := [.int rq70]) (ct_X11_result E (xsq (ix (xq3 + (1 : Int32))))  σ69) rfl rfl mv_X11_result w_6_106 rfl hR_L_law_X11_result rfl (Nat.le_of_ble_eq_true rfl) dL_law_550 (fun rq72 σ71 hoq => ?_)
      refine k_icmp_eq (pc := 553) F 1128 dL_law_553 (by decide) (fun _ => ?_) (fun _ => ?_)
      · exact k_sub [0, 1, 2, 3] rfl (t_L_law_1128 B C9 Lq xsq xq3 hXq L18 hL18  σ71)
      · refine k_iconst (pc := 556) F (v := (0 : Int32)) dL_law_556 ci_0 ?_
        exact k_none
    refine k_case (fun hwq73 => ?_) (fun hwq73 => ?_)
    · refine k_tin (pc := 33) F 558 dL_law_33 (by rw [hwq73]; decide) (by rw [hwq73]; decide) (by rw [hwq73]; rfl) (by decide) ?_
      refine k_aload_n (pc := 558) F 1 1 dL_law_558 rfl rfl ?_
      refine k_callVI (pc := 559) B (k := 0) (As := []) (rest := []) (ct_X10_orders E   σ) rfl rfl mv_X10_orders w_3_149 rfl hR_L_law_X10_orders rfl (Nat.le_of_ble_eq_true rfl) dL_law_559 (fun rq75 σ74 hoq => ?_)
      refine k_aload_n (pc := 562) F 2 2 dL_law_562 rfl rfl ?_
      refine k_callVI (pc := 563) B (k := 48) (As := []) (rest := [.int rq75]) (ct_X11_orders E   σ74) rfl rfl mv_X11_orders w_6_111 rfl hR_L_law_X11_orders rfl (Nat.le_of_ble_eq_true rfl) dL_law_563 (fun rq77 σ76 hoq => ?_)
      refine k_icmp_eq (pc := 566) F 1128 dL_law_566 (by decide) (fun _ => ?_) (fun _ => ?_)
      · exact k_sub [0, 1, 2, 3] rfl (t_L_law_1128 B C9 Lq xsq xq3 hXq L18 hL18  σ76)
      · refine k_iconst (pc := 569) F (v := (0 : Int32)) dL_law_569 ci_0 ?_
        exact k_none
    refine k_case (fun hwq78 => ?_) (fun hwq78 => ?_)
    · refine k_tin (pc := 33) F 571 dL_law_33 (by rw [hwq78]; decide) (by rw [hwq78]; decide) (by rw [hwq78]; rfl) (by decide) ?_
      refine k_aload_n (pc := 571) F 1 1 dL_law_571 rfl rfl ?_
      refine k_aload_n (pc := 572) F 0 0 dL_law_572 rfl rfl ?_
      refine k_iload_n (pc := 573) F 3 3 dL_law_573 rfl rfl ?_
      refine k_iconst (pc := 574) F (v := (1 : Int32)) dL_law_574 ci_1 ?_
      refine k_iadd (pc := 575) F dL_law_575 ?_
      refine k_scld (pc := 576) F hXq dL_law_576 ?_
      refine k_callVI (pc := 577) B (k := 0) (As := [.int (xsq (ix (xq3 + (1 : Int32))))]) (rest := []) (ct_X10_inOrder E (xsq (ix (xq3 + (1 : Int32))))  σ) rfl rfl mv_X10_inOrder w_3_169 rfl hR_L_law_X10_inOrder rfl (Nat.le_of_ble_eq_true rfl) dL_law_577 (fun rq80 σ79 hoq => ?_)
      refine k_aload_n (pc := 580) F 2 2 dL_law_580 rfl rfl ?_
      refine k_aload_n (pc := 581) F 0 0 dL_law_581 rfl rfl ?_
      refine k_iload_n (pc := 582) F 3 3 dL_law_582 rfl rfl ?_
      refine k_iconst (pc := 583) F (v := (1 : Int32)) dL_law_583 ci_1 ?_
      refine k_iadd (pc := 584) F dL_law_584 ?_
      refine k_scld (pc := 585) F hXq dL_law_585 ?_
      refine k_callVI (pc := 586) B (k := 48) (As := [.int (xsq (ix (xq3 + (1 : Int32))))]) (rest := [.int rq80]) (ct_X11_inOrder E (xsq (ix (xq3 + (1 : Int32))))  σ79) rfl rfl mv_X11_inOrder w_6_115 rfl hR_L_law_X11_inOrder rfl (Nat.le_of_ble_eq_true rfl) dL_law_586 (fun rq82 σ81 hoq => ?_)
      refine k_icmp_eq (pc := 589) F 1128 dL_law_589 (by decide) (fun _ => ?_) (fun _ => ?_)
      · exact k_sub [0, 1, 2, 3] rfl (t_L_law_1128 B C9 Lq xsq xq3 hXq L18 hL18  σ81)
      · refine k_iconst (pc := 592) F (v := (0 : Int32)) dL_law_592 ci_0 ?_
        exact k_none
    refine k_case (fun hwq83 => ?_) (fun hwq83 => ?_)
    · refine k_tin (pc := 33) F 594 dL_law_33 (by rw [hwq83]; decide) (by rw [hwq83]; decide) (by rw [hwq83]; rfl) (by decide) ?_
      refine k_aload_n (pc := 594) F 1 1 dL_law_594 rfl rfl ?_
      refine k_callVI (pc := 595) B (k := 0) (As := []) (rest := []) (ct_X10_bad E   σ) rfl rfl mv_X10_bad w_3_173 rfl hR_L_law_X10_bad rfl (Nat.le_of_ble_eq_true rfl) dL_law_595 (fun rq85 σ84 hoq => ?_)
      refine k_aload_n (pc := 598) F 2 2 dL_law_598 rfl rfl ?_
      refine k_callVI (pc := 599) B (k := 48) (As := []) (rest := [.int rq85]) (ct_X11_bad E   σ84) rfl rfl mv_X11_bad w_6_119 rfl hR_L_law_X11_bad rfl (Nat.le_of_ble_eq_true rfl) dL_law_599 (fun rq87 σ86 hoq => ?_)
      refine k_icmp_eq (pc := 602) F 1128 dL_law_602 (by decide) (fun _ => ?_) (fun _ => ?_)
      · exact k_sub [0, 1, 2, 3] rfl (t_L_law_1128 B C9 Lq xsq xq3 hXq L18 hL18  σ86)
      · refine k_iconst (pc := 605) F (v := (0 : Int32)) dL_law_605 ci_0 ?_
        exact k_none
    refine k_case (fun hwq88 => ?_) (fun hwq88 => ?_)
    · refine k_tin (pc := 33) F 607 dL_law_33 (by rw [hwq88]; decide) (by rw [hwq88]; decide) (by rw [hwq88]; rfl) (by decide) ?_
      refine k_aload_n (pc := 607) F 1 1 dL_law_607 rfl rfl ?_
      refine k_callVI (pc := 608) B (k := 0) (As := []) (rest := []) (ct_X10_worst E   σ) rfl rfl mv_X10_worst w_3_185 rfl hR_L_law_X10_worst rfl (Nat.le_of_ble_eq_true rfl) dL_law_608 (fun rq90 σ89 hoq => ?_)
      refine k_aload_n (pc := 611) F 2 2 dL_law_611 rfl rfl ?_
      refine k_callVI (pc := 612) B (k := 48) (As := []) (rest := [.int rq90]) (ct_X11_worst E   σ89) rfl rfl mv_X11_worst w_6_131 rfl hR_L_law_X11_worst rfl (Nat.le_of_ble_eq_true rfl) dL_law_612 (fun rq92 σ91 hoq => ?_)
      refine k_icmp_eq (pc := 615) F 1128 dL_law_615 (by decide) (fun _ => ?_) (fun _ => ?_)
      · exact k_sub [0, 1, 2, 3] rfl (t_L_law_1128 B C9 Lq xsq xq3 hXq L18 hL18  σ91)
      · refine k_iconst (pc := 618) F (v := (0 : Int32)) dL_law_618 ci_0 ?_
        exact k_none
    refine k_case (fun hwq93 => ?_) (fun hwq93 => ?_)
    · refine k_tin (pc := 33) F 620 dL_law_33 (by rw [hwq93]; decide) (by rw [hwq93]; decide) (by rw [hwq93]; rfl) (by decide) ?_
      refine k_aload_n (pc := 620) F 1 1 dL_law_620 rfl rfl ?_
      refine k_aload_n (pc := 621) F 0 0 dL_law_621 rfl rfl ?_
      refine k_iload_n (pc := 622) F 3 3 dL_law_622 rfl rfl ?_
      refine k_iconst (pc := 623) F (v := (1 : Int32)) dL_law_623 ci_1 ?_
      refine k_iadd (pc := 624) F dL_law_624 ?_
      refine k_scld (pc := 625) F hXq dL_law_625 ?_
      refine k_callVI (pc := 626) B (k := 0) (As := [.int (xsq (ix (xq3 + (1 : Int32))))]) (rest := []) (ct_X10_turn E (xsq (ix (xq3 + (1 : Int32))))  σ) rfl rfl mv_X10_turn w_3_193 rfl hR_L_law_X10_turn rfl (Nat.le_of_ble_eq_true rfl) dL_law_626 (fun rq95 σ94 hoq => ?_)
      refine k_aload_n (pc := 629) F 2 2 dL_law_629 rfl rfl ?_
      refine k_aload_n (pc := 630) F 0 0 dL_law_630 rfl rfl ?_
      refine k_iload_n (pc := 631) F 3 3 dL_law_631 rfl rfl ?_
      refine k_iconst (pc := 632) F (v := (1 : Int32)) dL_law_632 ci_1 ?_
      refine k_iadd (pc := 633) F dL_law_633 ?_
      refine k_scld (pc := 634) F hXq dL_law_634 ?_
      refine k_callVI (pc := 635) B (k := 48) (As := [.int (xsq (ix (xq3 + (1 : Int32))))]) (rest := [.int rq95]) (ct_X11_turn E (xsq (ix (xq3 + (1 : Int32))))  σ94) rfl rfl mv_X11_turn w_6_139 rfl hR_L_law_X11_turn rfl (Nat.le_of_ble_eq_true rfl) dL_law_635 (fun rq97 σ96 hoq => ?_)
      refine k_icmp_eq (pc := 638) F 1128 dL_law_638 (by decide) (fun _ => ?_) (fun _ => ?_)
      · exact k_sub [0, 1, 2, 3] rfl (t_L_law_1128 B C9 Lq xsq xq3 hXq L18 hL18  σ96)
      · refine k_iconst (pc := 641) F (v := (0 : Int32)) dL_law_641 ci_0 ?_
        exact k_none
    refine k_case (fun hwq98 => ?_) (fun hwq98 => ?_)
    · refine k_tin (pc := 33) F 643 dL_law_33 (by rw [hwq98]; decide) (by rw [hwq98]; decide) (by rw [hwq98]; rfl) (by decide) ?_
      refine k_aload_n (pc := 643) F 1 1 dL_law_643 rfl rfl ?_
      refine k_callVI (pc := 644) B (k := 0) (As := []) (rest := []) (ct_X10_stuck E   σ) rfl rfl mv_X10_stuck w_3_211 rfl hR_L_law_X10_stuck rfl (Nat.le_of_ble_eq_true rfl) dL_law_644 (fun rq100 σ99 hoq => ?_)
      refine k_aload_n (pc := 647) F 2 2 dL_law_647 rfl rfl ?_
      refine k_callVI (pc := 648) B (k := 48) (As := []) (rest := [.int rq100]) (ct_X11_stuck E   σ99) rfl rfl mv_X11_stuck w_6_151 rfl hR_L_law_X11_stuck rfl (Nat.le_of_ble_eq_true rfl) dL_law_648 (fun rq102 σ101 hoq => ?_)
      refine k_icmp_eq (pc := 651) F 1128 dL_law_651 (by decide) (fun _ => ?_) (fun _ => ?_)
      · exact k_sub [0, 1, 2, 3] rfl (t_L_law_1128 B C9 Lq xsq xq3 hXq L18 hL18  σ101)
      · refine k_iconst (pc := 654) F (v := (0 : Int32)) dL_law_654 ci_0 ?_
        exact k_none
    refine k_case (fun hwq103 => ?_) (fun hwq103 => ?_)
    · refine k_tin (pc := 33) F 656 dL_law_33 (by rw [hwq103]; decide) (by rw [hwq103]; decide) (by rw [hwq103]; rfl) (by decide) ?_
      refine k_aload_n (pc := 656) F 1 1 dL_law_656 rfl rfl ?_
      refine k_callVI (pc := 657) B (k := 0) (As := []) (rest := []) (ct_X10_round E   σ) rfl rfl mv_X10_round w_3_229 rfl hR_L_law_X10_round rfl (Nat.le_of_ble_eq_true rfl) dL_law_657 (fun rq105 σ104 hoq => ?_)
      refine k_aload_n (pc := 660) F 2 2 dL_law_660 rfl rfl ?_
      refine k_callVI (pc := 661) B (k := 48) (As := []) (rest := [.int rq105]) (ct_X11_round E   σ104) rfl rfl mv_X11_round w_6_155 rfl hR_L_law_X11_round rfl (Nat.le_of_ble_eq_true rfl) dL_law_661 (fun rq107 σ106 hoq => ?_)
      refine k_icmp_eq (pc := 664) F 1128 dL_law_664 (by decide) (fun _ => ?_) (fun _ => ?_)
      · exact k_sub [0, 1, 2, 3] rfl (t_L_law_1128 B C9 Lq xsq xq3 hXq L18 hL18  σ106)
      · refine k_iconst (pc := 667) F (v := (0 : Int32)) dL_law_667 ci_0 ?_
        exact k_none
    refine k_case (fun hwq108 => ?_) (fun hwq108 => ?_)
    · refine k_tin (pc := 33) F 669 dL_law_33 (by rw [hwq108]; decide) (by rw [hwq108]; decide) (by rw [hwq108]; rfl) (by decide) ?_
      refine k_aload_n (pc := 669) F 1 1 dL_law_669 rfl rfl ?_
      refine k_aload_n (pc := 670) F 0 0 dL_law_670 rfl rfl ?_
      refine k_iload_n (pc := 671) F 3 3 dL_law_671 rfl rfl ?_
      refine k_iconst (pc := 672) F (v := (1 : Int32)) dL_law_672 ci_1 ?_
      refine k_iadd (pc := 673) F dL_law_673 ?_
      refine k_scld (pc := 674) F hXq dL_law_674 ?_
      refine k_aload_n (pc := 675) F 0 0 dL_law_675 rfl rfl ?_
      refine k_iload_n (pc := 676) F 3 3 dL_law_676 rfl rfl ?_
      refine k_iconst (pc := 677) F (v := (2 : Int32)) dL_law_677 ci_2 ?_
      refine k_iadd (pc := 678) F dL_law_678 ?_
      refine k_scld (pc := 679) F hXq dL_law_679 ?_
      refine k_callVI (pc := 680) B (k := 0) (As := [.int (xsq (ix (xq3 + (1 : Int32)))), .int (xsq (ix (xq3 + (2 : Int32))))]) (rest := []) (ct_X10_heal E (xsq (ix (xq3 + (1 : Int32)))) (xsq (ix (xq3 + (2 : Int32))))  σ) rfl rfl mv_X10_heal w_4_1 rfl hR_L_law_X10_heal rfl (Nat.le_of_ble_eq_true rfl) dL_law_680 (fun rq110 σ109 hoq => ?_)
      refine k_aload_n (pc := 683) F 2 2 dL_law_683 rfl rfl ?_
      refine k_aload_n (pc := 684) F 0 0 dL_law_684 rfl rfl ?_
      refine k_iload_n (pc := 685) F 3 3 dL_law_685 rfl rfl ?_
      refine k_iconst (pc := 686) F (v := (1 : Int32)) dL_law_686 ci_1 ?_
      refine k_iadd (pc := 687) F dL_law_687 ?_
      refine k_scld (pc := 688) F hXq dL_law_688 ?_
      refine k_aload_n (pc := 689) F 0 0 dL_law_689 rfl rfl ?_
      refine k_iload_n (pc := 690) F 3 3 dL_law_690 rfl rfl ?_
      refine k_iconst (pc := 691) F (v := (2 : Int32)) dL_law_691 ci_2 ?_
      refine k_iadd (pc := 692) F dL_law_692 ?_
      refine k_scld (pc := 693) F hXq dL_law_693 ?_
      refine k_callVI (pc := 694) B (k := 48) (As := [.int (xsq (ix (xq3 + (1 : Int32)))), .int (xsq (ix (xq3 + (2 : Int32))))]) (rest := [.int rq110]) (ct_X11_heal E (xsq (ix (xq3 + (1 : Int32)))) (xsq (ix (xq3 + (2 : Int32))))  σ109) rfl rfl mv_X11_heal w_6_159 rfl hR_L_law_X11_heal rfl (Nat.le_of_ble_eq_true rfl) dL_law_694 (fun rq112 σ111 hoq => ?_)
      refine k_icmp_eq (pc := 697) F 1128 dL_law_697 (by decide) (fun _ => ?_) (fun _ => ?_)
      · exact k_sub [0, 1, 2, 3] rfl (t_L_law_1128 B C9 Lq xsq xq3 hXq L18 hL18  σ111)
      · refine k_iconst (pc := 700) F (v := (0 : Int32)) dL_law_700 ci_0 ?_
        exact k_none
    refine k_case (fun hwq113 => ?_) (fun hwq113 => ?_)
    · refine k_tin (pc := 33) F 702 dL_law_33 (by rw [hwq113]; decide) (by rw [hwq113]; decide) (by rw [hwq113]; rfl) (by decide) ?_
      refine k_aload_n (pc := 702) F 1 1 dL_law_702 rfl rfl ?_
      refine k_callVI (pc := 703) B (k := 0) (As := []) (rest := []) (ct_X10_fences E   σ) rfl rfl mv_X10_fences w_4_13 rfl hR_L_law_X10_fences rfl (Nat.le_of_ble_eq_true rfl) dL_law_703 (fun rq115 σ114 hoq => ?_)
      refine k_aload_n (pc := 706) F 2 2 dL_law_706 rfl rfl ?_
      refine k_callVI (pc := 707) B (k := 48) (As := []) (rest := [.int rq115]) (ct_X11_fences E   σ114) rfl rfl mv_X11_fences w_6_167 rfl hR_L_law_X11_fences rfl (Nat.le_of_ble_eq_true rfl) dL_law_707 (fun rq117 σ116 hoq => ?_)
      refine k_icmp_eq (pc := 710) F 1128 dL_law_710 (by decide) (fun _ => ?_) (fun _ => ?_)
      · exact k_sub [0, 1, 2, 3] rfl (t_L_law_1128 B C9 Lq xsq xq3 hXq L18 hL18  σ116)
      · refine k_iconst (pc := 713) F (v := (0 : Int32)) dL_law_713 ci_0 ?_
        exact k_none
    refine k_case (fun hwq118 => ?_) (fun hwq118 => ?_)
    · refine k_tin (pc := 33) F 715 dL_law_33 (by rw [hwq118]; decide) (by rw [hwq118]; decide) (by rw [hwq118]; rfl) (by decide) ?_
      refine k_aload_n (pc := 715) F 1 1 dL_law_715 rfl rfl ?_
      refine k_aload_n (pc := 716) F 0 0 dL_law_716 rfl rfl ?_
      refine k_iload_n (pc := 717) F 3 3 dL_law_717 rfl rfl ?_
      refine k_iconst (pc := 718) F (v := (1 : Int32)) dL_law_718 ci_1 ?_
      refine k_iadd (pc := 719) F dL_law_719 ?_
      refine k_scld (pc := 720) F hXq dL_law_720 ?_
      refine k_callVI (pc := 721) B (k := 0) (As := [.int (xsq (ix (xq3 + (1 : Int32))))]) (rest := []) (ct_X10_cost E (xsq (ix (xq3 + (1 : Int32))))  σ) rfl rfl mv_X10_cost w_4_39 rfl hR_L_law_X10_cost rfl (Nat.le_of_ble_eq_true rfl) dL_law_721 (fun rq120 σ119 hoq => ?_)
      refine k_aload_n (pc := 724) F 2 2 dL_law_724 rfl rfl ?_
      refine k_aload_n (pc := 725) F 0 0 dL_law_725 rfl rfl ?_
      refine k_iload_n (pc := 726) F 3 3 dL_law_726 rfl rfl ?_
      refine k_iconst (pc := 727) F (v := (1 : Int32)) dL_law_727 ci_1 ?_
      refine k_iadd (pc := 728) F dL_law_728 ?_
      refine k_scld (pc := 729) F hXq dL_law_729 ?_
      refine k_callVI (pc := 730) B (k := 48) (As := [.int (xsq (ix (xq3 + (1 : Int32))))]) (rest := [.int rq120]) (ct_X11_cost E (xsq (ix (xq3 + (1 : Int32))))  σ119) rfl rfl mv_X11_cost w_6_182 rfl hR_L_law_X11_cost rfl (Nat.le_of_ble_eq_true rfl) dL_law_730 (fun rq122 σ121 hoq => ?_)
      refine k_icmp_eq (pc := 733) F 1128 dL_law_733 (by decide) (fun _ => ?_) (fun _ => ?_)
      · exact k_sub [0, 1, 2, 3] rfl (t_L_law_1128 B C9 Lq xsq xq3 hXq L18 hL18  σ121)
      · refine k_iconst (pc := 736) F (v := (0 : Int32)) dL_law_736 ci_0 ?_
        exact k_none
    refine k_case (fun hwq123 => ?_) (fun hwq123 => ?_)
    · refine k_tin (pc := 33) F 738 dL_law_33 (by rw [hwq123]; decide) (by rw [hwq123]; decide) (by rw [hwq123]; rfl) (by decide) ?_
      refine k_aload_n (pc := 738) F 1 1 dL_law_738 rfl rfl ?_
      refine k_aload_n (pc := 739) F 0 0 dL_law_739 rfl rfl ?_
      refine k_iload_n (pc := 740) F 3 3 dL_law_740 rfl rfl ?_
      refine k_iconst (pc := 741) F (v := (1 : Int32)) dL_law_741 ci_1 ?_
      refine k_iadd (pc := 742) F dL_law_742 ?_
      refine k_scld (pc := 743) F hXq dL_law_743 ?_
      refine k_callVI (pc := 744) B (k := 0) (As := [.int (xsq (ix (xq3 + (1 : Int32))))]) (rest := []) (ct_X10_played E (xsq (ix (xq3 + (1 : Int32))))  σ) rfl rfl mv_X10_played w_4_74 rfl hR_L_law_X10_played rfl (Nat.le_of_ble_eq_true rfl) dL_law_744 (fun rq125 σ124 hoq => ?_)
      refine k_aload_n (pc := 747) F 2 2 dL_law_747 rfl rfl ?_
      refine k_aload_n (pc := 748) F 0 0 dL_law_748 rfl rfl ?_
      refine k_iload_n (pc := 749) F 3 3 dL_law_749 rfl rfl ?_
      refine k_iconst (pc := 750) F (v := (1 : Int32)) dL_law_750 ci_1 ?_
      refine k_iadd (pc := 751) F dL_law_751 ?_
      refine k_scld (pc := 752) F hXq dL_law_752 ?_
      refine k_callVI (pc := 753) B (k := 48) (As := [.int (xsq (ix (xq3 + (1 : Int32))))]) (rest := [.int rq125]) (ct_X11_played E (xsq (ix (xq3 + (1 : Int32))))  σ124) rfl rfl mv_X11_played w_6_200 rfl hR_L_law_X11_played rfl (Nat.le_of_ble_eq_true rfl) dL_law_753 (fun rq127 σ126 hoq => ?_)
      refine k_icmp_eq (pc := 756) F 1128 dL_law_756 (by decide) (fun _ => ?_) (fun _ => ?_)
      · exact k_sub [0, 1, 2, 3] rfl (t_L_law_1128 B C9 Lq xsq xq3 hXq L18 hL18  σ126)
      · refine k_iconst (pc := 759) F (v := (0 : Int32)) dL_law_759 ci_0 ?_
        exact k_none
    refine k_case (fun hwq128 => ?_) (fun hwq128 => ?_)
    · refine k_tin (pc := 33) F 761 dL_law_33 (by rw [hwq128]; decide) (by rw [hwq128]; decide) (by rw [hwq128]; rfl) (by decide) ?_
      refine k_aload_n (pc := 761) F 1 1 dL_law_761 rfl rfl ?_
      refine k_aload_n (pc := 762) F 0 0 dL_law_762 rfl rfl ?_
      refine k_iload_n (pc := 763) F 3 3 dL_law_763 rfl rfl ?_
      refine k_iconst (pc := 764) F (v := (1 : Int32)) dL_law_764 ci_1 ?_
      refine k_iadd (pc := 765) F dL_law_765 ?_
      refine k_scld (pc := 766) F hXq dL_law_766 ?_
      refine k_callVI (pc := 767) B (k := 0) (As := [.int (xsq (ix (xq3 + (1 : Int32))))]) (rest := []) (ct_X10_judge E (xsq (ix (xq3 + (1 : Int32))))  σ) rfl rfl mv_X10_judge w_4_78 rfl hR_L_law_X10_judge rfl (Nat.le_of_ble_eq_true rfl) dL_law_767 (fun rq130 σ129 hoq => ?_)
      refine k_aload_n (pc := 770) F 2 2 dL_law_770 rfl rfl ?_
      refine k_aload_n (pc := 771) F 0 0 dL_law_771 rfl rfl ?_
      refine k_iload_n (pc := 772) F 3 3 dL_law_772 rfl rfl ?_
      refine k_iconst (pc := 773) F (v := (1 : Int32)) dL_law_773 ci_1 ?_
      refine k_iadd (pc := 774) F dL_law_774 ?_
      refine k_scld (pc := 775) F hXq dL_law_775 ?_
      refine k_callVI (pc := 776) B (k := 48) (As := [.int (xsq (ix (xq3 + (1 : Int32))))]) (rest := [.int rq130]) (ct_X11_judge E (xsq (ix (xq3 + (1 : Int32))))  σ129) rfl rfl mv_X11_judge w_6_204 rfl hR_L_law_X11_judge rfl (Nat.le_of_ble_eq_true rfl) dL_law_776 (fun rq132 σ131 hoq => ?_)
      refine k_icmp_eq (pc := 779) F 1128 dL_law_779 (by decide) (fun _ => ?_) (fun _ => ?_)
      · exact k_sub [0, 1, 2, 3] rfl (t_L_law_1128 B C9 Lq xsq xq3 hXq L18 hL18  σ131)
      · refine k_iconst (pc := 782) F (v := (0 : Int32)) dL_law_782 ci_0 ?_
        exact k_none
    refine k_case (fun hwq133 => ?_) (fun hwq133 => ?_)
    · refine k_tin (pc := 33) F 784 dL_law_33 (by rw [hwq133]; decide) (by rw [hwq133]; decide) (by rw [hwq133]; rfl) (by decide) ?_
      refine k_aload_n (pc := 784) F 1 1 dL_law_784 rfl rfl ?_
      refine k_aload_n (pc := 785) F 0 0 dL_law_785 rfl rfl ?_
      refine k_iload_n (pc := 786) F 3 3 dL_law_786 rfl rfl ?_
      refine k_iconst (pc := 787) F (v := (1 : Int32)) dL_law_787 ci_1 ?_
      refine k_iadd (pc := 788) F dL_law_788 ?_
      refine k_scld (pc := 789) F hXq dL_law_789 ?_
      refine k_callVI (pc := 790) B (k := 0) (As := [.int (xsq (ix (xq3 + (1 : Int32))))]) (rest := []) (ct_X10_moves E (xsq (ix (xq3 + (1 : Int32))))  σ) rfl rfl mv_X10_moves w_4_85 rfl hR_L_law_X10_moves rfl (Nat.le_of_ble_eq_true rfl) dL_law_790 (fun rq135 σ134 hoq => ?_)
      refine k_aload_n (pc := 793) F 2 2 dL_law_793 rfl rfl ?_
      refine k_aload_n (pc := 794) F 0 0 dL_law_794 rfl rfl ?_
      refine k_iload_n (pc := 795) F 3 3 dL_law_795 rfl rfl ?_
      refine k_iconst (pc := 796) F (v := (1 : Int32)) dL_law_796 ci_1 ?_
      refine k_iadd (pc := 797) F dL_law_797 ?_
      refine k_scld (pc := 798) F hXq dL_law_798 ?_
      refine k_callVI (pc := 799) B (k := 48) (As := [.int (xsq (ix (xq3 + (1 : Int32))))]) (rest := [.int rq135]) (ct_X11_moves E (xsq (ix (xq3 + (1 : Int32))))  σ134) rfl rfl mv_X11_moves w_6_208 rfl hR_L_law_X11_moves rfl (Nat.le_of_ble_eq_true rfl) dL_law_799 (fun rq137 σ136 hoq => ?_)
      refine k_icmp_eq (pc := 802) F 1128 dL_law_802 (by decide) (fun _ => ?_) (fun _ => ?_)
      · exact k_sub [0, 1, 2, 3] rfl (t_L_law_1128 B C9 Lq xsq xq3 hXq L18 hL18  σ136)
      · refine k_iconst (pc := 805) F (v := (0 : Int32)) dL_law_805 ci_0 ?_
        exact k_none
    refine k_case (fun hwq138 => ?_) (fun hwq138 => ?_)
    · refine k_tin (pc := 33) F 807 dL_law_33 (by rw [hwq138]; decide) (by rw [hwq138]; decide) (by rw [hwq138]; rfl) (by decide) ?_
      refine k_aload_n (pc := 807) F 1 1 dL_law_807 rfl rfl ?_
      refine k_aload_n (pc := 808) F 0 0 dL_law_808 rfl rfl ?_
      refine k_iload_n (pc := 809) F 3 3 dL_law_809 rfl rfl ?_
      refine k_iconst (pc := 810) F (v := (1 : Int32)) dL_law_810 ci_1 ?_
      refine k_iadd (pc := 811) F dL_law_811 ?_
      refine k_scld (pc := 812) F hXq dL_law_812 ?_
      refine k_aload_n (pc := 813) F 0 0 dL_law_813 rfl rfl ?_
      refine k_iload_n (pc := 814) F 3 3 dL_law_814 rfl rfl ?_
      refine k_iconst (pc := 815) F (v := (2 : Int32)) dL_law_815 ci_2 ?_
      refine k_iadd (pc := 816) F dL_law_816 ?_
      refine k_scld (pc := 817) F hXq dL_law_817 ?_
      refine k_callVI (pc := 818) B (k := 0) (As := [.int (xsq (ix (xq3 + (1 : Int32)))), .int (xsq (ix (xq3 + (2 : Int32))))]) (rest := []) (ct_X10_after E (xsq (ix (xq3 + (1 : Int32)))) (xsq (ix (xq3 + (2 : Int32))))  σ) rfl rfl mv_X10_after w_4_93 rfl hR_L_law_X10_after rfl (Nat.le_of_ble_eq_true rfl) dL_law_818 (fun rq140 σ139 hoq => ?_)
      refine k_aload_n (pc := 821) F 2 2 dL_law_821 rfl rfl ?_
      refine k_aload_n (pc := 822) F 0 0 dL_law_822 rfl rfl ?_
      refine k_iload_n (pc := 823) F 3 3 dL_law_823 rfl rfl ?_
      refine k_iconst (pc := 824) F (v := (1 : Int32)) dL_law_824 ci_1 ?_
      refine k_iadd (pc := 825) F dL_law_825 ?_
      refine k_scld (pc := 826) F hXq dL_law_826 ?_
      refine k_aload_n (pc := 827) F 0 0 dL_law_827 rfl rfl ?_
      refine k_iload_n (pc := 828) F 3 3 dL_law_828 rfl rfl ?_
      refine k_iconst (pc := 829) F (v := (2 : Int32)) dL_law_829 ci_2 ?_
      refine k_iadd (pc := 830) F dL_law_830 ?_
      refine k_scld (pc := 831) F hXq dL_law_831 ?_
      refine k_callVI (pc := 832) B (k := 48) (As := [.int (xsq (ix (xq3 + (1 : Int32)))), .int (xsq (ix (xq3 + (2 : Int32))))]) (rest := [.int rq140]) (ct_X11_after E (xsq (ix (xq3 + (1 : Int32)))) (xsq (ix (xq3 + (2 : Int32))))  σ139) rfl rfl mv_X11_after w_6_212 rfl hR_L_law_X11_after rfl (Nat.le_of_ble_eq_true rfl) dL_law_832 (fun rq142 σ141 hoq => ?_)
      refine k_icmp_eq (pc := 835) F 1128 dL_law_835 (by decide) (fun _ => ?_) (fun _ => ?_)
      · exact k_sub [0, 1, 2, 3] rfl (t_L_law_1128 B C9 Lq xsq xq3 hXq L18 hL18  σ141)
      · refine k_iconst (pc := 838) F (v := (0 : Int32)) dL_law_838 ci_0 ?_
        exact k_none
    refine k_case (fun hwq143 => ?_) (fun hwq143 => ?_)
    · refine k_tin (pc := 33) F 840 dL_law_33 (by rw [hwq143]; decide) (by rw [hwq143]; decide) (by rw [hwq143]; rfl) (by decide) ?_
      refine k_aload_n (pc := 840) F 1 1 dL_law_840 rfl rfl ?_
      refine k_aload_n (pc := 841) F 0 0 dL_law_841 rfl rfl ?_
      refine k_iload_n (pc := 842) F 3 3 dL_law_842 rfl rfl ?_
      refine k_iconst (pc := 843) F (v := (1 : Int32)) dL_law_843 ci_1 ?_
      refine k_iadd (pc := 844) F dL_law_844 ?_
      refine k_scld (pc := 845) F hXq dL_law_845 ?_
      refine k_aload_n (pc := 846) F 0 0 dL_law_846 rfl rfl ?_
      refine k_iload_n (pc := 847) F 3 3 dL_law_847 rfl rfl ?_
      refine k_iconst (pc := 848) F (v := (2 : Int32)) dL_law_848 ci_2 ?_
      refine k_iadd (pc := 849) F dL_law_849 ?_
      refine k_scld (pc := 850) F hXq dL_law_850 ?_
      refine k_aload_n (pc := 851) F 0 0 dL_law_851 rfl rfl ?_
      refine k_iload_n (pc := 852) F 3 3 dL_law_852 rfl rfl ?_
      refine k_iconst (pc := 853) F (v := (3 : Int32)) dL_law_853 ci_3 ?_
      refine k_iadd (pc := 854) F dL_law_854 ?_
      refine k_scld (pc := 855) F hXq dL_law_855 ?_
      refine k_callVI (pc := 856) B (k := 0) (As := [.int (xsq (ix (xq3 + (1 : Int32)))), .int (xsq (ix (xq3 + (2 : Int32)))), .int (xsq (ix (xq3 + (3 : Int32))))]) (rest := []) (ct_X10_sheet E (xsq (ix (xq3 + (1 : Int32)))) (xsq (ix (xq3 + (2 : Int32)))) (xsq (ix (xq3 + (3 : Int32))))  σ) rfl rfl mv_X10_sheet w_4_102 rfl hR_L_law_X10_sheet rfl (Nat.le_of_ble_eq_true rfl) dL_law_856 (fun rq145 σ144 hoq => ?_)
      refine k_aload_n (pc := 859) F 2 2 dL_law_859 rfl rfl ?_
      refine k_aload_n (pc := 860) F 0 0 dL_law_860 rfl rfl ?_
      refine k_iload_n (pc := 861) F 3 3 dL_law_861 rfl rfl ?_
      refine k_iconst (pc := 862) F (v := (1 : Int32)) dL_law_862 ci_1 ?_
      refine k_iadd (pc := 863) F dL_law_863 ?_
      refine k_scld (pc := 864) F hXq dL_law_864 ?_
      refine k_aload_n (pc := 865) F 0 0 dL_law_865 rfl rfl ?_
      refine k_iload_n (pc := 866) F 3 3 dL_law_866 rfl rfl ?_
      refine k_iconst (pc := 867) F (v := (2 : Int32)) dL_law_867 ci_2 ?_
      refine k_iadd (pc := 868) F dL_law_868 ?_
      refine k_scld (pc := 869) F hXq dL_law_869 ?_
      refine k_aload_n (pc := 870) F 0 0 dL_law_870 rfl rfl ?_
      refine k_iload_n (pc := 871) F 3 3 dL_law_871 rfl rfl ?_
      refine k_iconst (pc := 872) F (v := (3 : Int32)) dL_law_872 ci_3 ?_
      refine k_iadd (pc := 873) F dL_law_873 ?_
      refine k_scld (pc := 874) F hXq dL_law_874 ?_
      refine k_callVI (pc := 875) B (k := 48) (As := [.int (xsq (ix (xq3 + (1 : Int32)))), .int (xsq (ix (xq3 + (2 : Int32)))), .int (xsq (ix (xq3 + (3 : Int32))))]) (rest := [.int rq145]) (ct_X11_sheet E (xsq (ix (xq3 + (1 : Int32)))) (xsq (ix (xq3 + (2 : Int32)))) (xsq (ix (xq3 + (3 : Int32))))  σ144) rfl rfl mv_X11_sheet w_6_216 rfl hR_L_law_X11_sheet rfl (Nat.le_of_ble_eq_true rfl) dL_law_875 (fun rq147 σ146 hoq => ?_)
      refine k_icmp_eq (pc := 878) F 1128 dL_law_878 (by decide) (fun _ => ?_) (fun _ => ?_)
      · exact k_sub [0, 1, 2, 3] rfl (t_L_law_1128 B C9 Lq xsq xq3 hXq L18 hL18  σ146)
      · refine k_iconst (pc := 881) F (v := (0 : Int32)) dL_law_881 ci_0 ?_
        exact k_none
    refine k_case (fun hwq148 => ?_) (fun hwq148 => ?_)
    · refine k_tin (pc := 33) F 883 dL_law_33 (by rw [hwq148]; decide) (by rw [hwq148]; decide) (by rw [hwq148]; rfl) (by decide) ?_
      refine k_aload_n (pc := 883) F 1 1 dL_law_883 rfl rfl ?_
      refine k_aload_n (pc := 884) F 0 0 dL_law_884 rfl rfl ?_
      refine k_iload_n (pc := 885) F 3 3 dL_law_885 rfl rfl ?_
      refine k_iconst (pc := 886) F (v := (1 : Int32)) dL_law_886 ci_1 ?_
      refine k_iadd (pc := 887) F dL_law_887 ?_
      refine k_scld (pc := 888) F hXq dL_law_888 ?_
      refine k_aload_n (pc := 889) F 0 0 dL_law_889 rfl rfl ?_
      refine k_iload_n (pc := 890) F 3 3 dL_law_890 rfl rfl ?_
      refine k_iconst (pc := 891) F (v := (2 : Int32)) dL_law_891 ci_2 ?_
      refine k_iadd (pc := 892) F dL_law_892 ?_
      refine k_scld (pc := 893) F hXq dL_law_893 ?_
      refine k_aload_n (pc := 894) F 0 0 dL_law_894 rfl rfl ?_
      refine k_iload_n (pc := 895) F 3 3 dL_law_895 rfl rfl ?_
      refine k_iconst (pc := 896) F (v := (3 : Int32)) dL_law_896 ci_3 ?_
      refine k_iadd (pc := 897) F dL_law_897 ?_
      refine k_scld (pc := 898) F hXq dL_law_898 ?_
      refine k_i2l (pc := 899) F dL_law_899 ?_
      refine k_bipush (pc := 900) F (v := (32 : Int32)) dL_law_900 cb_32 ?_
      refine k_lshl (pc := 902) F dL_law_902 ?_
      refine k_aload_n (pc := 903) F 0 0 dL_law_903 rfl rfl ?_
      refine k_iload_n (pc := 904) F 3 3 dL_law_904 rfl rfl ?_
      refine k_iconst (pc := 905) F (v := (4 : Int32)) dL_law_905 ci_4 ?_
      refine k_iadd (pc := 906) F dL_law_906 ?_
      refine k_scld (pc := 907) F hXq dL_law_907 ?_
      refine k_i2l (pc := 908) F dL_law_908 ?_
      refine k_ldc2 (pc := 909) F (v := (4294967295 : Int64)) w_7_24 dL_law_909 ?_
      refine k_land (pc := 912) F dL_law_912 ?_
      refine k_lor (pc := 913) F dL_law_913 ?_
      refine k_callVL (pc := 914) B (k := 0) (As := [.int (xsq (ix (xq3 + (1 : Int32)))), .int (xsq (ix (xq3 + (2 : Int32)))), .long (((((xsq (ix (xq3 + (3 : Int32))))).toInt64) <<< (((32 : Int32)).toInt64 &&& 63)) ||| ((((xsq (ix (xq3 + (4 : Int32))))).toInt64) &&& (4294967295 : Int64)))]) (rest := []) (ct_X10_write E (xsq (ix (xq3 + (1 : Int32)))) (xsq (ix (xq3 + (2 : Int32)))) (((((xsq (ix (xq3 + (3 : Int32))))).toInt64) <<< (((32 : Int32)).toInt64 &&& 63)) ||| ((((xsq (ix (xq3 + (4 : Int32))))).toInt64) &&& (4294967295 : Int64)))  σ) rfl rfl mv_X10_write w_4_113 rfl hR_L_law_X10_write rfl (Nat.le_of_ble_eq_true rfl) dL_law_914 (fun rq150 σ149 hoq => ?_)
      refine k_aload_n (pc := 917) F 2 2 dL_law_917 rfl rfl ?_
      refine k_aload_n (pc := 918) F 0 0 dL_law_918 rfl rfl ?_
      refine k_iload_n (pc := 919) F 3 3 dL_law_919 rfl rfl ?_
      refine k_iconst (pc := 920) F (v := (1 : Int32)) dL_law_920 ci_1 ?_
      refine k_iadd (pc := 921) F dL_law_921 ?_
      refine k_scld (pc := 922) F hXq dL_law_922 ?_
      refine k_aload_n (pc := 923) F 0 0 dL_law_923 rfl rfl ?_
      refine k_iload_n (pc := 924) F 3 3 dL_law_924 rfl rfl ?_
      refine k_iconst (pc := 925) F (v := (2 : Int32)) dL_law_925 ci_2 ?_
      refine k_iadd (pc := 926) F dL_law_926 ?_
      refine k_scld (pc := 927) F hXq dL_law_927 ?_
      refine k_aload_n (pc := 928) F 0 0 dL_law_928 rfl rfl ?_
      refine k_iload_n (pc := 929) F 3 3 dL_law_929 rfl rfl ?_
      refine k_iconst (pc := 930) F (v := (3 : Int32)) dL_law_930 ci_3 ?_
      refine k_iadd (pc := 931) F dL_law_931 ?_
      refine k_scld (pc := 932) F hXq dL_law_932 ?_
      refine k_i2l (pc := 933) F dL_law_933 ?_
      refine k_bipush (pc := 934) F (v := (32 : Int32)) dL_law_934 cb_32 ?_
      refine k_lshl (pc := 936) F dL_law_936 ?_
      refine k_aload_n (pc := 937) F 0 0 dL_law_937 rfl rfl ?_
      refine k_iload_n (pc := 938) F 3 3 dL_law_938 rfl rfl ?_
      refine k_iconst (pc := 939) F (v := (4 : Int32)) dL_law_939 ci_4 ?_
      refine k_iadd (pc := 940) F dL_law_940 ?_
      refine k_scld (pc := 941) F hXq dL_law_941 ?_
      refine k_i2l (pc := 942) F dL_law_942 ?_
      refine k_ldc2 (pc := 943) F (v := (4294967295 : Int64)) w_7_24 dL_law_943 ?_
      refine k_land (pc := 946) F dL_law_946 ?_
      refine k_lor (pc := 947) F dL_law_947 ?_
      refine k_callVL (pc := 948) B (k := 48) (As := [.int (xsq (ix (xq3 + (1 : Int32)))), .int (xsq (ix (xq3 + (2 : Int32)))), .long (((((xsq (ix (xq3 + (3 : Int32))))).toInt64) <<< (((32 : Int32)).toInt64 &&& 63)) ||| ((((xsq (ix (xq3 + (4 : Int32))))).toInt64) &&& (4294967295 : Int64)))]) (rest := [.long rq150]) (ct_X11_write E (xsq (ix (xq3 + (1 : Int32)))) (xsq (ix (xq3 + (2 : Int32)))) (((((xsq (ix (xq3 + (3 : Int32))))).toInt64) <<< (((32 : Int32)).toInt64 &&& 63)) ||| ((((xsq (ix (xq3 + (4 : Int32))))).toInt64) &&& (4294967295 : Int64)))  σ149) rfl rfl mv_X11_write w_6_224 rfl hR_L_law_X11_write rfl (Nat.le_of_ble_eq_true rfl) dL_law_948 (fun rq152 σ151 hoq => ?_)
      refine k_lcmp (pc := 951) F dL_law_951 ?_
      refine k_if_eq (pc := 952) F 1128 dL_law_952 (by decide) (fun _ => ?_) (fun _ => ?_)
      · exact k_sub [0, 1, 2, 3] rfl (t_L_law_1128 B C9 Lq xsq xq3 hXq L18 hL18  σ151)
      · refine k_iconst (pc := 955) F (v := (0 : Int32)) dL_law_955 ci_0 ?_
        exact k_none
    refine k_case (fun hwq153 => ?_) (fun hwq153 => ?_)
    · refine k_tin (pc := 33) F 957 dL_law_33 (by rw [hwq153]; decide) (by rw [hwq153]; decide) (by rw [hwq153]; rfl) (by decide) ?_
      refine k_aload_n (pc := 957) F 1 1 dL_law_957 rfl rfl ?_
      refine k_aload_n (pc := 958) F 0 0 dL_law_958 rfl rfl ?_
      refine k_iload_n (pc := 959) F 3 3 dL_law_959 rfl rfl ?_
      refine k_iconst (pc := 960) F (v := (1 : Int32)) dL_law_960 ci_1 ?_
      refine k_iadd (pc := 961) F dL_law_961 ?_
      refine k_scld (pc := 962) F hXq dL_law_962 ?_
      refine k_aload_n (pc := 963) F 0 0 dL_law_963 rfl rfl ?_
      refine k_iload_n (pc := 964) F 3 3 dL_law_964 rfl rfl ?_
      refine k_iconst (pc := 965) F (v := (2 : Int32)) dL_law_965 ci_2 ?_
      refine k_iadd (pc := 966) F dL_law_966 ?_
      refine k_scld (pc := 967) F hXq dL_law_967 ?_
      refine k_aload_n (pc := 968) F 0 0 dL_law_968 rfl rfl ?_
      refine k_iload_n (pc := 969) F 3 3 dL_law_969 rfl rfl ?_
      refine k_iconst (pc := 970) F (v := (3 : Int32)) dL_law_970 ci_3 ?_
      refine k_iadd (pc := 971) F dL_law_971 ?_
      refine k_scld (pc := 972) F hXq dL_law_972 ?_
      refine k_aload_n (pc := 973) F 0 0 dL_law_973 rfl rfl ?_
      refine k_iload_n (pc := 974) F 3 3 dL_law_974 rfl rfl ?_
      refine k_iconst (pc := 975) F (v := (4 : Int32)) dL_law_975 ci_4 ?_
      refine k_iadd (pc := 976) F dL_law_976 ?_
      refine k_scld (pc := 977) F hXq dL_law_977 ?_
      refine k_aload_n (pc := 978) F 0 0 dL_law_978 rfl rfl ?_
      refine k_iload_n (pc := 979) F 3 3 dL_law_979 rfl rfl ?_
      refine k_iconst (pc := 980) F (v := (5 : Int32)) dL_law_980 ci_5 ?_
      refine k_iadd (pc := 981) F dL_law_981 ?_
      refine k_scld (pc := 982) F hXq dL_law_982 ?_
      refine k_callVI (pc := 983) B (k := 0) (As := [.int (xsq (ix (xq3 + (1 : Int32)))), .int (xsq (ix (xq3 + (2 : Int32)))), .int (xsq (ix (xq3 + (3 : Int32)))), .int (xsq (ix (xq3 + (4 : Int32)))), .int (xsq (ix (xq3 + (5 : Int32))))]) (rest := []) (ct_X10_copy E (xsq (ix (xq3 + (1 : Int32)))) (xsq (ix (xq3 + (2 : Int32)))) (xsq (ix (xq3 + (3 : Int32)))) (xsq (ix (xq3 + (4 : Int32)))) (xsq (ix (xq3 + (5 : Int32))))  σ) rfl rfl mv_X10_copy w_4_121 rfl hR_L_law_X10_copy rfl (Nat.le_of_ble_eq_true rfl) dL_law_983 (fun rq155 σ154 hoq => ?_)
      refine k_aload_n (pc := 986) F 2 2 dL_law_986 rfl rfl ?_
      refine k_aload_n (pc := 987) F 0 0 dL_law_987 rfl rfl ?_
      refine k_iload_n (pc := 988) F 3 3 dL_law_988 rfl rfl ?_
      refine k_iconst (pc := 989) F (v := (1 : Int32)) dL_law_989 ci_1 ?_
      refine k_iadd (pc := 990) F dL_law_990 ?_
      refine k_scld (pc := 991) F hXq dL_law_991 ?_
      refine k_aload_n (pc := 992) F 0 0 dL_law_992 rfl rfl ?_
      refine k_iload_n (pc := 993) F 3 3 dL_law_993 rfl rfl ?_
      refine k_iconst (pc := 994) F (v := (2 : Int32)) dL_law_994 ci_2 ?_
      refine k_iadd (pc := 995) F dL_law_995 ?_
      refine k_scld (pc := 996) F hXq dL_law_996 ?_
      refine k_aload_n (pc := 997) F 0 0 dL_law_997 rfl rfl ?_
      refine k_iload_n (pc := 998) F 3 3 dL_law_998 rfl rfl ?_
      refine k_iconst (pc := 999) F (v := (3 : Int32)) dL_law_999 ci_3 ?_
      refine k_iadd (pc := 1000) F dL_law_1000 ?_
      refine k_scld (pc := 1001) F hXq dL_law_1001 ?_
      refine k_aload_n (pc := 1002) F 0 0 dL_law_1002 rfl rfl ?_
      refine k_iload_n (pc := 1003) F 3 3 dL_law_1003 rfl rfl ?_
      refine k_iconst (pc := 1004) F (v := (4 : Int32)) dL_law_1004 ci_4 ?_
      refine k_iadd (pc := 1005) F dL_law_1005 ?_
      refine k_scld (pc := 1006) F hXq dL_law_1006 ?_
      refine k_aload_n (pc := 1007) F 0 0 dL_law_1007 rfl rfl ?_
      refine k_iload_n (pc := 1008) F 3 3 dL_law_1008 rfl rfl ?_
      refine k_iconst (pc := 1009) F (v := (5 : Int32)) dL_law_1009 ci_5 ?_
      refine k_iadd (pc := 1010) F dL_law_1010 ?_
      refine k_scld (pc := 1011) F hXq dL_law_1011 ?_
      refine k_callVI (pc := 1012) B (k := 48) (As := [.int (xsq (ix (xq3 + (1 : Int32)))), .int (xsq (ix (xq3 + (2 : Int32)))), .int (xsq (ix (xq3 + (3 : Int32)))), .int (xsq (ix (xq3 + (4 : Int32)))), .int (xsq (ix (xq3 + (5 : Int32))))]) (rest := [.int rq155]) (ct_X11_copy E (xsq (ix (xq3 + (1 : Int32)))) (xsq (ix (xq3 + (2 : Int32)))) (xsq (ix (xq3 + (3 : Int32)))) (xsq (ix (xq3 + (4 : Int32)))) (xsq (ix (xq3 + (5 : Int32))))  σ154) rfl rfl mv_X11_copy w_6_228 rfl hR_L_law_X11_copy rfl (Nat.le_of_ble_eq_true rfl) dL_law_1012 (fun rq157 σ156 hoq => ?_)
      refine k_icmp_eq (pc := 1015) F 1128 dL_law_1015 (by decide) (fun _ => ?_) (fun _ => ?_)
      · exact k_sub [0, 1, 2, 3] rfl (t_L_law_1128 B C9 Lq xsq xq3 hXq L18 hL18  σ156)
      · refine k_iconst (pc := 1018) F (v := (0 : Int32)) dL_law_1018 ci_0 ?_
        exact k_none
    refine k_case (fun hwq158 => ?_) (fun hwq158 => ?_)
    · refine k_tin (pc := 33) F 1020 dL_law_33 (by rw [hwq158]; decide) (by rw [hwq158]; decide) (by rw [hwq158]; rfl) (by decide) ?_
      refine k_aload_n (pc := 1020) F 1 1 dL_law_1020 rfl rfl ?_
      refine k_aload_n (pc := 1021) F 0 0 dL_law_1021 rfl rfl ?_
      refine k_iload_n (pc := 1022) F 3 3 dL_law_1022 rfl rfl ?_
      refine k_iconst (pc := 1023) F (v := (1 : Int32)) dL_law_1023 ci_1 ?_
      refine k_iadd (pc := 1024) F dL_law_1024 ?_
      refine k_scld (pc := 1025) F hXq dL_law_1025 ?_
      refine k_callVI (pc := 1026) B (k := 0) (As := [.int (xsq (ix (xq3 + (1 : Int32))))]) (rest := []) (ct_X10_lead E (xsq (ix (xq3 + (1 : Int32))))  σ) rfl rfl mv_X10_lead w_4_130 rfl hR_L_law_X10_lead rfl (Nat.le_of_ble_eq_true rfl) dL_law_1026 (fun rq160 σ159 hoq => ?_)
      refine k_aload_n (pc := 1029) F 2 2 dL_law_1029 rfl rfl ?_
      refine k_aload_n (pc := 1030) F 0 0 dL_law_1030 rfl rfl ?_
      refine k_iload_n (pc := 1031) F 3 3 dL_law_1031 rfl rfl ?_
      refine k_iconst (pc := 1032) F (v := (1 : Int32)) dL_law_1032 ci_1 ?_
      refine k_iadd (pc := 1033) F dL_law_1033 ?_
      refine k_scld (pc := 1034) F hXq dL_law_1034 ?_
      refine k_callVI (pc := 1035) B (k := 48) (As := [.int (xsq (ix (xq3 + (1 : Int32))))]) (rest := [.int rq160]) (ct_X11_lead E (xsq (ix (xq3 + (1 : Int32))))  σ159) rfl rfl mv_X11_lead w_6_232 rfl hR_L_law_X11_lead rfl (Nat.le_of_ble_eq_true rfl) dL_law_1035 (fun rq162 σ161 hoq => ?_)
      refine k_icmp_eq (pc := 1038) F 1128 dL_law_1038 (by decide) (fun _ => ?_) (fun _ => ?_)
      · exact k_sub [0, 1, 2, 3] rfl (t_L_law_1128 B C9 Lq xsq xq3 hXq L18 hL18  σ161)
      · refine k_iconst (pc := 1041) F (v := (0 : Int32)) dL_law_1041 ci_0 ?_
        exact k_none
    refine k_case (fun hwq163 => ?_) (fun hwq163 => ?_)
    · refine k_tin (pc := 33) F 1043 dL_law_33 (by rw [hwq163]; decide) (by rw [hwq163]; decide) (by rw [hwq163]; rfl) (by decide) ?_
      refine k_aload_n (pc := 1043) F 1 1 dL_law_1043 rfl rfl ?_
      refine k_callVI (pc := 1044) B (k := 0) (As := []) (rest := []) (ct_X10_image E   σ) rfl rfl mv_X10_image w_4_134 rfl hR_L_law_X10_image rfl (Nat.le_of_ble_eq_true rfl) dL_law_1044 (fun rq165 σ164 hoq => ?_)
      refine k_aload_n (pc := 1047) F 2 2 dL_law_1047 rfl rfl ?_
      refine k_callVI (pc := 1048) B (k := 48) (As := []) (rest := [.int rq165]) (ct_X11_image E   σ164) rfl rfl mv_X11_image w_6_236 rfl hR_L_law_X11_image rfl (Nat.le_of_ble_eq_true rfl) dL_law_1048 (fun rq167 σ166 hoq => ?_)
      refine k_icmp_eq (pc := 1051) F 1128 dL_law_1051 (by decide) (fun _ => ?_) (fun _ => ?_)
      · exact k_sub [0, 1, 2, 3] rfl (t_L_law_1128 B C9 Lq xsq xq3 hXq L18 hL18  σ166)
      · refine k_iconst (pc := 1054) F (v := (0 : Int32)) dL_law_1054 ci_0 ?_
        exact k_none
    refine k_case (fun hwq168 => ?_) (fun hwq168 => ?_)
    · refine k_tin (pc := 33) F 1056 dL_law_33 (by rw [hwq168]; decide) (by rw [hwq168]; decide) (by rw [hwq168]; rfl) (by decide) ?_
      refine k_aload_n (pc := 1056) F 1 1 dL_law_1056 rfl rfl ?_
      refine k_callVI (pc := 1057) B (k := 0) (As := []) (rest := []) (ct_X10_undo E   σ) rfl rfl mv_X10_undo w_4_143 rfl hR_L_law_X10_undo rfl (Nat.le_of_ble_eq_true rfl) dL_law_1057 (fun rq170 σ169 hoq => ?_)
      refine k_aload_n (pc := 1060) F 2 2 dL_law_1060 rfl rfl ?_
      refine k_callVI (pc := 1061) B (k := 48) (As := []) (rest := [.int rq170]) (ct_X11_undo E   σ169) rfl rfl mv_X11_undo w_7_8 rfl hR_L_law_X11_undo rfl (Nat.le_of_ble_eq_true rfl) dL_law_1061 (fun rq172 σ171 hoq => ?_)
      refine k_icmp_eq (pc := 1064) F 1128 dL_law_1064 (by decide) (fun _ => ?_) (fun _ => ?_)
      · exact k_sub [0, 1, 2, 3] rfl (t_L_law_1128 B C9 Lq xsq xq3 hXq L18 hL18  σ171)
      · refine k_iconst (pc := 1067) F (v := (0 : Int32)) dL_law_1067 ci_0 ?_
        exact k_none
    refine k_case (fun hwq173 => ?_) (fun hwq173 => ?_)
    · refine k_tin (pc := 33) F 1069 dL_law_33 (by rw [hwq173]; decide) (by rw [hwq173]; decide) (by rw [hwq173]; rfl) (by decide) ?_
      refine k_aload_n (pc := 1069) F 1 1 dL_law_1069 rfl rfl ?_
      refine k_callVI (pc := 1070) B (k := 0) (As := []) (rest := []) (ct_X10_tear E   σ) rfl rfl mv_X10_tear w_4_147 rfl hR_L_law_X10_tear rfl (Nat.le_of_ble_eq_true rfl) dL_law_1070 (fun rq175 σ174 hoq => ?_)
      refine k_aload_n (pc := 1073) F 2 2 dL_law_1073 rfl rfl ?_
      refine k_callVI (pc := 1074) B (k := 48) (As := []) (rest := [.int rq175]) (ct_X11_tear E   σ174) rfl rfl mv_X11_tear w_7_12 rfl hR_L_law_X11_tear rfl (Nat.le_of_ble_eq_true rfl) dL_law_1074 (fun rq177 σ176 hoq => ?_)
      refine k_icmp_eq (pc := 1077) F 1128 dL_law_1077 (by decide) (fun _ => ?_) (fun _ => ?_)
      · exact k_sub [0, 1, 2, 3] rfl (t_L_law_1128 B C9 Lq xsq xq3 hXq L18 hL18  σ176)
      · refine k_iconst (pc := 1080) F (v := (0 : Int32)) dL_law_1080 ci_0 ?_
        exact k_none
    refine k_case (fun hwq178 => ?_) (fun hwq178 => ?_)
    · refine k_tin (pc := 33) F 1082 dL_law_33 (by rw [hwq178]; decide) (by rw [hwq178]; decide) (by rw [hwq178]; rfl) (by decide) ?_
      refine k_aload_n (pc := 1082) F 1 1 dL_law_1082 rfl rfl ?_
      refine k_aload_n (pc := 1083) F 0 0 dL_law_1083 rfl rfl ?_
      refine k_iload_n (pc := 1084) F 3 3 dL_law_1084 rfl rfl ?_
      refine k_iconst (pc := 1085) F (v := (1 : Int32)) dL_law_1085 ci_1 ?_
      refine k_iadd (pc := 1086) F dL_law_1086 ?_
      refine k_scld (pc := 1087) F hXq dL_law_1087 ?_
      refine k_callVI (pc := 1088) B (k := 0) (As := [.int (xsq (ix (xq3 + (1 : Int32))))]) (rest := []) (ct_X10_look E (xsq (ix (xq3 + (1 : Int32))))  σ) rfl rfl mv_X10_look w_4_151 rfl hR_L_law_X10_look rfl (Nat.le_of_ble_eq_true rfl) dL_law_1088 (fun rq180 σ179 hoq => ?_)
      refine k_aload_n (pc := 1091) F 2 2 dL_law_1091 rfl rfl ?_
      refine k_aload_n (pc := 1092) F 0 0 dL_law_1092 rfl rfl ?_
      refine k_iload_n (pc := 1093) F 3 3 dL_law_1093 rfl rfl ?_
      refine k_iconst (pc := 1094) F (v := (1 : Int32)) dL_law_1094 ci_1 ?_
      refine k_iadd (pc := 1095) F dL_law_1095 ?_
      refine k_scld (pc := 1096) F hXq dL_law_1096 ?_
      refine k_callVI (pc := 1097) B (k := 48) (As := [.int (xsq (ix (xq3 + (1 : Int32))))]) (rest := [.int rq180]) (ct_X11_look E (xsq (ix (xq3 + (1 : Int32))))  σ179) rfl rfl mv_X11_look w_7_16 rfl hR_L_law_X11_look rfl (Nat.le_of_ble_eq_true rfl) dL_law_1097 (fun rq182 σ181 hoq => ?_)
      refine k_icmp_eq (pc := 1100) F 1128 dL_law_1100 (by decide) (fun _ => ?_) (fun _ => ?_)
      · exact k_sub [0, 1, 2, 3] rfl (t_L_law_1128 B C9 Lq xsq xq3 hXq L18 hL18  σ181)
      · refine k_iconst (pc := 1103) F (v := (0 : Int32)) dL_law_1103 ci_0 ?_
        exact k_none
    refine k_case (fun hwq183 => ?_) (fun hwq183 => ?_)
    · refine k_tin (pc := 33) F 1105 dL_law_33 (by rw [hwq183]; decide) (by rw [hwq183]; decide) (by rw [hwq183]; rfl) (by decide) ?_
      refine k_aload_n (pc := 1105) F 1 1 dL_law_1105 rfl rfl ?_
      refine k_aload_n (pc := 1106) F 0 0 dL_law_1106 rfl rfl ?_
      refine k_iload_n (pc := 1107) F 3 3 dL_law_1107 rfl rfl ?_
      refine k_iconst (pc := 1108) F (v := (1 : Int32)) dL_law_1108 ci_1 ?_
      refine k_iadd (pc := 1109) F dL_law_1109 ?_
      refine k_scld (pc := 1110) F hXq dL_law_1110 ?_
      refine k_callVI (pc := 1111) B (k := 0) (As := [.int (xsq (ix (xq3 + (1 : Int32))))]) (rest := []) (ct_X10_status E (xsq (ix (xq3 + (1 : Int32))))  σ) rfl rfl mv_X10_status w_4_155 rfl hR_L_law_X10_status rfl (Nat.le_of_ble_eq_true rfl) dL_law_1111 (fun rq185 σ184 hoq => ?_)
      refine k_aload_n (pc := 1114) F 2 2 dL_law_1114 rfl rfl ?_
      refine k_aload_n (pc := 1115) F 0 0 dL_law_1115 rfl rfl ?_
      refine k_iload_n (pc := 1116) F 3 3 dL_law_1116 rfl rfl ?_
      refine k_iconst (pc := 1117) F (v := (1 : Int32)) dL_law_1117 ci_1 ?_
      refine k_iadd (pc := 1118) F dL_law_1118 ?_
      refine k_scld (pc := 1119) F hXq dL_law_1119 ?_
      refine k_callVI (pc := 1120) B (k := 48) (As := [.int (xsq (ix (xq3 + (1 : Int32))))]) (rest := [.int rq185]) (ct_X11_status E (xsq (ix (xq3 + (1 : Int32))))  σ184) rfl rfl mv_X11_status w_7_20 rfl hR_L_law_X11_status rfl (Nat.le_of_ble_eq_true rfl) dL_law_1120 (fun rq187 σ186 hoq => ?_)
      refine k_icmp_eq (pc := 1123) F 1128 dL_law_1123 (by decide) (fun _ => ?_) (fun _ => ?_)
      · exact k_sub [0, 1, 2, 3] rfl (t_L_law_1128 B C9 Lq xsq xq3 hXq L18 hL18  σ186)
      · refine k_iconst (pc := 1126) F (v := (0 : Int32)) dL_law_1126 ci_0 ?_
        exact k_none
    · refine k_tout (pc := 33) F 1128 dL_law_33 (by have hwq2 := ne_i (z := 0) (by decide) hwq2; have hwq8 := ne_i (z := 1) (by decide) hwq8; have hwq13 := ne_i (z := 2) (by decide) hwq13; have hwq18 := ne_i (z := 3) (by decide) hwq18; have hwq23 := ne_i (z := 4) (by decide) hwq23; have hwq28 := ne_i (z := 5) (by decide) hwq28; have hwq33 := ne_i (z := 6) (by decide) hwq33; have hwq38 := ne_i (z := 7) (by decide) hwq38; have hwq43 := ne_i (z := 8) (by decide) hwq43; have hwq48 := ne_i (z := 9) (by decide) hwq48; have hwq53 := ne_i (z := 10) (by decide) hwq53; have hwq58 := ne_i (z := 11) (by decide) hwq58; have hwq63 := ne_i (z := 12) (by decide) hwq63; have hwq68 := ne_i (z := 13) (by decide) hwq68; have hwq73 := ne_i (z := 14) (by decide) hwq73; have hwq78 := ne_i (z := 15) (by decide) hwq78; have hwq83 := ne_i (z := 16) (by decide) hwq83; have hwq88 := ne_i (z := 17) (by decide) hwq88; have hwq93 := ne_i (z := 18) (by decide) hwq93; have hwq98 := ne_i (z := 19) (by decide) hwq98; have hwq103 := ne_i (z := 20) (by decide) hwq103; have hwq108 := ne_i (z := 21) (by decide) hwq108; have hwq113 := ne_i (z := 22) (by decide) hwq113; have hwq118 := ne_i (z := 23) (by decide) hwq118; have hwq123 := ne_i (z := 24) (by decide) hwq123; have hwq128 := ne_i (z := 25) (by decide) hwq128; have hwq133 := ne_i (z := 26) (by decide) hwq133; have hwq138 := ne_i (z := 27) (by decide) hwq138; have hwq143 := ne_i (z := 28) (by decide) hwq143; have hwq148 := ne_i (z := 29) (by decide) hwq148; have hwq153 := ne_i (z := 30) (by decide) hwq153; have hwq158 := ne_i (z := 31) (by decide) hwq158; have hwq163 := ne_i (z := 32) (by decide) hwq163; have hwq168 := ne_i (z := 33) (by decide) hwq168; have hwq173 := ne_i (z := 34) (by decide) hwq173; have hwq178 := ne_i (z := 35) (by decide) hwq178; have hwq183 := ne_i (z := 36) (by decide) hwq183; omega) (by decide) ?_
      exact k_sub [0, 1, 2, 3] rfl (t_L_law_1128 B C9 Lq xsq xq3 hXq L18 hL18  σ)
set_option maxHeartbeats 4000000 in
set_option maxRecDepth 100000 in
theorem t_L_law_L18 {E : En} {G : Cx} {bq : Nat} (B : Bx E G cL_law 4 RL H_L_law ret) (C9 : Lx E G bq) (Lq : Nat) (xsq : Nat → Int32) (hXq : Sx E G bq Lq xsq)  : ∀ (n : Nat) (xq3 : Int32)  (σ : Mm), KR E G 4 (ZW G) (fx (fun _ _ => none) n (f_L_law_L18 Lq xsq) xq3 σ) 18 [(0, .ref bq), (1, .ref (ad E 0)), (2, .ref (ad E 48)), (3, .int xq3)] [] σ :=
  fun n => fx_ind (P := fun f => ∀ (xq3 : Int32)  (σ : Mm), KR E G 4 (ZW G) (f xq3 σ) 18 [(0, .ref bq), (1, .ref (ad E 0)), (2, .ref (ad E 48)), (3, .int xq3)] [] σ) (fun _ _ => k_none) (fun L18 hL18 xq3 σ => t_L_law_L18b B C9 Lq xsq hXq  L18 hL18 xq3 σ) n
