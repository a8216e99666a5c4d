/-! PURE: whole calls one behind the other -/
theorem AV_hd {n y : Nat} (hn : n ≤ 13) (hA : AV n y) : pl (hd y 0) ≤ n ∧ ∃ k a b, k < 64 ∧ a < 4 ∧ b < 4 ∧ y = mky k (pl (hd y 0)) a b := by
  obtain ⟨k, p, a, b, hk, hp, h1, h2, rfl⟩ := hA
  rw [hd_mky hk (by omega) h1 h2, pl_mkw (by omega)]
  exact ⟨hp, k, a, b, hk, h1, h2, rfl⟩
theorem Uq_inj {h o x y y' n : Nat} (hh : h < 3) (hn : n ≤ 13) (ho : o + n ≤ 26) (hA : AV n y) (hA' : AV n y') (e : Uq h o x y = Uq h o x y') : y = y' := by
  obtain ⟨k, p, a, b, hk, hp, h1, h2, rfl⟩ := hA
  obtain ⟨k', p', a', b', hk', hp', h1', h2', rfl⟩ := hA'
  have e1 := hd_mky hk (show p < 32 by omega) h1 h2
  have e2 := hd_mky hk' (show p' < 32 by omega) h1' h2'
  have o1 : o + pl (hd (mky k p a b) 0) < 32 := by rw [e1, pl_mkw (by omega)]; omega
  have o2 : o + pl (hd (mky k' p' a' b') 0) < 32 := by rw [e2, pl_mkw (by omega)]; omega
  have f1 := congrArg (fun z => hd z h) e
  have f1 : hd (Uq h o x (mky k p a b)) h = hd (Uq h o x (mky k' p' a' b')) h := f1
  rw [Uq_hd hh o1, Uq_hd hh o2, e1, e2, pl_mkw (by omega), pl_mkw (by omega), ha_mkw (by omega) h1, ha_mkw (by omega) h1', hb_mkw (by omega) h1 h2, hb_mkw (by omega) h1' h2'] at f1
  have hkk : k = k' := by
    apply k_ext hk hk'
    intro c hc
    have f2 : cv (Uq h o x (mky k p a b)) c = cv (Uq h o x (mky k' p' a' b')) c := by rw [e]
    rw [Uq_cv hh o1 hc, Uq_cv hh o2 hc, cv_mky hc, cv_mky hc] at f2
    exact f2
  unfold mkw at f1
  have : p = p' ∧ a = a' ∧ b = b' := by omega
  rw [hkk, this.1, this.2.1, this.2.2]
theorem VS_Uq {P : Pg} {h o x y n : Nat} (hh : h < 3) (hhP : h < pH P) (hn : n ≤ 13) (ho : o + n ≤ 26) (hN : o + n ≤ pN P h) (hV : VS P x) (hA : AV n y) : VS P (Uq h o x y) := by
  obtain ⟨hp, k, a, b, hk, h1, h2, _⟩ := AV_hd hn hA
  have ho32 : o + pl (hd y 0) < 32 := by omega
  have hV2 : VS P (x - x % 64 + y % 64) := ⟨putk_lt (by omega) hV.1, fun g hg => by rw [putk_hd (by omega) hg]; exact hV.2 g hg⟩
  exact VS_setH hV2 hh hhP (Uq_w ho32) (WV_mk ho32 (ha_lt _) (hb_lt _) (by omega) (fun _ => rfl) (fun _ => rfl) (by omega) (by omega)) (by rw [pl_mkw ho32]; omega)
/-- the way of a call alone -/
theorem alone_way {S : Su} {X : Nat → Bool} {c y : Nat} (hS : SuV S) (hFX : FX S X) (hc : c < sK S) (hA : AV (fl S X c) y) (hp : pl (hd y 0) < fl S X c) : ∀ i, (∀ j, 1 ≤ j → j ≤ i → tQ S X c (itr (gQ S X c) j y) = false) → AV (fl S X c) (itr (gQ S X c) i y) ∧ pl (hd (itr (gQ S X c) i y) 0) < fl S X c := by
  intro i
  induction i with
  | zero => intro _; exact ⟨hA, hp⟩
  | succ i ih =>
    intro h
    obtain ⟨a1, a2⟩ := ih (fun j h1 h2 => h j h1 (by omega))
    have h2 := alone_step (P := Qc S X c) (h := 0) (o := 0) (x := 0) hS hFX hc (by omega) (by omega) a1 a2 (by have := hFX c hc; omega) (by show 0 + fl S X c ≤ (if 0 = 0 then fl S X c else 0); rw [if_pos rfl]; omega) (fun p _ => by rw [shf0, Nat.zero_add]; rfl)
    have h3 := h (i + 1) (by omega) (by omega)
    rw [itr_s] at h3 ⊢
    exact ⟨h2.2.2, by unfold tQ at h3; have := of_decide_eq_false h3; omega⟩
theorem alone_end {S : Su} {X : Nat → Bool} {c y i : Nat} (hS : SuV S) (hFX : FX S X) (hc : c < sK S) (hA : AV (fl S X c) y) (hp : pl (hd y 0) < fl S X c) (hi : 1 ≤ i) (h : ∀ j, 1 ≤ j → j < i → tQ S X c (itr (gQ S X c) j y) = false) : AV (fl S X c) (itr (gQ S X c) i y) := by
  obtain ⟨k, rfl⟩ : ∃ k, i = k + 1 := ⟨i - 1, by omega⟩
  obtain ⟨a1, a2⟩ := alone_way hS hFX hc hA hp k (fun j h1 h2 => h j h1 (by omega))
  have h2 := alone_step (P := Qc S X c) (h := 0) (o := 0) (x := 0) hS hFX hc (by omega) (by omega) a1 a2 (by have := hFX c hc; omega) (by show 0 + fl S X c ≤ (if 0 = 0 then fl S X c else 0); rw [if_pos rfl]; omega) (fun p _ => by rw [shf0, Nat.zero_add]; rfl)
  rw [itr_s]
  exact h2.2.2
def cdq (y : Nat) : Nat := pl (hd y 0) * 1024 + (y % 64 + 64 * (ha (hd y 0) + 4 * hb (hd y 0)))
/-- more steps than 13312 never help -/
theorem alone_bound {S : Su} {X : Nat → Bool} {c y m : Nat} (hS : SuV S) (hFX : FX S X) (hc : c < sK S) (hA : AV (fl S X c) y) (hp : pl (hd y 0) < fl S X c) (hm : 13312 ≤ m) : rn (gQ S X c) (tQ S X c) m y = rn (gQ S X c) (tQ S X c) 13312 y := by
  have hfl := hFX c hc
  refine rn_bound cdq (fun i hi => ?_) (fun i j hi hj he => ?_) m hm
  · obtain ⟨a1, a2⟩ := alone_way hS hFX hc hA hp i hi
    unfold cdq
    have := ha_lt (hd (itr (gQ S X c) i y) 0)
    have := hb_lt (hd (itr (gQ S X c) i y) 0)
    omega
  · obtain ⟨a1, a2⟩ := alone_way hS hFX hc hA hp i hi
    obtain ⟨b1, b2⟩ := alone_way hS hFX hc hA hp j hj
    obtain ⟨k, p, a, b, hk, hp1, h1, h2, e1⟩ := a1
    obtain ⟨k', p', a', b', hk', hp1', h1', h2', e2⟩ := b1
    rw [e1, e2] at he ⊢
    unfold cdq at he
    rw [hd_mky hk (by omega) h1 h2, hd_mky hk' (by omega) h1' h2', pl_mkw (by omega), pl_mkw (by omega), ha_mkw (by omega) h1, ha_mkw (by omega) h1', hb_mkw (by omega) h1 h2, hb_mkw (by omega) h1' h2'] at he
    have m1 : mky k p a b % 64 = k := by unfold mky; omega
    have m2 : mky k' p' a' b' % 64 = k' := by unfold mky; omega
    rw [m1, m2] at he
    have : p = p' ∧ a = a' ∧ b = b' ∧ k = k' := by omega
    rw [this.1, this.2.1, this.2.2.1, this.2.2.2]
/-- the class does a call alone -/
theorem callDone_eq {S : Su} {X : Nat → Bool} {P : Pg} {c h o x y : Nat} {σ : Mm} (hS : SuV S) (hFX : FX S X) (hc : c < sK S) (hP : PgV P) (hL : LdC P σ) (hh : h < 3) (hhP : h < pH P) (hV : VS P x) (hA : AV (fl S X c) y) (hp : pl (hd y 0) < fl S X c) (ho : o + fl S X c ≤ 26) (hN : o + fl S X c ≤ pN P h) (hC : ∀ p, p < fl S X c → pC P h (o + p) = shf o (lc S X c p)) :
    f_X1_withCallDone_32 (lN (Uq h o x y)) (nI h) (nI (o + fl S X c)) σ = some (lO ((rn (gQ S X c) (tQ S X c) 13312 y).map (Uq h o x)), σ) := by
  have hfl := hFX c hc
  have hx := hV.1
  unfold f_X1_withCallDone_32
  have way := alone_way hS hFX hc hA hp
  have aend := fun i => alone_end (i := i) hS hFX hc hA hp
  refine lq4 (F := f_X1_withCallDone_L46 (nI h) (nI (o + fl S X c))) (fun a b e d τ => ∃ i m q, i ≤ 13312 ∧ m ≤ i ∧ q ≤ 30000 ∧ a = lN (Uq h o x (itr (gQ S X c) i y)) ∧ b = lN (Uq h o x (itr (gQ S X c) m y)) ∧ e = nI q ∧ d = nI (i + 1) ∧ τ = σ ∧ ∀ j, 1 ≤ j → j ≤ i → tQ S X c (itr (gQ S X c) j y) = false) (fun _ _ _ d _ => 20000 - ix d) (fun out => out = some (lO ((rn (gQ S X c) (tQ S X c) 13312 y).map (Uq h o x)), σ)) ?_ FU _ _ (2 : Int32) (1 : Int32) σ ?_ ⟨0, 0, 2, by omega, by omega, by omega, rfl, rfl, rfl, rfl, rfl, fun j h1 h2 => by omega⟩
  · rintro L a b e d τ ⟨i, m, q, hi, hm, hq, rfl, rfl, rfl, rfl, rfl, hall⟩
    unfold f_X1_withCallDone_L46 f_X1_withCallDone_119
    simp only [qi_0, qi_1, qi_2, qi_3, qi_4, qi_5, qi_6, qi_7, qi_8, qi_9, qi_10, qi_11, qi_12, qi_13, qi_14, qi_15, qi_16, qi_17, qi_19, qi_26, qi_31, qi_32, qi_35, qi_40, qi_42, qi_48, qi_50, qi_57, qi_59, qi_63, qi_64, qi_97, qi_120, qi_122, qi_210, qi_255, qi_511, qi_512, qi_1000, qi_6000, qi_13312, qi_14337, qi_16383, qi_16384, qi_524287, ql_0, ql_1, ql_3, ql_4, ql_10, ql_12, ql_13, ql_16, ql_42, ql_157, ql_256, ql_16383, ql_524287]
    by_cases c13 : 13312 < i + 1
    · right
      rw [i_lt (by omega) c13, rn_none 13312 y (fun j h1 h2 => hall j h1 (by omega))]
      rfl
    · obtain ⟨a1, a2⟩ := way i hall
      obtain ⟨s1, s2, s3⟩ := alone_step (P := P) hS hFX hc hh hx a1 a2 ho hN hC
      have hVi := VS_Uq hh hhP hfl ho hN hV a1
      rw [i_nlt (by omega) (by omega), moved_st hP hL hVi hh (by omega), p_bd, s1, ← itr_s (gQ S X c) i y]
      have hA2 : AV (fl S X c) (itr (gQ S X c) (i + 1) y) := by rw [itr_s]; exact s3
      have hV2 := VS_Uq hh hhP hfl ho hN hV hA2
      have hno := lO_none (some (Uq h o x (itr (gQ S X c) (i + 1) y))) (fun v hv => by simp only [Option.some.injEq] at hv; rw [← hv]; exact hV2.1)
      rw [if_neg (show ¬ lg_cmp (lO (some (Uq h o x (itr (gQ S X c) (i + 1) y)))) (-lN 1) = nI 0 by rw [lc_eq, hno]; intro z; cases z), show lO (some (Uq h o x (itr (gQ S X c) (i + 1) y))) = lN (Uq h o x (itr (gQ S X c) (i + 1) y)) from rfl]
      obtain ⟨am1, am2⟩ := way m (fun j h1 h2 => hall j h1 (by omega))
      have hVm := VS_Uq hh hhP hfl ho hN hV am1
      by_cases cm : itr (gQ S X c) (i + 1) y = itr (gQ S X c) m y
      · right
        have hz : tQ S X c (itr (gQ S X c) (i + 1) y) = false := by rw [cm]; exact decide_eq_false (by omega)
        have hall2 := rn_cyc (T := tQ S X c) (show m < i + 1 by omega) cm.symm (fun j h1 h2 => by
          by_cases ej : j = i + 1
          · rw [ej]; exact hz
          · exact hall j h1 (by omega))
        rw [cm, if_pos (show lg_cmp (lN (Uq h o x (itr (gQ S X c) m y))) (lN (Uq h o x (itr (gQ S X c) m y))) = nI 0 by rw [lc_eq]), rn_none 13312 y (fun j h1 _ => hall2 j h1)]
        rfl
      · have hne : ¬ Uq h o x (itr (gQ S X c) (i + 1) y) = Uq h o x (itr (gQ S X c) m y) := fun z => cm (Uq_inj hh hfl ho hA2 am1 z)
        rw [if_neg (show ¬ lg_cmp (lN (Uq h o x (itr (gQ S X c) (i + 1) y))) (lN (Uq h o x (itr (gQ S X c) m y))) = nI 0 by rw [lc_eq, pk_lEQ (by have := hV2.1; omega) (by have := hVm.1; omega)]; exact hne)]
        obtain ⟨hpl, k, a, b, hk, h1, h2, hy⟩ := AV_hd hfl hA2
        rw [handIn_eq hV2.1 hh, p_bd, and_31, Uq_hd hh (by omega), show mkw (o + pl (hd (itr (gQ S X c) (i + 1) y) 0)) (ha (hd (itr (gQ S X c) (i + 1) y) 0)) (hb (hd (itr (gQ S X c) (i + 1) y) 0)) 0 0 0 % 32 = o + pl (hd (itr (gQ S X c) (i + 1) y) 0) from pl_mkw (by omega)]
        by_cases ce : fl S X c ≤ pl (hd (itr (gQ S X c) (i + 1) y) 0)
        · right
          rw [i_nlt (by omega) (by omega), rn_some 13312 y (i + 1) (by omega) (by omega) (decide_eq_true ce) (fun j h1 h2 => hall j h1 (by omega))]
          rfl
        · left
          rw [i_lt (by omega) (by omega)]
          have hall' : ∀ j, 1 ≤ j → j ≤ i + 1 → tQ S X c (itr (gQ S X c) j y) = false := fun j h1 h2 => by
            by_cases ej : j = i + 1
            · rw [ej]; exact decide_eq_false ce
            · exact hall j h1 (by omega)
          by_cases cq : i + 1 = q
          · rw [i_eq cq, pk_mul, p_nm, p_nm, nI_add]
            refine ⟨_, _, nI (2 * q), nI (i + 1 + 1), τ, ⟨i + 1, i + 1, 2 * q, by omega, by omega, by omega, rfl, rfl, rfl, rfl, rfl, hall'⟩, ?_, rfl⟩
            rw [p_ix (by omega), p_ix (by omega)]; omega
          · rw [i_ne (by omega) (by omega) cq, p_nm, nI_add]
            refine ⟨_, _, nI q, nI (i + 1 + 1), τ, ⟨i + 1, m, q, by omega, by omega, by omega, rfl, rfl, rfl, rfl, rfl, hall'⟩, ?_, rfl⟩
            rw [p_ix (by omega), p_ix (by omega)]; omega
  · show 20000 - ix (nI 1) < FU
    rw [p_ix (by omega), FU_v]; omega
/-- between whole calls: the place of a hand is how many calls it has done -/
def cnt (S : Su) (h : Nat) : Nat := if h < sH S then (if sT S h = 0 then 1 else 2) else 0
def cal (S : Su) (h d : Nat) : Nat := if d = 0 then sF S h else sT S h - 1
def rm (S : Su) (x h : Nat) : Nat := cnt S h - pl (hd x h)
def uof (x h : Nat) : Nat := mky (x % 64) 0 (ha (hd x h)) (hb (hd x h))
def nxt (x h u : Nat) : Nat := setH (x - x % 64 + u % 64) h (mkw (pl (hd x h) + 1) (ha (hd u 0)) (hb (hd u 0)) 0 0 0)
def wcq (S : Su) (X : Nat → Bool) (c u : Nat) : Option Nat := (rn (gQ S X c) (tQ S X c) 13312 u).map (fun y => y - 64 * pl (hd y 0))
def BV (S : Su) (x : Nat) : Prop := x < 9223372036854775808 ∧ ∀ h, h < 3 → ∃ d a b, d ≤ cnt S h ∧ a < 4 ∧ b < 4 ∧ hd x h = mkw d a b 0 0 0 ∧ (sH S ≤ h → a = 0 ∧ b = 0)
def bp (P : Pg) (h d : Nat) : Nat := if d = 0 then 0 else if d = 1 then pS P h else pN P h
def ew (P : Pg) (x h : Nat) : Nat := mkw (bp P h (pl (hd x h))) (ha (hd x h)) (hb (hd x h)) 0 0 0
def emb (P : Pg) (x : Nat) : Nat := x % 64 + 64 * ew P x 0 + 33554432 * ew P x 1 + 17592186044416 * ew P x 2
def ohand (S : Su) (W : Nat → Nat → Option Nat) (rc : Nat → List Nat → List Nat) (x : Nat) : Nat → List Nat → List Nat
  | 0, l => l
  | h + 1, l => if rm S x h = 0 then ohand S W rc x h l else match W (cal S h (pl (hd x h))) (uof x h) with
    | none => ohand S W rc x h l
    | some u => rc (nxt x h u) (ohand S W rc x h l)
def ordr (S : Su) (W : Nat → Nat → Option Nat) : Nat → Nat → List Nat → List Nat
  | 0, _, l => l
  | n + 1, x, l => if rm S x 0 = 0 ∧ rm S x 1 = 0 ∧ rm S x 2 = 0 then ins (resf x (sH S)) l else ohand S W (ordr S W n) x (sH S) l
theorem cnt_le (S : Su) (h : Nat) : cnt S h ≤ 2 := by unfold cnt; split <;> (try split) <;> omega
theorem bp_le {P : Pg} (hP : PgV P) {h : Nat} (hh : h < 3) (d : Nat) : bp P h d ≤ pN P h ∧ bp P h d ≤ 26 := by
  obtain ⟨h1, h2⟩ := hP.2.2.1 h hh
  unfold bp
  split
  · omega
  · split <;> omega
theorem ew_lt {P : Pg} (hP : PgV P) {h : Nat} (hh : h < 3) (x : Nat) : ew P x h < 524288 := by
  have := (bp_le hP hh (pl (hd x h))).2
  exact mkw_lt (by omega) (ha_lt _) (hb_lt _) (by omega) (by omega) (by omega)
theorem emb_hd {P : Pg} (hP : PgV P) {h : Nat} (hh : h < 3) (x : Nat) : hd (emb P x) h = ew P x h := by
  have h0 := ew_lt hP (show 0 < 3 by omega) x
  have h1 := ew_lt hP (show 1 < 3 by omega) x
  have h2 := ew_lt hP (show 2 < 3 by omega) x
  unfold hd emb
  rcases lt3 hh with rfl | rfl | rfl
  · rw [hw0]; omega
  · rw [hw1]; omega
  · rw [hw2]; omega
theorem emb_cv {P : Pg} {c : Nat} (hc : c < 3) (x : Nat) : cv (emb P x) c = cv x c := by
  rw [← cv_mod (emb P x) hc, ← cv_mod x hc]
  congr 1
  unfold emb
  omega
theorem emb_lt {P : Pg} (hP : PgV P) (x : Nat) : emb P x < 9223372036854775808 := by
  have h0 := ew_lt hP (show 0 < 3 by omega) x
  have h1 := ew_lt hP (show 1 < 3 by omega) x
  have h2 := ew_lt hP (show 2 < 3 by omega) x
  unfold emb
  omega
theorem emb_mod (P : Pg) (x : Nat) : emb P x % 64 = x % 64 := by unfold emb; omega
theorem emb_VS {S : Su} {X : Nat → Bool} {x : Nat} (hP : PgV (PgOf S X)) (hB : BV S x) : VS (PgOf S X) (emb (PgOf S X) x) := by
  refine ⟨emb_lt hP x, fun h hh => ?_⟩
  rw [emb_hd hP hh]
  obtain ⟨hb1, hb2⟩ := bp_le hP hh (pl (hd x h))
  obtain ⟨d, a, b, h1, h2, h3, h4, h5⟩ := hB.2 h hh
  unfold ew
  refine ⟨WV_mk (by omega) (ha_lt _) (hb_lt _) (by omega) (fun _ => rfl) (fun _ => rfl) (by omega) (by omega), by rw [pl_mkw (by omega)]; exact hb1, fun hH => ?_⟩
  have hH : sH S ≤ h := hH
  obtain ⟨z1, z2⟩ := h5 hH
  have hc0 : cnt S h = 0 := if_neg (by omega)
  have hd0 : d = 0 := by omega
  rw [h4, hd0, z1, z2]
  rfl
theorem cal_ok {S : Su} {X : Nat → Bool} {h d : Nat} (hS : SuV S) (hFX : FX S X) (hh : h < 3) (hd : d < cnt S h) :
    h < sH S ∧ cal S h d < sK S ∧ bp (PgOf S X) h d + fl S X (cal S h d) = bp (PgOf S X) h (d + 1) ∧ bp (PgOf S X) h (d + 1) ≤ pN (PgOf S X) h ∧ bp (PgOf S X) h d < pN (PgOf S X) h ∧ 1 ≤ fl S X (cal S h d) ∧ (∀ p, p < fl S X (cal S h d) → pC (PgOf S X) h (bp (PgOf S X) h d + p) = shf (bp (PgOf S X) h d) (lc S X (cal S h d) p)) ∧ (d = 0 ↔ bp (PgOf S X) h d < pS (PgOf S X) h) := by
  have hc2 := cnt_le S h
  have hlt : h < sH S := by
    apply Classical.byContradiction
    intro q
    rw [show cnt S h = 0 from if_neg q] at hd
    omega
  obtain ⟨a1, a2⟩ := hS.2.2.2.2.1 h hlt
  have eS : pS (PgOf S X) h = fl S X (sF S h) := if_pos hlt
  have eN : pN (PgOf S X) h = fl S X (sF S h) + (if sT S h = 0 then 0 else fl S X (sT S h - 1)) := if_pos hlt
  have hc : cnt S h = if sT S h = 0 then 1 else 2 := if_pos hlt
  have hf1 : 1 ≤ fl S X (sF S h) := Nat.le_trans (hS.2.1 _ a1).1 (fps_ge X _ _)
  by_cases d0 : d = 0
  · subst d0
    have e1 : cal S h 0 = sF S h := if_pos rfl
    have e2 : bp (PgOf S X) h 0 = 0 := if_pos rfl
    have e3 : bp (PgOf S X) h (0 + 1) = pS (PgOf S X) h := rfl
    rw [e1, e2, e3, eS, eN]
    refine ⟨hlt, a1, by omega, by omega, by omega, hf1, fun p hp => ?_, by omega⟩
    rw [Nat.zero_add, shf0]
    exact if_pos hp
  · have d1 : d = 1 := by omega
    subst d1
    have t0 : sT S h ≠ 0 := by
      intro q
      rw [hc, if_pos q] at hd
      omega
    rw [if_neg t0] at eN
    have b1 : sT S h - 1 < sK S := by omega
    have hf2 : 1 ≤ fl S X (sT S h - 1) := Nat.le_trans (hS.2.1 _ b1).1 (fps_ge X _ _)
    have e1 : cal S h 1 = sT S h - 1 := rfl
    have e2 : bp (PgOf S X) h 1 = pS (PgOf S X) h := rfl
    have e3 : bp (PgOf S X) h (1 + 1) = pN (PgOf S X) h := rfl
    rw [e1, e2, e3, eS, eN]
    refine ⟨hlt, b1, by omega, by omega, by omega, hf2, fun p hp => ?_, by omega⟩
    have : pC (PgOf S X) h (fl S X (sF S h) + p) = shf (fl S X (sF S h)) (lc S X (sT S h - 1) (fl S X (sF S h) + p - fl S X (sF S h))) := if_neg (by omega)
    rw [this, show fl S X (sF S h) + p - fl S X (sF S h) = p by omega]
theorem bp_end {S : Su} {X : Nat → Bool} {h d : Nat} (hd : d ≤ cnt S h) (hd2 : ¬ d < cnt S h) : pN (PgOf S X) h ≤ bp (PgOf S X) h d := by
  have e : d = cnt S h := by omega
  by_cases hlt : h < sH S
  · have hc : cnt S h = if sT S h = 0 then 1 else 2 := if_pos hlt
    have eS : pS (PgOf S X) h = fl S X (sF S h) := if_pos hlt
    have eN : pN (PgOf S X) h = fl S X (sF S h) + (if sT S h = 0 then 0 else fl S X (sT S h - 1)) := if_pos hlt
    by_cases t0 : sT S h = 0
    · rw [if_pos t0] at hc eN
      rw [e, hc]
      show pN (PgOf S X) h ≤ pS (PgOf S X) h
      rw [eS, eN]; omega
    · rw [if_neg t0] at hc
      rw [e, hc]
      exact Nat.le_refl _
  · have eN : pN (PgOf S X) h = 0 := if_neg hlt
    rw [eN]; exact Nat.zero_le _
theorem BV_f {S : Su} {x h : Nat} (hB : BV S x) (hh : h < 3) : pl (hd x h) ≤ cnt S h ∧ hd x h = mkw (pl (hd x h)) (ha (hd x h)) (hb (hd x h)) 0 0 0 := by
  obtain ⟨d, a, b, h1, h2, h3, h4, h5⟩ := hB.2 h hh
  have hc := cnt_le S h
  rw [h4, pl_mkw (by omega), ha_mkw (by omega) h2, hb_mkw (by omega) h2 h3]
  exact ⟨h1, rfl⟩
/-- ahead of a call, and behind it -/
theorem emb_uof {P : Pg} {x h : Nat} (hP : PgV P) (hh : h < 3) : Uq h (bp P h (pl (hd x h))) (emb P x) (uof x h) = emb P x := by
  have hb26 := (bp_le hP hh (pl (hd x h))).2
  have e0 : hd (uof x h) 0 = mkw 0 (ha (hd x h)) (hb (hd x h)) 0 0 0 := hd_mky (by omega) (by omega) (ha_lt _) (hb_lt _)
  have ho : bp P h (pl (hd x h)) + pl (hd (uof x h) 0) < 32 := by rw [e0, pl_mkw (by omega)]; omega
  apply st_ext (Uq_lt hh (emb_lt hP x) ho) (emb_lt hP x)
  · intro c hc
    rw [Uq_cv hh ho hc, emb_cv hc]
    show cv (mky (x % 64) 0 _ _) c = _
    rw [cv_mky hc, cv_mod x hc]
  · intro g hg
    by_cases e : g = h
    · subst e
      rw [Uq_hd hh ho, e0, pl_mkw (by omega), ha_mkw (by omega) (ha_lt _), hb_mkw (by omega) (ha_lt _) (hb_lt _), emb_hd hP hh]
      rfl
    · rw [Uq_hdn hh ho hg e]
theorem nxt_hd {S : Su} {x h u : Nat} (hh : h < 3) (hB : BV S x) : hd (nxt x h u) h = mkw (pl (hd x h) + 1) (ha (hd u 0)) (hb (hd u 0)) 0 0 0 := by
  have := (BV_f hB hh).1
  have := cnt_le S h
  exact hd_setH hh (mkw_lt (by omega) (ha_lt _) (hb_lt _) (by omega) (by omega) (by omega))
theorem nxt_hdn {S : Su} {x h u g : Nat} (hh : h < 3) (hB : BV S x) (hg : g < 3) (hn : g ≠ h) : hd (nxt x h u) g = hd x g := by
  have := (BV_f hB hh).1
  have := cnt_le S h
  unfold nxt
  rw [hd_setHn hh hg (mkw_lt (by omega) (ha_lt _) (hb_lt _) (by omega) (by omega) (by omega)) hn, putk_hd (by omega) hg]
theorem nxt_cv {S : Su} {x h u c : Nat} (hh : h < 3) (hB : BV S x) (hc : c < 3) : cv (nxt x h u) c = cv u c := by
  have := (BV_f hB hh).1
  have := cnt_le S h
  unfold nxt
  rw [cv_setH hc hh (mkw_lt (by omega) (ha_lt _) (hb_lt _) (by omega) (by omega) (by omega)), putk_cv (by omega) hc, cv_mod u hc]
theorem nxt_BV {S : Su} {x h u : Nat} (hh : h < 3) (hB : BV S x) (hd1 : pl (hd x h) < cnt S h) : BV S (nxt x h u) := by
  have hc := cnt_le S h
  refine ⟨setH_lt (putk_lt (by omega) hB.1) hh (mkw_lt (by omega) (ha_lt _) (hb_lt _) (by omega) (by omega) (by omega)), fun g hg => ?_⟩
  by_cases e : g = h
  · subst e
    refine ⟨_, _, _, by omega, ha_lt _, hb_lt _, nxt_hd hh hB, fun q => ?_⟩
    have : cnt S g = 0 := if_neg (by omega)
    omega
  · rw [nxt_hdn hh hB hg e]
    exact hB.2 g hg
theorem emb_nxt {S : Su} {P : Pg} {x h k p a b : Nat} (hP : PgV P) (hh : h < 3) (hB : BV S x) (hk : k < 64) (ha4 : a < 4) (hb4 : b < 4) (hp : bp P h (pl (hd x h)) + p = bp P h (pl (hd x h) + 1)) : Uq h (bp P h (pl (hd x h))) (emb P x) (mky k p a b) = emb P (nxt x h (mky k 0 a b)) := by
  have hb26 := (bp_le hP hh (pl (hd x h) + 1)).2
  have hc2 := cnt_le S h
  have hpc := (BV_f hB hh).1
  have e0 : hd (mky k p a b) 0 = mkw p a b 0 0 0 := hd_mky hk (by omega) ha4 hb4
  have e1 : hd (mky k 0 a b) 0 = mkw 0 a b 0 0 0 := hd_mky hk (by omega) ha4 hb4
  have ho : bp P h (pl (hd x h)) + pl (hd (mky k p a b) 0) < 32 := by rw [e0, pl_mkw (by omega)]; omega
  apply st_ext (Uq_lt hh (emb_lt hP x) ho) (emb_lt hP _)
  · intro c hc
    rw [Uq_cv hh ho hc, emb_cv hc, nxt_cv hh hB hc, cv_mky hc, cv_mky hc]
  · intro g hg
    rw [emb_hd hP hg]
    by_cases e : g = h
    · subst e
      rw [Uq_hd hh ho, e0, pl_mkw (by omega), ha_mkw (by omega) ha4, hb_mkw (by omega) ha4 hb4]
      unfold ew
      rw [nxt_hd hh hB, e1, pl_mkw (by omega), ha_mkw (by omega) (ha_lt _), hb_mkw (by omega) (ha_lt _) (hb_lt _), ha_mkw (by omega) ha4, hb_mkw (by omega) ha4 hb4, hp]
    · rw [Uq_hdn hh ho hg e, emb_hd hP hg]
      unfold ew
      rw [nxt_hdn hh hB hg e]
