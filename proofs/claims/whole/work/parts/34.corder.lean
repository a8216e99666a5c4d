/-! PURE: the class follows all orders -/
theorem rn_fin {S : Su} {X : Nat → Bool} {c y n z : Nat} (hS : SuV S) (hFX : FX S X) (hc : c < sK S) (hA : AV (fl S X c) y) (hp : pl (hd y 0) < fl S X c) (h : rn (gQ S X c) (tQ S X c) n y = some z) : ∃ k a b, k < 64 ∧ a < 4 ∧ b < 4 ∧ z = mky k (fl S X c) a b := by
  rcases rn_first (T := tQ S X c) (fun i => itr (gQ S X c) i y) n with h0 | ⟨i, h1, h2, h3, h4⟩
  · rw [rn_none n y h0] at h; cases h
  · rw [rn_some n y i h1 h2 h3 h4] at h
    simp only [Option.some.injEq] at h
    have hA2 := alone_end hS hFX hc hA hp h1 h4
    rw [h] at hA2
    obtain ⟨hpl, k, a, b, hk, ha, hb, e⟩ := AV_hd (hFX c hc) hA2
    have h3 : tQ S X c (itr (gQ S X c) i y) = true := h3
    rw [h] at h3
    have := of_decide_eq_true h3
    exact ⟨k, a, b, hk, ha, hb, by rw [← show pl (hd z 0) = fl S X c by omega]; exact e⟩
theorem mky_rst {k p a b : Nat} (hk : k < 64) (hp : p < 32) (ha : a < 4) (hb : b < 4) : mky k p a b - 64 * pl (hd (mky k p a b) 0) = mky k 0 a b := by
  rw [hd_mky hk hp ha hb, pl_mkw hp]
  unfold mky mkw
  omega
theorem uof_AV {S : Su} {X : Nat → Bool} (x h c : Nat) : AV (fl S X c) (uof x h) := ⟨x % 64, 0, ha (hd x h), hb (hd x h), by omega, by omega, ha_lt _, hb_lt _, rfl⟩
theorem uof_pl (x h : Nat) : pl (hd (uof x h) 0) = 0 := by
  unfold uof
  rw [hd_mky (by omega) (by omega) (ha_lt _) (hb_lt _), pl_mkw (by omega)]
theorem withCallDone_emb {S : Su} {X : Nat → Bool} {x h : Nat} {σ : Mm} (hS : SuV S) (hFX : FX S X) (hL : LdC (PgOf S X) σ) (hh : h < 3) (hB : BV S x) (hd1 : pl (hd x h) < cnt S h) :
    f_X1_withCallDone (lN (emb (PgOf S X) x)) (nI h) σ = some (lO ((wcq S X (cal S h (pl (hd x h))) (uof x h)).map (fun u => emb (PgOf S X) (nxt x h u))), σ) := by
  have hP := PgOf_V hS hFX
  obtain ⟨q1, q2, q3, q4, q5, q6, q7, q8⟩ := cal_ok (X := X) hS hFX hh hd1
  have hbp := bp_le hP hh (pl (hd x h) + 1)
  have hbp0 := bp_le hP hh (pl (hd x h))
  have hPS := hP.2.2.1 h hh
  have hc2 := cnt_le S h
  obtain ⟨h16, h17⟩ := hL.2.2.2.1 h hh
  have key := callDone_eq (x := emb (PgOf S X) x) (o := bp (PgOf S X) h (pl (hd x h))) hS hFX q2 hP hL hh q1 (emb_VS hP hB) (uof_AV x h _) (by rw [uof_pl]; omega) (by omega) (by omega) q7
  rw [emb_uof hP hh, q3] at key
  have hmap : (rn (gQ S X (cal S h (pl (hd x h)))) (tQ S X (cal S h (pl (hd x h)))) 13312 (uof x h)).map (Uq h (bp (PgOf S X) h (pl (hd x h))) (emb (PgOf S X) x)) = (wcq S X (cal S h (pl (hd x h))) (uof x h)).map (fun u => emb (PgOf S X) (nxt x h u)) := by
    unfold wcq
    cases hr : rn (gQ S X (cal S h (pl (hd x h)))) (tQ S X (cal S h (pl (hd x h)))) 13312 (uof x h) with
    | none => rfl
    | some y =>
      obtain ⟨k, a, b, hk, ha, hb, rfl⟩ := rn_fin hS hFX q2 (uof_AV x h _) (by rw [uof_pl]; omega) hr
      have hfl := hFX _ q2
      show some _ = some (emb (PgOf S X) (nxt x h (mky k (fl S X (cal S h (pl (hd x h)))) a b - 64 * pl (hd (mky k (fl S X (cal S h (pl (hd x h)))) a b) 0))))
      rw [mky_rst hk (by omega) ha hb, emb_nxt hP hh hB hk ha hb q3]
  rw [hmap] at key
  unfold f_X1_withCallDone
  simp only [qi_0, qi_1, qi_2, qi_3, qi_4, qi_5, qi_6, qi_7, qi_8, qi_9, qi_10, qi_11, qi_12, qi_13, qi_14, qi_15, qi_16, qi_17, qi_19, qi_26, qi_31, qi_32, qi_35, qi_40, qi_42, qi_48, qi_50, qi_57, qi_59, qi_63, qi_64, qi_97, qi_120, qi_122, qi_210, qi_255, qi_511, qi_512, qi_1000, qi_6000, qi_13312, qi_14337, qi_16383, qi_16384, qi_524287]
  rw [handIn_eq (emb_lt hP x) hh, p_bd, p_ck _ hh (by omega), p_ix (by omega), h16, h17, and_31, emb_hd hP hh, show ew (PgOf S X) x h % 32 = bp (PgOf S X) h (pl (hd x h)) from pl_mkw (by omega), p_ck _ hh (by omega), p_ck _ hh (by omega)]
  by_cases d0 : pl (hd x h) = 0
  · rw [i_nle (by omega) (q8.mp d0)]
    have e : bp (PgOf S X) h (pl (hd x h) + 1) = pS (PgOf S X) h := by rw [d0]; rfl
    rw [e] at key
    exact key
  · rw [i_le (by omega) (by omega)]
    have e : bp (PgOf S X) h (pl (hd x h) + 1) = pN (PgOf S X) h := by rw [show pl (hd x h) = 1 by omega]; rfl
    rw [e] at key
    exact key
/-- how many orders there are at most -/
def nl : Nat → Nat → Nat → Nat → Nat
  | 0, _, _, _ => 1
  | n + 1, a, b, c => if a = 0 ∧ b = 0 ∧ c = 0 then 1 else (if a = 0 then 0 else nl n (a - 1) b c) + (if b = 0 then 0 else nl n a (b - 1) c) + (if c = 0 then 0 else nl n a b (c - 1))
theorem nl_90 {a b c : Nat} (ha : a ≤ 2) (hb : b ≤ 2) (hc : c ≤ 2) : nl 8 a b c ≤ 90 := by
  have h1 : a = 0 ∨ a = 1 ∨ a = 2 := by omega
  have h2 : b = 0 ∨ b = 1 ∨ b = 2 := by omega
  have h3 : c = 0 ∨ c = 1 ∨ c = 2 := by omega
  rcases h1 with rfl | rfl | rfl <;> rcases h2 with rfl | rfl | rfl <;> rcases h3 with rfl | rfl | rfl <;> decide
def nlx (S : Su) (n x : Nat) : Nat := nl n (rm S x 0) (rm S x 1) (rm S x 2)
def ctb (S : Su) (n x g : Nat) : Nat := if rm S x g = 0 then 0 else nl n (rm S x 0 - (if g = 0 then 1 else 0)) (rm S x 1 - (if g = 1 then 1 else 0)) (rm S x 2 - (if g = 2 then 1 else 0))
def smc (S : Su) (n x : Nat) : Nat → Nat
  | 0 => 0
  | h + 1 => smc S n x h + ctb S n x h
theorem smc_le (S : Su) (n x : Nat) {h k : Nat} (hk : h ≤ k) : smc S n x h ≤ smc S n x k := by
  induction k with
  | zero => rw [show h = 0 by omega]; exact Nat.le_refl _
  | succ k ih =>
    by_cases e : h = k + 1
    · rw [e]; exact Nat.le_refl _
    · have := ih (by omega)
      rw [smc]; omega
theorem nlx_s (S : Su) (n x : Nat) (h : ¬ (rm S x 0 = 0 ∧ rm S x 1 = 0 ∧ rm S x 2 = 0)) : nlx S (n + 1) x = smc S n x 3 := by
  unfold nlx
  rw [nl, if_neg h]
  show _ = 0 + ctb S n x 0 + ctb S n x 1 + ctb S n x 2
  unfold ctb
  rw [Nat.zero_add]
  rfl
theorem rm_nxt {S : Su} {x h u : Nat} (hh : h < 3) (hB : BV S x) : rm S (nxt x h u) h = rm S x h - 1 := by
  have := (BV_f hB hh).1
  have := cnt_le S h
  unfold rm
  rw [nxt_hd hh hB, pl_mkw (by omega)]
  omega
theorem rm_nxtn {S : Su} {x h u g : Nat} (hh : h < 3) (hB : BV S x) (hg : g < 3) (hn : g ≠ h) : rm S (nxt x h u) g = rm S x g := by
  unfold rm
  rw [nxt_hdn hh hB hg hn]
theorem nlx_nxt {S : Su} {n x h u : Nat} (hh : h < 3) (hB : BV S x) (h0 : rm S x h ≠ 0) : nlx S n (nxt x h u) = ctb S n x h := by
  unfold nlx ctb
  rw [if_neg h0]
  rcases lt3 hh with rfl | rfl | rfl
  · rw [rm_nxt (by omega) hB, rm_nxtn (by omega) hB (by omega) (by omega), rm_nxtn (by omega) hB (by omega) (by omega)]; rfl
  · rw [rm_nxt (by omega) hB, rm_nxtn (by omega) hB (by omega) (by omega), rm_nxtn (by omega) hB (by omega) (by omega)]; rfl
  · rw [rm_nxt (by omega) hB, rm_nxtn (by omega) hB (by omega) (by omega), rm_nxtn (by omega) hB (by omega) (by omega)]; rfl
def rmt (S : Su) (x : Nat) : Nat := rm S x 0 + rm S x 1 + rm S x 2
theorem rmt_nxt {S : Su} {x h u : Nat} (hh : h < 3) (hB : BV S x) (h0 : rm S x h ≠ 0) : rmt S (nxt x h u) + 1 = rmt S x := by
  unfold rmt
  rcases lt3 hh with rfl | rfl | rfl
  · rw [rm_nxt (by omega) hB, rm_nxtn (by omega) hB (by omega) (by omega), rm_nxtn (by omega) hB (by omega) (by omega)]; omega
  · rw [rm_nxt (by omega) hB, rm_nxtn (by omega) hB (by omega) (by omega), rm_nxtn (by omega) hB (by omega) (by omega)]; omega
  · rw [rm_nxt (by omega) hB, rm_nxtn (by omega) hB (by omega) (by omega), rm_nxtn (by omega) hB (by omega) (by omega)]; omega
theorem ordr_ok {S : Su} {W : Nat → Nat → Option Nat} (hH : sH S ≤ 3) : ∀ n x l, BV S x → rmt S x < n → Srt l → Bnd l → Srt (ordr S W n x l) ∧ Bnd (ordr S W n x l) ∧ (ordr S W n x l).length ≤ l.length + nlx S n x := by
  intro n
  induction n with
  | zero => intro x l _ h; omega
  | succ n ih =>
    intro x l hB hr hs hb
    rw [ordr]
    by_cases h0 : rm S x 0 = 0 ∧ rm S x 1 = 0 ∧ rm S x 2 = 0
    · rw [if_pos h0]
      refine ⟨ins_srt hs, Bnd_ins hs hb (resf_lt3 x hH), ?_⟩
      have := ins_le (resf x (sH S)) l hs
      have e : nlx S (n + 1) x = 1 := by unfold nlx; rw [nl, if_pos h0]
      omega
    · rw [if_neg h0, nlx_s S n x h0]
      have key : ∀ h, h ≤ 3 → Srt (ohand S W (ordr S W n) x h l) ∧ Bnd (ohand S W (ordr S W n) x h l) ∧ (ohand S W (ordr S W n) x h l).length ≤ l.length + smc S n x h := by
        intro h
        induction h with
        | zero => intro _; exact ⟨hs, hb, by show l.length ≤ l.length + 0; omega⟩
        | succ h ihh =>
          intro hh
          obtain ⟨k1, k2, k3⟩ := ihh (by omega)
          rw [ohand, smc]
          split
          · exact ⟨k1, k2, by omega⟩
          · rename_i hne
            split
            · exact ⟨k1, k2, by omega⟩
            · rename_i u hu
              have hd1 : pl (hd x h) < cnt S h := by unfold rm at hne; omega
              have hB2 := nxt_BV (u := u) (by omega) hB hd1
              have hr2 := rmt_nxt (u := u) (by omega) hB hne
              obtain ⟨j1, j2, j3⟩ := ih (nxt x h u) _ hB2 (by omega) k1 k2
              rw [nlx_nxt (by omega) hB hne] at j3
              exact ⟨j1, j2, by omega⟩
      obtain ⟨k1, k2, k3⟩ := key (sH S) hH
      have := smc_le S n x hH
      exact ⟨k1, k2, by omega⟩
theorem resf_emb {P : Pg} (hP : PgV P) (x : Nat) : ∀ n, n ≤ 3 → resf (emb P x) n = resf x n := by
  intro n
  induction n with
  | zero =>
    intro _
    show 16 * cv (emb P x) 0 + 4 * cv (emb P x) 1 + cv (emb P x) 2 = 16 * cv x 0 + 4 * cv x 1 + cv x 2
    rw [emb_cv (by omega), emb_cv (by omega), emb_cv (by omega)]
  | succ n ih =>
    intro hn
    show 16 * resf (emb P x) n + 4 * ha (hd (emb P x) n) + hb (hd (emb P x) n) = 16 * resf x n + 4 * ha (hd x n) + hb (hd x n)
    have := (bp_le hP (show n < 3 by omega) (pl (hd x n))).2
    rw [ih (by omega), emb_hd hP (by omega)]
    unfold ew
    rw [ha_mkw (by omega) (ha_lt _), hb_mkw (by omega) (ha_lt _) (hb_lt _)]
def oL : List Nat := [28, 29]
theorem LdC_oL {P : Pg} {σ τ : Mm} (h : LdC P σ) (hF : Fr oL σ τ) : LdC P τ := LdC_of h (hF.r1 13 (by decide)) (hF.r2 13 (by decide)) (hF.r1 14 (by decide)) (hF.r1 16 (by decide)) (hF.r1 17 (by decide))
theorem follow_s (n : Nat) : f_X7_followOrders (n + 1) = f_X7_followOrders_b (f_X7_followOrders n) := by
  have h : ∀ m, f_X7_followOrders m = fx (fun _ _ _ => none) m f_X7_followOrders_b := fun m => rfl
  rw [h, h, p_fx]
theorem follow_eq {S : Su} {X : Nat → Bool} (hS : SuV S) (hFX : FX S X) : ∀ n x dp l σ, BV S x → rmt S x < n → dp + rmt S x ≤ 6 → LdC (PgOf S X) σ → RoC 28 l σ → l.length + nlx S n x ≤ 90 →
    ∃ σ', f_X7_followOrders n (lN (emb (PgOf S X) x)) (nI dp) σ = some ((), σ') ∧ RoC 28 (ordr S (wcq S X) n x l) σ' ∧ Fr oL σ σ' := by
  have hP := PgOf_V hS hFX
  have hH : sH S ≤ 3 := hS.2.2.2.1
  intro n
  induction n with
  | zero => intro x dp l σ _ h; omega
  | succ n ih =>
    intro x dp l σ hB hr hdp hL hR hlen
    rw [follow_s]
    unfold f_X7_followOrders_b
    have h13 := hL.1
    -- the loop over hands
    have loop : ∃ σ' fl1, fx (fun _ _ _ => none) FU (f_X7_followOrders_L6 (f_X7_followOrders n) (fun (xq5 : Int32) (σ : Mm) => f_X7_followOrders_70 (f_X7_followOrders n) (lN (emb (PgOf S X) x)) xq5 σ) (lN (emb (PgOf S X) x)) (nI dp)) (nI 1) (nI 0) σ = f_X7_followOrders_70 (f_X7_followOrders n) (lN (emb (PgOf S X) x)) (bI fl1) σ' ∧ (fl1 = true ↔ ∀ g, g < sH S → rm S x g = 0) ∧ RoC 28 (ohand S (wcq S X) (ordr S (wcq S X) n) x (sH S) l) σ' ∧ Fr oL σ σ' := by
      refine lq2 (F := f_X7_followOrders_L6 (f_X7_followOrders n) (fun (xq5 : Int32) (σ : Mm) => f_X7_followOrders_70 (f_X7_followOrders n) (lN (emb (PgOf S X) x)) xq5 σ) (lN (emb (PgOf S X) x)) (nI dp)) (fun a b τ => ∃ h f1, h ≤ sH S ∧ a = bI f1 ∧ b = nI h ∧ (f1 = true ↔ ∀ g, g < h → rm S x g = 0) ∧ RoC 28 (ohand S (wcq S X) (ordr S (wcq S X) n) x h l) τ ∧ (ohand S (wcq S X) (ordr S (wcq S X) n) x h l).length ≤ l.length + smc S n x h ∧ Fr oL σ τ) (fun _ b _ => 3 - ix b) (fun out => ∃ σ' fl1, out = f_X7_followOrders_70 (f_X7_followOrders n) (lN (emb (PgOf S X) x)) (bI fl1) σ' ∧ (fl1 = true ↔ ∀ g, g < sH S → rm S x g = 0) ∧ RoC 28 (ohand S (wcq S X) (ordr S (wcq S X) n) x (sH S) l) σ' ∧ Fr oL σ σ') ?_ FU (nI 1) (nI 0) σ ?_ ⟨0, true, by omega, rfl, rfl, ⟨fun _ g hg => by omega, fun _ => rfl⟩, hR, by show l.length ≤ l.length + 0; omega, Fr.rf _ _⟩
      · rintro L a b τ ⟨h, f1, hh, rfl, rfl, hf1, hRo, hln, hF⟩
        have hLt := LdC_oL hL hF
        unfold f_X7_followOrders_L6 f_X7_followOrders_64
        simp only [qi_0, qi_1, qi_2, qi_3, qi_4, qi_5, qi_6, qi_7, qi_8, qi_9, qi_10, qi_11, qi_12, qi_13, qi_14, qi_15, qi_16, qi_17, qi_19, qi_26, qi_31, qi_32, qi_35, qi_40, qi_42, qi_48, qi_50, qi_57, qi_59, qi_63, qi_64, qi_97, qi_120, qi_122, qi_210, qi_255, qi_511, qi_512, qi_1000, qi_6000, qi_13312, qi_14337, qi_16383, qi_16384, qi_524287, ql_0, ql_1, ql_3, ql_4, ql_10, ql_12, ql_13, ql_16, ql_42, ql_157, ql_256, ql_16383, ql_524287]
        rw [hLt.1, show pH (PgOf S X) = sH S from rfl]
        by_cases c : sH S ≤ h
        · right
          have e : h = sH S := by omega
          subst e
          exact ⟨τ, f1, by rw [i_le (by omega) c], hf1, hRo, hF⟩
        · left
          have hh3 : h < 3 := by omega
          obtain ⟨hpc, _⟩ := BV_f hB hh3
          have hc2 := cnt_le S h
          rw [i_nle (by omega) (by omega), hasCallLeft_eq hP hLt (emb_VS hP hB) hh3, p_bd, emb_hd hP hh3, show pl (ew (PgOf S X) x h) = bp (PgOf S X) h (pl (hd x h)) from pl_mkw (by have := (bp_le hP hh3 (pl (hd x h))).2; omega)]
          by_cases hz : rm S x h = 0
          · have hnl : ¬ pl (hd x h) < cnt S h := by unfold rm at hz; omega
            have he := bp_end (X := X) hpc hnl
            rw [decide_eq_false (by omega), bI_f, i_eq rfl, p_nm, nI_add]
            refine ⟨bI f1, nI (h + 1), τ, ⟨h + 1, f1, by omega, rfl, rfl, ?_, ?_, ?_, hF⟩, ?_, rfl⟩
            · rw [hf1]
              constructor
              · intro q g hg
                by_cases e : g = h
                · rw [e]; exact hz
                · exact q g (by omega)
              · intro q g hg; exact q g (by omega)
            · rw [ohand, if_pos hz]; exact hRo
            · rw [ohand, if_pos hz, smc]; omega
            · rw [p_ix (by omega), p_ix (by omega)]; omega
          · have hlt : pl (hd x h) < cnt S h := by unfold rm at hz; omega
            obtain ⟨q1, q2, q3, q4, q5, q6, q7, q8⟩ := cal_ok (X := X) hS hFX hh3 hlt
            have hff : (false = true ↔ ∀ g, g < h + 1 → rm S x g = 0) := ⟨(fun q => by cases q), fun q => absurd (q h (by omega)) hz⟩
            rw [decide_eq_true q5, bI_t, i_ne (by omega) (by omega) (by omega), withCallDone_emb hS hFX hLt hh3 hB hlt, p_bd]
            cases hw : wcq S X (cal S h (pl (hd x h))) (uof x h) with
            | none =>
              rw [show lO (Option.map (fun u => emb (PgOf S X) (nxt x h u)) none) = -lN 1 from rfl, if_pos (show lg_cmp (-lN 1) (-lN 1) = nI 0 by rw [lc_eq]), p_nm, nI_add]
              refine ⟨bI false, nI (h + 1), τ, ⟨h + 1, false, by omega, rfl, rfl, hff, ?_, ?_, hF⟩, ?_, rfl⟩
              · rw [ohand, if_neg hz, hw]; exact hRo
              · rw [ohand, if_neg hz, hw, smc]; show (ohand S (wcq S X) (ordr S (wcq S X) n) x h l).length ≤ _; omega
              · rw [p_ix (by omega), p_ix (by omega)]; omega
            | some u =>
              have hB2 := nxt_BV (u := u) hh3 hB hlt
              have hr2 := rmt_nxt (u := u) hh3 hB hz
              have hno := lO_none (some (emb (PgOf S X) (nxt x h u))) (fun v hv => by simp only [Option.some.injEq] at hv; rw [← hv]; exact emb_lt hP _)
              have hnn : ¬ (rm S x 0 = 0 ∧ rm S x 1 = 0 ∧ rm S x 2 = 0) := fun q => by
                rcases lt3 hh3 with rfl | rfl | rfl
                · exact hz q.1
                · exact hz q.2.1
                · exact hz q.2.2
              rw [nlx_s S n x hnn] at hlen
              have hsm := smc_le S n x (show h + 1 ≤ 3 by omega)
              rw [smc] at hsm
              obtain ⟨τ', e1, e2, e3⟩ := ih (nxt x h u) (dp + 1) _ τ hB2 (by omega) (by omega) hLt hRo (by rw [nlx_nxt hh3 hB hz]; omega)
              have hok := (ordr_ok (W := wcq S X) hH n (nxt x h u) _ hB2 (by omega) hRo.1 hRo.2.1).2.2
              rw [nlx_nxt hh3 hB hz] at hok
              rw [show lO (Option.map (fun u => emb (PgOf S X) (nxt x h u)) (some u)) = lO (some (emb (PgOf S X) (nxt x h u))) from rfl, if_neg (show ¬ lg_cmp (lO (some (emb (PgOf S X) (nxt x h u)))) (-lN 1) = nI 0 by rw [lc_eq, hno]; intro z; cases z), i_nle (by omega) (by omega), show lO (some (emb (PgOf S X) (nxt x h u))) = lN (emb (PgOf S X) (nxt x h u)) from rfl, nI_add, e1, p_bd, p_nm, nI_add]
              refine ⟨bI false, nI (h + 1), τ', ⟨h + 1, false, by omega, rfl, rfl, hff, ?_, ?_, hF.tr e3⟩, ?_, rfl⟩
              · rw [ohand, if_neg hz, hw]; exact e2
              · rw [ohand, if_neg hz, hw, smc]
                show (ordr S (wcq S X) n (nxt x h u) (ohand S (wcq S X) (ordr S (wcq S X) n) x h l)).length ≤ _
                omega
              · rw [p_ix (by omega), p_ix (by omega)]; omega
      · rw [p_ix (by omega), FU_v]; omega
    obtain ⟨σ1, f1, e1, e2, e3, e4⟩ := loop
    rw [qi_1, qi_0, e1]
    unfold f_X7_followOrders_70
    simp only [qi_0, qi_1, qi_2, qi_3, qi_4, qi_5, qi_6, qi_7, qi_8, qi_9, qi_10, qi_11, qi_12, qi_13, qi_14, qi_15, qi_16, qi_17, qi_19, qi_26, qi_31, qi_32, qi_35, qi_40, qi_42, qi_48, qi_50, qi_57, qi_59, qi_63, qi_64, qi_97, qi_120, qi_122, qi_210, qi_255, qi_511, qi_512, qi_1000, qi_6000, qi_13312, qi_14337, qi_16383, qi_16384, qi_524287]
    rw [ordr]
    have hall3 : (∀ g, g < sH S → rm S x g = 0) ↔ (rm S x 0 = 0 ∧ rm S x 1 = 0 ∧ rm S x 2 = 0) := by
      constructor
      · intro q
        have hz : ∀ g, g < 3 → rm S x g = 0 := fun g hg => by
          by_cases e : g < sH S
          · exact q g e
          · unfold rm
            rw [show cnt S g = 0 from if_neg e]; omega
        exact ⟨hz 0 (by omega), hz 1 (by omega), hz 2 (by omega)⟩
      · intro q g hg
        rcases lt3 (show g < 3 by omega) with rfl | rfl | rfl
        · exact q.1
        · exact q.2.1
        · exact q.2.2
    by_cases hz : rm S x 0 = 0 ∧ rm S x 1 = 0 ∧ rm S x 2 = 0
    · have ef : f1 = true := e2.mpr (hall3.mpr hz)
      have hL1 := LdC_oL hL e4
      have hoh : ∀ h, h ≤ sH S → ohand S (wcq S X) (ordr S (wcq S X) n) x h l = l := by
        intro h
        induction h with
        | zero => intro _; rfl
        | succ h ihh =>
          intro hh
          rw [ohand, if_pos (hall3.mpr hz h (by omega))]
          exact ihh (by omega)
      rw [hoh _ (Nat.le_refl _)] at e3
      have hnl : nlx S (n + 1) x = 1 := by unfold nlx; rw [nl, if_pos hz]
      obtain ⟨σ2, g1, g2, g3⟩ := rowInclude_eq (k := 28) (v := rslt (PgOf S X) (emb (PgOf S X) x)) e3 (resf_lt3 _ hP.1) (by show l.length < 90; omega)
      rw [ef, bI_t, i_ne (by omega) (by omega) (by omega), resultOf_eq hP hL1 (emb_VS hP hB), p_bd, g1, p_bd, if_pos hz]
      have er : rslt (PgOf S X) (emb (PgOf S X) x) = resf x (sH S) := resf_emb hP x _ hH
      rw [er] at g2
      exact ⟨σ2, rfl, g2, e4.tr g3⟩
    · have ef : f1 = false := by
        cases f1 with
        | false => rfl
        | true => exact absurd (hall3.mp (e2.mp rfl)) hz
      rw [ef, bI_f, i_eq rfl, if_neg hz]
      exact ⟨σ1, rfl, e3, e4⟩
/-- the start of all orders -/
def x0S (S : Su) : Nat := sV S 0 + 4 * sV S 1 + 16 * sV S 2
def ords (S : Su) (X : Nat → Bool) : List Nat := ordr S (wcq S X) 8 (x0S S) []
theorem x0_hd {S : Su} (hS : SuV S) {h : Nat} (hh : h < 3) : hd (x0S S) h = 0 := by
  have h0 := hS.2.2.2.2.2.1 0 (by omega)
  have h1 := hS.2.2.2.2.2.1 1 (by omega)
  have h2 := hS.2.2.2.2.2.1 2 (by omega)
  unfold hd x0S
  rcases lt3 hh with rfl | rfl | rfl
  · rw [hw0]; omega
  · rw [hw1]; omega
  · rw [hw2]; omega
theorem x0_lt {S : Su} (hS : SuV S) : x0S S < 64 := by
  have h0 := hS.2.2.2.2.2.1 0 (by omega)
  have h1 := hS.2.2.2.2.2.1 1 (by omega)
  have h2 := hS.2.2.2.2.2.1 2 (by omega)
  unfold x0S
  omega
theorem x0_BV {S : Su} (hS : SuV S) : BV S (x0S S) :=
  ⟨by have := x0_lt hS; omega, fun h hh => ⟨0, 0, 0, by omega, by omega, by omega, x0_hd hS hh, fun _ => ⟨rfl, rfl⟩⟩⟩
theorem x0_emb {S : Su} {X : Nat → Bool} (hS : SuV S) : emb (PgOf S X) (x0S S) = pF (PgOf S X) := by
  have hl := x0_lt hS
  unfold emb ew
  rw [x0_hd hS (by omega), x0_hd hS (by omega), x0_hd hS (by omega)]
  show x0S S % 64 + 64 * mkw (bp _ 0 0) 0 0 0 0 0 + 33554432 * mkw (bp _ 1 0) 0 0 0 0 0 + 17592186044416 * mkw (bp _ 2 0) 0 0 0 0 0 = x0S S
  rw [show bp (PgOf S X) 0 0 = 0 from rfl, show bp (PgOf S X) 1 0 = 0 from rfl, show bp (PgOf S X) 2 0 = 0 from rfl]
  unfold mkw
  omega
theorem x0_rmt {S : Su} (hS : SuV S) : rmt S (x0S S) ≤ 6 ∧ nlx S 8 (x0S S) ≤ 90 := by
  have h : ∀ g, g < 3 → rm S (x0S S) g ≤ 2 := fun g _ => by have := cnt_le S g; unfold rm; omega
  have h0 := h 0 (by omega)
  have h1 := h 1 (by omega)
  have h2 := h 2 (by omega)
  exact ⟨by unfold rmt; omega, nl_90 h0 h1 h2⟩
def noX (_ : Nat) : Bool := false
theorem fps_no (c : Nat) : ∀ s, fps noX c s = s := by
  intro s
  induction s with
  | zero => rfl
  | succ s ih => rw [fps, ih]; rfl
theorem FX_no {S : Su} (hS : SuV S) : FX S noX := fun c hc => by
  have := (hS.2.1 c hc).2
  unfold fl
  rw [fps_no]; omega
theorem noX_0 : ∀ k, k < 42 → (0 / 2 ^ k % 2 = 1 ↔ noX k = true) := fun k _ => by
  rw [Nat.zero_div]
  exact ⟨fun q => by omega, fun q => by cases q⟩
def orL : List Nat := [6, 13, 14, 15, 16, 17, 28, 29]
theorem ordered_eq {S : Su} {σ : Mm} (hS : SuV S) (hC : SeC S 7 σ) (h67 : σ.1 6 7 = nI 0 ∨ (σ.1 6 7 = nI 1 ∧ RoC 28 (ords S noX) σ)) :
    ∃ σ', f_X7_orderedResults σ = some ((), σ') ∧ RoC 28 (ords S noX) σ' ∧ σ'.1 6 7 = nI 1 ∧ (∀ j, j ≠ 7 → σ'.1 6 j = σ.1 6 j) ∧ Fr orL σ σ' := by
  unfold f_X7_orderedResults
  simp only [qi_0, qi_1, qi_2, qi_3, qi_4, qi_5, qi_6, qi_7, qi_8, qi_9, qi_10, qi_11, qi_12, qi_13, qi_14, qi_15, qi_16, qi_17, qi_19, qi_26, qi_31, qi_32, qi_35, qi_40, qi_42, qi_48, qi_50, qi_57, qi_59, qi_63, qi_64, qi_97, qi_120, qi_122, qi_210, qi_255, qi_511, qi_512, qi_1000, qi_6000, qi_13312, qi_14337, qi_16383, qi_16384, qi_524287, ql_0, ql_1, ql_3, ql_4, ql_10, ql_12, ql_13, ql_16, ql_42, ql_157, ql_256, ql_16383, ql_524287]
  rcases h67 with h | ⟨h, hR⟩
  · obtain ⟨σ1, e1, m1, m2⟩ := load_eq (fz := 0) hS (FX_no hS) hC (by omega) noX_0
    have hr := x0_rmt hS
    rw [h, i_eq rfl, e1, p_bd, p_nm, r_sI2, m1.2.2.1, ← x0_emb (X := noX) hS]
    have hL2 : LdC (PgOf S noX) (sI σ1 28 1 (nI 0)) := LdC_of m1 (r_sI1 (by decide)) (by rw [r_sI2]) (r_sI1 (by decide)) (r_sI1 (by decide)) (r_sI1 (by decide))
    obtain ⟨σ2, e2, n1, n2⟩ := follow_eq (X := noX) hS (FX_no hS) 8 (x0S S) 0 [] (sI σ1 28 1 (nI 0)) (x0_BV hS) (by omega) (by omega) hL2 ⟨Srt_nil, fun i hi => by simp at hi, Nat.zero_le _, by decide, by rw [r_sI0]; rfl, fun i hi => by simp at hi⟩ (by show 0 + _ ≤ 90; omega)
    rw [e2, p_bd, p_cb1, p_nm]
    obtain ⟨z1, z2, z3, z4, z5, z6⟩ := n1
    refine ⟨_, rfl, ⟨z1, z2, z3, z4, by rw [r_sI1 (by decide)]; exact z5, fun i hi => by rw [r_sI1 (by decide)]; exact z6 i hi⟩, r_sI0, fun j hj => ?_, ?_⟩
    · rw [r_sIj hj, n2.r1 6 (by decide), r_sI1 (by decide), m2.r1 6 (by decide)]
    · exact ((((m2.mo (by intro k hk; revert k; decide)).sI (by decide)).tr (n2.mo (by intro k hk; revert k; decide)))).sI (by decide)
  · rw [h, i_ne (by omega) (by omega) (by omega)]
    exact ⟨σ, rfl, hR, h, fun _ _ => rfl, Fr.rf _ _⟩
