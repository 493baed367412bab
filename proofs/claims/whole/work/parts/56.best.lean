/-! BEST and rules: asked, and taken as the plan -/
theorem CC_mk {a b : mm_M → Option (Int32 × mm_M)} {M M1 M2 : mm_M} {q q' : sQ} {r : Int32} (ha : a M = some (r, M1)) (hk : vK M1 q') (hg : mG M1 = mG M) (hb : b M1 = some (r, M2)) (hn : vN M2 q') (h2 : ∀ c, c < 46 → M2.1 c = M1.1 c) (h3 : M2.2.2 = M1.2.2) (hq : sQok q') : CC a b M q := ⟨r, M1, M2, ha, hb, ⟨q', hq, hk.mvN h2 (by rw [h3]), hn⟩, by unfold mG; rw [h3]; exact hg⟩
section BESTS
variable {M : mm_M} {q : sQ}
theorem x_findBest (h : TT M q) : ∃ M1, f6_findBest M = some M1 ∧ TT M1 q ∧ (∀ c, 46 ≤ c → M1.1 c = M.1 c) ∧ mG M1 = mG M ∧ mNow M1 = mNow M ∧ ∀ s, s < 8 → mI M1 45 s = nI (sbpl q.1 (sP0 q.1) s) := by
  have hw := h.1.1
  have hD := h.2.1.2.2.1
  rcases h.2.1.2.2.2.2.2.2.2.2 with h0 | ⟨h0, h45⟩
  · obtain ⟨M1, e1, e2, e3⟩ := x_lookAt h
    obtain ⟨M2, g1, g2, g3, g4, g5⟩ := x_findPlan hw (pOK0 hw h.1.2.1) e3
    have f3 : Fr (fun c => c = 1) M2 (sI M2 1 8 1) := Fr.sI rfl
    have cc : ∀ c, c ≠ 1 → ¬ (23 ≤ c ∧ c ≤ 45) → (sI M2 1 8 1).1 c = M.1 c := fun c c1 c2 => by
      rw [f3.1 c (fun z => c1 z), g2.1 c (fun z => c2 (by rcases z with z | z <;> omega)), e2.1 c (fun z => c2 (by omega))]
    have ci : ∀ c k, c ≠ 1 → ¬ (23 ≤ c ∧ c ≤ 45) → mI (sI M2 1 8 1) c k = mI M c k := fun c k c1 c2 => by
      unfold mI; rw [cc c c1 c2]
    have c23 : ∀ c, c ≠ 1 → mI (sI M2 1 8 1) c = mI M2 c := fun c c1 => by funext k; exact f3.mI (fun z => c1 z) k
    have m22 : M2.2.2 = M1.2.2 := g2.2.2
    have en : mNow (sI M2 1 8 1) = mNow M := by
      show mNow M2 = _
      unfold mNow; rw [m22]; exact e2.2.1
    have ed : mDra (sI M2 1 8 1) = mDra M := by
      show mDra M2 = _
      unfold mDra; rw [m22]; exact e2.2.2.1
    have eg : mG (sI M2 1 8 1) = mG M := by
      show mG M2 = _
      unfold mG; rw [m22]; exact e2.2.2.2.1
    have p45 : ∀ s, s < 8 → mI (sI M2 1 8 1) 45 s = nI (sbpl q.1 (sP0 q.1) s) := fun s hs => by rw [c23 45 (by decide)]; exact g5 s hs
    have hv0 := h.2.1
    obtain ⟨q1, q2, q3, q4, q5, q6, q7, q8, q9⟩ := hv0
    refine ⟨sI M2 1 8 1, ?_, ⟨h.1, ⟨by rw [ed]; exact q1, by rw [en, ed]; exact q2, by rw [en]; exact q3.mvc (fun c c1 c2 => cc c (by omega) (by omega)), by rw [ci 20 _ (by decide) (by decide)]; exact q4, fun j hj => by rw [ci 21 _ (by decide) (by decide)]; exact q5 j hj, by rw [ci 22 _ (by decide) (by decide)]; exact q6, by rw [c23 33 (by decide)]; exact g3, by rw [c23 40 (by decide)]; exact g4, Or.inr ⟨mI_sI_eq _ _ _ _, p45⟩⟩, h.2.2.mvK (fun c hc => cc c (by omega) (by omega))⟩, fun c hc => cc c (by omega) (by omega), eg, en, p45⟩
    unfold f6_findBest
    rw [bI_eq, h0, if_pos rfl, bN_eq, if_pos hD.ok, e1, cV_some, g1, cV_some, bM_eq]
  · refine ⟨M, ?_, h, fun _ _ => rfl, rfl, rfl, h45⟩
    unfold f6_findBest
    rw [bI_eq, h0, if_neg (by decide)]
theorem bpl16 (hw : sWF q.1) (s : Nat) : sbpl q.1 (sP0 q.1) s < 16 := by
  have h1 := sbpl_lt q.1 (sP0 q.1) s
  have h2 := two_pow_le hw.B
  omega
theorem y_best (h : sQok q) (hn : vN M q) : ∃ M1 M2 M3, f7_asTold M = some M1 ∧ f7_finds M1 = some M2 ∧ f7_laysBest M2 = some M3 ∧ NF M M3 ∧ vR M3 q.1 (sP0 q.1) ∧ vG M3 q.1 (scom q.1) (q.1 4) (sbpl q.1 (sP0 q.1)) ∧ ∀ s, s < q.1 0 → mI M3 51 s = nI (sbpl q.1 (sP0 q.1) s) := by
  have hw := h.1
  obtain ⟨M1, e1, e2, e3⟩ := y_asTold hw hn.1 hn.2.2.2.2
  obtain ⟨M2, g1, g2, g3⟩ := y_finds hw (pOK0 hw h.2.1) e3
  have e3' := e3.mvG g2 (fun c z => by rcases z with z | z | z | z | z <;> omega)
  obtain ⟨M3, k1, k2, k3, k4⟩ := y_laysBest hw (pOK0 hw h.2.1) e3' g3
  refine ⟨M1, M2, M3, e1, g1, k1, (e2.tr (NF_of' g2 (fun c z => by rcases z with z | z | z | z | z <;> omega))).tr (NF_of' k2 cGo51_ok), e3'.mvG k2 (fun c z => by rcases z with z | z | z <;> omega), k3, k4⟩
theorem t_best (h : TT M q) (x : Int32) : CC (f6_best x) (f7_best x) M q := by
  have hw := h.1.1
  by_cases hx : okR x 4 = true
  · obtain ⟨w, hw4, rfl⟩ := okR_t hx (by omega)
    obtain ⟨M1, e1, e2, e3, e4, e5, e6⟩ := x_findBest h
    have hD1 := e2.2.1.2.2.1
    obtain ⟨M2, g1, g2, g3⟩ := x_weigh (pl := sbpl q.1 (sP0 q.1)) hw (fun s hs => bpl16 hw s) (a := 45) (by decide) (by decide) (by decide) hD1 (fun s hs => e6 s (by have := hw.T; omega))
    have hK : KF M1 M2 := KF_of' g2 (fun c h => by rcases h with h | h | h <;> omega) (by decide) (by decide)
    have h2 := e2.K hK
    have hn : vN (sI M2 46 0 0) q := h2.2.2.mv (raised0 _)
    obtain ⟨M3, M4, M5, k1, k2, k3, k4, k5, k6, k7⟩ := y_best h.1 hn
    have hNF := (raised0 M2).tr k4
    refine CC_mk (r := nI (sfig q.1 (sbpl q.1 (sP0 q.1)) w)) (M1 := M2) (M2 := M5) (q' := q) ?_ h2.2.1 (by rw [hK.2.2.2.1, e4]) ?_ (h2.2.2.mv hNF) hNF.low hNF.2.2.2 h.1
    · unfold f6_best
      rw [if_neg (nI_pos (by omega)), if_pos (by rw [nx_l4, nx_lt (by omega) (by omega)]; exact hw4), e1, cV_some, bN_eq, if_pos hD1.ok, g1, cV_some, x_figure g3, cI_some, if_pos hx, nx_cl (by omega)]
    · unfold f7_best
      rw [bM_eq, y_in03, cI_some, if_pos hx, if_neg (by decide), k1, cV_some, k2, cV_some, k3, cV_some, y_sumOf hw (fun s hs => bpl16 hw s) k5.1 k6 k7 hw4, cI_some]
  · refine CC_ask (r := -1) (M1 := M) (M2 := sI M 46 0 0) h ?_ KF.rf ?_ (raised0 M)
    · unfold f6_best l6_best_9
      by_cases hz : x < 0
      · rw [if_pos hz]
      · obtain ⟨n, hn, rfl⟩ := nx_of hz
        rw [if_neg hz, if_neg]
        rw [nx_l4, nx_lt hn (by omega)]
        intro z
        exact hx (by rw [okR_nI hn (by omega)]; exact decide_eq_true z)
    · unfold f7_best
      rw [bM_eq, y_in03, cI_some, if_neg hx, if_pos rfl]
-- rules, by the reference
theorem ru16 (hw : sWF q.1) (rule n s : Nat) : srq q.1 rule n s < 16 := by
  have h1 := srq_lt hw rule n s
  have h2 := two_pow_le hw.B
  omega
theorem y_ru27 (h : sQok q) {rule : Nat} (hr : rule < 4) : ∀ (k s n : Nat) (M : mm_M), s + k = q.1 0 → k < n → vR M q.1 (sP0 q.1) → (∀ j, j < 8 → mI M 51 j = nI (srq q.1 rule s j)) → ∃ M', l7_rules_27 n (nI rule) (nI s) M = some M' ∧ NF M M' ∧ vR M' q.1 (sP0 q.1) ∧ vG M' q.1 (scom q.1) (q.1 4) (sru q.1 rule) ∧ ∀ j, j < 8 → mI M' 51 j = nI (sru q.1 rule j) := by
  have hw := h.1
  have hT := hw.T
  have hpo := hw.pow
  have hcb := scb hw h.2.1
  intro k
  induction k with
  | zero =>
    intro s n M hk hn hv h51
    obtain ⟨n, rfl⟩ : ∃ j, n = j + 1 := ⟨n - 1, by omega⟩
    have hs : s = q.1 0 := by omega
    subst hs
    obtain ⟨M1, g1, g2, g3⟩ := y_goes hw (pow := q.1 4) (com := scom q.1) (pl := sru q.1 rule) (by omega) hcb (fun s hs => ru16 hw rule _ s) (M := M) ⟨hv.1, hv.2.2.1, hv.2.2.2.2.2.1, fun s hs => h51 s (by omega)⟩
    refine ⟨M1, ?_, NF_of' g2 (fun c z => by rcases z with z | z <;> omega), hv.mvG g2 (fun c z => by rcases z with z | z <;> omega), g3, fun j hj => by rw [g2.mI (by decide)]; exact h51 j hj⟩
    unfold l7_rules_27 b7_rules_27
    rw [aI_z (by omega) (by omega), hv.1 0 (by omega), if_pos (by rw [nx_le (by omega) (by omega)]; omega), g1, cV_some]
  | succ k ih =>
    intro s n M hk hn hv h51
    obtain ⟨n, rfl⟩ : ∃ j, n = j + 1 := ⟨n - 1, by omega⟩
    obtain ⟨M1, g1, g2, g3⟩ := y_goes hw (pow := q.1 4) (com := scom q.1) (pl := srq q.1 rule s) (by omega) hcb (fun j hj => ru16 hw rule _ j) (M := M) ⟨hv.1, hv.2.2.1, hv.2.2.2.2.2.1, fun s hs => h51 s (by omega)⟩
    have hv1 := hv.mvG g2 (fun c z => by rcases z with z | z <;> omega)
    have hY : vY M1 q.1 s (fun b => slv q.1 (scom q.1) (q.1 4) (srq q.1 rule s) b s) := ⟨hv1.1, hv1.2.1, hv1.2.2.1, hv1.2.2.2.1, hv1.2.2.2.2.2.1, fun b hb => g3.2 b s hb (by omega)⟩
    obtain ⟨M2, k1, k2⟩ := y_setBy hw (show s < q.1 0 by omega) (fun b hb => slv_le (hw.bus b hb).2.2.1 s) hcb hr hY
    have hv2 := hv1.mvG k2 (fun c z => by rcases z with z | z <;> omega)
    generalize hch : schoose q.1 rule s (fun b => slv q.1 (scom q.1) (q.1 4) (srq q.1 rule s) b s) = ch at k1
    have f3 : Fr (fun c => c = 51) M2 (sI M2 51 s (nI ch)) := Fr.sI rfl
    have hv3 := hv2.mvG f3 (fun c z => by omega)
    obtain ⟨M', i1, i2, i3⟩ := ih (s + 1) n (sI M2 51 s (nI ch)) (by omega) (by omega) hv3 (fun j hj => by
      by_cases hjs : j = s
      · subst hjs
        rw [mI_sI_eq, srq_at, hch]
      · rw [mI_sI_k _ _ _ hjs, k2.mI (by decide), g2.mI (by decide), h51 j hj, show srq q.1 rule (s + 1) j = srq q.1 rule s j from if_neg hjs])
    refine ⟨M', ?_, (((NF_of' g2 (fun c z => by rcases z with z | z <;> omega)).tr (NF_of' k2 (fun c z => by rcases z with z | z <;> omega))).tr (NF_of' f3 (fun c z => by omega))).tr i2, i3⟩
    unfold l7_rules_27 b7_rules_27
    rw [aI_z (by omega) (by omega), hv.1 0 (by omega), if_neg (by rw [nx_le (by omega) (by omega)]; omega), g1, cV_some, k1, cI_some, uI_in (by omega) (by omega), nx_l1, nx_add]
    exact i1
theorem y_ru6 (h : sQok q) {rule : Nat} (hr : rule < 4) : ∀ (k s n : Nat) (M : mm_M), s + k = 8 → k < n → vR M q.1 (sP0 q.1) → (∀ j, j < s → mI M 51 j = nI 0) → ∃ M', l7_rules_6 n (nI rule) (nI s) M = some M' ∧ NF M M' ∧ vR M' q.1 (sP0 q.1) ∧ vG M' q.1 (scom q.1) (q.1 4) (sru q.1 rule) ∧ ∀ j, j < 8 → mI M' 51 j = nI (sru q.1 rule j) := by
  intro k
  induction k with
  | zero =>
    intro s n M hk hn hv h51
    obtain ⟨n, rfl⟩ : ∃ j, n = j + 1 := ⟨n - 1, by omega⟩
    unfold l7_rules_6 b7_rules_6
    rw [nx_l8, if_pos (by rw [nx_le (by omega) (by omega)]; omega)]
    exact y_ru27 h hr (q.1 0) 0 FU M (by omega) (by have := FU_big; have := h.1.T; omega) hv (fun j hj => h51 j (by omega))
  | succ k ih =>
    intro s n M hk hn hv h51
    obtain ⟨n, rfl⟩ : ∃ j, n = j + 1 := ⟨n - 1, by omega⟩
    have f3 : Fr (fun c => c = 51) M (sI M 51 s (nI 0)) := Fr.sI rfl
    obtain ⟨M', i1, i2, i3⟩ := ih (s + 1) n (sI M 51 s (nI 0)) (by omega) (by omega) (hv.mvG f3 (fun c z => by omega)) (fun j hj => by
      by_cases hjs : j = s
      · subst hjs; rw [mI_sI_eq]
      · rw [mI_sI_k _ _ _ hjs]; exact h51 j (by omega))
    refine ⟨M', ?_, (NF_of' f3 (fun c z => by omega)).tr i2, i3⟩
    unfold l7_rules_6 b7_rules_6
    rw [nx_l8, if_neg (by rw [nx_le (by omega) (by omega)]; omega), uI_in (by omega) (by omega), nx_l1, nx_add]
    exact i1
theorem y_rules (h : sQok q) (hn : vN M q) {rule : Nat} (hr : rule < 4) : ∃ M', f7_rules (nI rule) M = some M' ∧ NF M M' ∧ vR M' q.1 (sP0 q.1) ∧ vG M' q.1 (scom q.1) (q.1 4) (sru q.1 rule) ∧ ∀ j, j < 8 → mI M' 51 j = nI (sru q.1 rule j) := by
  obtain ⟨M1, e1, e2, e3⟩ := y_asTold h.1 hn.1 hn.2.2.2.2
  obtain ⟨M', g1, g2, g3⟩ := y_ru6 h hr 8 0 FU M1 (by omega) (by have := FU_big; omega) e3 (fun j hj => by omega)
  refine ⟨M', ?_, e2.tr g2, g3⟩
  unfold f7_rules
  rw [e1, cV_some]
  exact g1
theorem x_isRule (x : Int32) (M : mm_M) : f6_isRule x M = some (if okR x 4 = true then 1 else 0, M) := by
  unfold f6_isRule l6_isRule_13 l6_isRule_14 okR
  by_cases h1 : x < 0
  · simp [h1, rZ0]
  · by_cases h2 : nI 4 ≤ x
    · have h3 : (4 : Int32) ≤ x := h2
      simp [h1, h2, h3, rZ0]
    · have h3 : ¬ (4 : Int32) ≤ x := h2
      simp [h1, h2, h3, rZ1]
theorem x_makeK (h : TT M q) {rule : Nat} (hr : rule < 4) : ∃ M', f4_make (mNow M) (nI rule) M = some M' ∧ KF M M' ∧ ∀ j, j < 8 → mI M' 42 j = nI (sru q.1 rule j) := by
  obtain ⟨M', e1, e2, e3⟩ := x_make h.1.1 hr h.2.1.2.2.1
  exact ⟨M', e1, KF_of' e2 (fun c h => by rcases h with h | h | h <;> omega) (by decide) (by decide), e3⟩
theorem x_weighK (h : TT M q) {rule : Nat} (h42 : ∀ j, j < 8 → mI M 42 j = nI (sru q.1 rule j)) : ∃ M', f1_weigh (mNow M) 42 M = some M' ∧ KF M M' ∧ vL M' q.1 (sru q.1 rule) := by
  obtain ⟨M', e1, e2, e3⟩ := x_weigh (pl := sru q.1 rule) h.1.1 (fun s hs => ru16 h.1.1 rule _ s) (a := 42) (by decide) (by decide) (by decide) h.2.1.2.2.1 (fun s hs => h42 s (by have := h.1.1.T; omega))
  exact ⟨M', e1, KF_of' e2 (fun c h => by rcases h with h | h | h <;> omega) (by decide) (by decide), e3⟩
theorem t_rule (h : TT M q) (x y : Int32) : CC (f6_rule x y) (f7_rule x y) M q := by
  have hw := h.1.1
  have hT := hw.T
  have hD := h.2.1.2.2.1
  by_cases hx : okR x 4 = true
  · obtain ⟨rule, hr, rfl⟩ := okR_t hx (by omega)
    obtain ⟨M1, e1, e2, e3⟩ := x_makeK h hr
    have h1 := h.K e2
    have hD1 := h1.2.1.2.2.1
    have en : mNow M1 = mNow M := e2.2.1
    by_cases hy : okR y 4 = true
    · obtain ⟨w, hw4, rfl⟩ := okR_t hy (by omega)
      obtain ⟨M2, g1, g2, g3⟩ := x_weighK h1 e3
      have h2 := h1.K g2
      have hn : vN (sI M2 46 0 0) q := h2.2.2.mv (raised0 _)
      obtain ⟨M3, k1, k2, k3, k4, k5⟩ := y_rules h.1 hn hr
      refine CC_ask (r := nI (sfig q.1 (sru q.1 rule) w)) (M1 := M2) (M2 := M3) h ?_ (e2.tr g2) ?_ ((raised0 M2).tr k2)
      · unfold f6_rule
        rw [x_isRule, cI_some, if_pos hx, if_neg (by decide), bN_eq, if_pos hD.ok, e1, cV_some, if_pos (by rw [nx_l10, nx_lt (by omega) (by omega)]; omega), bN_eq, if_pos hD1.ok, g1, cV_some, x_figure g3, cI_some, if_pos hy, nx_cl (by omega)]
      · unfold f7_rule l7_rule_43 l7_rule_71
        rw [bM_eq, y_in03, cI_some, if_pos hx, if_neg (by decide), y_in03, cI_some, if_pos hy, if_neg (by decide), k1, cV_some, if_neg (by rw [nx_l10, nx_le (by omega) (by omega)]; omega), y_sumOf (pl := sru q.1 rule) hw (fun s hs => ru16 hw rule _ s) k3.1 k4 (fun s hs => k5 s (by omega)) hw4, cI_some]
    · by_cases hz : okS y 10 (9 + q.1 0) = true
      · obtain ⟨n, hn1, hn2, rfl⟩ := okS_t (by omega) (by omega) hz
        have hn : vN (sI M1 46 0 0) q := h1.2.2.mv (raised0 _)
        obtain ⟨M3, k1, k2, k3, k4, k5⟩ := y_rules h.1 hn hr
        have r0 : mI (sI M1 46 0 0) 47 0 = nI (q.1 0) := hn.1 0 (by omega)
        refine CC_ask (r := nI (sru q.1 rule (n - 10))) (M1 := M1) (M2 := M3) h ?_ e2 ?_ ((raised0 M1).tr k2)
        · unfold f6_rule l6_rule_57
          rw [x_isRule, cI_some, if_pos hx, if_neg (by decide), bN_eq, if_pos hD.ok, e1, cV_some, nx_l10, if_neg (by rw [nx_lt (by omega) (by omega)]; omega), bN_eq, if_pos hD1.ok, nx_sub hn1, x_hasSlot hD1, cI_some, okR_nI (by omega) (by omega), decide_eq_true (show n - 10 < q.1 0 by omega), it_t, if_neg (by decide), aI_in (by omega) (by omega), e3 _ (by omega)]
        · unfold f7_rule l7_rule_43 l7_rule_71
          rw [bM_eq, y_in03, cI_some, if_pos hx, if_neg (by decide), y_in03, cI_some, if_neg hy, if_pos rfl, aI_z (by omega) (by omega), r0, show (9 : Int32) + nI (q.1 0) = nI (9 + q.1 0) from nx_add 9 _, show f7_in (nI n) 10 (nI (9 + q.1 0)) (sI M1 46 0 0) = some (if okS (nI n) 10 (9 + q.1 0) = true then 1 else 0, sI M1 46 0 0) from y_inS _ 10 _ _, cI_some, if_pos hz, if_neg (by decide), k1, cV_some, nx_l10, if_pos (by rw [nx_le (by omega) (by omega)]; exact hn1), nx_sub hn1, aI_in (by omega) (by omega), k5 _ (by omega)]
      · have hn : vN (sI M1 46 0 0) q := h1.2.2.mv (raised0 _)
        have r0 : mI (sI M1 46 0 0) 47 0 = nI (q.1 0) := hn.1 0 (by omega)
        by_cases h10 : y < 10
        · obtain ⟨M2, g1, g2, g3⟩ := x_weighK h1 e3
          have h2 := h1.K g2
          have hn : vN (sI M2 46 0 0) q := h2.2.2.mv (raised0 _)
          have r0 : mI (sI M2 46 0 0) 47 0 = nI (q.1 0) := hn.1 0 (by omega)
          refine CC_ask (r := -1) (M1 := M2) (M2 := sI M2 46 0 0) h ?_ (e2.tr g2) ?_ (raised0 M2)
          · unfold f6_rule
            rw [x_isRule, cI_some, if_pos hx, if_neg (by decide), bN_eq, if_pos hD.ok, e1, cV_some, if_pos h10, bN_eq, if_pos hD1.ok, g1, cV_some, x_figure g3, cI_some, if_neg hy]
          · unfold f7_rule l7_rule_41
            rw [bM_eq, y_in03, cI_some, if_pos hx, if_neg (by decide), y_in03, cI_some, if_neg hy, if_pos rfl, aI_z (by omega) (by omega), r0, show (9 : Int32) + nI (q.1 0) = nI (9 + q.1 0) from nx_add 9 _, show f7_in y 10 (nI (9 + q.1 0)) (sI M2 46 0 0) = some (if okS y 10 (9 + q.1 0) = true then 1 else 0, sI M2 46 0 0) from y_inS _ 10 _ _, cI_some, if_neg hz, if_pos rfl]
        · refine CC_ask (r := -1) (M1 := M1) (M2 := sI M1 46 0 0) h ?_ e2 ?_ (raised0 M1)
          · have hy0 : ¬ y < 0 := fun z => h10 (ltI z (n := 10) (by omega))
            obtain ⟨n, hnn, rfl⟩ := nx_of hy0
            have hn10 : 10 ≤ n := by
              rw [nx_l10, nx_lt hnn (by omega)] at h10
              omega
            have hns : ¬ n - 10 < q.1 0 := fun z => hz (by rw [okS_nI hnn (by omega) (by omega), decide_eq_true hn10, decide_eq_true (show n ≤ 9 + q.1 0 by omega)]; rfl)
            unfold f6_rule l6_rule_57
            rw [x_isRule, cI_some, if_pos hx, if_neg (by decide), bN_eq, if_pos hD.ok, e1, cV_some, if_neg h10, bN_eq, if_pos hD1.ok, show nI n - 10 = nI (n - 10) from nx_sub hn10, x_hasSlot hD1, cI_some, okR_nI (by omega) (by omega), decide_eq_false hns, it_f, if_pos rfl]
          · unfold f7_rule l7_rule_41
            rw [bM_eq, y_in03, cI_some, if_pos hx, if_neg (by decide), y_in03, cI_some, if_neg hy, if_pos rfl, aI_z (by omega) (by omega), r0, show (9 : Int32) + nI (q.1 0) = nI (9 + q.1 0) from nx_add 9 _, show f7_in y 10 (nI (9 + q.1 0)) (sI M1 46 0 0) = some (if okS y 10 (9 + q.1 0) = true then 1 else 0, sI M1 46 0 0) from y_inS _ 10 _ _, cI_some, if_neg hz, if_pos rfl]
  · refine CC_ask (r := -1) (M1 := M) (M2 := sI M 46 0 0) h ?_ KF.rf ?_ (raised0 M)
    · unfold f6_rule
      rw [x_isRule, cI_some, if_neg hx, if_pos rfl]
    · unfold f7_rule l7_rule_41
      rw [bM_eq, y_in03, cI_some, if_neg hx, if_pos rfl]
-- bestRule
def sbs (S : sS) (r : Nat) (t : Nat × Nat × Nat) : Nat × Nat × Nat := if r = 0 ∨ sall S (scom S) (S 4) (sru S r) < t.2.1 ∨ (sall S (scom S) (S 4) (sru S r) = t.2.1 ∧ scost S (scom S) (S 4) (sru S r) < t.2.2) then (r, sall S (scom S) (S 4) (sru S r), scost S (scom S) (S 4) (sru S r)) else t
def sbr (S : sS) : Nat → Nat → Nat × Nat × Nat → Nat
  | 0, _, t => t.1
  | k + 1, r, t => sbr S k (r + 1) (sbs S r t)
theorem figs_bd (hw : sWF q.1) (pl : Nat → Nat) : sall q.1 (scom q.1) (q.1 4) pl < 100000 ∧ scost q.1 (scom q.1) (q.1 4) pl < 10000000 := by
  have hB := hw.B
  have hT := hw.T
  have h1 : sall q.1 (scom q.1) (q.1 4) pl ≤ q.1 1 * 200 := ssum_le _ (fun k hk => slack_le hw hk)
  have h2 : scost q.1 (scom q.1) (q.1 4) pl ≤ q.1 0 * 79200 := ssum_le _ (fun s hs => by
    have a := sus_bd hw (scom q.1) (q.1 4) pl s (Nat.le_refl (q.1 1))
    have b := hw.price s (by omega)
    exact Nat.mul_le_mul a b)
  omega
theorem x_br9 : ∀ (k r n : Nat) (t : Nat × Nat × Nat) (M : mm_M), TT M q → r + k = 4 → k < n → t.2.1 < 100000 → t.2.2 < 10000000 → ∃ M', l6_bestRule_9 n (nI t.1) (nI t.2.1) (nI t.2.2) (nI r) M = some (nI (sbr q.1 k r t), M') ∧ KF M M' := by
  intro k
  induction k with
  | zero =>
    intro r n t M h hk hn b1 b2
    obtain ⟨n, rfl⟩ : ∃ j, n = j + 1 := ⟨n - 1, by omega⟩
    refine ⟨M, ?_, KF.rf⟩
    unfold l6_bestRule_9 b6_bestRule_9
    rw [nx_l4, if_pos (by rw [nx_le (by omega) (by omega)]; omega)]
    rfl
  | succ k ih =>
    intro r n t M h hk hn b1 b2
    obtain ⟨n, rfl⟩ : ∃ j, n = j + 1 := ⟨n - 1, by omega⟩
    have hw := h.1.1
    have hD := h.2.1.2.2.1
    obtain ⟨M1, e1, e2, e3⟩ := x_makeK h (show r < 4 by omega)
    have h1 := h.K e2
    obtain ⟨M2, g1, g2, g3⟩ := x_weighK h1 e3
    have h2 := h1.K g2
    have hD1 := h1.2.1.2.2.1
    obtain ⟨c1, c2⟩ := figs_bd hw (sru q.1 r)
    have g4 : mI M2 23 4 = nI (sall q.1 (scom q.1) (q.1 4) (sru q.1 r)) := g3.2.2.1
    have g5 : mI M2 23 2 = nI (scost q.1 (scom q.1) (q.1 4) (sru q.1 r)) := g3.1
    have take : ∀ t', t' = (r, sall q.1 (scom q.1) (q.1 4) (sru q.1 r), scost q.1 (scom q.1) (q.1 4) (sru q.1 r)) → ∃ M', l6_bestRule_96 (l6_bestRule_9 n) (nI r) M2 = some (nI (sbr q.1 k (r + 1) t'), M') ∧ KF M M' := by
      intro t' ht'
      obtain ⟨M3, i1, i2⟩ := ih (r + 1) n t' M2 h2 (by omega) (by omega) (by rw [ht']; exact c1) (by rw [ht']; exact c2)
      refine ⟨M3, ?_, (e2.tr g2).tr i2⟩
      unfold l6_bestRule_96 l6_bestRule_115
      rw [bI_eq, bI_eq, g4, g5, nx_l1, nx_add]
      rw [ht'] at i1 ⊢
      exact i1
    have stay : ∃ M', l6_bestRule_115 (l6_bestRule_9 n) (nI t.1) (nI t.2.1) (nI t.2.2) (nI r) M2 = some (nI (sbr q.1 k (r + 1) t), M') ∧ KF M M' := by
      obtain ⟨M3, i1, i2⟩ := ih (r + 1) n t M2 h2 (by omega) (by omega) b1 b2
      refine ⟨M3, ?_, (e2.tr g2).tr i2⟩
      unfold l6_bestRule_115
      rw [nx_l1, nx_add]
      exact i1
    have fin : ∀ bb : Bool, bb = (decide (sall q.1 (scom q.1) (q.1 4) (sru q.1 r) < t.2.1) || (decide (sall q.1 (scom q.1) (q.1 4) (sru q.1 r) = t.2.1) && decide (scost q.1 (scom q.1) (q.1 4) (sru q.1 r) < t.2.2))) → ∃ M', l6_bestRule_84 (l6_bestRule_9 n) (nI t.1) (nI t.2.1) (nI t.2.2) (nI r) (if bb = true then 1 else 0) M2 = some (nI (sbr q.1 (k + 1) r t), M') ∧ KF M M' := by
      intro bb hbb
      unfold l6_bestRule_84
      show ∃ M', _ = some (nI (sbr q.1 k (r + 1) (sbs q.1 r t)), M') ∧ _
      by_cases hr0 : r = 0
      · rw [if_pos (by rw [hr0]; rfl)]
        exact take _ (by unfold sbs; rw [if_pos (Or.inl hr0)])
      · rw [if_neg (by rw [nx_lit0, nx_eq (by omega) (by omega)]; exact hr0)]
        cases bb with
        | true =>
          rw [if_neg (by decide)]
          refine take _ ?_
          unfold sbs
          rw [if_pos]
          have := hbb.symm
          simp only [Bool.or_eq_true, Bool.and_eq_true, decide_eq_true_eq] at this
          exact Or.inr this
        | false =>
          rw [if_pos (by decide)]
          have e : sbs q.1 r t = t := by
            unfold sbs
            rw [if_neg]
            have := hbb.symm
            simp only [Bool.or_eq_false_iff, Bool.and_eq_false_iff, decide_eq_false_iff_not] at this
            omega
          rw [e]
          exact stay
    unfold l6_bestRule_9 b6_bestRule_9 l6_bestRule_79 l6_bestRule_83
    rw [nx_l4, if_neg (by rw [nx_le (by omega) (by omega)]; omega), bN_eq, if_pos hD.ok, e1, cV_some, bN_eq, if_pos hD1.ok, g1, cV_some, bI_eq, g4]
    simp only [nx_lt (show sall q.1 (scom q.1) (q.1 4) (sru q.1 r) < 2 ^ 31 by omega) (show t.2.1 < 2 ^ 31 by omega)]
    by_cases f1 : sall q.1 (scom q.1) (q.1 4) (sru q.1 r) < t.2.1
    · rw [if_pos f1]
      exact fin true (by simp [f1])
    · rw [if_neg f1, bI_eq]
      simp only [nx_eq (show sall q.1 (scom q.1) (q.1 4) (sru q.1 r) < 2 ^ 31 by omega) (show t.2.1 < 2 ^ 31 by omega)]
      by_cases f2 : sall q.1 (scom q.1) (q.1 4) (sru q.1 r) = t.2.1
      · rw [if_pos f2, bI_eq, g5]
        simp only [nx_le (show t.2.2 < 2 ^ 31 by omega) (show scost q.1 (scom q.1) (q.1 4) (sru q.1 r) < 2 ^ 31 by omega)]
        by_cases f3 : t.2.2 ≤ scost q.1 (scom q.1) (q.1 4) (sru q.1 r)
        · rw [if_pos f3]
          exact fin false (by simp [f1]; omega)
        · rw [if_neg f3]
          exact fin true (by simp [f2]; omega)
      · rw [if_neg f2]
        exact fin false (by simp [f1, f2])
theorem y_br14 (h : sQok q) : ∀ (k r n : Nat) (t : Nat × Nat × Nat) (x1 : Int32) (M : mm_M), vN M q → r + k = 4 → k < n → t.1 < 4 → t.2.1 < 100000 → t.2.2 < 10000000 → ((r = 0 ∧ x1 = -1) ∨ (r ≠ 0 ∧ x1 = nI t.1)) → ∃ M', l7_bestRule_14 n x1 (nI t.2.1) (nI t.2.2) (nI r) M = some (nI (sbr q.1 k r t), M') ∧ NF M M' := by
  have hw := h.1
  intro k
  induction k with
  | zero =>
    intro r n t x1 M hv hk hn b0 b1 b2 hx
    obtain ⟨n, rfl⟩ : ∃ j, n = j + 1 := ⟨n - 1, by omega⟩
    refine ⟨M, ?_, NF.rf⟩
    unfold l7_bestRule_14 b7_bestRule_14
    rw [nx_l4, if_pos (by rw [nx_le (by omega) (by omega)]; omega)]
    rcases hx with ⟨hx, -⟩ | ⟨-, hx⟩
    · omega
    · rw [hx]; rfl
  | succ k ih =>
    intro r n t x1 M hv hk hn b0 b1 b2 hx
    obtain ⟨n, rfl⟩ : ∃ j, n = j + 1 := ⟨n - 1, by omega⟩
    obtain ⟨M1, e1, e2, e3, e4, e5⟩ := y_rules h hv (show r < 4 by omega)
    obtain ⟨c1, c2⟩ := figs_bd hw (sru q.1 r)
    have s3 : f7_sumOf 3 M1 = some (nI (sall q.1 (scom q.1) (q.1 4) (sru q.1 r)), M1) := y_sumOf hw (fun s hs => ru16 hw r _ s) e3.1 e4 (fun s hs => e5 s (by have := hw.T; omega)) (what := 3) (by omega)
    have s0 : f7_sumOf 0 M1 = some (nI (scost q.1 (scom q.1) (q.1 4) (sru q.1 r)), M1) := y_sumOf hw (fun s hs => ru16 hw r _ s) e3.1 e4 (fun s hs => e5 s (by have := hw.T; omega)) (what := 0) (by omega)
    have take : ∀ t', t' = (r, sall q.1 (scom q.1) (q.1 4) (sru q.1 r), scost q.1 (scom q.1) (q.1 4) (sru q.1 r)) → ∃ M', l7_bestRule_58 (l7_bestRule_14 n) (nI r) M1 = some (nI (sbr q.1 k (r + 1) t'), M') ∧ NF M M' := by
      intro t' ht'
      obtain ⟨M3, i1, i2⟩ := ih (r + 1) n t' (nI r) M1 (hv.mv e2) (by omega) (by omega) (by rw [ht']; show r < 4; omega) (by rw [ht']; exact c1) (by rw [ht']; exact c2) (Or.inr ⟨by omega, by rw [ht']⟩)
      refine ⟨M3, ?_, e2.tr i2⟩
      unfold l7_bestRule_58 l7_bestRule_73
      rw [s3, cI_some, s0, cI_some, nx_l1, nx_add]
      rw [ht'] at i1 ⊢
      exact i1
    show ∃ M', _ = some (nI (sbr q.1 k (r + 1) (sbs q.1 r t)), M') ∧ _
    unfold l7_bestRule_14 b7_bestRule_14
    rw [nx_l4, if_neg (by rw [nx_le (by omega) (by omega)]; omega), e1, cV_some]
    rcases hx with ⟨hr0, hx⟩ | ⟨hr0, hx⟩
    · rw [if_pos hx]
      exact take _ (by unfold sbs; rw [if_pos (Or.inl hr0)])
    · have stay : sbs q.1 r t = t → ∃ M', l7_bestRule_73 (l7_bestRule_14 n) x1 (nI t.2.1) (nI t.2.2) (nI r) M1 = some (nI (sbr q.1 k (r + 1) (sbs q.1 r t)), M') ∧ NF M M' := by
        intro e
        rw [e]
        obtain ⟨M3, i1, i2⟩ := ih (r + 1) n t x1 M1 (hv.mv e2) (by omega) (by omega) b0 b1 b2 (Or.inr ⟨by omega, hx⟩)
        refine ⟨M3, ?_, e2.tr i2⟩
        unfold l7_bestRule_73
        rw [nx_l1, nx_add]
        exact i1
      rw [if_neg (by rw [hx, nx_neg1 (by omega)]; exact fun z => z), s3, cI_some]
      simp only [nx_lt (show sall q.1 (scom q.1) (q.1 4) (sru q.1 r) < 2 ^ 31 by omega) (show t.2.1 < 2 ^ 31 by omega)]
      by_cases f1 : sall q.1 (scom q.1) (q.1 4) (sru q.1 r) < t.2.1
      · rw [if_pos f1]
        exact take _ (by unfold sbs; rw [if_pos (Or.inr (Or.inl f1))])
      · rw [if_neg f1, s3, cI_some]
        simp only [nx_eq (show sall q.1 (scom q.1) (q.1 4) (sru q.1 r) < 2 ^ 31 by omega) (show t.2.1 < 2 ^ 31 by omega)]
        by_cases f2 : sall q.1 (scom q.1) (q.1 4) (sru q.1 r) = t.2.1
        · rw [if_pos f2, s0, cI_some]
          simp only [nx_le (show t.2.2 < 2 ^ 31 by omega) (show scost q.1 (scom q.1) (q.1 4) (sru q.1 r) < 2 ^ 31 by omega)]
          by_cases f3 : t.2.2 ≤ scost q.1 (scom q.1) (q.1 4) (sru q.1 r)
          · rw [if_pos f3]
            exact stay (by unfold sbs; rw [if_neg (by omega)])
          · rw [if_neg f3]
            exact take _ (by unfold sbs; rw [if_pos (Or.inr (Or.inr ⟨f2, by omega⟩))])
        · rw [if_neg f2]
          exact stay (by unfold sbs; rw [if_neg (by omega)])
theorem t_bestRule (h : TT M q) : CC (fun M => f6_bestRule M) (fun M => f7_bestRule M) M q := by
  obtain ⟨M1, e1, e2⟩ := x_br9 (q := q) 4 0 FU (0, 0, 0) M h (by omega) (by have := FU_big; omega) (by decide) (by decide)
  have hn : vN (sI M1 46 0 0) q := (h.2.2.mvK e2.high).mv (raised0 _)
  obtain ⟨M2, g1, g2⟩ := y_br14 h.1 4 0 FU (0, 0, 0) (-1) _ hn (by omega) (by have := FU_big; omega) (by decide) (by decide) (by decide) (Or.inl ⟨rfl, rfl⟩)
  refine CC_ask (r := nI (sbr q.1 4 0 (0, 0, 0))) (M1 := M1) (M2 := M2) h ?_ e2 ?_ ((raised0 M1).tr g2)
  · unfold f6_bestRule
    exact e1
  · unfold f7_bestRule
    rw [bM_eq]
    exact g1
end BESTS
