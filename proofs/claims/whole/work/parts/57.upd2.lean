/-! calls that change what is told -/
theorem rowS_0 (S : sS) (a : Nat) (g : Nat → Nat) : rowS S a 0 g = S := by
  funext j; exact if_neg (by omega)
theorem rowS_succ (S : sS) (a n : Nat) (g : Nat → Nat) : updS (rowS S a n g) (a + n) (g n) = rowS S a (n + 1) g := by
  funext j
  unfold updS rowS
  by_cases h1 : j = a + n
  · subst h1
    rw [if_pos rfl, if_pos (by omega), show a + n - a = n by omega]
  · rw [if_neg h1]
    by_cases h2 : a ≤ j ∧ j < a + n
    · rw [if_pos h2, if_pos (by omega)]
    · rw [if_neg h2, if_neg (by omega)]
section UPD2
variable {M : mm_M} {q : sQ}
theorem vK_plan {M1 : mm_M} {S' : sS} (h : vK M q) (hw : sWF q.1) (hS : ∀ j, j < 74 → q.1 j = S' j) (hD : vD M1 (mNow M) S') (hc : ∀ c, ¬ (2 ≤ c ∧ c ≤ 19) → ¬ (23 ≤ c ∧ c ≤ 44) → M1.1 c = M.1 c) (h22 : M1.2.2 = M.2.2) (h33 : mI M1 33 0 = 0) (h40 : mI M1 40 0 = 0) : vK M1 (S', q.2) := by
  obtain ⟨q1, q2, q3, q4, q5, q6, q7, q8, q9⟩ := h
  have ci : ∀ c k, ¬ (2 ≤ c ∧ c ≤ 19) → ¬ (23 ≤ c ∧ c ≤ 44) → mI M1 c k = mI M c k := fun c k c1 c2 => by unfold mI; rw [hc c c1 c2]
  have en : mNow M1 = mNow M := by unfold mNow; rw [h22]
  have ed : mDra M1 = mDra M := by unfold mDra; rw [h22]
  refine ⟨by rw [ed]; exact q1, by rw [en, ed]; exact q2, by rw [en]; exact hD, by rw [ci 20 _ (by decide) (by decide)]; exact q4, fun j hj => by rw [ci 21 _ (by decide) (by decide)]; exact q5 j hj, by rw [ci 22 _ (by decide) (by decide)]; exact q6, h33, h40, ?_⟩
  rw [ci 1 _ (by decide) (by decide)]
  refine q9.imp (fun z => z) (fun z => ⟨z.1, fun s hs => ?_⟩)
  rw [ci 45 _ (by decide) (by decide)]
  show _ = nI (sbpl S' (sP0 S') s)
  rw [← al_bpl (al_plan hw hS) hw.T.2]
  exact z.2 s hs
/-- what is told is other than before: BEST isn't known -/
theorem vK_new {M1 : mm_M} {S' : sS} (h : vK M q) (hD : vD M1 (mNow M) S') (hc : ∀ c, c ≠ 1 → ¬ (2 ≤ c ∧ c ≤ 19) → M1.1 c = M.1 c) (h22 : M1.2.2 = M.2.2) (h1 : mI M1 1 8 = 0) : vK M1 (S', q.2) := by
  obtain ⟨q1, q2, q3, q4, q5, q6, q7, q8, q9⟩ := h
  have ci : ∀ c k, c ≠ 1 → ¬ (2 ≤ c ∧ c ≤ 19) → mI M1 c k = mI M c k := fun c k c1 c2 => by unfold mI; rw [hc c c1 c2]
  have en : mNow M1 = mNow M := by unfold mNow; rw [h22]
  have ed : mDra M1 = mDra M := by unfold mDra; rw [h22]
  exact ⟨by rw [ed]; exact q1, by rw [en, ed]; exact q2, by rw [en]; exact hD, by rw [ci 20 _ (by decide) (by decide)]; exact q4, fun j hj => by rw [ci 21 _ (by decide) (by decide)]; exact q5 j hj, by rw [ci 22 _ (by decide) (by decide)]; exact q6, by rw [ci 33 _ (by decide) (by decide)]; exact q7, by rw [ci 40 _ (by decide) (by decide)]; exact q8, Or.inl h1⟩
/-- the reference, behind a change of told alone -/
theorem vN_told {P : Nat → Prop} {M1 : mm_M} {S' : sS} (h : vN M q) (hv : vM M1 S') (hf : Fr P M M1) (h46 : ¬ P 46) (h49 : ¬ P 49) (h59 : ¬ P 59) : vN M1 (S', q.2) := ⟨hv, by rw [hf.mI h46]; exact h.2.1, by rw [hf.mI h46]; exact h.2.2.1, fun j hj => by rw [hf.mI h49]; exact h.2.2.2.1 j hj, fun b hb => by rw [hf.mI h59]; exact h.2.2.2.2 b hb⟩
theorem sQ_plan (h : sQok q) {pl : Nat → Nat} (hp : ∀ s, s < 8 → pl s < 2 ^ q.1 1) (ho : ∀ s, q.1 0 ≤ s → s < 8 → pl s = 0) : sQok (rowS q.1 74 8 pl, q.2) := by
  refine ⟨sWF_plan h.1 (fun j hj => rowS_out _ _ (Or.inl hj)) (fun s hs => ?_) (fun s h1 h2 => ?_), fun k hk => ?_, h.2.2⟩
  · show rowS q.1 74 8 pl (74 + s) < _
    rw [rowS_in _ _ (by omega) (by omega), show 74 + s - 74 = s by omega]
    exact hp s hs
  · show rowS q.1 74 8 pl (74 + s) = 0
    rw [rowS_in _ _ (by omega) (by omega), show 74 + s - 74 = s by omega]
    exact ho s h1 h2
  · show rowS q.1 74 8 pl k = 0
    rw [rowS_out _ _ (Or.inr (by omega))]
    exact h.2.1 k hk
theorem schg_row (S : sS) (pl : Nat → Nat) (hT : S 0 ≤ 8) : schg (rowS S 74 8 pl) (fun s => rowS S 74 8 pl (74 + s)) = schg S pl := by
  unfold schg
  rw [show rowS S 74 8 pl 0 = S 0 from rowS_out _ _ (Or.inl (by omega))]
  exact ssum_congr _ (fun k hk => by
    show spop (rowS S 74 8 pl (74 + k)) = spop (pl k)
    rw [rowS_in _ _ (by omega) (by omega), show 74 + k - 74 = k by omega])
theorem x_ad2 (h : sQok q) {a : Nat} {pl : Nat → Nat} (hp : ∀ s, s < 8 → pl s < 2 ^ q.1 1) (ho : ∀ s, q.1 0 ≤ s → s < 8 → pl s = 0) (ha : mm_n a = 8) {M0 : mm_M} (hD : vD M0 (mNow M0) q.1) (han : 20 ≤ a) (h0 : ∀ j, j < 8 → mI M0 a j = nI (pl j)) : ∀ (k s n : Nat) (M : mm_M), s + k = 8 → k < n → Fr (fun c => c = mNow M0 + 3) M0 M → (∀ j, j < 8 → mI M (mNow M0 + 3) j = if j < s then nI (pl j) else mI M0 (mNow M0 + 3) j) → ∃ M', l6_adopt_2 n a (nI s) M = some (nI (schg q.1 pl), M') ∧ Fr (fun c => c = mNow M0 + 3 ∨ cLg c) M0 M' ∧ vD M' (mNow M0) (rowS q.1 74 8 pl) := by
  have hw := h.1
  have hT := hw.T
  have hd := isD_le hD.ok
  have hq := sQ_plan h hp ho
  have hw' : sWF (rowS q.1 74 8 pl) := hq.1
  have h16 := two_pow_le hw.B
  intro k
  induction k with
  | zero =>
    intro s n M hk hn hf h3
    obtain ⟨n, rfl⟩ : ∃ j, n = j + 1 := ⟨n - 1, by omega⟩
    have hE : vE M (mNow M0) (rowS q.1 (74 + 0) 8 pl) := vE_rng hD.E (i := 3) (a := 74) (k0 := 0) (n := 8) (g := pl) (by omega) (fun k => rfl) (by decide) (fun j hj => by
      have hj : j < 8 := hj
      rw [h3 j hj, if_pos (by omega), if_pos (by omega)]; rfl) (fun i' h1 h2 j => hf.mI (fun z => h2 (by omega)) j)
    have hD' : vD M (mNow M0) (rowS q.1 74 8 pl) := hE.D
    obtain ⟨a1, a2, a3⟩ := dA hD.ok
    obtain ⟨M', e1, e2, e3⟩ := x_weigh (pl := fun s => rowS q.1 74 8 pl (74 + s)) hw' (fun s hs => by
      have hs : s < q.1 0 := by rw [rowS_out _ _ (Or.inl (by omega))] at hs; exact hs
      have := hp s (by omega)
      show rowS q.1 74 8 pl (74 + s) < 16
      rw [rowS_in _ _ (by omega) (by omega), show 74 + s - 74 = s by omega]
      omega) a1 a2 a3 hD' (fun s hs => hD'.plan s (by rw [rowS_out _ _ (Or.inl (by omega))] at hs; omega))
    refine ⟨M', ?_, (hf.wd (fun c z => Or.inl z)).tr (e2.wd (fun c z => Or.inr z)), hD'.mv e2 cLg_ge⟩
    unfold l6_adopt_2 b6_adopt_2
    rw [nx_l8, if_pos (by rw [nx_le (by omega) (by omega)]; omega), bN_eq, hf.mNow, if_pos hD.ok, bN_eq, if_pos hD.ok, e1, cV_some, bI_eq, e3.2.1, schg_row _ _ hT.2]
  | succ k ih =>
    intro s n M hk hn hf h3
    obtain ⟨n, rfl⟩ : ∃ j, n = j + 1 := ⟨n - 1, by omega⟩
    have f1 : Fr (fun c => c = mNow M0 + 3) M (sI M (mNow M0 + 3) s (nI (pl s))) := Fr.sI rfl
    obtain ⟨M', e1, e2⟩ := ih (s + 1) n (sI M (mNow M0 + 3) s (nI (pl s))) (by omega) (by omega) (hf.tr f1) (fun j hj => by
      by_cases hjs : j = s
      · subst hjs; rw [mI_sI_eq, if_pos (by omega)]
      · rw [mI_sI_k _ _ _ hjs, h3 j hj]
        by_cases hlt : j < s
        · rw [if_pos hlt, if_pos (by omega)]
        · rw [if_neg hlt, if_neg (by omega)])
    refine ⟨M', ?_, e2⟩
    unfold l6_adopt_2 b6_adopt_2
    rw [nx_l8, if_neg (by rw [nx_le (by omega) (by omega)]; omega), bN_eq, hf.mNow, if_pos hD.ok, ha, aI_in (by omega) (by omega), hf.mI (fun z => by omega), h0 s (by omega), uI_in (by omega) (by omega), nx_l1, nx_add]
    exact e1
theorem x_adopt (h : TT M q) {a : Nat} {pl : Nat → Nat} (hp : ∀ s, s < 8 → pl s < 2 ^ q.1 1) (ho : ∀ s, q.1 0 ≤ s → s < 8 → pl s = 0) (ha : isA a = true) (ha8 : mm_n a = 8) (han : 20 ≤ a) (h0 : ∀ j, j < 8 → mI M a j = nI (pl j)) : ∃ M', f6_adopt a M = some (nI (schg q.1 pl), M') ∧ vK M' (rowS q.1 74 8 pl, q.2) ∧ (∀ c, 46 ≤ c → M'.1 c = M.1 c) ∧ mG M' = mG M := by
  have hD := h.2.1.2.2.1
  have hd := isD_le hD.ok
  obtain ⟨M', e1, e2, e3⟩ := x_ad2 h.1 hp ho ha8 hD han h0 8 0 FU M (by omega) (by have := FU_big; omega) Fr.rf (fun j hj => by rw [if_neg (by omega)])
  refine ⟨M', ?_, vK_plan h.2.1 h.1.1 (fun j hj => (rowS_out _ _ (Or.inl hj)).symm) e3 (fun c c1 c2 => e2.1 c (fun z => by rcases z with z | z | z | z <;> omega)) e2.2.2 (by rw [e2.mI (fun z => by rcases z with z | z | z | z <;> omega)]; exact h.2.1.2.2.2.2.2.2.1) (by rw [e2.mI (fun z => by rcases z with z | z | z | z <;> omega)]; exact h.2.1.2.2.2.2.2.2.2.1), fun c hc => e2.1 c (fun z => by rcases z with z | z | z | z <;> omega), by unfold mG; rw [e2.2.2]⟩
  unfold f6_adopt
  rw [if_pos ha]
  exact e1
theorem y_st2 (h : sQok q) {pl : Nat → Nat} (hp : ∀ s, s < 8 → pl s < 2 ^ q.1 1) (ho : ∀ s, q.1 0 ≤ s → s < 8 → pl s = 0) : ∀ (k s n : Nat) (M : mm_M), s + k = q.1 0 → k < n → vM M (rowS q.1 74 s pl) → (∀ j, j < q.1 0 → mI M 51 j = nI (pl j)) → ∃ M', l7_stands_2 n (nI s) M = some (nI (schg q.1 pl), M') ∧ Fr (fun c => c = 47) M M' ∧ vM M' (rowS q.1 74 8 pl) := by
  have hw := h.1
  have hT := hw.T
  have hw' : sWF (rowS q.1 74 8 pl) := (sQ_plan h hp ho).1
  intro k
  induction k with
  | zero =>
    intro s n M hk hn hv h51
    obtain ⟨n, rfl⟩ : ∃ j, n = j + 1 := ⟨n - 1, by omega⟩
    have hs : s = q.1 0 := by omega
    have e : rowS q.1 74 s pl = rowS q.1 74 8 pl := by
      funext j
      unfold rowS
      by_cases h1 : 74 ≤ j ∧ j < 74 + s
      · rw [if_pos h1, if_pos (by omega)]
      · rw [if_neg h1]
        by_cases h2 : 74 ≤ j ∧ j < 74 + 8
        · rw [if_pos h2, ho (j - 74) (by omega) (by omega)]
          have := hw.out (j - 74) (by omega) (by omega)
          rw [show 74 + (j - 74) = j by omega] at this
          exact this
        · rw [if_neg h2]
    rw [e] at hv
    refine ⟨M, ?_, Fr.rf, hv⟩
    have r0 : mI M 47 0 = nI (q.1 0) := by rw [hv 0 (by omega), rowS_out _ _ (Or.inl (by omega))]
    unfold l7_stands_2 b7_stands_2
    rw [aI_z (by omega) (by omega), r0, if_pos (by rw [nx_le (by omega) (by omega)]; omega), y_chargesOf hw' hv, cI_some, schg_row _ _ hT.2]
  | succ k ih =>
    intro s n M hk hn hv h51
    obtain ⟨n, rfl⟩ : ∃ j, n = j + 1 := ⟨n - 1, by omega⟩
    have f1 : Fr (fun c => c = 47) M (sI M 47 (74 + s) (nI (pl s))) := Fr.sI rfl
    have hv1 := vM_upd hv (k := 74 + s) (pl s)
    rw [rowS_succ] at hv1
    obtain ⟨M', e1, e2, e3⟩ := ih (s + 1) n _ (by omega) (by omega) hv1 (fun j hj => by rw [f1.mI (by decide)]; exact h51 j hj)
    refine ⟨M', ?_, f1.tr e2, e3⟩
    have r0 : mI M 47 0 = nI (q.1 0) := by rw [hv 0 (by omega), rowS_out _ _ (Or.inl (by omega))]
    unfold l7_stands_2 b7_stands_2
    rw [aI_z (by omega) (by omega), r0, if_neg (by rw [nx_le (by omega) (by omega)]; omega), aI_in (by omega) (by omega), h51 s (by omega), nx_l74, nx_add, uI_in (by omega) (by omega), nx_l1, nx_add]
    exact e1
theorem y_stands (h : sQok q) (hn : vN M q) {pl : Nat → Nat} (hp : ∀ s, s < 8 → pl s < 2 ^ q.1 1) (ho : ∀ s, q.1 0 ≤ s → s < 8 → pl s = 0) (h51 : ∀ j, j < q.1 0 → mI M 51 j = nI (pl j)) : ∃ M', f7_stands M = some (nI (schg q.1 pl), M') ∧ Fr (fun c => c = 47) M M' ∧ vN M' (rowS q.1 74 8 pl, q.2) := by
  obtain ⟨M', e1, e2, e3⟩ := y_st2 h hp ho (q.1 0) 0 FU M (by omega) (by have := FU_big; have := h.1.T; omega) (by rw [rowS_0]; exact hn.1) h51
  exact ⟨M', e1, e2, vN_told hn e3 e2 (by decide) (by decide) (by decide)⟩
theorem bpl_out (s : Nat) (h : q.1 0 ≤ s) : sbpl q.1 (sP0 q.1) s = 0 := if_neg (by omega)
theorem t_take (h : TT M q) : CC (fun M => f6_take M) (fun M => f7_take M) M q := by
  have hw := h.1.1
  have hp : ∀ s, s < 8 → sbpl q.1 (sP0 q.1) s < 2 ^ q.1 1 := fun s _ => sbpl_lt q.1 (sP0 q.1) s
  have ho : ∀ s, q.1 0 ≤ s → s < 8 → sbpl q.1 (sP0 q.1) s = 0 := fun s hs _ => bpl_out s hs
  obtain ⟨M1, e1, e2, e3, e4, e5, e6⟩ := x_findBest h
  obtain ⟨M2, g1, g2, g3, g4⟩ := x_adopt e2 hp ho (a := 45) (by decide) (by decide) (by decide) e6
  have hn2 : vN (sI M2 46 0 0) q := (e2.2.2.mvK g3).mv (raised0 _)
  obtain ⟨M3, M4, M5, k1, k2, k3, k4, k5, k6, k7⟩ := y_best h.1 hn2
  obtain ⟨M6, c1, c2, c3⟩ := y_stands h.1 (hn2.mv k4) hp ho k7
  have hNF := (raised0 M2).tr k4
  refine CC_mk (r := nI (schg q.1 (sbpl q.1 (sP0 q.1)))) (M1 := M2) (M2 := M6) ?_ g2 (by rw [g4, e4]) ?_ c3 (fun c hc => by rw [c2.1 c (fun z => by omega)]; exact hNF.low c hc) (by rw [c2.2.2]; exact hNF.2.2.2) (sQ_plan h.1 hp ho)
  · unfold f6_take
    rw [e1, cV_some, g1, cI_some]
  · unfold f7_take
    rw [bM_eq, k1, cV_some, k2, cV_some, k3, cV_some, c1, cI_some]
theorem t_takeRule (h : TT M q) (x : Int32) : CC (f6_takeRule x) (f7_takeRule x) M q := by
  have hw := h.1.1
  have hD := h.2.1.2.2.1
  by_cases hx : okR x 4 = true
  · obtain ⟨rule, hr, rfl⟩ := okR_t hx (by omega)
    have hp : ∀ s, s < 8 → sru q.1 rule s < 2 ^ q.1 1 := fun s _ => srq_lt hw rule _ s
    have ho : ∀ s, q.1 0 ≤ s → s < 8 → sru q.1 rule s = 0 := fun s hs _ => srq_out rule _ s hs
    obtain ⟨M1, e1, e2, e3⟩ := x_makeK h hr
    have h1 := h.K e2
    obtain ⟨M2, g1, g2, g3, g4⟩ := x_adopt h1 hp ho (a := 42) (by decide) (by decide) (by decide) e3
    have hn2 : vN (sI M2 46 0 0) q := (h1.2.2.mvK g3).mv (raised0 _)
    obtain ⟨M3, k1, k2, k3, k4, k5⟩ := y_rules h.1 hn2 hr
    obtain ⟨M6, c1, c2, c3⟩ := y_stands h.1 (hn2.mv k2) hp ho (fun j hj => k5 j (by have := hw.T; omega))
    have hNF := (raised0 M2).tr k2
    refine CC_mk (r := nI (schg q.1 (sru q.1 rule))) (M1 := M2) (M2 := M6) ?_ g2 (by rw [g4, e2.2.2.2.1]) ?_ c3 (fun c hc => by rw [c2.1 c (fun z => by omega)]; exact hNF.low c hc) (by rw [c2.2.2]; exact hNF.2.2.2) (sQ_plan h.1 hp ho)
    · unfold f6_takeRule
      rw [x_isRule, cI_some, if_pos hx, if_neg (by decide), bN_eq, if_pos hD.ok, e1, cV_some, g1, cI_some]
    · unfold f7_takeRule
      rw [bM_eq, y_in03, cI_some, if_pos hx, if_neg (by decide), k1, cV_some, c1, cI_some]
  · refine CC_ask (r := -1) (M1 := M) (M2 := sI M 46 0 0) h ?_ KF.rf ?_ (raised0 M)
    · unfold f6_takeRule
      rw [x_isRule, cI_some, if_neg hx, if_pos rfl]
    · unfold f7_takeRule
      rw [bM_eq, y_in03, cI_some, if_neg hx, if_pos rfl]
-- charge
theorem chg_tab : ∀ s : Fin 16, ∀ b : Fin 4, ((nI s.1 &&& nI (2 ^ b.1)) = 0 ↔ sbit s.1 b.1 = false) ∧ (nI s.1 ^^^ nI (2 ^ b.1)) = nI (s.1 ^^^ 2 ^ b.1) := by decide +kernel
theorem chg_lt : ∀ n : Fin 5, ∀ s : Fin 16, ∀ b : Fin 4, s.1 < 2 ^ n.1 → b.1 < n.1 → s.1 ^^^ 2 ^ b.1 < 2 ^ n.1 := by decide +kernel
theorem t_charge (h : TT M q) (x y z : Int32) (hz : z = 0 ∨ z = 1) : CC (f6_charge x y z) (f7_charge x y z) M q := by
  have hw := h.1.1
  have hT := hw.T
  have hB := hw.B
  have h16 := two_pow_le hB
  have hD := h.2.1.2.2.1
  have hn0 : vN (sI M 46 0 0) q := h.2.2.mv (raised0 M)
  have hv0 := hn0.1
  by_cases hx : okR x (q.1 0) = true
  · obtain ⟨s, hs, rfl⟩ := okR_t hx (by omega)
    by_cases hy : okR y (q.1 1) = true
    · obtain ⟨b, hb, rfl⟩ := okR_t hy (by omega)
      have hlt := hw.set s (by omega)
      obtain ⟨t1, t2⟩ := chg_tab ⟨q.1 (74 + s), by omega⟩ ⟨b, by omega⟩
      simp only at t1 t2
      have hx' : q.1 (74 + s) ^^^ 2 ^ b < 2 ^ q.1 1 := chg_lt ⟨q.1 1, by omega⟩ ⟨q.1 (74 + s), by omega⟩ ⟨b, by omega⟩ hlt hb
      have cls : f6_charge (nI s) (nI b) z M = l6_charge_49 (nI s) z (nI (2 ^ b)) (if sbit (q.1 (74 + s)) b = true then 1 else 0) M := by
        unfold f6_charge
        rw [bN_eq, if_pos hD.ok, x_hasSlot hD, cI_some, if_pos hx, if_neg (by decide), bN_eq, if_pos hD.ok, x_hasBus hD, cI_some, if_pos hy, if_neg (by decide), shl_pow' (show b ≤ 4 by omega), bI_eq, bN_eq, if_pos hD.ok, aI_in (by omega) (by omega), hD.plan s (by omega)]
        by_cases hbit : sbit (q.1 (74 + s)) b = true
        · rw [if_neg (by rw [t1, hbit]; decide), if_pos hbit]
        · rw [if_pos (by rw [t1]; exact Bool.eq_false_iff.mpr hbit), if_neg hbit]
      have rf : f7_charge (nI s) (nI b) z M = if (if sbit (q.1 (74 + s)) b = true then (1 : Int32) else 0) = z then rZ 0 (sI M 46 0 0) else rZ 1 (sI (sI M 46 0 0) 47 (74 + s) (nI (q.1 (74 + s) ^^^ 2 ^ b))) := by
        unfold f7_charge l7_charge_38
        rw [bM_eq, y_isSlot hv0 hw, cI_some, if_pos hx, if_neg (by decide), y_isBus hv0 hw, cI_some, if_pos hy, if_neg (by decide), nx_l74, nx_add, aI_in (by omega) (by omega), hv0 _ (by omega), y_has (by omega) (by omega), cI_some, aI_in (by omega) (by omega), hv0 _ (by omega), shl_pow' (show b ≤ 4 by omega), t2, uI_in (by omega) (by omega)]
      by_cases he : (if sbit (q.1 (74 + s)) b = true then (1 : Int32) else 0) = z
      · refine CC_ask (r := 0) (M1 := M) (M2 := sI M 46 0 0) h ?_ KF.rf ?_ (raised0 M)
        · rw [cls]
          unfold l6_charge_49
          rw [if_pos he]
          rfl
        · rw [rf, if_pos he]
          rfl
      · have hq' : sQok (updS q.1 (74 + s) (q.1 (74 + s) ^^^ 2 ^ b), q.2) := by
          refine ⟨sWF_plan hw (fun j hj => updS_ne _ _ (by omega)) (fun s' hs' => ?_) (fun s' h1 h2 => ?_), fun k hk => ?_, h.1.2.2⟩
          · show updS _ _ _ _ < _
            by_cases hss : s' = s
            · subst hss; rw [updS_eq]; exact hx'
            · rw [updS_ne _ _ (by omega)]; exact hw.set s' hs'
          · show updS _ _ _ _ = _
            rw [updS_ne _ _ (by omega)]; exact hw.out s' h1 h2
          · show updS _ _ _ _ = _
            rw [updS_ne _ _ (by omega)]; exact h.1.2.1 k hk
        have hd := isD_le hD.ok
        have hE : vE (sI M (mNow M + 3) s (nI (q.1 (74 + s) ^^^ 2 ^ b))) (mNow M) (updS q.1 (74 + s) (q.1 (74 + s) ^^^ 2 ^ b)) := vE_upd hD.E (i := 3) (k := s) (by omega) (show s < 8 by omega) _
        have f1 : Fr (fun c => c = mNow M + 3) M (sI M (mNow M + 3) s (nI (q.1 (74 + s) ^^^ 2 ^ b))) := Fr.sI rfl
        have hk : vK (sI M (mNow M + 3) s (nI (q.1 (74 + s) ^^^ 2 ^ b))) (updS q.1 (74 + s) (q.1 (74 + s) ^^^ 2 ^ b), q.2) := vK_plan h.2.1 hw (fun j hj => (updS_ne _ _ (by omega)).symm) hE.D (fun c c1 c2 => f1.1 c (fun z => by omega)) rfl (by rw [f1.mI (fun z => by omega)]; exact h.2.1.2.2.2.2.2.2.1) (by rw [f1.mI (fun z => by omega)]; exact h.2.1.2.2.2.2.2.2.2.1)
        generalize hM1 : sI M (mNow M + 3) s (nI (q.1 (74 + s) ^^^ 2 ^ b)) = M1 at hk f1
        have hn1 : vN (sI M1 46 0 0) q := (h.2.2.mvK (fun c hc => f1.1 c (fun z => by omega))).mv (raised0 _)
        have f2 : Fr (fun c => c = 47) (sI M1 46 0 0) (sI (sI M1 46 0 0) 47 (74 + s) (nI (q.1 (74 + s) ^^^ 2 ^ b))) := Fr.sI rfl
        refine CC_mk (r := 1) (M1 := M1) (M2 := sI (sI M1 46 0 0) 47 (74 + s) (nI (q.1 (74 + s) ^^^ 2 ^ b))) ?_ hk (by rw [← hM1]; rfl) ?_ (vN_told hn1 (vM_upd hn1.1 _) f2 (by decide) (by decide) (by decide)) (fun c hc => by rw [f2.1 c (fun z => by omega)]; exact (raised0 M1).low c hc) rfl hq'
        · rw [cls]
          unfold l6_charge_49
          rw [if_neg he, bN_eq, if_pos hD.ok, aI_in (by omega) (by omega), hD.plan s (by omega), t2, uI_in (by omega) (by omega), hM1]
          rfl
        · have hv1 := hn1.1
          unfold f7_charge l7_charge_38
          rw [bM_eq, y_isSlot hv1 hw, cI_some, if_pos hx, if_neg (by decide), y_isBus hv1 hw, cI_some, if_pos hy, if_neg (by decide), nx_l74, nx_add, aI_in (by omega) (by omega), hv1 _ (by omega), y_has (by omega) (by omega), cI_some, if_neg he, aI_in (by omega) (by omega), hv1 _ (by omega), shl_pow' (show b ≤ 4 by omega), t2, uI_in (by omega) (by omega)]
          rfl
    · refine CC_ask (r := 0) (M1 := M) (M2 := sI M 46 0 0) h ?_ KF.rf ?_ (raised0 M)
      · unfold f6_charge l6_charge_22
        rw [bN_eq, if_pos hD.ok, x_hasSlot hD, cI_some, if_pos hx, if_neg (by decide), bN_eq, if_pos hD.ok, x_hasBus hD, cI_some, if_neg hy, if_pos rfl]
        rfl
      · unfold f7_charge l7_charge_38
        rw [bM_eq, y_isSlot hv0 hw, cI_some, if_pos hx, if_neg (by decide), y_isBus hv0 hw, cI_some, if_neg hy, if_pos rfl]
        rfl
  · refine CC_ask (r := 0) (M1 := M) (M2 := sI M 46 0 0) h ?_ KF.rf ?_ (raised0 M)
    · unfold f6_charge l6_charge_22
      rw [bN_eq, if_pos hD.ok, x_hasSlot hD, cI_some, if_neg hx, if_pos rfl]
      rfl
    · unfold f7_charge l7_charge_38
      rw [bM_eq, y_isSlot hv0 hw, cI_some, if_neg hx, if_pos rfl]
      rfl
end UPD2
