/-! askings -/
theorem CC_ask {a b : mm_M → Option (Int32 × mm_M)} {M M1 M2 : mm_M} {q : sQ} {r : Int32} (h : TT M q) (ha : a M = some (r, M1)) (hk : KF M M1) (hb : b M1 = some (r, M2)) (hn : NF M1 M2) : CC a b M q := ⟨r, M1, M2, ha, hb, ⟨q, (h.ask hk hn).1⟩, (h.ask hk hn).2⟩
theorem dA {d : Nat} (h : isD d = true) : isA (d + 3) = true ∧ mm_n (d + 3) = 8 ∧ ¬ cLg (d + 3) := by rcases isD_or h with rfl | rfl <;> decide
def okS (x : Int32) (a b : Nat) : Bool := !(decide (x < nI a)) && !(decide (nI b < x))
theorem okS_t {x : Int32} {a b : Nat} (ha : a < 2 ^ 31) (hb : b < 2 ^ 31) (h : okS x a b = true) : ∃ n, a ≤ n ∧ n ≤ b ∧ x = nI n := by
  simp only [okS, Bool.and_eq_true, Bool.not_eq_true', decide_eq_false_iff_not] at h
  have h0 : ¬ x < 0 := by
    have h1 := h.1
    rw [Int32.lt_iff_toInt_lt, nI_toInt ha] at h1
    rw [Int32.lt_iff_toInt_lt]
    have : (0 : Int32).toInt = 0 := rfl
    omega
  obtain ⟨n, hn, rfl⟩ := nx_of h0
  rw [nx_lt hn ha, nx_lt hb hn] at h
  exact ⟨n, by omega, by omega, rfl⟩
theorem okS_nI {n a b : Nat} (hn : n < 2 ^ 31) (ha : a < 2 ^ 31) (hb : b < 2 ^ 31) : okS (nI n) a b = (decide (a ≤ n) && decide (n ≤ b)) := by
  unfold okS
  simp only [nx_lt hn ha, nx_lt hb hn]
  by_cases h1 : a ≤ n <;> by_cases h2 : n ≤ b
  · simp [h1, h2, show ¬ n < a by omega, show ¬ b < n by omega]
  · simp [h1, h2, show ¬ n < a by omega, show b < n by omega]
  · simp [h1, show n < a by omega]
  · simp [h1, show n < a by omega]
theorem y_inS (x : Int32) (a b : Nat) (M : mm_M) : f7_in x (nI a) (nI b) M = some (if okS x a b = true then 1 else 0, M) := by
  rw [y_in]
  unfold okS
  by_cases h1 : x < nI a
  · simp [h1]
  · by_cases h2 : nI b < x
    · simp [h1, h2]
    · simp [h1, h2]
theorem okS_R (x : Int32) {n : Nat} (hn : n + 1 < 2 ^ 31) : okS x 0 n = okR x (n + 1) := by
  unfold okS okR
  rw [show nI 0 = 0 from rfl]
  have e : (nI n < x) = (nI (n + 1) ≤ x) := by
    have := nx_predlt (n := n + 1) hn x
    rw [nI_pred] at this
    exact this
  simp only [e]
theorem y_in0S (x : Int32) {b : Nat} (hb : b + 1 < 2 ^ 31) (M : mm_M) : f7_in x 0 (nI b) M = some (if okR x (b + 1) = true then 1 else 0, M) := by
  rw [← okS_R x hb]
  exact y_inS x 0 b M
theorem y_in03 (x : Int32) (M : mm_M) : f7_in x 0 3 M = some (if okR x 4 = true then 1 else 0, M) := y_in0S x (b := 3) (by omega) M
theorem y_in02 (x : Int32) (M : mm_M) : f7_in x 0 2 M = some (if okR x 3 = true then 1 else 0, M) := y_in0S x (b := 2) (by omega) M
theorem y_in05 (x : Int32) (M : mm_M) : f7_in x 0 5 M = some (if okR x 6 = true then 1 else 0, M) := y_in0S x (b := 5) (by omega) M
theorem y_in01 (x : Int32) (M : mm_M) : f7_in x 0 1 M = some (if okR x 2 = true then 1 else 0, M) := y_in0S x (b := 1) (by omega) M
theorem y_in08 (x : Int32) (M : mm_M) : f7_in x 0 8 M = some (if okR x 9 = true then 1 else 0, M) := y_in0S x (b := 8) (by omega) M
theorem okR_neg {x : Int32} (h : x < 0) (n : Nat) : okR x n = false := by unfold okR; simp [h]
section ASK
variable {M : mm_M} {q : sQ}
theorem t_fault (h : TT M q) : CC (fun M => f6_fault M) (fun M => f7_fault M) M q := by
  have h1 : f6_fault M = some (nI q.2.2.2, M) := by
    unfold f6_fault
    rw [bI_eq, h.2.1.2.2.2.2.2.1]
  have h2 : f7_fault M = some (nI q.2.2.2, sI M 46 0 0) := by
    unfold f7_fault
    rw [bM_eq, bI_eq, mI_sI_k _ _ _ (by decide), h.2.2.2.2.1]
  exact CC_ask h h1 KF.rf h2 (raised0 M)
theorem t_plan (h : TT M q) (x : Int32) : CC (f6_plan x) (f7_plan x) M q := by
  have hw := h.1.1
  have hT := hw.T
  have hD := h.2.1.2.2.1
  have hv0 : vM (sI M 46 0 0) q.1 := (h.2.2.mv (raised0 M)).1
  by_cases hx : okR x (q.1 0) = true
  · obtain ⟨s, hs, rfl⟩ := okR_t hx (by omega)
    refine CC_ask (r := nI (q.1 (74 + s))) h ?_ KF.rf ?_ (raised0 M)
    · unfold f6_plan l6_plan_24
      rw [bN_eq, if_pos hD.ok, x_hasSlot hD, cI_some, if_pos hx, if_neg (by decide), bN_eq, if_pos hD.ok, aI_in (by omega) (by omega), hD.plan s (by omega)]
    · unfold f7_plan l7_plan_26
      rw [bM_eq, y_isSlot hv0 hw, cI_some, if_pos hx, if_neg (by decide), nx_l74, nx_add, aI_in (by omega) (by omega), hv0 _ (by omega)]
  · refine CC_ask (r := -1) h ?_ KF.rf ?_ (raised0 M)
    · unfold f6_plan l6_plan_24
      rw [bN_eq, if_pos hD.ok, x_hasSlot hD, cI_some, if_neg hx, if_pos rfl]
    · unfold f7_plan l7_plan_26
      rw [bM_eq, y_isSlot hv0 hw, cI_some, if_neg hx, if_pos rfl]
/-- the plan as it stands, weighed by the class -/
theorem x_now (h : TT M q) : ∃ M1, f1_weigh (mNow M) (mNow M + 3) M = some M1 ∧ KF M M1 ∧ vL M1 q.1 (fun s => q.1 (74 + s)) := by
  have hw := h.1.1
  have hT := hw.T
  have h16 := two_pow_le hw.B
  have hD := h.2.1.2.2.1
  obtain ⟨a1, a2, a3⟩ := dA hD.ok
  obtain ⟨M1, e1, e2, e3⟩ := x_weigh (pl := fun s => q.1 (74 + s)) hw (fun s hs => by have := hw.set s (by omega); show q.1 (74 + s) < 16; omega) a1 a2 a3 hD (fun s hs => hD.plan s (by omega))
  exact ⟨M1, e1, KF_of' e2 (fun c h => by rcases h with h | h | h <;> omega) (by decide) (by decide), e3⟩
theorem KF_now {M M1 : mm_M} (h : KF M M1) : mNow M1 = mNow M := h.2.1
/-- and by the reference -/
theorem y_now (h : TT M q) {M1 : mm_M} (hk : KF M M1) : ∃ M2, f7_goesByTold (sI M1 46 0 0) = some M2 ∧ NF M1 M2 ∧ vR M2 q.1 (sP0 q.1) ∧ vG M2 q.1 (scom q.1) (q.1 4) (fun s => q.1 (74 + s)) ∧ ∀ j, j < 8 → mI M2 51 j = nI (q.1 (74 + j)) := by
  have hn : vN (sI M1 46 0 0) q := (h.2.2.mvK hk.high).mv (raised0 M1)
  obtain ⟨M2, e1, e2, e3, e4, e5⟩ := y_goesByTold h.1.1 h.1.2.1 hn.1 hn.2.2.2.2
  exact ⟨M2, e1, (raised0 M1).tr e2, e3, e4, e5⟩
theorem t_used (h : TT M q) (x : Int32) : CC (f6_used x) (f7_used x) M q := by
  have hw := h.1.1
  have hT := hw.T
  have hD := h.2.1.2.2.1
  by_cases hx : okR x (q.1 0) = true
  · obtain ⟨s, hs, rfl⟩ := okR_t hx (by omega)
    obtain ⟨M1, e1, e2, e3⟩ := x_now h
    obtain ⟨M2, g1, g2, g3, g4, g5⟩ := y_now h e2
    refine CC_ask (r := nI (sused q.1 (scom q.1) (q.1 4) (fun s => q.1 (74 + s)) s)) (M1 := M1) (M2 := M2) h ?_ e2 ?_ g2
    · unfold f6_used
      rw [bN_eq, if_pos hD.ok, x_hasSlot hD, cI_some, if_pos hx, if_neg (by decide), bN_eq, if_pos hD.ok, bN_eq, if_pos hD.ok, e1, cV_some, aI_in (by omega) (by omega), e3.2.2.2.2.1 s hs]
    · unfold f7_used l7_used_27
      rw [bM_eq, g1, cV_some, y_isSlot g3.1 hw, cI_some, if_pos hx, if_neg (by decide), aI_in (by omega) (by omega), g4.1 s hs]
  · obtain ⟨M2, g1, g2, g3, g4, g5⟩ := y_now h KF.rf
    refine CC_ask (r := -1) (M1 := M) (M2 := M2) h ?_ KF.rf ?_ g2
    · unfold f6_used
      rw [bN_eq, if_pos hD.ok, x_hasSlot hD, cI_some, if_neg hx, if_pos rfl]
    · unfold f7_used l7_used_27
      rw [bM_eq, g1, cV_some, y_isSlot g3.1 hw, cI_some, if_neg hx, if_pos rfl]
theorem t_lack (h : TT M q) (x : Int32) : CC (f6_lack x) (f7_lack x) M q := by
  have hw := h.1.1
  have hT := hw.T
  have hB := hw.B
  have hD := h.2.1.2.2.1
  by_cases hx : okR x (q.1 1) = true
  · obtain ⟨b, hb, rfl⟩ := okR_t hx (by omega)
    obtain ⟨M1, e1, e2, e3⟩ := x_now h
    obtain ⟨M2, g1, g2, g3, g4, g5⟩ := y_now h e2
    have hD1 : vD M1 (mNow M) q.1 := hD.KF e2
    refine CC_ask (r := nI (slack q.1 (scom q.1) (q.1 4) (fun s => q.1 (74 + s)) b)) (M1 := M1) (M2 := M2) h ?_ e2 ?_ g2
    · unfold f6_lack
      rw [bN_eq, if_pos hD.ok, x_hasBus hD, cI_some, if_pos hx, if_neg (by decide), bN_eq, if_pos hD.ok, bN_eq, if_pos hD.ok, e1, cV_some, bN_eq, KF_now e2, if_pos hD.ok, x_lackOf hw hD1 hb (e3.2.2.2.2.2 b _ hb (Nat.le_refl _)), cI_some]
    · unfold f7_lack l7_lack_26
      rw [bM_eq, g1, cV_some, y_isBus g3.1 hw, cI_some, if_pos hx, if_neg (by decide), y_lackOf hw g3.1 g4 hb, cI_some]
  · obtain ⟨M2, g1, g2, g3, g4, g5⟩ := y_now h KF.rf
    refine CC_ask (r := -1) (M1 := M) (M2 := M2) h ?_ KF.rf ?_ g2
    · unfold f6_lack
      rw [bN_eq, if_pos hD.ok, x_hasBus hD, cI_some, if_neg hx, if_pos rfl]
    · unfold f7_lack l7_lack_26
      rw [bM_eq, g1, cV_some, y_isBus g3.1 hw, cI_some, if_neg hx, if_pos rfl]
theorem t_level (h : TT M q) (x y : Int32) : CC (f6_level x y) (f7_level x y) M q := by
  have hw := h.1.1
  have hT := hw.T
  have hB := hw.B
  have hD := h.2.1.2.2.1
  by_cases hx : okR x (q.1 1) = true ∧ okR y (q.1 0 + 1) = true
  · obtain ⟨b, hb, rfl⟩ := okR_t hx.1 (by omega)
    obtain ⟨s, hs, rfl⟩ := okR_t hx.2 (by omega)
    obtain ⟨M1, e1, e2, e3⟩ := x_now h
    obtain ⟨M2, g1, g2, g3, g4, g5⟩ := y_now h e2
    refine CC_ask (r := nI (slv q.1 (scom q.1) (q.1 4) (fun s => q.1 (74 + s)) b s)) (M1 := M1) (M2 := M2) h ?_ e2 ?_ g2
    · unfold f6_level
      rw [bN_eq, if_pos hD.ok, x_hasBus hD, cI_some, if_pos hx.1, if_neg (by decide), if_neg (nI_pos (by omega)), bN_eq, if_pos hD.ok, bI_eq, hD.T, if_pos (by rw [nx_le (by omega) (by omega)]; omega), bN_eq, if_pos hD.ok, bN_eq, if_pos hD.ok, e1, cV_some, x_levelAt (by omega) (by omega), cI_some, e3.2.2.2.2.2 b s hb (by omega)]
    · unfold f7_level l7_level_45
      rw [bM_eq, g1, cV_some, y_isBus g3.1 hw, cI_some, if_pos hx.1, if_neg (by decide), aI_z (by omega) (by omega), g3.1 0 (by omega), y_in0S _ (by omega), cI_some, if_pos hx.2, if_neg (by decide), nx_l4, nx_mul, nx_add, aI_in (by omega) (by omega), g4.2 b s hb (by omega)]
  · obtain ⟨M2, g1, g2, g3, g4, g5⟩ := y_now h KF.rf
    refine CC_ask (r := -1) (M1 := M) (M2 := M2) h ?_ KF.rf ?_ g2
    · unfold f6_level l6_level_26
      rw [bN_eq, if_pos hD.ok, x_hasBus hD, cI_some]
      by_cases h1 : okR x (q.1 1) = true
      · rw [if_pos h1, if_neg (by decide)]
        by_cases h2 : y < 0
        · rw [if_pos h2]
        · obtain ⟨s, hs, rfl⟩ := nx_of h2
          rw [if_neg h2, bN_eq, if_pos hD.ok, bI_eq, hD.T, if_neg]
          rw [nx_le hs (by omega)]
          intro z
          exact hx ⟨h1, by rw [okR_nI hs (by omega)]; exact decide_eq_true (by omega)⟩
      · rw [if_neg h1, if_pos rfl]
    · unfold f7_level l7_level_44 l7_level_45
      rw [bM_eq, g1, cV_some, y_isBus g3.1 hw, cI_some]
      by_cases h1 : okR x (q.1 1) = true
      · rw [if_pos h1, if_neg (by decide), aI_z (by omega) (by omega), g3.1 0 (by omega), y_in0S _ (by omega), cI_some, if_neg (fun z => hx ⟨h1, z⟩), if_pos rfl]
      · rw [if_neg h1, if_pos rfl]
theorem t_sum (h : TT M q) (x : Int32) : CC (f6_sum x) (f7_sum x) M q := by
  have hw := h.1.1
  have hT := hw.T
  have hB := hw.B
  have h16 := two_pow_le hB
  have hD := h.2.1.2.2.1
  have hpl : ∀ s, s < q.1 0 → (fun s => q.1 (74 + s)) s < 16 := fun s hs => by have := hw.set s (by omega); show q.1 (74 + s) < 16; omega
  obtain ⟨M1, e1, e2, e3⟩ := x_now h
  obtain ⟨M2, g1, g2, g3, g4, g5⟩ := y_now h e2
  have hD1 : vD M1 (mNow M) q.1 := hD.KF e2
  obtain ⟨a1, a2, a3⟩ := dA hD.ok
  by_cases h4 : x = 4
  · refine CC_ask (r := nI (swg q.1 (fun s => q.1 (74 + s)) 3 1)) (M1 := M1) (M2 := M2) h ?_ e2 ?_ g2
    · unfold f6_sum l6_sum_52
      rw [bN_eq, if_pos hD.ok, bN_eq, if_pos hD.ok, e1, cV_some, if_pos h4, bN_eq, KF_now e2, if_pos hD.ok, bN_eq, if_pos hD.ok, x_wrongness hw hpl hD1 e3 a1 a2 (fun s hs => hD1.plan s (by omega)), cI_some]
    · unfold f7_sum l7_sum_39
      rw [bM_eq, g1, cV_some, if_pos h4, y_wrongOf hw hpl g3.1 g3.2.2.2.2.2.1 (scb hw h.1.2.1) g4 (fun s hs => g5 s (by omega)) g3.2.1 g3.2.2.2.1, cI_some]
  · by_cases hx : okR x 4 = true
    · obtain ⟨w, hw4, rfl⟩ := okR_t hx (by omega)
      refine CC_ask (r := nI (sfig q.1 (fun s => q.1 (74 + s)) w)) (M1 := M1) (M2 := M2) h ?_ e2 ?_ g2
      · unfold f6_sum l6_sum_52
        rw [bN_eq, if_pos hD.ok, bN_eq, if_pos hD.ok, e1, cV_some, if_neg h4, x_figure e3, cI_some, if_pos hx, nx_cl (by omega)]
      · unfold f7_sum l7_sum_39
        rw [bM_eq, g1, cV_some, if_neg h4, y_in03, cI_some, if_pos hx, if_neg (by decide), y_sumOf hw hpl g3.1 g4 (fun s hs => g5 s (by omega)) hw4, cI_some]
    · refine CC_ask (r := -1) (M1 := M1) (M2 := M2) h ?_ e2 ?_ g2
      · unfold f6_sum l6_sum_52
        rw [bN_eq, if_pos hD.ok, bN_eq, if_pos hD.ok, e1, cV_some, if_neg h4, x_figure e3, cI_some, if_neg hx]
      · unfold f7_sum l7_sum_39
        rw [bM_eq, g1, cV_some, if_neg h4, y_in03, cI_some, if_neg hx, if_pos rfl]
theorem t_takes (h : TT M q) (x y : Int32) : CC (f6_takes x y) (f7_takes x y) M q := by
  have hw := h.1.1
  have hT := hw.T
  have hB := hw.B
  have hpo := hw.pow
  have hD := h.2.1.2.2.1
  have hn : vN (sI M 46 0 0) q := h.2.2.mv (raised0 M)
  obtain ⟨M2, g1, g2, g3⟩ := y_asTold hw hn.1 hn.2.2.2.2
  by_cases h1 : okR x (q.1 1) = true
  · obtain ⟨b, hb, rfl⟩ := okR_t h1 (by omega)
    have hb2 := hw.bus b hb
    have hcap : scap q.1 b ≤ 200 := hb2.2.1.2
    have k2 : ∀ (y2 : Bool), okR y (scap q.1 b + 1) = y2 → l7_takes_33 (nI b) y (nI b) 0 y M2 = if y2 = true then cI (f7_takesOf (nI b) y M2) (fun r_3 M => l7_takes_53 r_3 M) else l7_takes_52 M2 := by
      intro y2 hy2
      unfold l7_takes_33
      rw [nx_l1, y_of g3.1 (by omega) (by omega), cI_some, show q.1 (50 + 6 * b + 1) = scap q.1 b from rfl, y_in0S _ (by omega), cI_some, hy2]
      cases y2 with
      | true => rfl
      | false => rfl
    by_cases h2 : okR y (scap q.1 b + 1) = true
    · have k2 := k2 true h2
      obtain ⟨v, hv, rfl⟩ := okR_t h2 (by omega)
      refine CC_ask (r := nI (sgain q.1 (q.1 4) b v)) (M1 := M) (M2 := M2) h ?_ KF.rf ?_ ((raised0 M).tr g2)
      · unfold f6_takes
        rw [bN_eq, if_pos hD.ok, x_hasLevel hD hw, cI_some, nx_cl (by omega), if_pos (show okR (nI b) (q.1 1) = true ∧ okR (nI v) (scap q.1 b + 1) = true from ⟨h1, h2⟩), if_neg (by decide), bN_eq, if_pos hD.ok, bN_eq, if_pos hD.ok, nx_l1, aI_in (by omega) (by omega), hD.pow, x_gain hD hw hb (by omega) (by omega), cI_some]
      · unfold f7_takes
        rw [bM_eq, g1, cV_some, y_isBus g3.1 hw, cI_some, if_pos h1, if_neg (by decide), y_isBus g3.1 hw, cI_some, if_pos h1, if_neg (by decide), k2, if_pos rfl, y_takes g3.1 hw hb (by omega) (by show (sP0 q.1).2.2.1 < 1000; show q.1 4 < 1000; omega) g3.2.2.1, cI_some]
        rfl
    · have k2 := k2 false (Bool.eq_false_iff.mpr h2)
      refine CC_ask (r := -1) (M1 := M) (M2 := M2) h ?_ KF.rf ?_ ((raised0 M).tr g2)
      · unfold f6_takes
        rw [bN_eq, if_pos hD.ok, x_hasLevel hD hw, cI_some, nx_cl (by omega), if_neg (show ¬ (okR (nI b) (q.1 1) = true ∧ okR y (scap q.1 b + 1) = true) from fun z => h2 z.2), if_pos rfl]
      · unfold f7_takes
        rw [bM_eq, g1, cV_some, y_isBus g3.1 hw, cI_some, if_pos h1, if_neg (by decide), y_isBus g3.1 hw, cI_some, if_pos h1, if_neg (by decide), k2]
        rfl
  · refine CC_ask (r := -1) (M1 := M) (M2 := M2) h ?_ KF.rf ?_ ((raised0 M).tr g2)
    · unfold f6_takes
      rw [bN_eq, if_pos hD.ok, x_hasLevel hD hw, cI_some, if_neg (show ¬ (okR x (q.1 1) = true ∧ okR y (scap q.1 x.toNatClampNeg + 1) = true) from fun z => h1 z.1), if_pos rfl]
    · unfold f7_takes l7_takes_52 l7_takes_53
      rw [bM_eq, g1, cV_some, y_isBus g3.1 hw, cI_some, if_neg h1, if_pos rfl]
end ASK
