section PLAN7
variable {S : sS} {P : sP}
/-- settle's first loop -/
theorem x_se7 (hw : sWF S) (hP : pOK P) {rdy : Bool} {r d : Nat} (hr : r + 1 ≤ S 0) {c : Nat → Nat} (hb : bx S P rdy (S 0 - (r + 1)) c) {M : mm_M} (hvp : vP M d S P) (hvb : ∀ b, b < 4 → vB M S P b) (hv : vS M S P rdy (S 0 - (r + 1)) c) (h33 : ∀ s', s' < 16 → mI M 33 s' = nI (ssh S P s'))
    (h34 : ∀ k, k < 16 → k ≠ 0 → wok S P rdy (S 0 - (r + 1)) c k = true → mL M 34 (six S P (snx c k)) = lN (wv S P rdy r (snx c k))) (h34c : wmust S P rdy (S 0 - (r + 1)) c = 0 → mL M 34 (six S P c) = lN (wv S P rdy r c)) : ∀ (k b n : Nat), b + k = 4 → k < n →
    ∃ M', l2_settle_7 n (nI (S 0 - (r + 1))) (nI (sset (fun b => decide (c b < smt S P b) && sth S P (S 0 - (r + 1)) b) b)) (nI (sset (fun b => decide (c b < sdu S P rdy (S 0 - (r + 1)) b)) b)) (nI b) M = some M' ∧ Fr cSe M M' ∧ mI M' 40 0 = mI M 40 0 ∧
      (∀ j, mL M' 34 j = if j = six S P c then lN (wv S P rdy (r + 1) c) else mL M 34 j) ∧ ∀ j, mI M' 35 j = if j = six S P c then wput (mI M 35 j) (S 0 - (r + 1)) (nI (wa S P rdy r c)) else mI M 35 j := by
  have hT := hw.T
  have hix := six_lt hb.le
  have hpr := hw.price (S 0 - (r + 1)) (by omega)
  intro k
  induction k with
  | zero =>
    intro b n hk hn
    obtain ⟨n, rfl⟩ : ∃ m, n = m + 1 := ⟨n - 1, by omega⟩
    obtain rfl : b = 4 := by omega
    have n1 : nbest (wg S P rdy (wv S P rdy r) (S 0 - (r + 1)) c) (wok S P rdy (S 0 - (r + 1)) c) 1 = 0 := by
      show (if _ then 0 else 0) = 0
      split <;> rfl
    have main := x_se115 hw hP hr hb 15 1 FU M (by omega) (by omega) (by have := FU_big; omega) hvb hv h33 hvp.2.2.1 hvp.2.2.2.2.1 h34 (fun k hk1 _ _ => by rw [show k = 0 by omega, hvp.2.2.2.2.2.2.2.2, stk_0]; rfl)
    rw [n1] at main
    have hmu : wmust S P rdy (S 0 - (r + 1)) c < 16 := sset_lt _ 4
    unfold l2_settle_7 b2_settle_7 l2_settle_107
    rw [if_pos (by decide), bN_eq, hvp.1, if_pos hvp.2.1.ok, aI_in (by omega) (by omega), hvp.2.1.price _ (by omega), bL_eq, nI_l (by omega), show (64 : Int64) = lN 64 from rfl, lN_mul]
    rw [show sset (fun b => decide (c b < smt S P b) && sth S P (S 0 - (r + 1)) b) 4 = wcan S P (S 0 - (r + 1)) c from rfl, show sset (fun b => decide (c b < sdu S P rdy (S 0 - (r + 1)) b)) 4 = wmust S P rdy (S 0 - (r + 1)) c from rfl]
    by_cases hm : wmust S P rdy (S 0 - (r + 1)) c = 0
    · have g0 : wg S P rdy (wv S P rdy r) (S 0 - (r + 1)) c 0 = wv S P rdy r c := by unfold wg; rw [if_pos rfl, if_pos hm]
      rw [g0] at main
      rw [if_pos (by rw [hm]; rfl), bI_eq, hv.2.1, aL_in hix (by omega), h34c hm]
      exact main
    · have g0 : wg S P rdy (wv S P rdy r) (S 0 - (r + 1)) c 0 = 2 ^ 50 := by unfold wg; rw [if_pos rfl, if_neg hm]
      rw [g0] at main
      rw [if_neg (by rw [nx_lit0, nx_eq (by omega) (by omega)]; exact hm), show (1125899906842624 : Int64) = lN (2 ^ 50) from rfl]
      exact main
  | succ k ih =>
    intro b n hk hn
    obtain ⟨n, rfl⟩ : ∃ m, n = m + 1 := ⟨n - 1, by omega⟩
    have hb4 : b < 4 := by omega
    obtain ⟨u1, u2, u3, u4⟩ := hv.1 b hb4
    have h8 := (smt_spec S P b).1
    have hcb := hb.le b hb4
    have hdu : sdu S P rdy (S 0 - (r + 1)) b ≤ 9 := by unfold sdu; split <;> omega
    have hpw := pow_lt16 hb4
    have cl := sset_lt (fun b => decide (c b < smt S P b) && sth S P (S 0 - (r + 1)) b) b
    have ml := sset_lt (fun b => decide (c b < sdu S P rdy (S 0 - (r + 1)) b)) b
    have thl : sthN S P (S 0 - (r + 1)) 4 < 16 := sthN_lt _ 4
    have thb : sbit (sthN S P (S 0 - (r + 1)) 4) b = sth S P (S 0 - (r + 1)) b := sset_bit (fun b => sth S P (S 0 - (r + 1)) b) hb4
    have next := ih (b + 1) n (by omega) (by omega)
    -- what must be
    have mid : ∃ M', l2_settle_42 (l2_settle_7 n) (nI (S 0 - (r + 1))) (nI (sset (fun b => decide (c b < smt S P b) && sth S P (S 0 - (r + 1)) b) (b + 1))) (nI (sset (fun b => decide (c b < sdu S P rdy (S 0 - (r + 1)) b)) b)) (nI b) M = some M' ∧ Fr cSe M M' ∧ mI M' 40 0 = mI M 40 0 ∧
      (∀ j, mL M' 34 j = if j = six S P c then lN (wv S P rdy (r + 1) c) else mL M 34 j) ∧ ∀ j, mI M' 35 j = if j = six S P c then wput (mI M 35 j) (S 0 - (r + 1)) (nI (wa S P rdy r c)) else mI M 35 j := by
      have ms : sset (fun b => decide (c b < sdu S P rdy (S 0 - (r + 1)) b)) (b + 1) = sset (fun b => decide (c b < sdu S P rdy (S 0 - (r + 1)) b)) b + (if decide (c b < sdu S P rdy (S 0 - (r + 1)) b) = true then 2 ^ b else 0) := rfl
      unfold l2_settle_42 l2_settle_66
      rw [aI_in (by omega) (by omega), u4, aI_in (by omega) (by omega), u3]
      simp only [nx_le (show sdu S P rdy (S 0 - (r + 1)) b < 2 ^ 31 by omega) (show c b < 2 ^ 31 by omega)]
      by_cases q : sdu S P rdy (S 0 - (r + 1)) b ≤ c b
      · rw [if_pos q, nx_l1, nx_add]
        rw [ms, decide_eq_false (show ¬ c b < sdu S P rdy (S 0 - (r + 1)) b by omega)] at next
        exact next
      · rw [if_neg q, bI_eq, show (1 <<< (nI b &&& 31) : Int32) = nI (2 ^ b) from shl_pow' (by omega)]
        have hor := (or_pow ⟨_, show sset (fun b => decide (c b < sdu S P rdy (S 0 - (r + 1)) b)) b < 16 by omega⟩ ⟨b, hb4⟩ ml).1
        simp only at hor
        rw [hor, nx_l1, nx_add]
        rw [ms, decide_eq_true (show c b < sdu S P rdy (S 0 - (r + 1)) b by omega)] at next
        exact next
    have cs : sset (fun b => decide (c b < smt S P b) && sth S P (S 0 - (r + 1)) b) (b + 1) = sset (fun b => decide (c b < smt S P b) && sth S P (S 0 - (r + 1)) b) b + (if (decide (c b < smt S P b) && sth S P (S 0 - (r + 1)) b) = true then 2 ^ b else 0) := rfl
    unfold l2_settle_7 b2_settle_7
    rw [nx_l4, if_neg (by rw [nx_le (by omega) (by omega)]; omega), aI_in (by omega) (by omega), u4, aI_in (by omega) (by omega), (hvb b hb4).2.1]
    simp only [nx_le (show smt S P b < 2 ^ 31 by omega) (show c b < 2 ^ 31 by omega)]
    by_cases q : smt S P b ≤ c b
    · rw [if_pos q]
      rw [cs, decide_eq_false (show ¬ c b < smt S P b by omega)] at mid
      exact mid
    · rw [if_neg q, bI_eq, hv.2.2.2, bI_eq, show (1 <<< (nI b &&& 31) : Int32) = nI (2 ^ b) from shl_pow' (by omega)]
      have hct := can_tab ⟨_, show sset (fun b => decide (c b < smt S P b) && sth S P (S 0 - (r + 1)) b) b < 16 by omega⟩ ⟨b, hb4⟩ ⟨_, thl⟩ cl
      simp only at hct
      rw [hct, thb]
      rw [cs, decide_eq_true (show c b < smt S P b by omega), Bool.true_and] at mid
      exact mid
theorem x_settle (hw : sWF S) (hP : pOK P) {rdy : Bool} {r d : Nat} (hr : r + 1 ≤ S 0) {c : Nat → Nat} (hb : bx S P rdy (S 0 - (r + 1)) c) {M : mm_M} (hvp : vP M d S P) (hvb : ∀ b, b < 4 → vB M S P b) (hv : vS M S P rdy (S 0 - (r + 1)) c) (h33 : ∀ s', s' < 16 → mI M 33 s' = nI (ssh S P s'))
    (h34 : ∀ k, k < 16 → k ≠ 0 → wok S P rdy (S 0 - (r + 1)) c k = true → mL M 34 (six S P (snx c k)) = lN (wv S P rdy r (snx c k))) (h34c : wmust S P rdy (S 0 - (r + 1)) c = 0 → mL M 34 (six S P c) = lN (wv S P rdy r c)) :
    ∃ M', f2_settle (nI (S 0 - (r + 1))) M = some M' ∧ Fr cSe M M' ∧ mI M' 40 0 = mI M 40 0 ∧
      (∀ j, mL M' 34 j = if j = six S P c then lN (wv S P rdy (r + 1) c) else mL M 34 j) ∧ ∀ j, mI M' 35 j = if j = six S P c then wput (mI M 35 j) (S 0 - (r + 1)) (nI (wa S P rdy r c)) else mI M 35 j := x_se7 hw hP hr hb hvp hvb hv h33 h34 h34c 4 0 FU (by omega) (by have := FU_big; omega)
-- only the counts of four BUSES matter
theorem snx_cg {c c' : Nat → Nat} (h : ∀ b, b < 4 → c b = c' b) (k : Nat) : ∀ b, b < 4 → snx c k b = snx c' k b := fun b hb => by unfold snx; rw [h b hb]
theorem wg_cg {rdy : Bool} {W : (Nat → Nat) → Nat} {s : Nat} {c c' : Nat → Nat} (hW : ∀ c c', (∀ b, b < 4 → c b = c' b) → W c = W c') (h : ∀ b, b < 4 → c b = c' b) : wg S P rdy W s c = wg S P rdy W s c' := by
  funext k
  have h1 : wmust S P rdy s c = wmust S P rdy s c' := by
    unfold wmust sset
    exact ssum_congr 4 (fun b hb => by simp only [h b hb])
  have h2 : stk S P.2.2.1 c k 4 = stk S P.2.2.1 c' k 4 := stk_eq (fun b hb _ => h b hb)
  unfold wg
  rw [h1, h2, hW c c' h, hW _ _ (snx_cg h k)]
theorem wok_cg {rdy : Bool} {s : Nat} {c c' : Nat → Nat} (h : ∀ b, b < 4 → c b = c' b) : wok S P rdy s c = wok S P rdy s c' := by
  funext k
  have h1 : wmust S P rdy s c = wmust S P rdy s c' := by
    unfold wmust sset
    exact ssum_congr 4 (fun b hb => by simp only [h b hb])
  have h3 : wcan S P s c = wcan S P s c' := by
    unfold wcan sset
    exact ssum_congr 4 (fun b hb => by simp only [h b hb])
  have h2 : stk S P.2.2.1 c k 4 = stk S P.2.2.1 c' k 4 := stk_eq (fun b hb _ => h b hb)
  unfold wok
  rw [h1, h2, h3]
theorem wv_cg (rdy : Bool) : ∀ r (c c' : Nat → Nat), (∀ b, b < 4 → c b = c' b) → wv S P rdy r c = wv S P rdy r c'
  | 0, c, c', h => by
    show ssum _ 4 * 6400000 = ssum _ 4 * 6400000
    rw [ssum_congr 4 (fun b hb => by rw [h b hb])]
  | r + 1, c, c', h => by
    rw [wv_succ, wv_succ]
    unfold wa
    rw [wg_cg (wv_cg rdy r) h, wok_cg h]
theorem wa_cg (rdy : Bool) (r : Nat) {c c' : Nat → Nat} (h : ∀ b, b < 4 → c b = c' b) : wa S P rdy r c = wa S P rdy r c' := by
  unfold wa
  rw [wg_cg (wv_cg rdy r) h, wok_cg h]
theorem bx.cg {rdy : Bool} {s : Nat} {c c' : Nat → Nat} (hb : bx S P rdy s c) (h : ∀ b, b < 4 → c b = c' b) : bx S P rdy s c' := fun b hb4 => by rw [← h b hb4]; exact hb b hb4
theorem srk_cg {rdy : Bool} {s : Nat} {c c' : Nat → Nat} (h : ∀ b, b < 4 → c b = c' b) : srk S P rdy s c = srk S P rdy s c' := by
  unfold srk mrd
  simp only [h 0 (by omega), h 1 (by omega), h 2 (by omega), h 3 (by omega)]
theorem sum_snx {c : Nat → Nat} {k : Nat} (hk : k < 16) : ssum (snx c k) 4 = ssum c 4 + spop k := by
  have h := spop_sum ⟨k, hk⟩
  simp only at h
  rw [← h, ← ssum_add]
  apply ssum_congr
  intro b hb
  unfold snx
  split <;> omega
-- what stays while states are weighed
abbrev cWs : Nat → Prop := fun c => c = 26 ∨ (34 ≤ c ∧ c ≤ 40)
def vQ (M : mm_M) (d : Nat) (S : sS) (P : sP) : Prop := vP M d S P ∧ (∀ b, b < 4 → vB M S P b) ∧ ∀ s', s' < 16 → mI M 33 s' = nI (ssh S P s')
theorem vQ.mv {M M' : mm_M} {d : Nat} (h : vQ M d S P) (hf : Fr cWs M M') (h2 : mI M' 26 2 = mI M 26 2) (h40 : mI M' 40 0 = mI M 40 0) : vQ M' d S P := by
  obtain ⟨⟨q1, q2, q3, q4, q5, q6, ⟨w, w1, w2, w3⟩, q7, q8⟩, hb, h33⟩ := h
  refine ⟨⟨by rw [hf.mDep]; exact q1, q2.mv hf (fun c z => by rcases z with z | z <;> omega), by rw [hf.mI (by decide)]; exact q3, by rw [hf.mI (by decide)]; exact q4, by rw [hf.mI (by decide)]; exact q5, fun b hb => by rw [hf.mI (by decide)]; exact q6 b hb, ⟨w, w1, by rw [h2]; exact w2, w3⟩, by rw [hf.mI (by decide)]; exact q7, by rw [h40]; exact q8⟩, fun b hb' => (hb b hb').mv (fun x hx => by rcases hx with rfl | rfl <;> exact hf.mI (by decide) _) (fun x hx c hc => by rcases hx with rfl | rfl <;> exact hf.mI (by decide) _), fun s' hs' => by rw [hf.mI (by decide)]; exact h33 s' hs'⟩
theorem Fr.mL {Q : Nat → Prop} {M M' : mm_M} (h : Fr Q M M') {c : Nat} (hc : ¬ Q c) (k : Nat) : mL M' c k = mL M c k := by
  unfold _root_.Jvm.Pilot.@@N@@.mL; rw [h.2.1 c hc]
theorem cNs_ws : ∀ c, cNs c → cWs c := by intro c h; rcases h with h | h <;> omega
theorem cSe_ws : ∀ c, cSe c → cWs c := by intro c h; rcases h with h | h | h <;> omega
theorem cSp_ws : ∀ c, cSp c → cWs c := by intro c h; rcases h with h | h | h | h | h <;> omega
/-- where the loop of a SLOT stands: i states are done -/
def sdn (S : sS) (P : sP) (rdy : Bool) (s i : Nat) (c : Nat → Nat) : Prop := bx S P rdy s c ∧ srk S P rdy s c < i ∧ ssum c 4 ≤ P.2.1 * s
def vJ (M : mm_M) (S : sS) (P : sP) (rdy : Bool) (s i : Nat) : Prop :=
  (∀ c, (sdn S P rdy s i c → mL M 34 (six S P c) = lN (wv S P rdy (S 0 - s) c)) ∧ (¬ sdn S P rdy s i c → bx S P rdy (s + 1) c → ssum c 4 ≤ P.2.1 * (s + 1) → mL M 34 (six S P c) = lN (wv S P rdy (S 0 - (s + 1)) c))) ∧
  ∀ s' c, s ≤ s' → s' < S 0 → (s' = s → sdn S P rdy s i c) → bx S P rdy s' c → ssum c 4 ≤ P.2.1 * s' → wnib (mI M 35 (six S P c)) s' = nI (wa S P rdy (S 0 - (s' + 1)) c)
/-- the end of a SLOT -/
def vI (M : mm_M) (S : sS) (P : sP) (rdy : Bool) (s : Nat) : Prop :=
  (∀ c, bx S P rdy s c → ssum c 4 ≤ P.2.1 * s → mL M 34 (six S P c) = lN (wv S P rdy (S 0 - s) c)) ∧
  ∀ s' c, s ≤ s' → s' < S 0 → bx S P rdy s' c → ssum c 4 ≤ P.2.1 * s' → wnib (mI M 35 (six S P c)) s' = nI (wa S P rdy (S 0 - (s' + 1)) c)
theorem vJ.mv {M M' : mm_M} {rdy : Bool} {s i : Nat} (h : vJ M S P rdy s i) (hf : Fr cNs M M') : vJ M' S P rdy s i := by
  refine ⟨fun c => ?_, fun s' c => ?_⟩
  · rw [hf.mL (by decide)]; exact h.1 c
  · rw [hf.mI (by decide)]; exact h.2 s' c
theorem vJ_step {M M' : mm_M} {rdy : Bool} {r i : Nat} (hT : S 0 ≤ 8) (hr : r + 1 ≤ S 0) {c : Nat → Nat} (h : vJ M S P rdy (S 0 - (r + 1)) i) (hb : bx S P rdy (S 0 - (r + 1)) c) (hi : srk S P rdy (S 0 - (r + 1)) c = i) (hs : ssum c 4 ≤ P.2.1 * (S 0 - (r + 1)))
    (e4 : ∀ j, mL M' 34 j = if j = six S P c then lN (wv S P rdy (r + 1) c) else mL M 34 j) (e5 : ∀ j, mI M' 35 j = if j = six S P c then wput (mI M 35 j) (S 0 - (r + 1)) (nI (wa S P rdy r c)) else mI M 35 j) (hwa : wa S P rdy r c < 16) : vJ M' S P rdy (S 0 - (r + 1)) (i + 1) := by
  have hTr : S 0 - (S 0 - (r + 1)) = r + 1 := by omega
  have hTr2 : S 0 - (S 0 - (r + 1) + 1) = r := by omega
  have same : ∀ c', (∀ b, b < 4 → c' b ≤ smt S P b) → six S P c' = six S P c → ∀ b, b < 4 → c b = c' b := fun c' h1 h2 => six_inj hb.le h1 h2.symm
  refine ⟨fun c' => ⟨fun hd => ?_, fun hd hb' hs' => ?_⟩, fun s' c' h1 h2 h3 hb' hs' => ?_⟩
  · rw [e4]
    by_cases hq : six S P c' = six S P c
    · have hcc := same c' hd.1.le hq
      rw [if_pos hq, hTr, wv_cg rdy _ _ _ hcc]
    · rw [if_neg hq]
      refine (h.1 c').1 ⟨hd.1, ?_, hd.2.2⟩
      have h2 := hd.2.1
      have : srk S P rdy (S 0 - (r + 1)) c' ≠ i := fun z => by
        have := srk_inj hb hd.1 (by rw [hi, z])
        apply hq
        unfold six
        exact ssum_congr 4 (fun k hk => by rw [this k hk])
      omega
  · rw [e4]
    have hnq : six S P c' ≠ six S P c := fun hq => by
      have hcc := same c' hb'.le hq
      apply hd
      refine ⟨hb.cg hcc, ?_, ?_⟩
      · rw [← srk_cg hcc, hi]; omega
      · rw [ssum_congr (g := c) 4 (fun k hk => (hcc k hk).symm)]; exact hs
    rw [if_neg hnq]
    refine (h.1 c').2 (fun z => hd ⟨z.1, by have := z.2.1; omega, z.2.2⟩) hb' hs'
  · rw [e5]
    by_cases hq : six S P c' = six S P c
    · have hcc := same c' hb'.le hq
      rw [if_pos hq]
      by_cases hss : s' = S 0 - (r + 1)
      · subst hss
        rw [wnib_put _ (by omega) hwa, hTr2, wa_cg rdy r hcc]
      · rw [wnib_put_ne _ (by omega) (by omega) hss hwa]
        exact h.2 s' c' h1 h2 (fun z => absurd z hss) hb' hs'
    · rw [if_neg hq]
      refine h.2 s' c' h1 h2 (fun z => ?_) hb' hs'
      have hd := h3 z
      refine ⟨hd.1, ?_, hd.2.2⟩
      have h2 := hd.2.1
      have : srk S P rdy (S 0 - (r + 1)) c' ≠ i := fun z => by
        have := srk_inj hb hd.1 (by rw [hi, z])
        apply hq
        unfold six
        exact ssum_congr 4 (fun k hk => by rw [this k hk])
      omega
theorem vJ_skip {M : mm_M} {rdy : Bool} {s i : Nat} {c : Nat → Nat} (h : vJ M S P rdy s i) (hb : bx S P rdy s c) (hi : srk S P rdy s c = i) (hs : P.2.1 * s < ssum c 4) : vJ M S P rdy s (i + 1) := by
  have key : ∀ c', sdn S P rdy s (i + 1) c' → sdn S P rdy s i c' := fun c' hd => by
    refine ⟨hd.1, ?_, hd.2.2⟩
    have h2 := hd.2.1
    have h3 := hd.2.2
    have : srk S P rdy s c' ≠ i := fun z => by
      have := srk_inj hb hd.1 (by rw [hi, z])
      rw [ssum_congr (g := c) 4 (fun k hk => (this k hk).symm)] at h3
      omega
    omega
  refine ⟨fun c' => ⟨fun hd => (h.1 c').1 (key c' hd), fun hd => (h.1 c').2 (fun z => hd ⟨z.1, by have := z.2.1; omega, z.2.2⟩)⟩, fun s' c' h1 h2 h3 => h.2 s' c' h1 h2 (fun z => key c' (h3 z))⟩
theorem wa_lt (rdy : Bool) (r : Nat) (c : Nat → Nat) : wa S P rdy r c < 16 := (nok_iff.mp (nbest_iB (wg S P rdy (wv S P rdy r) (S 0 - (r + 1)) c) (wok S P rdy (S 0 - (r + 1)) c) 15).1).1
end PLAN7
