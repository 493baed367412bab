section WEIGH
variable {d : Nat} {S : sS} {pl : Nat → Nat}
abbrev cLg : Nat → Prop := fun c => c = 23 ∨ c = 24 ∨ c = 25
theorem cLg_ge : ∀ c, cLg c → 20 ≤ c := by intro c h; rcases h with h | h | h <;> omega
theorem c24_ge : ∀ c, c = 24 → 20 ≤ c := by intro c h; omega
theorem vD.plug {M : mm_M} (h : vD M d S) : mI M (d + 1) 0 = nI (S 3) := h.set 0 (by omega)
theorem vD.pow {M : mm_M} (h : vD M d S) : mI M (d + 1) 1 = nI (S 4) := h.set 1 (by omega)
theorem vD.lim {M : mm_M} (h : vD M d S) : mI M (d + 1) 2 = nI (S 5) := h.set 2 (by omega)
theorem x_levelAt {M : mm_M} {b s : Nat} (hb : b < 4) (hs : s < 9) : f1_levelAt (nI b) (nI s) M = some (mI M 24 (9 * b + s), M) := by
  unfold f1_levelAt
  simp only [nx_l9, nx_mul, nx_add]
  rw [aI_in (by omega) (by omega), show b * 9 + s = 9 * b + s by omega]
/-- chargeSlot, from BUS b on -/
theorem x_cs_loop (hw : sWF S) (hpl : ∀ s, s < S 0 → pl s < 16) {s : Nat} (hs : s < S 0) : ∀ (k b n : Nat) (M : mm_M), b + k = S 1 → k < n → vD M d S → (∀ b', b' < S 1 → mI M 24 (9 * b' + s) = nI (slv S (scom S) (S 4) pl b' s)) →
    ∃ M', l1_chargeSlot_6 n d (nI s) (nI (pl s)) (nI (sus S (scom S) (S 4) pl s b)) (nI b) M = some (nI (sused S (scom S) (S 4) pl s), M') ∧ Fr (fun c => c = 24) M M' ∧ (∀ b', b ≤ b' → b' < S 1 → mI M' 24 (9 * b' + s + 1) = nI (slv S (scom S) (S 4) pl b' (s + 1))) ∧ ∀ j, (∀ b', b ≤ b' → b' < S 1 → j ≠ 9 * b' + s + 1) → mI M' 24 j = mI M 24 j := by
  have hT := hw.T
  have hB := hw.B
  have hps := hpl s hs
  intro k
  induction k with
  | zero =>
    intro b n M hk hn hv hl
    obtain ⟨n, rfl⟩ : ∃ m, n = m + 1 := ⟨n - 1, by omega⟩
    refine ⟨M, ?_, Fr.rf, fun b' h1 h2 => by omega, fun _ _ => rfl⟩
    unfold l1_chargeSlot_6 b1_chargeSlot_6
    rw [bI_eq, hv.B, if_pos (by rw [nx_le (by omega) (by omega)]; omega), show b = S 1 by omega]
    rfl
  | succ k ih =>
    intro b n M hk hn hv hl
    obtain ⟨n, rfl⟩ : ∃ m, n = m + 1 := ⟨n - 1, by omega⟩
    have hb : b < S 1 := by omega
    have hb2 := hw.bus b hb
    have hcap : slv S (scom S) (S 4) pl b s ≤ scap S b := slv_le hb2.2.2.1 s
    have hcap2 : scap S b ≤ 200 := hb2.2.1.2
    have hpow := hw.pow
    -- what is added, whatever the way
    have step : ∀ g : Nat, g = sinc S (scom S) (S 4) pl b s (slv S (scom S) (S 4) pl b s) → ∃ M', l1_chargeSlot_63 (l1_chargeSlot_6 n) d (nI s) (nI (pl s)) (nI (sus S (scom S) (S 4) pl s b)) (nI b) (nI (slv S (scom S) (S 4) pl b s)) (nI g) M = some (nI (sused S (scom S) (S 4) pl s), M') ∧ Fr (fun c => c = 24) M M' ∧ (∀ b', b ≤ b' → b' < S 1 → mI M' 24 (9 * b' + s + 1) = nI (slv S (scom S) (S 4) pl b' (s + 1))) ∧ ∀ j, (∀ b', b ≤ b' → b' < S 1 → j ≠ 9 * b' + s + 1) → mI M' 24 j = mI M 24 j := by
      intro g hg
      have f0 : Fr (fun c => c = 24) M (sI M 24 (b * 9 + s + 1) (nI (slv S (scom S) (S 4) pl b (s + 1)))) := Fr.sI rfl
      obtain ⟨M', e1, e2, e3, e4⟩ := ih (b + 1) n (sI M 24 (b * 9 + s + 1) (nI (slv S (scom S) (S 4) pl b (s + 1)))) (by omega) (by omega) (hv.mv f0 c24_ge) (fun b' hb' => by rw [mI_sI_k _ _ _ (by omega)]; exact hl b' hb')
      refine ⟨M', ?_, f0.tr e2, fun b' h1 h2 => ?_, fun j hj => ?_⟩
      · unfold l1_chargeSlot_63
        simp only [nx_l9, nx_l1, nx_mul, nx_add, bI_eq]
        rw [uI_in (by omega) (by omega)]
        rw [show slv S (scom S) (S 4) pl b s + g = slv S (scom S) (S 4) pl b (s + 1) by rw [hg]; rfl, show sus S (scom S) (S 4) pl s b + g = sus S (scom S) (S 4) pl s (b + 1) by rw [hg]; rfl]
        exact e1
      · by_cases hbb : b' = b
        · subst hbb
          rw [e4 (9 * b' + s + 1) (fun b'' h3 h4 => by omega), show 9 * b' + s + 1 = b' * 9 + s + 1 by omega, mI_sI_eq]
        · exact e3 b' (by omega) h2
      · rw [e4 j (fun b' h3 h4 => hj b' (by omega) h4)]
        exact mI_sI_k _ _ _ (by have := hj b (Nat.le_refl _) hb; omega)
    unfold l1_chargeSlot_6 b1_chargeSlot_6
    rw [bI_eq, hv.B, if_neg (by rw [nx_le (by omega) (by omega)]; omega), x_levelAt (by omega) (by omega), cI_some, hl b hb]
    simp only [bit_has' hps (show b < 4 by omega)]
    by_cases h1 : sbit (pl s) b = true
    · rw [if_pos h1, x_isThere hv hw hb (by omega), cI_some]
      by_cases h2 : sthere (scom S b) (sgo S b) s = true
      · rw [if_pos h2, if_neg (by decide), nx_l1, aI_in (by omega) (by omega), hv.pow, x_gain hv hw hb hcap (by omega), cI_some]
        exact step _ (by simp [sinc, h1, h2])
      · rw [if_neg h2, if_pos rfl]
        exact step 0 (by simp [sinc, h2])
    · rw [if_neg h1]
      exact step 0 (by simp [sinc, h1])
theorem x_chargeSlot (hw : sWF S) (hpl : ∀ s, s < S 0 → pl s < 16) {s : Nat} (hs : s < S 0) {M : mm_M} (hv : vD M d S) (hl : ∀ b', b' < S 1 → mI M 24 (9 * b' + s) = nI (slv S (scom S) (S 4) pl b' s)) :
    ∃ M', f1_chargeSlot d (nI s) (nI (pl s)) M = some (nI (sused S (scom S) (S 4) pl s), M') ∧ Fr (fun c => c = 24) M M' ∧ (∀ b', b' < S 1 → mI M' 24 (9 * b' + s + 1) = nI (slv S (scom S) (S 4) pl b' (s + 1))) ∧ ∀ j, (∀ b', b' < S 1 → j ≠ 9 * b' + s + 1) → mI M' 24 j = mI M 24 j := by
  have hB := hw.B
  have hF := FU_big
  obtain ⟨M', e1, e2, e3, e4⟩ := x_cs_loop (d := d) hw hpl hs (S 1) 0 FU M (by omega) (by omega) hv hl
  refine ⟨M', ?_, e2, fun b' h => e3 b' (by omega) h, fun j hj => e4 j (fun b' _ h => hj b' h)⟩
  unfold f1_chargeSlot
  rw [if_pos hv.ok]
  exact e1
theorem x_lackOf (hw : sWF S) {M : mm_M} (hv : vD M d S) {b : Nat} (hb : b < S 1) (hl : mI M 24 (9 * b + S 0) = nI (slv S (scom S) (S 4) pl b (S 0))) : f1_lackOf d (nI b) M = some (nI (slack S (scom S) (S 4) pl b), M) := by
  have hB := hw.B
  have hT := hw.T
  have hb2 := hw.bus b hb
  have hcap : slv S (scom S) (S 4) pl b (S 0) ≤ scap S b := slv_le hb2.2.2.1 _
  have hcap2 : scap S b ≤ 200 := hb2.2.1.2
  have hn : sneed S b ≤ scap S b := hb2.2.2.2.1
  unfold f1_lackOf
  rw [if_pos hv.ok, nx_l3, x_fact hv (by omega) (by omega), cI_some, bI_eq, hv.T, x_levelAt (by omega) (by omega), cI_some, bI_eq, hl]
  rw [show S (50 + 6 * b + 3) = sneed S b from rfl]
  congr 2
  by_cases h : slv S (scom S) (S 4) pl b (S 0) ≤ sneed S b
  · rw [nx_sub h, nx_lit0, mx_nI (by omega) (by omega)]
    unfold slack
    congr 1
    try exact Nat.max_eq_right (Nat.zero_le _)
  · have e : slack S (scom S) (S 4) pl b = 0 := by unfold slack; omega
    rw [e]
    unfold mx
    rw [if_neg]
    · rfl
    · have hs2 := nx_sub (show sneed S b ≤ slv S (scom S) (S 4) pl b (S 0) by omega)
      rw [Int32.lt_iff_toInt_lt]
      have e2 : nI (sneed S b) - nI (slv S (scom S) (S 4) pl b (S 0)) = -(nI (slv S (scom S) (S 4) pl b (S 0) - sneed S b)) := by
        rw [← hs2, Int32.neg_sub]
      rw [e2, Int32.toInt_neg, nI_toInt (by omega)]
      have e3 : (-(((slv S (scom S) (S 4) pl b (S 0) - sneed S b : Nat) : Int))).bmod (2 ^ 32) = -((slv S (scom S) (S 4) pl b (S 0) - sneed S b : Nat) : Int) := by
        apply Int.bmod_eq_of_le <;> omega
      rw [e3]
      have : (0 : Int32).toInt = 0 := rfl
      rw [this]
      omega
/-- the weighed plan, in the ledger -/
def vL (M : mm_M) (S : sS) (pl : Nat → Nat) : Prop := mI M 23 2 = nI (scost S (scom S) (S 4) pl) ∧ mI M 23 3 = nI (schg S pl) ∧ mI M 23 4 = nI (sall S (scom S) (S 4) pl) ∧ mI M 23 5 = nI (speak S (scom S) (S 4) pl) ∧ (∀ s, s < S 0 → mI M 25 s = nI (sused S (scom S) (S 4) pl s)) ∧ ∀ b s, b < S 1 → s ≤ S 0 → mI M 24 (9 * b + s) = nI (slv S (scom S) (S 4) pl b s)
/-- the last loop: LACK -/
theorem x_w139 (hw : sWF S) : ∀ (k b n : Nat) (M : mm_M), b + k = S 1 → k < n → vD M d S → mI M 23 4 = nI (ssum (fun b => slack S (scom S) (S 4) pl b) b) → (∀ b', b' < S 1 → mI M 24 (9 * b' + S 0) = nI (slv S (scom S) (S 4) pl b' (S 0))) →
    ∃ M', l1_weigh_139 n d (nI b) M = some M' ∧ Fr (fun c => c = 23) M M' ∧ mI M' 23 4 = nI (sall S (scom S) (S 4) pl) ∧ ∀ j, j ≠ 4 → mI M' 23 j = mI M 23 j := by
  have hB := hw.B
  intro k
  induction k with
  | zero =>
    intro b n M hk hn hv h0 hl
    obtain ⟨n, rfl⟩ : ∃ m, n = m + 1 := ⟨n - 1, by omega⟩
    refine ⟨M, ?_, Fr.rf, by rw [h0, show b = S 1 by omega]; rfl, fun _ _ => rfl⟩
    unfold l1_weigh_139 b1_weigh_139
    rw [bI_eq, hv.B, if_pos (by rw [nx_le (by omega) (by omega)]; omega)]
  | succ k ih =>
    intro b n M hk hn hv h0 hl
    obtain ⟨n, rfl⟩ : ∃ m, n = m + 1 := ⟨n - 1, by omega⟩
    have hb : b < S 1 := by omega
    have f0 : Fr (fun c => c = 23) M (sI M 23 4 (nI (ssum (fun b => slack S (scom S) (S 4) pl b) (b + 1)))) := Fr.sI rfl
    obtain ⟨M', e1, e2, e3, e4⟩ := ih (b + 1) n _ (by omega) (by omega) (hv.mv f0 (by intro c h; omega)) (mI_sI_eq _ _ _ _) (fun b' hb' => by rw [mI_sI_c _ _ _ _ (by decide)]; exact hl b' hb')
    refine ⟨M', ?_, f0.tr e2, e3, fun j hj => by rw [e4 j hj, mI_sI_k _ _ _ hj]⟩
    unfold l1_weigh_139 b1_weigh_139
    rw [bI_eq, hv.B, if_neg (by rw [nx_le (by omega) (by omega)]; omega), bI_eq, x_lackOf hw hv hb (hl b hb), cI_some, bM_eq, h0, nx_l1]
    simp only [nx_add]
    exact e1
/-- the loop of SLOTS -/
theorem x_w53 (hw : sWF S) (hpl : ∀ s, s < S 0 → pl s < 16) {a : Nat} (ha : isA a = true) (ha8 : mm_n a = 8) (hna : ¬ cLg a) : ∀ (k s n : Nat) (M : mm_M), s + k = S 0 → k < n → vD M d S → (∀ s, s < S 0 → mI M a s = nI (pl s)) →
    mI M 23 2 = nI (ssum (fun s => sused S (scom S) (S 4) pl s * S (6 + s)) s) → mI M 23 3 = nI (ssum (fun s => spop (pl s)) s) → mI M 23 4 = 0 → mI M 23 5 = nI (smax (fun s => sused S (scom S) (S 4) pl s) s) → (∀ s', s' < s → mI M 25 s' = nI (sused S (scom S) (S 4) pl s')) → (∀ b s', b < S 1 → s' ≤ s → mI M 24 (9 * b + s') = nI (slv S (scom S) (S 4) pl b s')) →
    ∃ M', l1_weigh_53 n d a (nI s) M = some M' ∧ Fr cLg M M' ∧ vL M' S pl := by
  have hT := hw.T
  have hB := hw.B
  have hF := FU_big
  intro k
  induction k with
  | zero =>
    intro s n M hk hn hv hp h2 h3 h4 h5 h6 h7
    obtain ⟨n, rfl⟩ : ∃ m, n = m + 1 := ⟨n - 1, by omega⟩
    have hs : s = S 0 := by omega
    subst hs
    obtain ⟨M', e1, e2, e3, e4⟩ := x_w139 (d := d) (pl := pl) hw (S 1) 0 FU M (by omega) (by omega) hv (by rw [h4]; rfl) (fun b' hb' => h7 b' (S 0) hb' (Nat.le_refl _))
    refine ⟨M', ?_, e2.wd (fun c h => Or.inl h), by rw [e4 2 (by decide), h2]; rfl, by rw [e4 3 (by decide), h3]; rfl, e3, by rw [e4 5 (by decide), h5]; rfl, fun s hs => ?_, fun b s hb hs => ?_⟩
    · unfold l1_weigh_53 b1_weigh_53
      rw [bI_eq, hv.T, if_pos (by rw [nx_le (by omega) (by omega)]; omega)]
      exact e1
    · rw [e2.mI (by decide)]; exact h6 s hs
    · rw [e2.mI (by decide)]; exact h7 b s hb hs
  | succ k ih =>
    intro s n M hk hn hv hp h2 h3 h4 h5 h6 h7
    obtain ⟨n, rfl⟩ : ∃ m, n = m + 1 := ⟨n - 1, by omega⟩
    have hs : s < S 0 := by omega
    have hps := hpl s hs
    obtain ⟨M1, c1, c2, c3, c4⟩ := x_chargeSlot (d := d) hw hpl hs hv (fun b' hb' => h7 b' s hb' (Nat.le_refl _))
    have hu := sus_bd hw (scom S) (S 4) pl s (Nat.le_refl (S 1))
    have hpk := smax_le (f := fun s => sused S (scom S) (S 4) pl s) (B := 800) s (fun k hk => sus_bd hw (scom S) (S 4) pl k (Nat.le_refl (S 1)))
    have hv1 := hv.mv c2 c24_ge
    have ha24 : ¬ a = 24 := fun e => hna (Or.inr (Or.inl e))
    have ha25 : a ≠ 25 := fun e => hna (Or.inr (Or.inr e))
    have ha23 : a ≠ 23 := fun e => hna (Or.inl e)
    -- the memory behind this SLOT
    let M2 := sI M1 25 s (nI (sused S (scom S) (S 4) pl s))
    let M3 := sI M2 23 2 (nI (ssum (fun s => sused S (scom S) (S 4) pl s * S (6 + s)) (s + 1)))
    let M4 := sI M3 23 5 (nI (smax (fun s => sused S (scom S) (S 4) pl s) (s + 1)))
    let M5 := sI M4 23 3 (nI (ssum (fun s => spop (pl s)) (s + 1)))
    have f2 : Fr cLg M M2 := (c2.wd (fun c h => Or.inr (Or.inl h))).tr (Fr.sI (Or.inr (Or.inr rfl)))
    have f3 : Fr cLg M M3 := f2.tr (Fr.sI (Or.inl rfl))
    have f4 : Fr cLg M M4 := f3.tr (Fr.sI (Or.inl rfl))
    have f5 : Fr cLg M M5 := f4.tr (Fr.sI (Or.inl rfl))
    have g23 : ∀ j, mI M2 23 j = mI M 23 j := fun j => by
      show mI (sI M1 25 s _) 23 j = _
      rw [mI_sI_c _ _ _ _ (by decide), c2.mI (by decide)]
    obtain ⟨M', e1, e2, e3⟩ := ih (s + 1) n M5 (by omega) (by omega) (hv.mv f5 cLg_ge) (fun s' hs' => by rw [f5.mI hna]; exact hp s' hs')
      (by show mI (sI M4 23 3 _) 23 2 = _; rw [mI_sI_k _ _ _ (by decide)]; show mI (sI M3 23 5 _) 23 2 = _; rw [mI_sI_k _ _ _ (by decide)]; exact mI_sI_eq _ _ _ _)
      (mI_sI_eq _ _ _ _)
      (by show mI (sI M4 23 3 _) 23 4 = _; rw [mI_sI_k _ _ _ (by decide)]; show mI (sI M3 23 5 _) 23 4 = _; rw [mI_sI_k _ _ _ (by decide)]; show mI (sI M2 23 2 _) 23 4 = _; rw [mI_sI_k _ _ _ (by decide), g23]; exact h4)
      (by show mI (sI M4 23 3 _) 23 5 = _; rw [mI_sI_k _ _ _ (by decide)]; exact mI_sI_eq _ _ _ _)
      (fun s' hs' => by
        show mI (sI M4 23 3 _) 25 s' = _
        rw [mI_sI_c _ _ _ _ (by decide)]
        show mI (sI M3 23 5 _) 25 s' = _
        rw [mI_sI_c _ _ _ _ (by decide)]
        show mI (sI M2 23 2 _) 25 s' = _
        rw [mI_sI_c _ _ _ _ (by decide)]
        show mI (sI M1 25 s _) 25 s' = _
        by_cases hss : s' = s
        · subst hss; rw [mI_sI_eq]
        · rw [mI_sI_k _ _ _ hss, c2.mI (by decide)]; exact h6 s' (by omega))
      (fun b s' hb hs' => by
        show mI (sI M4 23 3 _) 24 _ = _
        rw [mI_sI_c _ _ _ _ (by decide)]
        show mI (sI M3 23 5 _) 24 _ = _
        rw [mI_sI_c _ _ _ _ (by decide)]
        show mI (sI M2 23 2 _) 24 _ = _
        rw [mI_sI_c _ _ _ _ (by decide)]
        show mI (sI M1 25 s _) 24 _ = _
        rw [mI_sI_c _ _ _ _ (by decide)]
        by_cases hss : s' = s + 1
        · subst hss; exact c3 b hb
        · rw [c4 _ (fun b' hb' => by omega)]; exact h7 b s' hb (by omega))
    refine ⟨M', ?_, f5.tr e2, e3⟩
    unfold l1_weigh_53 b1_weigh_53
    have hna8 : s < mm_n a := by omega
    have hpr := hw.price s (by omega)
    have hvp : ∀ (Mx : mm_M), Fr cLg M Mx → mI Mx (d + 2) s = nI (S (6 + s)) := fun Mx hx => (hv.mv hx cLg_ge).price s (by omega)
    have hpa : ∀ (Mx : mm_M), Fr cLg M Mx → mI Mx a s = nI (pl s) := fun Mx hx => by rw [hx.mI hna]; exact hp s hs
    rw [bI_eq, hv.T, if_neg (by rw [nx_le (by omega) (by omega)]; omega), aI_in hna8 (by omega), hp s hs, c1, cI_some, uI_in (by omega) (by omega), bI_eq]
    rw [show mI (sI M1 25 s (nI (sused S (scom S) (S 4) pl s))) 23 2 = nI (ssum (fun s => sused S (scom S) (S 4) pl s * S (6 + s)) s) from (g23 2).trans h2]
    rw [aI_in (by omega) (by omega), mI_sI_eq, aI_in (by omega) (by omega), hvp _ f2, bM_eq]
    simp only [nx_mul, nx_add]
    rw [bI_eq, show mI (sI (sI M1 25 s (nI (sused S (scom S) (S 4) pl s))) 23 2 (nI (ssum (fun s => sused S (scom S) (S 4) pl s * S (6 + s)) s + sused S (scom S) (S 4) pl s * S (6 + s)))) 23 5 = nI (smax (fun s => sused S (scom S) (S 4) pl s) s) by rw [mI_sI_k _ _ _ (by decide)]; exact (g23 5).trans h5]
    rw [aI_in (by omega) (by omega), mI_sI_c _ _ _ _ (by decide), mI_sI_eq, mx_nI (by omega) (by unfold sused; omega), bI_eq, bM_eq, bI_eq]
    rw [mI_sI_k _ _ _ (show (3 : Nat) ≠ 5 by decide), mI_sI_k _ _ _ (show (3 : Nat) ≠ 2 by decide), show mI (sI M1 25 s (nI (sused S (scom S) (S 4) pl s))) 23 3 = nI (ssum (fun s => spop (pl s)) s) from (g23 3).trans h3]
    rw [aI_in hna8 (by omega), show mI (sI (sI (sI M1 25 s (nI (sused S (scom S) (S 4) pl s))) 23 2 (nI (ssum (fun s => sused S (scom S) (S 4) pl s * S (6 + s)) s + sused S (scom S) (S 4) pl s * S (6 + s)))) 23 5 (nI (max (smax (fun s => sused S (scom S) (S 4) pl s) s) (sused S (scom S) (S 4) pl s)))) a s = nI (pl s) from hpa _ f4]
    rw [aT_in (by omega) (by omega), size_tab ⟨pl s, hps⟩, bM_eq, nx_l1]
    simp only [nx_add]
    exact e1
/-- the first loop: LEVELS at the beginning -/
theorem x_w22 (hw : sWF S) (hpl : ∀ s, s < S 0 → pl s < 16) {a : Nat} (ha : isA a = true) (ha8 : mm_n a = 8) (hna : ¬ cLg a) : ∀ (k b n : Nat) (M : mm_M), b + k = S 1 → k < n → vD M d S → (∀ s, s < S 0 → mI M a s = nI (pl s)) →
    mI M 23 2 = 0 → mI M 23 3 = 0 → mI M 23 4 = 0 → mI M 23 5 = 0 → (∀ b', b' < b → mI M 24 (9 * b') = nI (slev S b')) → ∃ M', l1_weigh_22 n d a (nI b) M = some M' ∧ Fr cLg M M' ∧ vL M' S pl := by
  have hT := hw.T
  have hB := hw.B
  have hF := FU_big
  intro k
  induction k with
  | zero =>
    intro b n M hk hn hv hp h2 h3 h4 h5 h6
    obtain ⟨n, rfl⟩ : ∃ m, n = m + 1 := ⟨n - 1, by omega⟩
    obtain ⟨M', e1, e2, e3⟩ := x_w53 (d := d) hw hpl ha ha8 hna (S 0) 0 FU M (by omega) (by omega) hv hp (by rw [h2]; rfl) (by rw [h3]; rfl) h4 (by rw [h5]; rfl) (fun s' hs' => by omega) (fun b' s' hb' hs' => by
      rw [show s' = 0 by omega]; exact h6 b' (by omega))
    refine ⟨M', ?_, e2, e3⟩
    unfold l1_weigh_22 b1_weigh_22
    rw [bI_eq, hv.B, if_pos (by rw [nx_le (by omega) (by omega)]; omega)]
    exact e1
  | succ k ih =>
    intro b n M hk hn hv hp h2 h3 h4 h5 h6
    obtain ⟨n, rfl⟩ : ∃ m, n = m + 1 := ⟨n - 1, by omega⟩
    have f0 : Fr cLg M (sI M 24 (b * 9) (nI (slev S b))) := Fr.sI (Or.inr (Or.inl rfl))
    obtain ⟨M', e1, e2, e3⟩ := ih (b + 1) n (sI M 24 (b * 9) (nI (slev S b))) (by omega) (by omega) (hv.mv f0 cLg_ge) (fun s hs => by rw [f0.mI hna]; exact hp s hs) (by rw [mI_sI_c _ _ _ _ (by decide)]; exact h2) (by rw [mI_sI_c _ _ _ _ (by decide)]; exact h3) (by rw [mI_sI_c _ _ _ _ (by decide)]; exact h4) (by rw [mI_sI_c _ _ _ _ (by decide)]; exact h5) (fun b' hb' => by
      by_cases hbb : b' = b
      · subst hbb; rw [show 9 * b' = b' * 9 by omega, mI_sI_eq]
      · rw [mI_sI_k _ _ _ (by omega)]; exact h6 b' (by omega))
    refine ⟨M', ?_, f0.tr e2, e3⟩
    unfold l1_weigh_22 b1_weigh_22
    rw [bI_eq, hv.B, if_neg (by rw [nx_le (by omega) (by omega)]; omega), nx_l2, x_fact hv (by omega) (by omega), cI_some, nx_l9, nx_mul, uI_in (by omega) (by omega), nx_l1, nx_add]
    exact e1
theorem x_weigh (hw : sWF S) (hpl : ∀ s, s < S 0 → pl s < 16) {a : Nat} (ha : isA a = true) (ha8 : mm_n a = 8) (hna : ¬ cLg a) {M : mm_M} (hv : vD M d S) (hp : ∀ s, s < S 0 → mI M a s = nI (pl s)) : ∃ M', f1_weigh d a M = some M' ∧ Fr cLg M M' ∧ vL M' S pl := by
  have hB := hw.B
  have hF := FU_big
  have f0 : Fr cLg M (sI (sI (sI (sI M 23 2 0) 23 5 0) 23 3 0) 23 4 0) := (((Fr.sI (Or.inl rfl)).tr (Fr.sI (Or.inl rfl))).tr (Fr.sI (Or.inl rfl))).tr (Fr.sI (Or.inl rfl))
  obtain ⟨M', e1, e2, e3⟩ := x_w22 (d := d) hw hpl ha ha8 hna (S 1) 0 FU _ (by omega) (by omega) (hv.mv f0 cLg_ge) (fun s hs => by rw [f0.mI hna]; exact hp s hs) (by rw [mI_sI_k _ _ _ (by decide), mI_sI_k _ _ _ (by decide), mI_sI_k _ _ _ (by decide), mI_sI_eq]) (by rw [mI_sI_k _ _ _ (by decide), mI_sI_eq]) (mI_sI_eq _ _ _ _) (by rw [mI_sI_k _ _ _ (by decide), mI_sI_k _ _ _ (by decide), mI_sI_eq]) (fun b' hb' => by omega)
  refine ⟨M', ?_, f0.tr e2, e3⟩
  unfold f1_weigh
  rw [if_pos hv.ok, if_pos ha]
  simp only [bM_eq]
  exact e1
end WEIGH
