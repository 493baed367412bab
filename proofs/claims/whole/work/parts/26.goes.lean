section GOES
variable {S : sS} {pl com : Nat → Nat} {pow : Nat}
abbrev cGo : Nat → Prop := fun c => c = 52 ∨ c = 53
/-- what the reference works with: comes, power, the plan -/
def vW (M : mm_M) (S : sS) (com : Nat → Nat) (pow : Nat) (pl : Nat → Nat) : Prop := vM M S ∧ mI M 46 12 = nI pow ∧ (∀ b, b < 4 → mI M 50 b = nI (com b)) ∧ ∀ s, s < S 0 → mI M 51 s = nI (pl s)
theorem vW.mv {P : Nat → Prop} {M M' : mm_M} (h : vW M S com pow pl) (hf : Fr P M M') (hP : ∀ c, P c → 52 ≤ c) : vW M' S com pow pl := ⟨h.1.mv hf (fun z => by have := hP _ z; omega), by rw [hf.mI (fun z => by have := hP _ z; omega)]; exact h.2.1, fun b hb => by rw [hf.mI (fun z => by have := hP _ z; omega)]; exact h.2.2.1 b hb, fun s hs => by rw [hf.mI (fun z => by have := hP _ z; omega)]; exact h.2.2.2 s hs⟩
theorem cGo_ge : ∀ c, cGo c → 52 ≤ c := by intro c h; rcases h with h | h <;> omega
theorem y_isThere {M : mm_M} (h : vM M S) (hw : sWF S) (hc : ∀ b, b < 4 → mI M 50 b = nI (com b)) (hcb : ∀ b, com b < 100) {b s : Nat} (hb : b < S 1) (hs : s < 100) : f7_isThere (nI b) (nI s) M = some (if sthere (com b) (sgo S b) s = true then 1 else 0, M) := by
  have h4 := hw.B
  have h8 := hw.T
  have hb2 := hw.bus b hb
  have hcb := hcb b
  unfold f7_isThere l7_isThere_24 l7_isThere_25
  rw [aI_in (by omega) (by omega), hc b (by omega)]
  simp only [nx_l5, y_of h (show b < 4 by omega) (show 5 < 6 by omega), cI_some]
  simp only [sthere, sgo]
  simp only [nx_lt (show s < 2 ^ 31 by omega) (show com b < 2 ^ 31 by omega), nx_le (show S (50 + 6 * b + 5) < 2 ^ 31 by omega) (show s < 2 ^ 31 by omega)]
  by_cases h1 : s < com b
  · simp [h1, rZ0, show ¬ com b ≤ s by omega]
  · by_cases h2 : S (50 + 6 * b + 5) ≤ s
    · simp [h1, h2, rZ0, show ¬ s < S (50 + 6 * b + 5) by omega]
    · simp [h1, h2, rZ1, show com b ≤ s by omega, show s < S (50 + 6 * b + 5) by omega]
/-- a SLOT, from BUS b on -/
theorem y_g51 (hw : sWF S) (hp : pow < 1000) (hcb : ∀ b, com b < 100) (hpl : ∀ s, s < S 0 → pl s < 16) {s : Nat} (hs : s < S 0) (rec : Int32 → mm_M → Option mm_M) : ∀ (k b n : Nat) (M : mm_M), b + k = S 1 → k < n → vW M S com pow pl → mI M 53 s = nI (sus S com pow pl s b) → (∀ b', b' < S 1 → mI M 52 (4 * s + b') = nI (slv S com pow pl b' s)) →
    ∃ M', l7_goes_51 rec n (nI s) (nI b) M = rec (nI (s + 1)) M' ∧ Fr cGo M M' ∧ mI M' 53 s = nI (sused S com pow pl s) ∧ (∀ j, j ≠ s → mI M' 53 j = mI M 53 j) ∧ (∀ b', b ≤ b' → b' < S 1 → mI M' 52 (4 * s + 4 + b') = nI (slv S com pow pl b' (s + 1))) ∧ ∀ j, (∀ b', b ≤ b' → b' < S 1 → j ≠ 4 * s + 4 + b') → mI M' 52 j = mI M 52 j := by
  have hT := hw.T
  have hB := hw.B
  have hps := hpl s hs
  intro k
  induction k with
  | zero =>
    intro b n M hk hn hv hu hl
    obtain ⟨n, rfl⟩ : ∃ m, n = m + 1 := ⟨n - 1, by omega⟩
    refine ⟨M, ?_, Fr.rf, by rw [hu, show b = S 1 by omega]; rfl, fun _ _ => rfl, fun b' h1 h2 => by omega, fun _ _ => rfl⟩
    unfold l7_goes_51 b7_goes_51
    rw [nx_l1, aI_in (by omega) (by omega), hv.1 1 (by omega), if_pos (by rw [nx_le (by omega) (by omega)]; omega), nx_add]
  | succ k ih =>
    intro b n M hk hn hv hu hl
    obtain ⟨n, rfl⟩ : ∃ m, n = m + 1 := ⟨n - 1, by omega⟩
    have hb : b < S 1 := by omega
    have hb2 := hw.bus b hb
    have hcap : slv S com pow pl b s ≤ scap S b := slv_le hb2.2.2.1 s
    have step : ∀ g : Nat, g = sinc S com pow pl b s (slv S com pow pl b s) → ∃ M', l7_goes_102 (l7_goes_51 rec n) (nI s) (nI b) (nI g) M = rec (nI (s + 1)) M' ∧ Fr cGo M M' ∧ mI M' 53 s = nI (sused S com pow pl s) ∧ (∀ j, j ≠ s → mI M' 53 j = mI M 53 j) ∧ (∀ b', b ≤ b' → b' < S 1 → mI M' 52 (4 * s + 4 + b') = nI (slv S com pow pl b' (s + 1))) ∧ ∀ j, (∀ b', b ≤ b' → b' < S 1 → j ≠ 4 * s + 4 + b') → mI M' 52 j = mI M 52 j := by
      intro g hg
      have f0 : Fr cGo M (sI (sI M 52 (4 * s + 4 + b) (nI (slv S com pow pl b (s + 1)))) 53 s (nI (sus S com pow pl s (b + 1)))) := (Fr.sI (Or.inl rfl)).tr (Fr.sI (Or.inr rfl))
      obtain ⟨M', e1, e2, e3, e4, e5, e6⟩ := ih (b + 1) n _ (by omega) (by omega) (hv.mv f0 cGo_ge) (mI_sI_eq _ _ _ _) (fun b' hb' => by rw [mI_sI_c _ _ _ _ (by decide), mI_sI_k _ _ _ (by omega)]; exact hl b' hb')
      refine ⟨M', ?_, f0.tr e2, e3, fun j hj => by rw [e4 j hj, mI_sI_k _ _ _ hj, mI_sI_c _ _ _ _ (by decide)], fun b' h1 h2 => ?_, fun j hj => ?_⟩
      · unfold l7_goes_102
        simp only [nx_l4, nx_l1, nx_mul, nx_add]
        rw [aI_in (by omega) (by omega), hl b hb, nx_add, uI_in (by omega) (by omega), aI_in (by omega) (by omega), mI_sI_c _ _ _ _ (by decide), hu, nx_add, uI_in (by omega) (by omega)]
        rw [show slv S com pow pl b s + g = slv S com pow pl b (s + 1) by rw [hg]; rfl, show sus S com pow pl s b + g = sus S com pow pl s (b + 1) by rw [hg]; rfl]
        exact e1
      · by_cases hbb : b' = b
        · subst hbb
          rw [e6 (4 * s + 4 + b') (fun b'' h3 h4 => by omega), mI_sI_c _ _ _ _ (by decide), mI_sI_eq]
        · exact e5 b' (by omega) h2
      · rw [e6 j (fun b' h3 h4 => hj b' (by omega) h4), mI_sI_c _ _ _ _ (by decide)]
        exact mI_sI_k _ _ _ (hj b (Nat.le_refl _) hb)
    unfold l7_goes_51 b7_goes_51 l7_goes_101
    rw [show (1 : Int32) = nI 1 from rfl, aI_in (by omega) (by omega), hv.1 1 (by omega), if_neg (by rw [nx_le (by omega) (by omega)]; omega), aI_in (by omega) (by omega), hv.2.2.2 s hs, y_has hps (by omega), cI_some]
    by_cases h1 : sbit (pl s) b = true
    · rw [if_pos h1, if_neg (by decide), y_isThere hv.1 hw hv.2.2.1 hcb hb (by omega), cI_some]
      by_cases h2 : sthere (com b) (sgo S b) s = true
      · rw [if_pos h2, if_neg (by decide), nx_l4, nx_mul, nx_add, aI_in (by omega) (by omega), hl b hb, y_takes hv.1 hw hb hcap hp hv.2.1, cI_some]
        exact step _ (by simp [sinc, h1, h2])
      · rw [if_neg h2, if_pos rfl]
        exact step 0 (by simp [sinc, h2])
    · rw [if_neg h1, if_pos rfl]
      exact step 0 (by simp [sinc, h1])
/-- the reference's weighed plan -/
def vG (M : mm_M) (S : sS) (com : Nat → Nat) (pow : Nat) (pl : Nat → Nat) : Prop := (∀ s, s < S 0 → mI M 53 s = nI (sused S com pow pl s)) ∧ ∀ b s, b < S 1 → s ≤ S 0 → mI M 52 (4 * s + b) = nI (slv S com pow pl b s)
theorem y_g32 (hw : sWF S) (hp : pow < 1000) (hcb : ∀ b, com b < 100) (hpl : ∀ s, s < S 0 → pl s < 16) : ∀ (k s n : Nat) (M : mm_M), s + k = S 0 → k < n → vW M S com pow pl → (∀ s', s' < s → mI M 53 s' = nI (sused S com pow pl s')) → (∀ b s', b < S 1 → s' ≤ s → mI M 52 (4 * s' + b) = nI (slv S com pow pl b s')) →
    ∃ M', l7_goes_32 n (nI s) M = some M' ∧ Fr cGo M M' ∧ vG M' S com pow pl := by
  have hT := hw.T
  have hB := hw.B
  have hF := FU_big
  intro k
  induction k with
  | zero =>
    intro s n M hk hn hv hu hl
    obtain ⟨n, rfl⟩ : ∃ m, n = m + 1 := ⟨n - 1, by omega⟩
    have hs : s = S 0 := by omega
    subst hs
    refine ⟨M, ?_, Fr.rf, hu, hl⟩
    unfold l7_goes_32 b7_goes_32
    rw [nx_lit0, aI_in (by omega) (by omega), hv.1 0 (by omega), if_pos (by rw [nx_le (by omega) (by omega)]; omega)]
  | succ k ih =>
    intro s n M hk hn hv hu hl
    obtain ⟨n, rfl⟩ : ∃ m, n = m + 1 := ⟨n - 1, by omega⟩
    have hs : s < S 0 := by omega
    have f0 : Fr cGo M (sI M 53 s 0) := Fr.sI (Or.inr rfl)
    obtain ⟨M1, c1, c2, c3, c4, c5, c6⟩ := y_g51 hw hp hcb hpl hs (l7_goes_32 n) (S 1) 0 FU (sI M 53 s 0) (by omega) (by omega) (hv.mv f0 cGo_ge) (by rw [mI_sI_eq]; rfl) (fun b' hb' => by rw [mI_sI_c _ _ _ _ (by decide)]; exact hl b' s hb' (Nat.le_refl _))
    obtain ⟨M', e1, e2, e3⟩ := ih (s + 1) n M1 (by omega) (by omega) ((hv.mv f0 cGo_ge).mv c2 cGo_ge) (fun s' hs' => by
      by_cases hss : s' = s
      · subst hss; exact c3
      · rw [c4 s' hss, mI_sI_k _ _ _ hss]; exact hu s' (by omega)) (fun b s' hb hs' => by
      by_cases hss : s' = s + 1
      · subst hss; rw [show 4 * (s + 1) + b = 4 * s + 4 + b by omega]; exact c5 b (by omega) hb
      · rw [c6 _ (fun b' _ hb' => by omega), mI_sI_c _ _ _ _ (by decide)]; exact hl b s' hb (by omega))
    refine ⟨M', ?_, (f0.tr c2).tr e2, e3⟩
    unfold l7_goes_32 b7_goes_32
    rw [nx_lit0, aI_in (by omega) (by omega), hv.1 0 (by omega), if_neg (by rw [nx_le (by omega) (by omega)]; omega), uI_in (by omega) (by omega)]
    rw [← nx_lit0]
    exact c1.trans e1
theorem y_g2 (hw : sWF S) (hp : pow < 1000) (hcb : ∀ b, com b < 100) (hpl : ∀ s, s < S 0 → pl s < 16) : ∀ (k b n : Nat) (M : mm_M), b + k = S 1 → k < n → vW M S com pow pl → (∀ b', b' < b → mI M 52 b' = nI (slev S b')) → ∃ M', l7_goes_2 n (nI b) M = some M' ∧ Fr cGo M M' ∧ vG M' S com pow pl := by
  have hT := hw.T
  have hB := hw.B
  have hF := FU_big
  intro k
  induction k with
  | zero =>
    intro b n M hk hn hv hl
    obtain ⟨n, rfl⟩ : ∃ m, n = m + 1 := ⟨n - 1, by omega⟩
    obtain ⟨M', e1, e2, e3⟩ := y_g32 hw hp hcb hpl (S 0) 0 FU M (by omega) (by omega) hv (fun s' hs' => by omega) (fun b' s' hb' hs' => by rw [show s' = 0 by omega, show 4 * 0 + b' = b' by omega]; exact hl b' (by omega))
    refine ⟨M', ?_, e2, e3⟩
    unfold l7_goes_2 b7_goes_2
    rw [nx_l1, aI_in (by omega) (by omega), hv.1 1 (by omega), if_pos (by rw [nx_le (by omega) (by omega)]; omega)]
    exact e1
  | succ k ih =>
    intro b n M hk hn hv hl
    obtain ⟨n, rfl⟩ : ∃ m, n = m + 1 := ⟨n - 1, by omega⟩
    have f0 : Fr cGo M (sI M 52 b (nI (slev S b))) := Fr.sI (Or.inl rfl)
    obtain ⟨M', e1, e2, e3⟩ := ih (b + 1) n _ (by omega) (by omega) (hv.mv f0 cGo_ge) (fun b' hb' => by
      by_cases hbb : b' = b
      · subst hbb; rw [mI_sI_eq]
      · rw [mI_sI_k _ _ _ hbb]; exact hl b' (by omega))
    refine ⟨M', ?_, f0.tr e2, e3⟩
    unfold l7_goes_2 b7_goes_2
    rw [nx_l1, aI_in (by omega) (by omega), hv.1 1 (by omega), if_neg (by rw [nx_le (by omega) (by omega)]; omega), nx_l2, y_of hv.1 (by omega) (by omega), cI_some, uI_in (by omega) (by omega), nx_add]
    exact e1
theorem y_goes (hw : sWF S) (hp : pow < 1000) (hcb : ∀ b, com b < 100) (hpl : ∀ s, s < S 0 → pl s < 16) {M : mm_M} (hv : vW M S com pow pl) : ∃ M', f7_goes M = some M' ∧ Fr cGo M M' ∧ vG M' S com pow pl := by
  have hB := hw.B
  exact y_g2 hw hp hcb hpl (S 1) 0 FU M (by omega) (by have := FU_big; omega) hv (fun b' hb' => by omega)
end GOES
