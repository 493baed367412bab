theorem nx_div {a b : Nat} (ha : a < 2 ^ 31) (hb : b < 2 ^ 31) : nI a / nI b = nI (a / b) := by
  unfold nI; exact (Int32.ofNat_div ha hb).symm
theorem nx_mod9 {a : Nat} (ha : a < 2 ^ 31) : nI a - nI a / 9 * 9 = nI (a % 9) := by
  rw [show (9 : Int32) = nI 9 from rfl, nx_div ha (by omega), nx_mul, nx_sub (by omega)]
  congr 1
  omega
/-- the counts of a state -/
def scn (st : Nat) : Nat → Nat := fun b => st / 9 ^ b % 9
section REFDP
variable {S : sS} {P : sP}
theorem y_countOf {st b : Nat} (hst : st < 6561) (hb : b < 4) (M : mm_M) : f7_countOf (nI st) (nI b) M = some (nI (scn st b), M) := by
  have : b = 0 ∨ b = 1 ∨ b = 2 ∨ b = 3 := by omega
  unfold f7_countOf l7_countOf_32 scn
  rcases this with rfl | rfl | rfl | rfl
  · rw [if_pos (show nI 0 = 0 from rfl), if_pos (by decide), show (1 : Int32) = nI 1 from rfl, nx_div (by omega) (by omega), nx_mod9 (by omega)]
  · rw [if_neg (by decide), if_pos (show nI 1 = 1 from rfl), if_pos (by decide), nx_l9, nx_div (by omega) (by omega), ← nx_l9, nx_mod9 (by omega)]
  · rw [if_neg (by decide), if_neg (by decide), if_pos (show nI 2 = 2 from rfl), if_pos (by decide), show (81 : Int32) = nI 81 from rfl, nx_div (by omega) (by omega), nx_mod9 (by omega)]
  · rw [if_neg (by decide), if_neg (by decide), if_neg (by decide), if_pos (by decide), show (729 : Int32) = nI 729 from rfl, nx_div (by omega) (by omega), nx_mod9 (by omega)]
theorem scn_lt (st b : Nat) : scn st b < 9 := Nat.mod_lt _ (by omega)
theorem sfull_le {b : Nat} (h : slev S b ≤ scap S b) (pow : Nat) : ∀ c, sfull S pow b c ≤ scap S b
  | 0 => h
  | c + 1 => by
    have h1 := sfull_le h pow c
    have := sgain_le (S := S) pow b (sfull S pow b c)
    unfold sfull
    omega
/-- what the reference is asked with -/
def vR (M : mm_M) (S : sS) (P : sP) : Prop := vM M S ∧ mI M 46 11 = nI P.2.1 ∧ mI M 46 12 = nI P.2.2.1 ∧ mI M 46 13 = nI P.2.2.2.1 ∧ mI M 46 15 = nI P.2.2.2.2 ∧ (∀ b, b < 4 → mI M 50 b = nI (P.1 b)) ∧ ∀ b, b < 4 → mI M 59 b = nI (9 ^ b)
def pOK (P : sP) : Prop := (∀ b, P.1 b < 100) ∧ P.2.1 < 1000 ∧ P.2.2.1 < 1000 ∧ P.2.2.2.1 < 10000 ∧ P.2.2.2.2 < 16
abbrev cDp : Nat → Prop := fun c => c = 54 ∨ c = 55 ∨ c = 56 ∨ c = 57 ∨ c = 58
theorem cDp_out : ¬ cDp 46 ∧ ¬ cDp 47 ∧ ¬ cDp 50 ∧ ¬ cDp 59 := by decide
theorem vR.mv {M M' : mm_M} (h : vR M S P) (hf : Fr cDp M M') : vR M' S P := ⟨h.1.mv hf cDp_out.2.1, by rw [hf.mI cDp_out.1]; exact h.2.1, by rw [hf.mI cDp_out.1]; exact h.2.2.1, by rw [hf.mI cDp_out.1]; exact h.2.2.2.1, by rw [hf.mI cDp_out.1]; exact h.2.2.2.2.1, fun b hb => by rw [hf.mI cDp_out.2.2.1]; exact h.2.2.2.2.2.1 b hb, fun b hb => by rw [hf.mI cDp_out.2.2.2]; exact h.2.2.2.2.2.2 b hb⟩
/-- LEVELS by counts -/
def vF (M : mm_M) (S : sS) (pow : Nat) : Prop := ∀ b c, b < S 1 → c < 9 → mI M 58 (9 * b + c) = nI (sfull S pow b c)
theorem y_lf29 (hw : sWF S) (hP : pOK P) {b : Nat} (hb : b < S 1) (rec : Int32 → mm_M → Option mm_M) : ∀ (k c n : Nat) (M : mm_M), c + k = 9 → 1 ≤ c → k < n → vR M S P → (∀ c', c' < c → mI M 58 (9 * b + c') = nI (sfull S P.2.2.1 b c')) →
    ∃ M', l7_laysFull_29 rec n (nI b) (nI c) M = rec (nI (b + 1)) M' ∧ Fr (fun x => x = 58) M M' ∧ (∀ c', c' < 9 → mI M' 58 (9 * b + c') = nI (sfull S P.2.2.1 b c')) ∧ ∀ j, (j < 9 * b ∨ 9 * b + 9 ≤ j) → mI M' 58 j = mI M 58 j := by
  have hB := hw.B
  have hb2 := hw.bus b hb
  intro k
  induction k with
  | zero =>
    intro c n M hk h1 hn hv hl
    obtain ⟨n, rfl⟩ : ∃ m, n = m + 1 := ⟨n - 1, by omega⟩
    refine ⟨M, ?_, Fr.rf, fun c' hc' => hl c' (by omega), fun _ _ => rfl⟩
    unfold l7_laysFull_29 b7_laysFull_29
    rw [nx_l9, nx_l1, if_pos (by rw [nx_le (by omega) (by omega)]; omega), nx_add]
  | succ k ih =>
    intro c n M hk h1 hn hv hl
    obtain ⟨n, rfl⟩ : ∃ m, n = m + 1 := ⟨n - 1, by omega⟩
    obtain ⟨c, rfl⟩ : ∃ m, c = m + 1 := ⟨c - 1, by omega⟩
    have hcap := sfull_le hb2.2.2.1 P.2.2.1 c
    have f0 : Fr (fun x => x = 58) M (sI M 58 (9 * b + (c + 1)) (nI (sfull S P.2.2.1 b (c + 1)))) := Fr.sI rfl
    obtain ⟨M', e1, e2, e3, e4⟩ := ih (c + 2) n _ (by omega) (by omega) (by omega) (hv.mv (f0.wd (fun x h => Or.inr (Or.inr (Or.inr (Or.inr h)))))) (fun c' hc' => by
      by_cases hcc : c' = c + 1
      · subst hcc; rw [mI_sI_eq]
      · rw [mI_sI_k _ _ _ (by omega)]; exact hl c' (by omega))
    refine ⟨M', ?_, f0.tr e2, e3, fun j hj => by rw [e4 j hj, mI_sI_k _ _ _ (by omega)]⟩
    unfold l7_laysFull_29 b7_laysFull_29
    simp only [nx_l9, nx_l1, nx_mul, nx_add]
    rw [if_neg (by rw [nx_le (by omega) (by omega)]; omega), nx_sub (by omega), show 9 * b + (c + 1) - 1 = 9 * b + c by omega, aI_in (by omega) (by omega), aI_in (by omega) (by omega), hl c (by omega), y_takes hv.1 hw hb hcap hP.2.2.1 hv.2.2.1, cI_some, uI_in (by omega) (by omega), nx_add]
    exact e1
theorem y_lf2 (hw : sWF S) (hP : pOK P) : ∀ (k b n : Nat) (M : mm_M), b + k = S 1 → k < n → vR M S P → (∀ b' c, b' < b → c < 9 → mI M 58 (9 * b' + c) = nI (sfull S P.2.2.1 b' c)) → ∃ M', l7_laysFull_2 n (nI b) M = some M' ∧ Fr (fun x => x = 58) M M' ∧ vF M' S P.2.2.1 := by
  have hB := hw.B
  have hF := FU_big
  intro k
  induction k with
  | zero =>
    intro b n M hk hn hv hl
    obtain ⟨n, rfl⟩ : ∃ m, n = m + 1 := ⟨n - 1, by omega⟩
    refine ⟨M, ?_, Fr.rf, fun b' c hb' hc => hl b' c (by omega) hc⟩
    unfold l7_laysFull_2 b7_laysFull_2
    rw [show (1 : Int32) = nI 1 from rfl, aI_in (by omega) (by omega), hv.1 1 (by omega), if_pos (by rw [nx_le (by omega) (by omega)]; omega)]
  | succ k ih =>
    intro b n M hk hn hv hl
    obtain ⟨n, rfl⟩ : ∃ m, n = m + 1 := ⟨n - 1, by omega⟩
    have hb : b < S 1 := by omega
    have f0 : Fr (fun x => x = 58) M (sI M 58 (9 * b) (nI (slev S b))) := Fr.sI rfl
    have w58 : ∀ x, x = 58 → cDp x := fun x h => Or.inr (Or.inr (Or.inr (Or.inr h)))
    obtain ⟨M1, c1, c2, c3, c4⟩ := y_lf29 hw hP hb (l7_laysFull_2 n) 8 1 FU (sI M 58 (9 * b) (nI (slev S b))) (by omega) (by omega) (by omega) (hv.mv (f0.wd w58)) (fun c' hc' => by rw [show c' = 0 by omega, show 9 * b + 0 = 9 * b by omega, mI_sI_eq]; rfl)
    obtain ⟨M', e1, e2, e3⟩ := ih (b + 1) n M1 (by omega) (by omega) ((hv.mv (f0.wd w58)).mv (c2.wd w58)) (fun b' c hb' hc => by
      by_cases hbb : b' = b
      · subst hbb; exact c3 c hc
      · rw [c4 _ (by omega), mI_sI_k _ _ _ (by omega)]; exact hl b' c (by omega) hc)
    refine ⟨M', ?_, (f0.tr c2).tr e2, e3⟩
    unfold l7_laysFull_2 b7_laysFull_2
    rw [show (1 : Int32) = nI 1 from rfl, aI_in (by omega) (by omega), hv.1 1 (by omega), if_neg (by rw [nx_le (by omega) (by omega)]; omega), nx_l2, y_of hv.1 (by omega) (by omega), cI_some, nx_l9, nx_mul, uI_in (by omega) (by omega)]
    exact c1.trans e1
theorem y_laysFull (hw : sWF S) (hP : pOK P) {M : mm_M} (hv : vR M S P) : ∃ M', f7_laysFull M = some M' ∧ Fr (fun x => x = 58) M M' ∧ vF M' S P.2.2.1 := by
  have hB := hw.B
  exact y_lf2 hw hP (S 1) 0 FU M (by omega) (by have := FU_big; omega) hv (fun b' c hb' => by omega)
/-- a state that may be at a SLOT -/
def smb (S : sS) (st s b : Nat) : Bool := if b < S 1 then decide (scn st b ≤ s) else decide (scn st b = 0)
def smay (S : sS) (st s : Nat) : Bool := (smb S st s 0 && smb S st s 1 && smb S st s 2 && smb S st s 3)
theorem smay_iff (S : sS) (st s : Nat) : smay S st s = true ↔ ∀ b, b < 4 → smb S st s b = true := by
  simp only [smay, Bool.and_eq_true]
  constructor
  · rintro ⟨⟨⟨h0, h1⟩, h2⟩, h3⟩ b hb
    have : b = 0 ∨ b = 1 ∨ b = 2 ∨ b = 3 := by omega
    rcases this with rfl | rfl | rfl | rfl <;> assumption
  · intro h
    exact ⟨⟨⟨h 0 (by omega), h 1 (by omega)⟩, h 2 (by omega)⟩, h 3 (by omega)⟩
theorem y_mb (hw : sWF S) {st s : Nat} (hst : st < 6561) (hs : s < 100) {M : mm_M} (hv : vM M S) : ∀ (k b n : Nat), b + k = 4 → k < n → (∀ b', b' < b → smb S st s b' = true) → l7_mayBe_2 n (nI st) (nI s) (nI b) M = some (if smay S st s = true then 1 else 0, M) := by
  have hB := hw.B
  intro k
  induction k with
  | zero =>
    intro b n hk hn hl
    obtain ⟨n, rfl⟩ : ∃ m, n = m + 1 := ⟨n - 1, by omega⟩
    unfold l7_mayBe_2 b7_mayBe_2
    rw [nx_l4, if_pos (by rw [nx_le (by omega) (by omega)]; omega), if_pos ((smay_iff S st s).mpr (fun b' hb' => hl b' (by omega)))]
    rfl
  | succ k ih =>
    intro b n hk hn hl
    obtain ⟨n, rfl⟩ : ∃ m, n = m + 1 := ⟨n - 1, by omega⟩
    have hc := scn_lt st b
    unfold l7_mayBe_2 b7_mayBe_2 l7_mayBe_40 l7_mayBe_38
    rw [nx_l4, nx_l1, if_neg (by rw [nx_le (by omega) (by omega)]; omega), y_countOf hst (by omega), cI_some, aI_in (by omega) (by omega), hv 1 (by omega)]
    simp only [nx_le (show S 1 < 2 ^ 31 by omega) (show b < 2 ^ 31 by omega), nx_lit0, nx_le (show scn st b < 2 ^ 31 by omega) (show 0 < 2 ^ 31 by omega), nx_le (show scn st b < 2 ^ 31 by omega) (show s < 2 ^ 31 by omega), nx_add]
    have no : ¬ smb S st s b = true → some (if smay S st s = true then nI 1 else nI 0, M) = rZ (nI 0) M := by
      intro h
      rw [if_neg (fun q => h ((smay_iff S st s).mp q b (by omega)))]
      rfl
    have yes : smb S st s b = true → l7_mayBe_2 n (nI st) (nI s) (nI (b + 1)) M = some (if smay S st s = true then nI 1 else nI 0, M) := by
      intro h
      exact ih (b + 1) n (by omega) (by omega) (fun b' hb' => by
        by_cases hbb : b' = b
        · subst hbb; exact h
        · exact hl b' (by omega))
    by_cases h1 : S 1 ≤ b
    · rw [if_pos h1]
      by_cases h2 : scn st b ≤ 0
      · rw [if_pos h2]; exact yes (by unfold smb; rw [if_neg (by omega)]; exact decide_eq_true (by omega))
      · rw [if_neg h2]; exact (no (by unfold smb; rw [if_neg (by omega), decide_eq_true_eq]; omega)).symm
    · rw [if_neg h1]
      by_cases h2 : scn st b ≤ s
      · rw [if_pos h2]; exact yes (by unfold smb; rw [if_pos (by omega)]; exact decide_eq_true h2)
      · rw [if_neg h2]; exact (no (by unfold smb; rw [if_pos (by omega), decide_eq_true_eq]; exact h2)).symm
theorem y_mayBe (hw : sWF S) {st s : Nat} (hst : st < 6561) (hs : s < 100) {M : mm_M} (hv : vM M S) : f7_mayBe (nI st) (nI s) M = some (if smay S st s = true then 1 else 0, M) := y_mb hw hst hs hv 4 0 FU (by omega) (by have := FU_big; omega) (fun b' hb' => by omega)
end REFDP
