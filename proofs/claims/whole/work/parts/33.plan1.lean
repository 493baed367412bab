/-! the class's planner: what it traces -/
section PLAN1
variable {S : sS} {P : sP}
/-- a BUS that matters -/
def sw (S : sS) (P : sP) (b : Nat) : Bool := decide (b < S 1) && sbit P.2.2.2.2 b
def sst (S : sS) (P : sP) (b : Nat) : Nat := if sw S P b = true then sgo S b - P.1 b else 0
/-- how often a BUS is charged at most: till NEED, or as long as it is there -/
def smo (S : sS) (pow b stay : Nat) : Nat → Nat → Nat
  | 0, c => c
  | n + 1, c => if stay ≤ c ∨ 8 ≤ c ∨ sneed S b ≤ sfull S pow b c then c else smo S pow b stay n (c + 1)
def smt (S : sS) (P : sP) (b : Nat) : Nat := if sw S P b = true then smo S P.2.2.1 b (sst S P b) 9 0 else 0
theorem smo_spec (S : sS) (pow b stay : Nat) : ∀ n c, 9 ≤ n + c → c ≤ 8 → c ≤ stay → (∀ k, k < c → sfull S pow b k < sneed S b) → c ≤ smo S pow b stay n c ∧ smo S pow b stay n c ≤ 8 ∧ smo S pow b stay n c ≤ stay ∧ (∀ k, k < smo S pow b stay n c → sfull S pow b k < sneed S b) ∧ (smo S pow b stay n c = stay ∨ smo S pow b stay n c = 8 ∨ sneed S b ≤ sfull S pow b (smo S pow b stay n c))
  | 0, c, h, h1, h2, h3 => by omega
  | n + 1, c, h, h1, h2, h3 => by
    unfold smo
    by_cases hc : stay ≤ c ∨ 8 ≤ c ∨ sneed S b ≤ sfull S pow b c
    · rw [if_pos hc]
      exact ⟨Nat.le_refl _, h1, h2, h3, by
        rcases hc with hc | hc | hc
        · exact Or.inl (by omega)
        · exact Or.inr (Or.inl (by omega))
        · exact Or.inr (Or.inr hc)⟩
    · rw [if_neg hc]
      have h4 : ¬ stay ≤ c := fun z => hc (Or.inl z)
      have h5 : ¬ 8 ≤ c := fun z => hc (Or.inr (Or.inl z))
      have h6 : ¬ sneed S b ≤ sfull S pow b c := fun z => hc (Or.inr (Or.inr z))
      obtain ⟨q1, q2, q3, q4, q5⟩ := smo_spec S pow b stay n (c + 1) (by omega) (by omega) (by omega) (fun k hk => by
        by_cases hkc : k = c
        · subst hkc; omega
        · exact h3 k (by omega))
      exact ⟨by omega, q2, q3, q4, q5⟩
theorem smt_spec (S : sS) (P : sP) (b : Nat) : smt S P b ≤ 8 ∧ smt S P b ≤ sst S P b ∧ (∀ k, k < smt S P b → sw S P b = true ∧ sfull S P.2.2.1 b k < sneed S b) ∧ (sw S P b = true → smt S P b = sst S P b ∨ smt S P b = 8 ∨ sneed S b ≤ sfull S P.2.2.1 b (smt S P b)) := by
  unfold smt
  by_cases h : sw S P b = true
  · rw [if_pos h]
    obtain ⟨q1, q2, q3, q4, q5⟩ := smo_spec S P.2.2.1 b (sst S P b) 9 0 (by omega) (by omega) (by omega) (fun k hk => by omega)
    exact ⟨q2, q3, fun k hk => ⟨h, q4 k hk⟩, fun _ => q5⟩
  · rw [if_neg h]
    exact ⟨by omega, by omega, fun k hk => by omega, fun z => absurd z h⟩
def sstr (S : sS) (P : sP) : Nat → Nat
  | 0 => 1
  | b + 1 => sstr S P b * (smt S P b + 1)
def ssh (S : sS) (P : sP) (set : Nat) : Nat := ssum (fun b => if sbit set b = true then sstr S P b else 0) 4
def six (S : sS) (P : sP) (c : Nat → Nat) : Nat := ssum (fun b => c b * sstr S P b) 4
def slk (S : sS) (P : sP) (b c : Nat) : Nat := if sw S P b = true then sneed S b - sfull S P.2.2.1 b c else 0
theorem sstr_bd (S : sS) (P : sP) : ∀ b, b ≤ 4 → sstr S P b ≤ 9 ^ b
  | 0, _ => Nat.le_refl _
  | b + 1, h => by
    have h1 := sstr_bd S P b (by omega)
    have h2 := (smt_spec S P b).1
    show sstr S P b * (smt S P b + 1) ≤ 9 ^ (b + 1)
    rw [Nat.pow_succ]
    exact Nat.mul_le_mul h1 (by omega)
/-- what the planner is asked with -/
def vP (M : mm_M) (d : Nat) (S : sS) (P : sP) : Prop := mDep M = d ∧ vD M d S ∧ mI M 27 0 = nI P.2.1 ∧ mI M 27 1 = nI P.2.2.1 ∧ mI M 27 2 = nI P.2.2.2.1 ∧ (∀ b, b < 4 → mI M 28 b = nI (P.1 b)) ∧ (∃ w, w < 16 ∧ mI M 26 2 = nI w ∧ ∀ b, b < S 1 → sbit w b = sbit P.2.2.2.2 b) ∧ mI M 33 0 = 0 ∧ mI M 40 0 = 0
abbrev cTr : Nat → Prop := fun c => c = 29 ∨ c = 30 ∨ c = 31 ∨ c = 32
theorem cTr_ge : ∀ c, cTr c → 29 ≤ c ∧ c ≤ 32 := by intro c h; rcases h with h | h | h | h <;> omega
theorem Fr.mDep {Q : Nat → Prop} {M M' : mm_M} (h : Fr Q M M') : mDep M' = mDep M := by
  unfold _root_.Jvm.Pilot.@@N@@.mDep; rw [h.2.2]
theorem vP.mv {Q : Nat → Prop} {M M' : mm_M} {d : Nat} (h : vP M d S P) (hf : Fr Q M M') (hQ : ∀ c, Q c → 29 ≤ c) (h33 : mI M' 33 0 = 0) (h40 : mI M' 40 0 = 0) : vP M' d S P := by
  obtain ⟨q1, q2, q3, q4, q5, q6, ⟨w, w1, w2, w3⟩, -, -⟩ := h
  have hn : ∀ c, c < 29 → ¬ Q c := fun c hc z => by have := hQ c z; omega
  exact ⟨by rw [hf.mDep]; exact q1, q2.mv hf (fun c z => by have := hQ c z; omega), by rw [hf.mI (hn 27 (by omega))]; exact q3, by rw [hf.mI (hn 27 (by omega))]; exact q4, by rw [hf.mI (hn 27 (by omega))]; exact q5, fun b hb => by rw [hf.mI (hn 28 (by omega))]; exact q6 b hb, ⟨w, w1, by rw [hf.mI (hn 26 (by omega))]; exact w2, w3⟩, h33, h40⟩
theorem vP.mvT {M M' : mm_M} {d : Nat} (h : vP M d S P) (hf : Fr cTr M M') : vP M' d S P := h.mv hf (fun c z => (cTr_ge c z).1) (by rw [hf.mI (by decide)]; exact h.2.2.2.2.2.2.2.1) (by rw [hf.mI (by decide)]; exact h.2.2.2.2.2.2.2.2)
/-- what is traced of a BUS -/
def vB (M : mm_M) (S : sS) (P : sP) (b : Nat) : Prop := mI M 29 b = nI (sst S P b) ∧ mI M 30 b = nI (smt S P b) ∧ (∀ c, c < smt S P b → mI M 31 (9 * b + c) = nI (sgn S P.2.2.1 b c)) ∧ ∀ c, c ≤ smt S P b → mI M 32 (9 * b + c) = nI (slk S P b c)
theorem mx_sub {a b : Nat} (ha : a < 2 ^ 31) (hb : b < 2 ^ 31) : mx 0 (nI a - nI b) = nI (a - b) := by
  by_cases h : b ≤ a
  · rw [nx_sub h, nx_lit0, mx_nI (by omega) (by omega)]
    congr 1
    try exact Nat.max_eq_right (Nat.zero_le _)
  · unfold mx
    rw [if_neg]
    · rw [show a - b = 0 by omega]; rfl
    · rw [Int32.lt_iff_toInt_lt, nx_subI ha hb, show (0 : Int32).toInt = 0 from rfl]
      omega
theorem x_tr49 (hw : sWF S) (hP : pOK P) {d b : Nat} (hsw : sw S P b = true) (hst8 : sst S P b ≤ 8) : ∀ (k c n : Nat) (M : mm_M), c + k = 9 → k < n → c ≤ 8 → c ≤ sst S P b → (∀ j, j < c → sfull S P.2.2.1 b j < sneed S b) → smo S P.2.2.1 b (sst S P b) k c = smt S P b → vP M d S P → mI M 29 b = nI (sst S P b) →
    (∀ j, j < c → mI M 31 (9 * b + j) = nI (sgn S P.2.2.1 b j)) → (∀ j, j < c → mI M 32 (9 * b + j) = nI (slk S P b j)) → ∃ M', l2_trace_49 n (nI b) (nI (sneed S b)) (nI (sfull S P.2.2.1 b c)) (nI c) M = some M' ∧ Fr (fun x => x = 30 ∨ x = 31 ∨ x = 32) M M' ∧ vB M' S P b ∧ (∀ j, j ≠ b → mI M' 30 j = mI M 30 j) ∧ ∀ x, x = 31 ∨ x = 32 → ∀ j, (j < 9 * b ∨ 9 * b + 9 ≤ j) → mI M' x j = mI M x j := by
  have hbS : b < S 1 := by
    unfold sw at hsw
    rw [Bool.and_eq_true, decide_eq_true_eq] at hsw
    exact hsw.1
  have hB := hw.B
  have hb2 := hw.bus b hbS
  have hcap2 : scap S b ≤ 200 := hb2.2.1.2
  have hnd : sneed S b ≤ 200 := by unfold sneed; omega
  have hslk : ∀ c, slk S P b c = sneed S b - sfull S P.2.2.1 b c := fun c => by unfold slk; rw [if_pos hsw]
  -- the end
  have fin : ∀ (c : Nat) (M : mm_M), c ≤ 8 → c = smt S P b → mI M 29 b = nI (sst S P b) → (∀ j, j < c → mI M 31 (9 * b + j) = nI (sgn S P.2.2.1 b j)) → (∀ j, j < c → mI M 32 (9 * b + j) = nI (slk S P b j)) → ∃ M', l2_trace_129 (nI b) (nI (sneed S b)) (nI (sfull S P.2.2.1 b c)) (nI c) M = some M' ∧ Fr (fun x => x = 30 ∨ x = 31 ∨ x = 32) M M' ∧ vB M' S P b ∧ (∀ j, j ≠ b → mI M' 30 j = mI M 30 j) ∧ ∀ x, x = 31 ∨ x = 32 → ∀ j, (j < 9 * b ∨ 9 * b + 9 ≤ j) → mI M' x j = mI M x j := by
    intro c M hc8 hc h29 h31 h32
    have hcap := sfull_le hb2.2.2.1 P.2.2.1 c
    refine ⟨sI (sI M 30 b (nI c)) 32 (9 * b + c) (nI (slk S P b c)), ?_, (Fr.sI (Or.inl rfl)).tr (Fr.sI (Or.inr (Or.inr rfl))), ⟨?_, ?_, ?_, ?_⟩, ?_, ?_⟩
    · unfold l2_trace_129
      rw [uI_in (by omega) (by omega), bI_eq, mx_sub (by omega) (by omega), nx_l9, nx_mul, nx_add, uI_in (by omega) (by omega), ← hslk, show b * 9 + c = 9 * b + c by omega]
    · rw [mI_sI_c _ _ _ _ (by decide), mI_sI_c _ _ _ _ (by decide)]; exact h29
    · rw [mI_sI_c _ _ _ _ (by decide), mI_sI_eq, hc]
    · intro j hj
      rw [mI_sI_c _ _ _ _ (by decide), mI_sI_c _ _ _ _ (by decide)]
      exact h31 j (by omega)
    · intro j hj
      by_cases hjc : j = c
      · subst hjc; rw [mI_sI_eq]
      · rw [mI_sI_k _ _ _ (by omega), mI_sI_c _ _ _ _ (by decide)]
        exact h32 j (by omega)
    · intro j hj
      rw [mI_sI_c _ _ _ _ (by decide), mI_sI_k _ _ _ hj]
    · intro x hx j hj
      rcases hx with rfl | rfl
      · rw [mI_sI_c _ _ _ _ (by decide), mI_sI_c _ _ _ _ (by decide)]
      · rw [mI_sI_k _ _ _ (by omega), mI_sI_c _ _ _ _ (by decide)]
  intro k
  induction k with
  | zero => intro c n M hk hn h8; omega
  | succ k ih =>
    intro c n M hk hn h8 hcs hful hsmo hv h29 h31 h32
    obtain ⟨n, rfl⟩ : ∃ m, n = m + 1 := ⟨n - 1, by omega⟩
    have hcap := sfull_le hb2.2.2.1 P.2.2.1 c
    unfold l2_trace_49 b2_trace_49
    rw [aI_in (by omega) (by omega), h29]
    simp only [show (8 : Int32) = nI 8 from rfl, nx_le (show sst S P b < 2 ^ 31 by omega) (show c < 2 ^ 31 by omega), nx_le (show 8 < 2 ^ 31 by omega) (show c < 2 ^ 31 by omega), nx_le (show sneed S b < 2 ^ 31 by omega) (show sfull S P.2.2.1 b c < 2 ^ 31 by omega)]
    unfold smo at hsmo
    by_cases c1 : sst S P b ≤ c
    · rw [if_pos c1]
      exact fin c M h8 (by rw [if_pos (Or.inl c1)] at hsmo; exact hsmo) h29 h31 h32
    · rw [if_neg c1]
      by_cases c2 : 8 ≤ c
      · rw [if_pos c2]
        exact fin c M h8 (by rw [if_pos (Or.inr (Or.inl c2))] at hsmo; exact hsmo) h29 h31 h32
      · rw [if_neg c2]
        by_cases c3 : sneed S b ≤ sfull S P.2.2.1 b c
        · rw [if_pos c3]
          exact fin c M h8 (by rw [if_pos (Or.inr (Or.inr c3))] at hsmo; exact hsmo) h29 h31 h32
        · rw [if_neg c3, bN_eq, hv.1, if_pos hv.2.1.ok, nx_l1, aI_in (by omega) (by omega), hv.2.2.2.1, x_gain hv.2.1 hw hbS hcap hP.2.2.1, cI_some, nx_l9, nx_mul, nx_add, uI_in (by omega) (by omega), nx_sub (by omega), uI_in (by omega) (by omega), bI_eq, nx_add, nx_add]
          rw [if_neg (by rintro (z | z | z) <;> omega)] at hsmo
          have f0 : Fr (fun x => x = 30 ∨ x = 31 ∨ x = 32) M (sI (sI M 31 (b * 9 + c) (nI (sgain S P.2.2.1 b (sfull S P.2.2.1 b c)))) 32 (b * 9 + c) (nI (sneed S b - sfull S P.2.2.1 b c))) := (Fr.sI (Or.inr (Or.inl rfl))).tr (Fr.sI (Or.inr (Or.inr rfl)))
          obtain ⟨M', e1, e2, e3, e4, e5⟩ := ih (c + 1) n _ (by omega) (by omega) (by omega) (by omega) (fun j hj => by
            by_cases hjc : j = c
            · subst hjc; omega
            · exact hful j (by omega)) hsmo (hv.mvT (f0.wd (fun x h => Or.inr h))) (by rw [mI_sI_c _ _ _ _ (by decide), mI_sI_c _ _ _ _ (by decide)]; exact h29) (fun j hj => by
            rw [mI_sI_c _ _ _ _ (by decide)]
            by_cases hjc : j = c
            · subst hjc; rw [show 9 * b + j = b * 9 + j by omega, mI_sI_eq]; rfl
            · rw [mI_sI_k _ _ _ (by omega)]; exact h31 j (by omega)) (fun j hj => by
            by_cases hjc : j = c
            · subst hjc; rw [show 9 * b + j = b * 9 + j by omega, mI_sI_eq, hslk]
            · rw [mI_sI_k _ _ _ (by omega), mI_sI_c _ _ _ _ (by decide)]; exact h32 j (by omega))
          refine ⟨M', e1, f0.tr e2, e3, fun j hj => by rw [e4 j hj, mI_sI_c _ _ _ _ (by decide), mI_sI_c _ _ _ _ (by decide)], fun x hx j hj => ?_⟩
          rw [e5 x hx j hj]
          rcases hx with rfl | rfl
          · rw [mI_sI_c _ _ _ _ (by decide), mI_sI_k _ _ _ (by omega)]
          · rw [mI_sI_k _ _ _ (by omega), mI_sI_c _ _ _ _ (by decide)]
end PLAN1
