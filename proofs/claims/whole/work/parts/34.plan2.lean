section PLAN2
variable {S : sS} {P : sP}
theorem x_trace (hw : sWF S) (hP : pOK P) {d b : Nat} (hsw : sw S P b = true) {M : mm_M} (hv : vP M d S P) : ∃ M', f2_trace (nI b) M = some M' ∧ Fr cTr M M' ∧ vB M' S P b ∧ (∀ x, x = 29 ∨ x = 30 → ∀ j, j ≠ b → mI M' x j = mI M x j) ∧ ∀ x, x = 31 ∨ x = 32 → ∀ j, (j < 9 * b ∨ 9 * b + 9 ≤ j) → mI M' x j = mI M x j := by
  have hbS : b < S 1 := by
    unfold sw at hsw
    rw [Bool.and_eq_true, decide_eq_true_eq] at hsw
    exact hsw.1
  have hB := hw.B
  have hT := hw.T
  have hb2 := hw.bus b hbS
  have hc := hP.1 b
  have hst : sst S P b = sgo S b - P.1 b := by unfold sst; rw [if_pos hsw]
  have hgo : sgo S b ≤ 8 := by unfold sgo; omega
  have f0 : Fr cTr M (sI M 29 b (nI (sst S P b))) := Fr.sI (Or.inl rfl)
  have hsm : smo S P.2.2.1 b (sst S P b) 9 0 = smt S P b := by unfold smt; rw [if_pos hsw]
  obtain ⟨M', e1, e2, e3, e4, e5⟩ := x_tr49 (d := d) hw hP hsw (by omega) 9 0 FU (sI M 29 b (nI (sst S P b))) (by omega) (by have := FU_big; omega) (by omega) (by omega) (fun j hj => by omega) hsm (hv.mvT f0) (mI_sI_eq _ _ _ _) (fun j hj => by omega) (fun j hj => by omega)
  refine ⟨M', ?_, f0.tr (e2.wd (fun x h => Or.inr h)), e3, fun x hx j hj => ?_, fun x hx j hj => ?_⟩
  · unfold f2_trace
    rw [bN_eq, hv.1, if_pos hv.2.1.ok, nx_l3, x_fact hv.2.1 (by omega) (by omega), cI_some, bN_eq, hv.1, if_pos hv.2.1.ok, nx_l2, x_fact hv.2.1 (by omega) (by omega), cI_some, bN_eq, hv.1, if_pos hv.2.1.ok, nx_l5, x_fact hv.2.1 (by omega) (by omega), cI_some, aI_in (by omega) (by omega), hv.2.2.2.2.2.1 b (by omega), show S (50 + 6 * b + 5) = sgo S b from rfl, mx_sub (by omega) (by omega), bI_eq, uI_in (by omega) (by omega), ← hst, nx_lit0]
    exact e1
  · rcases hx with rfl | rfl
    · rw [e2.mI (by decide), mI_sI_k _ _ _ hj]
    · rw [e4 j hj, mI_sI_c _ _ _ _ (by decide)]
  · rw [e5 x hx j hj]
    rcases hx with rfl | rfl <;> rw [mI_sI_c _ _ _ _ (by decide)]
/-- the lowest bit of a set -/
def slow (s : Nat) : Nat := ([0, 0, 1, 0, 2, 0, 1, 0, 3, 0, 1, 0, 2, 0, 1, 0] : List Nat).getD s 0
theorem low_tab : ∀ s : Fin 16, s.1 ≠ 0 → (nI s.1 &&& (-nI s.1)) = nI (2 ^ slow s.1) ∧ (nI s.1 ^^^ nI (2 ^ slow s.1)) = nI (s.1 - 2 ^ slow s.1) ∧ slow s.1 < 4 ∧ 2 ^ slow s.1 ≤ s.1 ∧ sbit s.1 (slow s.1) = true ∧ sbit (s.1 - 2 ^ slow s.1) (slow s.1) = false ∧ (nI s.1 &&& (nI s.1 - 1)) = nI (s.1 - 2 ^ slow s.1) := by decide +kernel
theorem low_bit : ∀ s : Fin 16, s.1 ≠ 0 → ∀ k : Fin 4, k.1 ≠ slow s.1 → sbit s.1 k.1 = sbit (s.1 - 2 ^ slow s.1) k.1 := by decide +kernel
theorem pow_bit : ∀ b k : Fin 4, sbit (2 ^ b.1) k.1 = decide (k = b) := by decide +kernel
theorem ssum_low {f : Nat → Nat} {s : Nat} (hs : s < 16) (h0 : s ≠ 0) {n : Nat} (hn : n ≤ 4) : ssum (fun b => if sbit s b = true then f b else 0) n = ssum (fun b => if sbit (s - 2 ^ slow s) b = true then f b else 0) n + if slow s < n then f (slow s) else 0 := by
  obtain ⟨-, -, l1, l2, l3, l4, -⟩ := low_tab ⟨s, hs⟩ h0
  simp only at l1 l2 l3 l4
  induction n with
  | zero => rfl
  | succ n ih =>
    have ih := ih (by omega)
    show ssum _ n + (if sbit s n = true then f n else 0) = ssum _ n + (if sbit (s - 2 ^ slow s) n = true then f n else 0) + _
    rw [ih]
    by_cases hk : n = slow s
    · subst hk
      rw [if_pos l3, l4, if_neg (show ¬ slow s < slow s by omega), if_pos (show slow s < slow s + 1 by omega)]
      simp
    · have := low_bit ⟨s, hs⟩ h0 ⟨n, by omega⟩ hk
      simp only at this
      rw [this]
      have e1 : (if slow s < n + 1 then f (slow s) else 0) = (if slow s < n then f (slow s) else 0) := by
        by_cases hl : slow s < n
        · rw [if_pos hl, if_pos (by omega)]
        · rw [if_neg hl, if_neg (by omega)]
      rw [e1]
      omega
theorem ssh_low {s : Nat} (hs : s < 16) (h0 : s ≠ 0) : ssh S P s = ssh S P (s - 2 ^ slow s) + sstr S P (slow s) := by
  obtain ⟨-, -, l1, -⟩ := low_tab ⟨s, hs⟩ h0
  simp only at l1
  unfold ssh
  rw [ssum_low hs h0 (Nat.le_refl 4), if_pos l1]
theorem ssh_pow {b : Nat} (hb : b < 4) : ssh S P (2 ^ b) = sstr S P b := by
  have : b = 0 ∨ b = 1 ∨ b = 2 ∨ b = 3 := by omega
  have h : ∀ k : Fin 4, ∀ b : Fin 4, sbit (2 ^ b.1) k.1 = decide (k = b) := fun k b => pow_bit b k
  unfold ssh ssum ssum ssum ssum ssum
  rw [show sbit (2 ^ b) 3 = decide ((⟨3, by omega⟩ : Fin 4) = ⟨b, hb⟩) from h ⟨3, by omega⟩ ⟨b, hb⟩, show sbit (2 ^ b) 2 = decide ((⟨2, by omega⟩ : Fin 4) = ⟨b, hb⟩) from h ⟨2, by omega⟩ ⟨b, hb⟩, show sbit (2 ^ b) 1 = decide ((⟨1, by omega⟩ : Fin 4) = ⟨b, hb⟩) from h ⟨1, by omega⟩ ⟨b, hb⟩, show sbit (2 ^ b) 0 = decide ((⟨0, by omega⟩ : Fin 4) = ⟨b, hb⟩) from h ⟨0, by omega⟩ ⟨b, hb⟩]
  rcases this with rfl | rfl | rfl | rfl <;> simp
theorem ssh_0 : ssh S P 0 = 0 := by
  have h : ∀ k : Fin 4, sbit 0 k.1 = false := by decide +kernel
  unfold ssh ssum ssum ssum ssum ssum
  rw [show sbit 0 3 = false from h ⟨3, by omega⟩, show sbit 0 2 = false from h ⟨2, by omega⟩, show sbit 0 1 = false from h ⟨1, by omega⟩, show sbit 0 0 = false from h ⟨0, by omega⟩]
  rfl
theorem pow_inj4 {a b : Nat} (ha : a < 4) (hb : b < 4) (h : 2 ^ a = 2 ^ b) : a = b := by
  have h1 : a = 0 ∨ a = 1 ∨ a = 2 ∨ a = 3 := by omega
  have h2 : b = 0 ∨ b = 1 ∨ b = 2 ∨ b = 3 := by omega
  rcases h1 with rfl | rfl | rfl | rfl <;> rcases h2 with rfl | rfl | rfl | rfl <;> first | rfl | (exfalso; revert h; decide)
theorem pow_lt16 {b : Nat} (h : b < 4) : 2 ^ b < 16 := by
  have : b = 0 ∨ b = 1 ∨ b = 2 ∨ b = 3 := by omega
  rcases this with rfl | rfl | rfl | rfl <;> decide
/-- the last loop of traceAll -/
theorem x_ta89 : ∀ (k s n : Nat) (M : mm_M), s + k = 16 → 1 ≤ s → k < n → (∀ s', s' < s → mI M 33 s' = nI (ssh S P s')) → (∀ b, b < 4 → mI M 33 (2 ^ b) = nI (sstr S P b)) → ∃ M', l2_traceAll_89 n (nI s) M = some M' ∧ Fr (fun c => c = 33) M M' ∧ ∀ s', s' < 16 → mI M' 33 s' = nI (ssh S P s') := by
  intro k
  induction k with
  | zero =>
    intro s n M hk h1 hn hl hp
    obtain ⟨n, rfl⟩ : ∃ m, n = m + 1 := ⟨n - 1, by omega⟩
    refine ⟨M, ?_, Fr.rf, fun s' h => hl s' (by omega)⟩
    unfold l2_traceAll_89 b2_traceAll_89
    rw [show (16 : Int32) = nI 16 from rfl, if_pos (by rw [nx_le (by omega) (by omega)]; omega)]
  | succ k ih =>
    intro s n M hk h1 hn hl hp
    obtain ⟨n, rfl⟩ : ∃ m, n = m + 1 := ⟨n - 1, by omega⟩
    obtain ⟨l1, l2, l3, l4, l5, l6, -⟩ := low_tab ⟨s, by omega⟩ (by show s ≠ 0; omega)
    simp only at l1 l2 l3 l4
    have hl16 := pow_lt16 l3
    have f0 : Fr (fun c => c = 33) M (sI M 33 s (nI (ssh S P s))) := Fr.sI rfl
    obtain ⟨M', e1, e2, e3⟩ := ih (s + 1) n (sI M 33 s (nI (ssh S P s))) (by omega) (by omega) (by omega) (fun s' h => by
      by_cases hss : s' = s
      · subst hss; rw [mI_sI_eq]
      · rw [mI_sI_k _ _ _ hss]; exact hl s' (by omega)) (fun b hb => by
      by_cases hss : 2 ^ b = s
      · rw [hss, mI_sI_eq, ← hss, ssh_pow hb]
      · rw [mI_sI_k _ _ _ hss]; exact hp b hb)
    refine ⟨M', ?_, f0.tr e2, e3⟩
    have hs0 : s - 2 ^ slow s < s := by
      have := Nat.two_pow_pos (slow s)
      omega
    unfold l2_traceAll_89 b2_traceAll_89
    rw [show (16 : Int32) = nI 16 from rfl, if_neg (by rw [nx_le (by omega) (by omega)]; omega), bI_eq, l1, l2, aI_in (by omega) (by omega), hl _ hs0, aI_in (by omega) (by omega), hp _ l3, uI_in (by omega) (by omega), nx_add, ← ssh_low (by omega) (by omega), nx_l1, nx_add]
    exact e1
abbrev cTa : Nat → Prop := fun c => cTr c ∨ c = 33
theorem vB.mv {M M' : mm_M} {b : Nat} (h : vB M S P b) (h1 : ∀ x, x = 29 ∨ x = 30 → mI M' x b = mI M x b) (h2 : ∀ x, x = 31 ∨ x = 32 → ∀ c, c ≤ 8 → mI M' x (9 * b + c) = mI M x (9 * b + c)) : vB M' S P b := by
  have h8 := (smt_spec S P b).1
  exact ⟨by rw [h1 29 (Or.inl rfl)]; exact h.1, by rw [h1 30 (Or.inr rfl)]; exact h.2.1, fun c hc => by rw [h2 31 (Or.inl rfl) c (by omega)]; exact h.2.2.1 c hc, fun c hc => by rw [h2 32 (Or.inr rfl) c (by omega)]; exact h.2.2.2 c hc⟩
theorem x_ta4 (hw : sWF S) (hP : pOK P) {d : Nat} : ∀ (k b n : Nat) (M : mm_M), b + k = 4 → k < n → vP M d S P → (∀ b', b' < b → vB M S P b') → (∀ b', b' < b → mI M 33 (2 ^ b') = nI (sstr S P b')) → ∃ M', l2_traceAll_4 n (nI (sstr S P b)) (nI b) M = some M' ∧ Fr cTa M M' ∧ vP M' d S P ∧ (∀ b', b' < 4 → vB M' S P b') ∧ ∀ s', s' < 16 → mI M' 33 s' = nI (ssh S P s') := by
  have hB := hw.B
  have hF := FU_big
  intro k
  induction k with
  | zero =>
    intro b n M hk hn hv hb hs
    obtain ⟨n, rfl⟩ : ∃ m, n = m + 1 := ⟨n - 1, by omega⟩
    obtain ⟨M', e1, e2, e3⟩ := x_ta89 (S := S) (P := P) 15 1 FU M (by omega) (by omega) (by omega) (fun s' h => by rw [show s' = 0 by omega, hv.2.2.2.2.2.2.2.1, ssh_0]; rfl) (fun b' hb' => hs b' (by omega))
    refine ⟨M', ?_, e2.wd (fun c h => Or.inr h), hv.mv e2 (fun c h => by omega) (by rw [e3 0 (by omega), ssh_0]; rfl) (by rw [e2.mI (by decide)]; exact hv.2.2.2.2.2.2.2.2), fun b' hb' => (hb b' (by omega)).mv (fun x hx => by rcases hx with rfl | rfl <;> exact e2.mI (by decide) _) (fun x hx c hc => by rcases hx with rfl | rfl <;> exact e2.mI (by decide) _), e3⟩
    unfold l2_traceAll_4 b2_traceAll_4
    rw [nx_l4, if_pos (by rw [nx_le (by omega) (by omega)]; omega)]
    exact e1
  | succ k ih =>
    intro b n M hk hn hv hb hs
    obtain ⟨n, rfl⟩ : ∃ m, n = m + 1 := ⟨n - 1, by omega⟩
    have hb4 : b < 4 := by omega
    have hp16 := pow_lt16 hb4
    -- behind the BUS
    have next : ∀ M1, Fr cTr M M1 → vB M1 S P b → (∀ b', b' < b → vB M1 S P b') → ∃ M', l2_traceAll_61 (l2_traceAll_4 n) (nI (sstr S P b)) (nI b) M1 = some M' ∧ Fr cTa M M' ∧ vP M' d S P ∧ (∀ b', b' < 4 → vB M' S P b') ∧ ∀ s', s' < 16 → mI M' 33 s' = nI (ssh S P s') := by
      intro M1 f1 hb1 hbo
      have f2 : Fr (fun c => c = 33) M1 (sI M1 33 (2 ^ b) (nI (sstr S P b))) := Fr.sI rfl
      have hpos := Nat.two_pow_pos b
      have hv1 := hv.mvT f1
      obtain ⟨M', e1, e2, e3, e4, e5⟩ := ih (b + 1) n (sI M1 33 (2 ^ b) (nI (sstr S P b))) (by omega) (by omega) (hv1.mv f2 (fun c h => by omega) (by rw [mI_sI_k _ _ _ (by omega)]; exact hv1.2.2.2.2.2.2.2.1) (by rw [f2.mI (by decide)]; exact hv1.2.2.2.2.2.2.2.2)) (fun b' hb' => by
        have : vB M1 S P b' := by
          by_cases hbb : b' = b
          · subst hbb; exact hb1
          · exact hbo b' (by omega)
        exact this.mv (fun x hx => by rcases hx with rfl | rfl <;> exact f2.mI (by decide) _) (fun x hx c hc => by rcases hx with rfl | rfl <;> exact f2.mI (by decide) _)) (fun b' hb' => by
        by_cases hbb : b' = b
        · subst hbb; rw [mI_sI_eq]
        · rw [mI_sI_k _ _ _ (fun e => hbb (pow_inj4 (by omega) hb4 e)), f1.mI (by decide)]
          exact hs b' (by omega))
      refine ⟨M', ?_, (f1.wd (fun c h => Or.inl h)).tr ((f2.wd (fun c h => Or.inr h)).tr e2), e3, e4, e5⟩
      have h9 := (smt_spec S P b).1
      unfold l2_traceAll_61
      rw [show (1 <<< (nI b &&& 31) : Int32) = nI (2 ^ b) from shl_pow' (by omega), uI_in (by omega) (by omega), aI_in (by omega) (by omega), mI_sI_c _ _ _ _ (by decide), hb1.2.1, nx_l1, nx_add, nx_mul, bI_eq, nx_add]
      exact e1
    unfold l2_traceAll_4 b2_traceAll_4
    rw [nx_l4, if_neg (by rw [nx_le (by omega) (by omega)]; omega), uI_in (by omega) (by omega), uI_in (by omega) (by omega), nx_l9, nx_mul, uI_in (by omega) (by omega), bN_eq]
    have f0 : Fr cTr M (sI (sI (sI M 29 b 0) 30 b 0) 32 (b * 9) 0) := ((Fr.sI (Or.inl rfl)).tr (Fr.sI (Or.inr (Or.inl rfl)))).tr (Fr.sI (Or.inr (Or.inr (Or.inr rfl))))
    have hv0 := hv.mvT f0
    have ho0 : ∀ b', b' < b → vB (sI (sI (sI M 29 b 0) 30 b 0) 32 (b * 9) 0) S P b' := fun b' hb' => (hb b' hb').mv (fun x hx => by
      rcases hx with rfl | rfl
      · rw [mI_sI_c _ _ _ _ (by decide), mI_sI_c _ _ _ _ (by decide), mI_sI_k _ _ _ (by omega)]
      · rw [mI_sI_c _ _ _ _ (by decide), mI_sI_k _ _ _ (by omega), mI_sI_c _ _ _ _ (by decide)]) (fun x hx c hc => by
      rcases hx with rfl | rfl
      · rw [mI_sI_c _ _ _ _ (by decide), mI_sI_c _ _ _ _ (by decide), mI_sI_c _ _ _ _ (by decide)]
      · rw [mI_sI_k _ _ _ (by omega), mI_sI_c _ _ _ _ (by decide), mI_sI_c _ _ _ _ (by decide)])
    have none0 : ¬ sw S P b = true → vB (sI (sI (sI M 29 b 0) 30 b 0) 32 (b * 9) 0) S P b := by
      intro h
      have e1 : sst S P b = 0 := by unfold sst; rw [if_neg h]
      have e2 : smt S P b = 0 := by unfold smt; rw [if_neg h]
      have e3 : slk S P b 0 = 0 := by unfold slk; rw [if_neg h]
      unfold vB
      rw [e1, e2]
      refine ⟨?_, ?_, fun c hc => by omega, fun c hc => ?_⟩
      · rw [mI_sI_c _ _ _ _ (by decide), mI_sI_c _ _ _ _ (by decide), mI_sI_eq]; rfl
      · rw [mI_sI_c _ _ _ _ (by decide), mI_sI_eq]; rfl
      · rw [show c = 0 by omega, e3, show 9 * b + 0 = b * 9 by omega, mI_sI_eq]; rfl
    obtain ⟨w, w1, w2, w3⟩ := hv0.2.2.2.2.2.2.1
    rw [hv0.1, if_pos hv0.2.1.ok, bI_eq, hv0.2.1.B]
    simp only [nx_le (show S 1 < 2 ^ 31 by omega) (show b < 2 ^ 31 by omega)]
    by_cases c1 : S 1 ≤ b
    · rw [if_pos c1]
      exact next _ f0 (none0 (by unfold sw; rw [Bool.and_eq_true, decide_eq_true_eq]; omega)) ho0
    · rw [if_neg c1, bI_eq, w2]
      simp only [bit_has' w1 hb4]
      rw [w3 b (by omega)]
      by_cases c2 : sbit P.2.2.2.2 b = true
      · rw [if_pos c2]
        have hsw : sw S P b = true := by unfold sw; rw [Bool.and_eq_true, decide_eq_true_eq]; exact ⟨by omega, c2⟩
        obtain ⟨M1, t1, t2, t3, t4, t5⟩ := x_trace hw hP hsw hv0
        rw [t1, cV_some]
        exact next M1 (f0.tr t2) t3 (fun b' hb' => (ho0 b' hb').mv (fun x hx => t4 x hx b' (by omega)) (fun x hx c hc => t5 x hx _ (by omega)))
      · rw [if_neg c2]
        exact next _ f0 (none0 (by unfold sw; rw [Bool.and_eq_true]; exact fun z => c2 z.2)) ho0
theorem x_traceAll (hw : sWF S) (hP : pOK P) {d : Nat} {M : mm_M} (hv : vP M d S P) : ∃ M', f2_traceAll M = some M' ∧ Fr cTa M M' ∧ vP M' d S P ∧ (∀ b', b' < 4 → vB M' S P b') ∧ ∀ s', s' < 16 → mI M' 33 s' = nI (ssh S P s') := by
  exact x_ta4 hw hP 4 0 FU M (by omega) (by have := FU_big; omega) hv (fun b' h => by omega) (fun b' h => by omega)
end PLAN2
