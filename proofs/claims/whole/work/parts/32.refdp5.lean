section REFDP5
variable {S : sS} {P : sP}
theorem y_laysSlot (hw : sWF S) (hP : pOK P) {st s : Nat} (hst : st < 6561) (hs : s < S 0) (hm : smay S st s = true) {M : mm_M} (hv : vR M S P) (hf : vF M S P.2.2.1) (htab : ∀ st', st' < 6561 → smay S st' (s + 1) = true → tE M S P (s + 1) st') :
    ∃ M', f7_laysSlot (nI st) (nI s) M = some M' ∧ Fr cTb M M' ∧ oth (6561 * s + st) M M' ∧ tE M' S P s st := by
  have h16 := two_pow_le hw.B
  have hT := hw.T
  obtain ⟨M', e1, e2, e3, e4⟩ := y_ls hw hP hst hs hm (2 ^ S 1) 0 FU M 1 (by omega) (by have := FU_big; omega) hv hf htab (Or.inl ⟨rfl, rfl⟩)
  refine ⟨M', ?_, e2, e3, ?_⟩
  · unfold f7_laysSlot
    rw [bI_eq, show (6561 : Int32) = nI 6561 from rfl, nx_mul, nx_add]
    exact e1
  · have hr : S 0 - s = (S 0 - (s + 1)) + 1 := by omega
    unfold tE
    rw [hr, sdp_succ]
    have ha : sarg S P (S 0 - (s + 1)) (scn st) = sbest (sfx S P (S 0 - (s + 1)) (scn st)) (sok S P s (scn st)) (2 ^ S 1) := by
      unfold sarg
      rw [show S 0 - (S 0 - (s + 1) + 1) = s by omega]
    rw [ha]
    exact ⟨e4.1, e4.2.1, e4.2.2.1, fun _ => e4.2.2.2⟩
/-- a whole SLOT of the tables -/
def tS (M : mm_M) (S : sS) (P : sP) (s : Nat) : Prop := ∀ st, st < 6561 → smay S st s = true → tE M S P s st
theorem y_f17 (hw : sWF S) (hP : pOK P) {s : Nat} (hs : s ≤ S 0) (rec : Int32 → mm_M → Option mm_M) : ∀ (k st n : Nat) (M : mm_M), st + k = 6561 → k < n → vR M S P → vF M S P.2.2.1 → (∀ s', s < s' → s' ≤ S 0 → tS M S P s') → (∀ st', st' < st → smay S st' s = true → tE M S P s st') →
    ∃ M', l7_finds_17 rec n (nI s) (nI st) M = rec (nI s + (-1)) M' ∧ Fr cTb M M' ∧ (∀ s', s ≤ s' → s' ≤ S 0 → tS M' S P s') := by
  have hT := hw.T
  intro k
  induction k with
  | zero =>
    intro st n M hk hn hv hf hhi hlo
    obtain ⟨n, rfl⟩ : ∃ m, n = m + 1 := ⟨n - 1, by omega⟩
    refine ⟨M, ?_, Fr.rf, fun s' h1 h2 => ?_⟩
    · unfold l7_finds_17 b7_finds_17
      rw [show (6561 : Int32) = nI 6561 from rfl, if_pos (by rw [nx_le (by omega) (by omega)]; omega)]
    · by_cases hss : s' = s
      · subst hss
        exact fun st' h3 h4 => hlo st' (by omega) h4
      · exact hhi s' (by omega) h2
  | succ k ih =>
    intro st n M hk hn hv hf hhi hlo
    obtain ⟨n, rfl⟩ : ∃ m, n = m + 1 := ⟨n - 1, by omega⟩
    have hst : st < 6561 := by omega
    -- behind the entry
    have next : ∀ M1, Fr cTb M M1 → oth (6561 * s + st) M M1 → (smay S st s = true → tE M1 S P s st) → ∃ M', l7_finds_60 (l7_finds_17 rec n) (nI s) (nI st) M1 = rec (nI s + (-1)) M' ∧ Fr cTb M M' ∧ (∀ s', s ≤ s' → s' ≤ S 0 → tS M' S P s') := by
      intro M1 f1 o1 t1
      obtain ⟨M', e1, e2, e3⟩ := ih (st + 1) n M1 (by omega) (by omega) (hv.mv (f1.wd cTb_Dp)) (fun b c hb hc => by rw [f1.mI (by decide)]; exact hf b c hb hc) (fun s' h1 h2 st' h3 h4 => (hhi s' h1 h2 st' h3 h4).mv o1 (by omega)) (fun st' h3 h4 => by
        by_cases hss : st' = st
        · subst hss; exact t1 h4
        · exact (hlo st' (by omega) h4).mv o1 (by omega))
      refine ⟨M', ?_, f1.tr e2, e3⟩
      unfold l7_finds_60
      rw [nx_l1, nx_add]
      exact e1
    unfold l7_finds_17 b7_finds_17
    rw [show (6561 : Int32) = nI 6561 from rfl, if_neg (by rw [nx_le (by omega) (by omega)]; omega), y_mayBe hw hst (by omega) hv.1, cI_some]
    by_cases hm : smay S st s = true
    · rw [if_pos hm, if_neg (by decide), show (0 : Int32) = nI 0 from rfl, aI_in (by omega) (by omega), hv.1 0 (by omega)]
      simp only [nx_eq (show s < 2 ^ 31 by omega) (show S 0 < 2 ^ 31 by omega)]
      by_cases hsT : s = S 0
      · rw [if_pos hsT, y_laysEnd hw hP hst hv hf, cV_some]
        subst hsT
        have f1 : Fr cTb M (sI (sI (sI M 54 (6561 * S 0 + st) (nI (sle S P.2.2.1 P.2.2.2.2 (scn st)))) 55 (6561 * S 0 + st) 0) 56 (6561 * S 0 + st) 0) := ((Fr.sI (Or.inl rfl)).tr (Fr.sI (Or.inr (Or.inl rfl)))).tr (Fr.sI (Or.inr (Or.inr (Or.inl rfl))))
        refine next _ f1 (fun c hc j hj => ?_) (fun _ => ?_)
        · rw [mI_sI, if_neg (fun z => hj z.2), mI_sI, if_neg (fun z => hj z.2), mI_sI, if_neg (fun z => hj z.2)]
        · unfold tE
          rw [Nat.sub_self]
          refine ⟨?_, ?_, ?_, fun h => absurd h (by omega)⟩
          · rw [mI_sI_c _ _ _ _ (by decide), mI_sI_c _ _ _ _ (by decide), mI_sI_eq]; rfl
          · rw [mI_sI_c _ _ _ _ (by decide), mI_sI_eq]; rfl
          · rw [mI_sI_eq]; rfl
      · rw [if_neg hsT]
        obtain ⟨M1, c1, c2, c3, c4⟩ := y_laysSlot hw hP hst (by omega) hm hv hf (hhi (s + 1) (by omega) (by omega))
        rw [c1, cV_some]
        exact next M1 c2 c3 (fun _ => c4)
    · rw [if_neg hm, if_pos rfl]
      exact next M Fr.rf oth.rf (fun h => absurd h hm)
theorem y_f11 (hw : sWF S) (hP : pOK P) : ∀ (k n : Nat) (M : mm_M), k ≤ S 0 → k + 1 < n → vR M S P → vF M S P.2.2.1 → (∀ s', k < s' → s' ≤ S 0 → tS M S P s') → ∃ M', l7_finds_11 n (nI k) M = some M' ∧ Fr cTb M M' ∧ (∀ s', s' ≤ S 0 → tS M' S P s') := by
  have hT := hw.T
  have hF := FU_big
  intro k
  induction k with
  | zero =>
    intro n M hk hn hv hf hhi
    obtain ⟨n, rfl⟩ : ∃ m, n = m + 2 := ⟨n - 2, by omega⟩
    obtain ⟨M', e1, e2, e3⟩ := y_f17 hw hP (show 0 ≤ S 0 by omega) (l7_finds_11 (n + 1)) 6561 0 FU M (by omega) (by omega) hv hf hhi (fun st' h => by omega)
    refine ⟨M', ?_, e2, fun s' h => e3 s' (by omega) h⟩
    rw [show l7_finds_11 (n + 2) (nI 0) M = b7_finds_11 (l7_finds_11 (n + 1)) (nI 0) M from rfl]
    unfold b7_finds_11
    rw [if_neg (by decide)]
    rw [show (0 : Int32) = nI 0 from rfl]
    refine e1.trans ?_
    rw [show l7_finds_11 (n + 1) (nI 0 + (-1)) M' = b7_finds_11 (l7_finds_11 n) (nI 0 + (-1)) M' from rfl]
    unfold b7_finds_11
    rw [if_pos (by decide)]
  | succ k ih =>
    intro n M hk hn hv hf hhi
    obtain ⟨n, rfl⟩ : ∃ m, n = m + 1 := ⟨n - 1, by omega⟩
    obtain ⟨M1, c1, c2, c3⟩ := y_f17 hw hP hk (l7_finds_11 n) 6561 0 FU M (by omega) (by omega) hv hf hhi (fun st' h => by omega)
    obtain ⟨M', e1, e2, e3⟩ := ih n M1 (by omega) (by omega) (hv.mv (c2.wd cTb_Dp)) (fun b c hb hc => by rw [c2.mI (by decide)]; exact hf b c hb hc) (fun s' h1 h2 => c3 s' (by omega) h2)
    refine ⟨M', ?_, c2.tr e2, e3⟩
    rw [show l7_finds_11 (n + 1) (nI (k + 1)) M = b7_finds_11 (l7_finds_11 n) (nI (k + 1)) M from rfl]
    unfold b7_finds_11
    rw [if_neg (by rw [nx_lt0 (by omega)]; exact not_false)]
    rw [show (0 : Int32) = nI 0 from rfl]
    refine c1.trans ?_
    rw [nx_pred (by omega), show k + 1 - 1 = k by omega]
    exact e1
theorem y_finds (hw : sWF S) (hP : pOK P) {M : mm_M} (hv : vR M S P) : ∃ M', f7_finds M = some M' ∧ Fr cDp M M' ∧ (∀ s', s' ≤ S 0 → tS M' S P s') := by
  have hT := hw.T
  have hF := FU_big
  obtain ⟨M1, c1, c2, c3⟩ := y_laysFull hw hP hv
  have w58 : ∀ x, x = 58 → cDp x := fun x h => Or.inr (Or.inr (Or.inr (Or.inr h)))
  have hv1 := hv.mv (c2.wd w58)
  obtain ⟨M', e1, e2, e3⟩ := y_f11 hw hP (S 0) FU M1 (Nat.le_refl _) (by omega) hv1 c3 (fun s' h1 h2 => by omega)
  refine ⟨M', ?_, (c2.wd w58).tr (e2.wd cTb_Dp), e3⟩
  unfold f7_finds
  rw [c1, cV_some, show (0 : Int32) = nI 0 from rfl, aI_in (by omega) (by omega), hv1.1 0 (by omega)]
  exact e1
theorem smay_0 (S : sS) : smay S 0 0 = true := by
  apply (smay_iff S 0 0).mpr
  intro b hb
  have h : scn 0 b = 0 := by unfold scn; rw [Nat.zero_div]
  unfold smb
  rw [h]
  split <;> rfl
theorem scn_00 : scn 0 = fun _ => 0 := by
  funext b
  unfold scn
  rw [Nat.zero_div]
/-- COST, or -2 -/
def scn2 (S : sS) (P : sP) : Int32 := if 0 < (sdp S P (S 0) (fun _ => 0)).1 then -2 else nI (sdp S P (S 0) (fun _ => 0)).2.1
theorem y_costNow (hw : sWF S) (hP : pOK P) {M : mm_M} (hv : vR M S P) : ∃ M', f7_costNow M = some (scn2 S P, M') ∧ Fr cDp M M' := by
  obtain ⟨M', e1, e2, e3⟩ := y_finds hw hP hv
  refine ⟨M', ?_, e2⟩
  have h := e3 0 (by omega) 0 (by omega) (smay_0 S)
  have hbd := sdp_bd hw P (S 0) (Nat.le_refl _) (fun _ => 0)
  unfold tE at h
  rw [Nat.sub_zero, scn_00, Nat.mul_zero, Nat.add_zero] at h
  unfold f7_costNow l7_costNow_24
  rw [e1, cV_some, show (0 : Int32) = nI 0 from rfl, aI_in (by omega) (by omega), h.1]
  simp only [nx_le (show (sdp S P (S 0) (fun _ => 0)).1 < 2 ^ 31 by omega) (show 0 < 2 ^ 31 by omega)]
  unfold scn2
  by_cases hc : (sdp S P (S 0) (fun _ => 0)).1 ≤ 0
  · rw [if_pos hc, if_neg (by omega), aI_in (by omega) (by omega), h.2.1]
  · rw [if_neg hc, if_pos (by omega)]
-- BEST is laid out
theorem scnt_bd (hw : sWF S) : ∀ s, s ≤ S 0 → ∀ b, b < 4 → if b < S 1 then scnt S P s b ≤ s else scnt S P s b = 0
  | 0, _, b, _ => by
    show if b < S 1 then (0 : Nat) ≤ 0 else (0 : Nat) = 0
    split <;> omega
  | s + 1, hs, b, hb => by
    have ih := scnt_bd hw s (by omega) b hb
    have hl := sarg_lt S P (S 0 - (s + 1)) (scnt S P s)
    show if b < S 1 then snx (scnt S P s) _ b ≤ s + 1 else snx (scnt S P s) _ b = 0
    unfold snx
    by_cases hbS : b < S 1
    · rw [if_pos hbS] at ih ⊢
      split <;> omega
    · rw [if_neg hbS] at ih ⊢
      rw [sbit_out hw.B hl hb (by omega)]
      simp [ih]
theorem scnt_9 (hw : sWF S) {s : Nat} (hs : s ≤ S 0) : ∀ b, b < 4 → scnt S P s b < 9 := by
  intro b hb
  have h := scnt_bd (P := P) hw s hs b hb
  have hT := hw.T
  split at h <;> omega
theorem scnt_may (hw : sWF S) {s : Nat} (hs : s ≤ S 0) : smay S (senc (scnt S P s)) s = true := by
  apply (smay_iff S _ _).mpr
  intro b hb
  have h := scnt_bd (P := P) hw s hs b hb
  unfold smb
  rw [scn_senc (scnt_9 hw hs) b hb]
  split at h
  · next hbS => rw [if_pos hbS]; exact decide_eq_true h
  · next hbS => rw [if_neg hbS]; exact decide_eq_true h
theorem y_lb (hw : sWF S) (hP : pOK P) : ∀ (k s n : Nat) (M : mm_M), s + k = S 0 → k < n → vR M S P → (∀ s', s' ≤ S 0 → tS M S P s') → (∀ s', s' < s → mI M 51 s' = nI (sbpl S P s')) →
    ∃ M', l7_laysBest_4 n (nI (senc (scnt S P s))) (nI s) M = some M' ∧ Fr (fun c => c = 51 ∨ cGo c) M M' ∧ vG M' S P.1 P.2.2.1 (sbpl S P) ∧ (∀ s', s' < S 0 → mI M' 51 s' = nI (sbpl S P s')) := by
  have hT := hw.T
  have h16 := two_pow_le hw.B
  intro k
  induction k with
  | zero =>
    intro s n M hk hn hv htab hp
    obtain ⟨n, rfl⟩ : ∃ m, n = m + 1 := ⟨n - 1, by omega⟩
    have hs : s = S 0 := by omega
    subst hs
    obtain ⟨M', e1, e2, e3⟩ := y_goes (com := P.1) (pow := P.2.2.1) (pl := sbpl S P) hw hP.2.2.1 hP.1 (fun s hs => by have := sbpl_lt S P s; omega) (M := M) ⟨hv.1, hv.2.2.1, hv.2.2.2.2.2.1, hp⟩
    refine ⟨M', ?_, e2.wd (fun c h => Or.inr h), e3, fun s' hs' => by rw [e2.mI (by decide)]; exact hp s' hs'⟩
    unfold l7_laysBest_4 b7_laysBest_4
    rw [show (0 : Int32) = nI 0 from rfl, aI_in (by omega) (by omega), hv.1 0 (by omega), if_pos (by rw [nx_le (by omega) (by omega)]; omega), e1, cV_some]
  | succ k ih =>
    intro s n M hk hn hv htab hp
    obtain ⟨n, rfl⟩ : ∃ m, n = m + 1 := ⟨n - 1, by omega⟩
    have hs : s < S 0 := by omega
    have h9 := scnt_9 (P := P) hw (show s ≤ S 0 by omega)
    have hlt := senc_lt h9
    have ht := (htab s (by omega) _ hlt (scnt_may hw (by omega))).2.2.2 hs
    rw [sarg_cong P _ _ (scnt S P s) (fun b hb => scn_senc h9 b (by have := hw.B; omega))] at ht
    have hpl : sarg S P (S 0 - (s + 1)) (scnt S P s) = sbpl S P s := by unfold sbpl; rw [if_pos hs]
    rw [hpl] at ht
    have hbl := sbpl_lt S P s
    have f0 : Fr (fun c => c = 51 ∨ cGo c) M (sI M 51 s (nI (sbpl S P s))) := Fr.sI (Or.inl rfl)
    have f1 : Fr (fun c => c = 51) M (sI M 51 s (nI (sbpl S P s))) := Fr.sI rfl
    have hv1 : vR (sI M 51 s (nI (sbpl S P s))) S P := ⟨hv.1.mv f1 (by decide), by rw [f1.mI (by decide)]; exact hv.2.1, by rw [f1.mI (by decide)]; exact hv.2.2.1, by rw [f1.mI (by decide)]; exact hv.2.2.2.1, by rw [f1.mI (by decide)]; exact hv.2.2.2.2.1, fun b hb => by rw [f1.mI (by decide)]; exact hv.2.2.2.2.2.1 b hb, fun b hb => by rw [f1.mI (by decide)]; exact hv.2.2.2.2.2.2 b hb⟩
    obtain ⟨M', e1, e2, e3, e4⟩ := ih (s + 1) n _ (by omega) (by omega) hv1 (fun s' h1 st h2 h3 => by
      have := htab s' h1 st h2 h3
      unfold tE at this ⊢
      rw [f1.mI (by decide), f1.mI (by decide), f1.mI (by decide), f1.mI (by decide)]
      exact this) (fun s' hs' => by
      by_cases hss : s' = s
      · subst hss; rw [mI_sI_eq]
      · rw [mI_sI_k _ _ _ hss]; exact hp s' (by omega))
    refine ⟨M', ?_, f0.tr e2, e3, e4⟩
    unfold l7_laysBest_4 b7_laysBest_4
    rw [show (0 : Int32) = nI 0 from rfl, aI_in (by omega) (by omega), hv.1 0 (by omega), if_neg (by rw [nx_le (by omega) (by omega)]; omega), show (6561 : Int32) = nI 6561 from rfl, nx_mul, nx_add, aI_in (by omega) (by omega), ht, uI_in (by omega) (by omega), aI_in (by omega) (by omega), mI_sI_eq, y_behind hw hbl hv1.1 hv1.2.2.2.2.2.2, cI_some, nx_l1, nx_add]
    rw [← senc_snx, show snx (scnt S P s) (sbpl S P s) = scnt S P (s + 1) by rw [← hpl]; rfl]
    exact e1
theorem y_laysBest (hw : sWF S) (hP : pOK P) {M : mm_M} (hv : vR M S P) (htab : ∀ s', s' ≤ S 0 → tS M S P s') : ∃ M', f7_laysBest M = some M' ∧ Fr (fun c => c = 51 ∨ cGo c) M M' ∧ vG M' S P.1 P.2.2.1 (sbpl S P) ∧ (∀ s', s' < S 0 → mI M' 51 s' = nI (sbpl S P s')) := by
  have hT := hw.T
  exact y_lb hw hP (S 0) 0 FU M (by omega) (by have := FU_big; omega) hv htab (fun s' h => by omega)
end REFDP5
