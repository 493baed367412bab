/-! the state that both sides hold, and what stays -/
/-- told; the bytes of the TAPE, how many; FAULT -/
abbrev sQ : Type := sS × (Nat → Nat) × Nat × Nat
def sb8 (v : Nat) : Int32 := (nI v).toInt8.toInt32
def sQok (q : sQ) : Prop := sWF q.1 ∧ (∀ k, 82 ≤ k → q.1 k = 0) ∧ q.2.2.1 ≤ 400 ∧ (∀ j, q.2.1 j < 256) ∧ q.2.2.2 < 10000
def vK (M : mm_M) (q : sQ) : Prop := isD (mDra M) = true ∧ mNow M ≠ mDra M ∧ vD M (mNow M) q.1 ∧ mI M 20 1 = nI q.2.2.1 ∧ (∀ j, j < q.2.2.1 → mI M 21 j = sb8 (q.2.1 j)) ∧ mI M 22 1 = nI q.2.2.2 ∧ mI M 33 0 = 0 ∧ mI M 40 0 = 0 ∧ (mI M 1 8 = 0 ∨ (mI M 1 8 = 1 ∧ ∀ s, s < 8 → mI M 45 s = nI (sbpl q.1 (sP0 q.1) s)))
def vN (M : mm_M) (q : sQ) : Prop := vM M q.1 ∧ mI M 46 4 = nI q.2.2.1 ∧ mI M 46 5 = nI q.2.2.2 ∧ (∀ j, j < q.2.2.1 → mI M 49 j = nI (q.2.1 j)) ∧ ∀ b, b < 4 → mI M 59 b = nI (9 ^ b)
def TT (M : mm_M) (q : sQ) : Prop := sQok q ∧ vK M q ∧ vN M q
/-- the class: nothing but what it works with has changed -/
def KF (M M' : mm_M) : Prop := (∀ c, ¬ (23 ≤ c ∧ c ≤ 44) → M'.1 c = M.1 c) ∧ mNow M' = mNow M ∧ mDra M' = mDra M ∧ mG M' = mG M ∧ (mI M 33 0 = 0 → mI M' 33 0 = 0) ∧ (mI M 40 0 = 0 → mI M' 40 0 = 0)
/-- the reference: likewise -/
def NF (M M' : mm_M) : Prop := (∀ c, ¬ (46 ≤ c ∧ c ≠ 47 ∧ c ≠ 49 ∧ c ≠ 59) → M'.1 c = M.1 c) ∧ mI M' 46 4 = mI M 46 4 ∧ mI M' 46 5 = mI M 46 5 ∧ M'.2.2 = M.2.2
theorem KF.rf {M : mm_M} : KF M M := ⟨fun _ _ => rfl, rfl, rfl, rfl, fun h => h, fun h => h⟩
theorem KF.tr {M M1 M2 : mm_M} (h1 : KF M M1) (h2 : KF M1 M2) : KF M M2 := ⟨fun c h => (h2.1 c h).trans (h1.1 c h), h2.2.1.trans h1.2.1, h2.2.2.1.trans h1.2.2.1, h2.2.2.2.1.trans h1.2.2.2.1, fun h => h2.2.2.2.2.1 (h1.2.2.2.2.1 h), fun h => h2.2.2.2.2.2 (h1.2.2.2.2.2 h)⟩
theorem NF.rf {M : mm_M} : NF M M := ⟨fun _ _ => rfl, rfl, rfl, rfl⟩
theorem NF.tr {M M1 M2 : mm_M} (h1 : NF M M1) (h2 : NF M1 M2) : NF M M2 := ⟨fun c h => (h2.1 c h).trans (h1.1 c h), h2.2.1.trans h1.2.1, h2.2.2.1.trans h1.2.2.1, h2.2.2.2.trans h1.2.2.2⟩
theorem KF.mI {M M' : mm_M} (h : KF M M') {c : Nat} (hc : ¬ (23 ≤ c ∧ c ≤ 44)) (k : Nat) : mI M' c k = mI M c k := by
  unfold _root_.Jvm.Pilot.@@N@@.mI; rw [h.1 c hc]
theorem NF.mI {M M' : mm_M} (h : NF M M') {c : Nat} (hc : ¬ (46 ≤ c ∧ c ≠ 47 ∧ c ≠ 49 ∧ c ≠ 59)) (k : Nat) : mI M' c k = mI M c k := by
  unfold _root_.Jvm.Pilot.@@N@@.mI; rw [h.1 c hc]
theorem KF_of {P : Nat → Prop} {M M' : mm_M} (h : Fr P M M') (hP : ∀ c, P c → 23 ≤ c ∧ c ≤ 44) (h1 : mI M 33 0 = 0 → mI M' 33 0 = 0) (h2 : mI M 40 0 = 0 → mI M' 40 0 = 0) : KF M M' := ⟨fun c hc => h.1 c (fun z => hc (hP c z)), by unfold mNow; rw [h.2.2], by unfold mDra; rw [h.2.2], by unfold mG; rw [h.2.2], h1, h2⟩
theorem KF_of' {P : Nat → Prop} {M M' : mm_M} (h : Fr P M M') (hP : ∀ c, P c → 23 ≤ c ∧ c ≤ 44) (h1 : ¬ P 33) (h2 : ¬ P 40)   : KF M M' := KF_of h hP (fun z => by rw [h.mI h1]; exact z) (fun z => by rw [h.mI h2]; exact z)
theorem NF_of {P : Nat → Prop} {M M' : mm_M} (h : Fr P M M') (hP : ∀ c, P c → 46 ≤ c ∧ c ≠ 47 ∧ c ≠ 49 ∧ c ≠ 59) (h1 : mI M' 46 4 = mI M 46 4) (h2 : mI M' 46 5 = mI M 46 5) : NF M M' := ⟨fun c hc => h.1 c (fun z => hc (hP c z)), h1, h2, h.2.2⟩
theorem NF_of' {P : Nat → Prop} {M M' : mm_M} (h : Fr P M M') (hP : ∀ c, P c → 48 ≤ c ∧ c ≠ 49 ∧ c ≠ 59)   : NF M M' := NF_of h (fun c z => by have := hP c z; omega) (h.mI (fun z => by have := hP _ z; omega) 4) (h.mI (fun z => by have := hP _ z; omega) 5)
theorem vD.mvc {M M' : mm_M} {d : Nat} {S : sS} (h : vD M d S) (e : ∀ c, 2 ≤ c → c ≤ 19 → M'.1 c = M.1 c) : vD M' d S := by
  have hd := isD_le h.ok
  have e : ∀ k, k ≤ 8 → ∀ i, mI M' (d + k) i = mI M (d + k) i := fun k hk i => by unfold mI; rw [e (d + k) (by omega) (by omega)]
  have e0 := e 0 (by omega)
  rw [Nat.add_zero] at e0
  obtain ⟨g1, g2, g3, g4, g5, g6, g7, g8, g9, g10, g11⟩ := h
  exact ⟨g1, by rw [e0]; exact g2, by rw [e0]; exact g3, by rw [e0]; exact g4, fun k hk => by rw [e 1 (by omega)]; exact g5 k hk, fun k hk => by rw [e 2 (by omega)]; exact g6 k hk, fun k hk => by rw [e 3 (by omega)]; exact g7 k hk, fun k hk => by rw [e 4 (by omega)]; exact g8 k hk, fun c k hc hk => by rw [e 5 (by omega)]; exact g9 c k hc hk, fun c k hc hk => by rw [e 6 (by omega)]; exact g10 c k hc hk, fun b w hb hw => by rw [e 7 (by omega)]; exact g11 b w hb hw⟩
theorem vD.KF {M M' : mm_M} {d : Nat} {S : sS} (h : vD M d S) (hf : KF M M') : vD M' d S := h.mvc (fun c h1 h2 => hf.1 c (by omega))
theorem vK.mv {M M' : mm_M} {q : sQ} (h : vK M q) (hf : KF M M') : vK M' q := by
  obtain ⟨q1, q2, q3, q4, q5, q6, q7, q8, q9⟩ := h
  refine ⟨by rw [hf.2.2.1]; exact q1, by rw [hf.2.1, hf.2.2.1]; exact q2, by rw [hf.2.1]; exact q3.KF hf, by rw [hf.mI (by decide)]; exact q4, fun j hj => by rw [hf.mI (by decide)]; exact q5 j hj, by rw [hf.mI (by decide)]; exact q6, hf.2.2.2.2.1 q7, hf.2.2.2.2.2 q8, ?_⟩
  rw [hf.mI (by decide)]
  exact q9.imp (fun z => z) (fun z => ⟨z.1, fun s hs => by rw [hf.mI (by decide)]; exact z.2 s hs⟩)
theorem vK.mvN {M M' : mm_M} {q : sQ} (h : vK M q) (hf : ∀ c, c < 46 → M'.1 c = M.1 c) (h2 : M'.2.2.1 = M.2.2.1) : vK M' q := by
  have e : ∀ c, c < 46 → ∀ k, mI M' c k = mI M c k := fun c hc k => by unfold mI; rw [hf c hc]
  obtain ⟨q1, q2, q3, q4, q5, q6, q7, q8, q9⟩ := h
  have en : mNow M' = mNow M := by unfold mNow; rw [h2]
  have ed : mDra M' = mDra M := by unfold mDra; rw [h2]
  refine ⟨by rw [ed]; exact q1, by rw [en, ed]; exact q2, by rw [en]; exact q3.mvc (fun c _ h => hf c (by omega)), by rw [e 20 (by omega)]; exact q4, fun j hj => by rw [e 21 (by omega)]; exact q5 j hj, by rw [e 22 (by omega)]; exact q6, by rw [e 33 (by omega)]; exact q7, by rw [e 40 (by omega)]; exact q8, ?_⟩
  rw [e 1 (by omega)]
  exact q9.imp (fun z => z) (fun z => ⟨z.1, fun s hs => by rw [e 45 (by omega)]; exact z.2 s hs⟩)
theorem vN.mv {M M' : mm_M} {q : sQ} (h : vN M q) (hf : NF M M') : vN M' q := ⟨fun k hk => by rw [hf.mI (by decide)]; exact h.1 k hk, by rw [hf.2.1]; exact h.2.1, by rw [hf.2.2.1]; exact h.2.2.1, fun j hj => by rw [hf.mI (by decide)]; exact h.2.2.2.1 j hj, fun b hb => by rw [hf.mI (by decide)]; exact h.2.2.2.2 b hb⟩
theorem vN.mvK {M M' : mm_M} {q : sQ} (h : vN M q) (hf : ∀ c, 46 ≤ c → M'.1 c = M.1 c) : vN M' q := by
  have e : ∀ c, 46 ≤ c → ∀ k, mI M' c k = mI M c k := fun c hc k => by unfold mI; rw [hf c hc]
  exact ⟨fun k hk => by rw [e 47 (by omega)]; exact h.1 k hk, by rw [e 46 (by omega)]; exact h.2.1, by rw [e 46 (by omega)]; exact h.2.2.1, fun j hj => by rw [e 49 (by omega)]; exact h.2.2.2.1 j hj, fun b hb => by rw [e 59 (by omega)]; exact h.2.2.2.2 b hb⟩
theorem NF.low {M M' : mm_M} (h : NF M M') : ∀ c, c < 46 → M'.1 c = M.1 c := fun c hc => h.1 c (by omega)
theorem NF.mG {M M' : mm_M} (h : NF M M') : mG M' = mG M := by unfold _root_.Jvm.Pilot.@@N@@.mG; rw [h.2.2.2]
theorem KF.high {M M' : mm_M} (h : KF M M') : ∀ c, 46 ≤ c → M'.1 c = M.1 c := fun c hc => h.1 c (by omega)
/-- an asking: both work, nothing told changes -/
theorem TT.ask {M M1 M2 : mm_M} {q : sQ} (h : TT M q) (hk : KF M M1) (hn : NF M1 M2) : TT M2 q ∧ mG M2 = mG M := ⟨⟨h.1, (h.2.1.mv hk).mvN hn.low (by rw [hn.2.2.2]), (h.2.2.mvK hk.high).mv hn⟩, by rw [hn.mG, hk.2.2.2.1]⟩
/-- what is to be shown of a call: the class's answer, then the reference's, alike -/
def CC (a b : mm_M → Option (Int32 × mm_M)) (M : mm_M) (q : sQ) : Prop := ∃ r M1 M2, a M = some (r, M1) ∧ b M1 = some (r, M2) ∧ (∃ q', TT M2 q') ∧ mG M2 = mG M
section STATE
variable {S : sS}
theorem scb (hw : sWF S) (hz : ∀ k, 82 ≤ k → S k = 0) (b : Nat) : scom S b < 100 := by
  unfold scom
  by_cases h : b < 4
  · have := hw.com b h; omega
  · by_cases h4 : b = 4
    · subst h4
      have h1 : S 78 < 2 ^ S 1 := hw.set 4 (by omega)
      have h2 := two_pow_le hw.B
      show S 78 < 100
      omega
    · rw [hz _ (by omega)]; omega
theorem pOK0 (hw : sWF S) (hz : ∀ k, 82 ≤ k → S k = 0) : pOK (sP0 S) := by
  have h1 := hw.plug
  have h2 := hw.pow
  have h3 := hw.lim
  have h4 := two_pow_le hw.B
  have h5 := two_pow_pos (S 1)
  exact ⟨scb hw hz, by show S 3 < 1000; omega, by show S 4 < 1000; omega, by show S 5 < 10000; omega, by show 2 ^ S 1 - 1 < 16; omega⟩
abbrev cAt : Nat → Prop := fun c => c = 46 ∨ c = 50
theorem y_as46 {M : mm_M} : ∀ (k b n : Nat) (M : mm_M), b + k = 4 → k < n → vM M S → (∀ j, j < b → mI M 50 j = nI (scom S j)) → ∃ M', l7_asTold_46 n (nI b) M = some M' ∧ Fr (fun c => c = 50) M M' ∧ ∀ j, j < 4 → mI M' 50 j = nI (scom S j) := by
  intro k
  induction k with
  | zero =>
    intro b n M hk hn hv h50
    obtain ⟨n, rfl⟩ : ∃ j, n = j + 1 := ⟨n - 1, by omega⟩
    refine ⟨M, ?_, Fr.rf, fun j hj => h50 j (by omega)⟩
    unfold l7_asTold_46 b7_asTold_46
    rw [nx_l4, if_pos (by rw [nx_le (by omega) (by omega)]; omega)]
  | succ k ih =>
    intro b n M hk hn hv h50
    obtain ⟨n, rfl⟩ : ∃ j, n = j + 1 := ⟨n - 1, by omega⟩
    have f0 : Fr (fun c => c = 50) M (sI M 50 b (nI (scom S b))) := Fr.sI rfl
    obtain ⟨M', e1, e2, e3⟩ := ih (b + 1) n (sI M 50 b (nI (scom S b))) (by omega) (by omega) (hv.mv f0 (by decide)) (fun j hj => by
      by_cases hjb : j = b
      · subst hjb; rw [mI_sI_eq]
      · rw [mI_sI_k _ _ _ hjb]; exact h50 j (by omega))
    refine ⟨M', ?_, f0.tr e2, e3⟩
    unfold l7_asTold_46 b7_asTold_46
    rw [nx_l4, if_neg (by rw [nx_le (by omega) (by omega)]; omega), y_of hv (by omega) (by omega), cI_some, uI_in (by omega) (by omega), nx_l1, nx_add]
    exact e1
theorem y_asTold (hw : sWF S) {M : mm_M} (hv : vM M S) (h59 : ∀ b, b < 4 → mI M 59 b = nI (9 ^ b)) : ∃ M', f7_asTold M = some M' ∧ NF M M' ∧ vR M' S (sP0 S) := by
  have hB := hw.B
  have hp := two_pow_pos (S 1)
  let M1 := sI M 46 11 (nI (S 3))
  let M2 := sI M1 46 12 (nI (S 4))
  let M3 := sI M2 46 13 (nI (S 5))
  let M4 := sI M3 46 15 (nI (2 ^ S 1 - 1))
  have f4 : Fr cAt M M4 := (((Fr.sI (Or.inl rfl)).tr (Fr.sI (Or.inl rfl))).tr (Fr.sI (Or.inl rfl))).tr (Fr.sI (Or.inl rfl))
  have g : ∀ k, k ≠ 11 → k ≠ 12 → k ≠ 13 → k ≠ 15 → mI M4 46 k = mI M 46 k := fun k h1 h2 h3 h4 => by
    show mI (sI (sI (sI (sI M 46 11 _) 46 12 _) 46 13 _) 46 15 _) 46 k = _
    rw [mI_sI_k _ _ _ h4, mI_sI_k _ _ _ h3, mI_sI_k _ _ _ h2, mI_sI_k _ _ _ h1]
  obtain ⟨M', e1, e2, e3⟩ := y_as46 (M := M4) 4 0 FU M4 (by omega) (by have := FU_big; omega) (hv.mv f4 (by decide)) (fun j hj => by omega)
  have g' : ∀ k, mI M' 46 k = mI M4 46 k := fun k => e2.mI (by decide) k
  have ff : Fr cAt M M' := f4.tr (e2.wd (fun c h => Or.inr h))
  refine ⟨M', ?_, NF_of ff (fun c h => by rcases h with h | h <;> omega) (by rw [g', g 4 (by decide) (by decide) (by decide) (by decide)]) (by rw [g', g 5 (by decide) (by decide) (by decide) (by decide)]), (hv.mv f4 (by decide)).mv e2 (by decide), ?_, ?_, ?_, ?_, e3, fun b hb => by rw [ff.mI (by decide)]; exact h59 b hb⟩
  · have v1 : mI M 47 3 = nI (S 3) := hv 3 (by omega)
    unfold f7_asTold
    rw [show (3 : Int32) = nI 3 from rfl, aI_in (by omega) (by omega), v1, bM_eq, show (4 : Int32) = nI 4 from rfl, aI_in (by omega) (by omega), mI_sI_c _ _ _ _ (by decide), hv 4 (by omega), bM_eq, show (5 : Int32) = nI 5 from rfl, aI_in (by omega) (by omega), mI_sI_c _ _ _ _ (by decide), mI_sI_c _ _ _ _ (by decide), hv 5 (by omega), bM_eq]
    rw [show aI 47 82 1 (sI (sI (sI M 46 11 (nI (S 3))) 46 12 (nI (S 4))) 46 13 (nI (S 5))) = aI 47 82 (nI 1) (sI (sI (sI M 46 11 (nI (S 3))) 46 12 (nI (S 4))) 46 13 (nI (S 5))) from rfl, aI_in (by omega) (by omega), mI_sI_c _ _ _ _ (by decide), mI_sI_c _ _ _ _ (by decide), mI_sI_c _ _ _ _ (by decide), hv 1 (by omega), shl_pow' hB, show nI (2 ^ S 1) - 1 = nI (2 ^ S 1 - 1) from nx_sub hp, bM_eq]
    exact e1
  · rw [g']
    show mI (sI (sI (sI (sI M 46 11 _) 46 12 _) 46 13 _) 46 15 _) 46 11 = _
    rw [mI_sI_k _ _ _ (by decide), mI_sI_k _ _ _ (by decide), mI_sI_k _ _ _ (by decide), mI_sI_eq]
    rfl
  · rw [g']
    show mI (sI (sI (sI (sI M 46 11 _) 46 12 _) 46 13 _) 46 15 _) 46 12 = _
    rw [mI_sI_k _ _ _ (by decide), mI_sI_k _ _ _ (by decide), mI_sI_eq]
    rfl
  · rw [g']
    show mI (sI (sI (sI (sI M 46 11 _) 46 12 _) 46 13 _) 46 15 _) 46 13 = _
    rw [mI_sI_k _ _ _ (by decide), mI_sI_eq]
    rfl
  · rw [g']
    show mI (sI (sI (sI (sI M 46 11 _) 46 12 _) 46 13 _) 46 15 _) 46 15 = _
    rw [mI_sI_eq]
    rfl
theorem y_gbt6 (hw : sWF S) (hz : ∀ k, 82 ≤ k → S k = 0) : ∀ (k s n : Nat) (M : mm_M), s + k = 8 → k < n → vR M S (sP0 S) → (∀ j, j < s → mI M 51 j = nI (S (74 + j))) → ∃ M', l7_goesByTold_6 n (nI s) M = some M' ∧ Fr (fun c => c = 51 ∨ cGo c) M M' ∧ vG M' S (scom S) (S 4) (fun s => S (74 + s)) ∧ ∀ j, j < 8 → mI M' 51 j = nI (S (74 + j)) := by
  have hT := hw.T
  have hpo := hw.pow
  have h16 := two_pow_le hw.B
  intro k
  induction k with
  | zero =>
    intro s n M hk hn hv h51
    obtain ⟨n, rfl⟩ : ∃ j, n = j + 1 := ⟨n - 1, by omega⟩
    obtain ⟨M', e1, e2, e3⟩ := y_goes hw (pow := S 4) (com := scom S) (pl := fun s => S (74 + s)) (by omega) (scb hw hz) (fun s hs => by have := hw.set s (by omega); show S (74 + s) < 16; omega) (M := M) ⟨hv.1, hv.2.2.1, hv.2.2.2.2.2.1, fun s hs => h51 s (by omega)⟩
    refine ⟨M', ?_, e2.wd (fun c h => Or.inr h), e3, fun j hj => by rw [e2.mI (by decide)]; exact h51 j (by omega)⟩
    unfold l7_goesByTold_6 b7_goesByTold_6
    rw [nx_l8, if_pos (by rw [nx_le (by omega) (by omega)]; omega), e1, cV_some]
  | succ k ih =>
    intro s n M hk hn hv h51
    obtain ⟨n, rfl⟩ : ∃ j, n = j + 1 := ⟨n - 1, by omega⟩
    have f0 : Fr (fun c => c = 51) M (sI M 51 s (nI (S (74 + s)))) := Fr.sI rfl
    have hv1 : vR (sI M 51 s (nI (S (74 + s)))) S (sP0 S) := ⟨hv.1.mv f0 (by decide), by rw [f0.mI (by decide)]; exact hv.2.1, by rw [f0.mI (by decide)]; exact hv.2.2.1, by rw [f0.mI (by decide)]; exact hv.2.2.2.1, by rw [f0.mI (by decide)]; exact hv.2.2.2.2.1, fun b hb => by rw [f0.mI (by decide)]; exact hv.2.2.2.2.2.1 b hb, fun b hb => by rw [f0.mI (by decide)]; exact hv.2.2.2.2.2.2 b hb⟩
    obtain ⟨M', e1, e2, e3, e4⟩ := ih (s + 1) n (sI M 51 s (nI (S (74 + s)))) (by omega) (by omega) hv1 (fun j hj => by
      by_cases hjs : j = s
      · subst hjs; rw [mI_sI_eq]
      · rw [mI_sI_k _ _ _ hjs]; exact h51 j (by omega))
    refine ⟨M', ?_, (f0.wd (fun c h => Or.inl h)).tr e2, e3, e4⟩
    unfold l7_goesByTold_6 b7_goesByTold_6
    rw [nx_l8, if_neg (by rw [nx_le (by omega) (by omega)]; omega), nx_l74, nx_add, aI_in (by omega) (by omega), hv.1 _ (by omega), uI_in (by omega) (by omega), nx_l1, nx_add]
    exact e1
theorem cGo51_ok : ∀ c, (c = 51 ∨ cGo c) → 48 ≤ c ∧ c ≠ 49 ∧ c ≠ 59 := by intro c h; rcases h with h | h | h <;> omega
theorem vR.mvG {P : sP} {Q : Nat → Prop} {M M' : mm_M} (h : vR M S P) (hf : Fr Q M M') (hQ : ∀ c, Q c → 51 ≤ c ∧ c ≠ 59) : vR M' S P := by
  have n : ∀ c, (c < 51 ∨ c = 59) → ¬ Q c := fun c hc z => by have := hQ c z; omega
  exact ⟨h.1.mv hf (n 47 (by omega)), by rw [hf.mI (n 46 (by omega))]; exact h.2.1, by rw [hf.mI (n 46 (by omega))]; exact h.2.2.1, by rw [hf.mI (n 46 (by omega))]; exact h.2.2.2.1, by rw [hf.mI (n 46 (by omega))]; exact h.2.2.2.2.1, fun b hb => by rw [hf.mI (n 50 (by omega))]; exact h.2.2.2.2.2.1 b hb, fun b hb => by rw [hf.mI (n 59 (by omega))]; exact h.2.2.2.2.2.2 b hb⟩
theorem y_goesByTold (hw : sWF S) (hz : ∀ k, 82 ≤ k → S k = 0) {M : mm_M} (hv : vM M S) (h59 : ∀ b, b < 4 → mI M 59 b = nI (9 ^ b)) : ∃ M', f7_goesByTold M = some M' ∧ NF M M' ∧ vR M' S (sP0 S) ∧ vG M' S (scom S) (S 4) (fun s => S (74 + s)) ∧ ∀ j, j < 8 → mI M' 51 j = nI (S (74 + j)) := by
  obtain ⟨M1, e1, e2, e3⟩ := y_asTold hw hv h59
  obtain ⟨M', g1, g2, g3, g4⟩ := y_gbt6 hw hz 8 0 FU M1 (by omega) (by have := FU_big; omega) e3 (fun j hj => by omega)
  refine ⟨M', ?_, e2.tr (NF_of' g2 cGo51_ok), e3.mvG g2 (fun c h => by rcases h with h | h | h <;> omega), g3, g4⟩
  unfold f7_goesByTold
  rw [e1, cV_some]
  exact g1
/-- the first thing that every call of the reference does -/
theorem raised0 (M : mm_M) : NF M (sI M 46 0 0) := NF_of (P := fun c => c = 46) (Fr.sI rfl) (fun c h => by omega) (mI_sI_k _ _ _ (by decide)) (mI_sI_k _ _ _ (by decide))
end STATE
