theorem cpy_in {α : Type} {a na b nb sp dp n : Nat} {M : mm_M} {e : mm_M → Option α} (h1 : sp + n ≤ na) (h2 : dp + n ≤ nb) (ha : na < 2 ^ 31) (hb : nb < 2 ^ 31) : cpy a na b nb (nI sp) (nI dp) (nI n) M e = e (sR M b (va_cpy (M.1 a) (M.1 b) sp dp n)) := by
  unfold cpy
  rw [nx_cl (by omega), nx_cl (by omega), nx_cl (by omega), if_pos]
  simp only [Bool.and_eq_true, Bool.not_eq_true', decide_eq_false_iff_not, decide_eq_true_eq]
  exact ⟨⟨⟨⟨nI_pos (by omega), nI_pos (by omega)⟩, nI_pos (by omega)⟩, h1⟩, h2⟩
section PLAN9
variable {S : sS} {P : sP}
abbrev cPl : Nat → Prop := fun c => 26 ≤ c ∧ c ≤ 40
theorem cTa_pl : ∀ c, cTa c → cPl c := by intro c h; rcases h with (h | h | h | h) | h <;> omega
theorem cWs_pl : ∀ c, cWs c → cPl c := by intro c h; rcases h with h | h <;> omega
theorem smr_0 (h : smr S P = true) : ssum (fun b => slk S P b (smt S P b)) 4 = 0 := by
  unfold smr at h
  rw [Bool.and_eq_true, Bool.and_eq_true, decide_eq_true_eq] at h
  exact h.1.1
theorem rdy_iff (hw : sWF S) (h0 : ssum (fun b => slk S P b (smt S P b)) 4 = 0) : (2 ^ 50 ≤ wv S P true (S 0) (fun _ => 0) ↔ ¬ sE S P (S 0) (fun _ => 0) < 6400000) ∧ (sE S P (S 0) (fun _ => 0) < 6400000 → wv S P true (S 0) (fun _ => 0) = sE S P (S 0) (fun _ => 0)) := by
  have h := wv_rdy (P := P) hw h0 (S 0) (Nat.le_refl _) (fun _ => 0) (by rw [Nat.sub_self]; exact bx_0 true)
  refine ⟨⟨fun q z => ?_, fun q => h.2 (by omega)⟩, fun z => (h.1 z).1⟩
  have := (h.1 z).1
  omega
theorem x_costIfReady (hw : sWF S) (hP : pOK P) {d : Nat} {M : mm_M} (hv : vP M d S P) : ∃ M', f2_costIfReady M = some (scn2 S P, M') ∧ Fr cPl M M' ∧ mI M' 33 0 = 0 ∧ mI M' 40 0 = 0 := by
  obtain ⟨M1, e1, e2, e3, e4, e5⟩ := x_traceAll hw hP hv
  have hq : vQ M1 d S P := ⟨e3, e4, e5⟩
  have f1 := e2.wd cTa_pl
  have hT := hw.T
  unfold f2_costIfReady l2_costIfReady_19
  rw [e1, cV_some, x_mayBeReady hw hP e3 e4, cI_some]
  by_cases hm : smr S P = true
  · rw [if_pos hm, if_neg (by decide)]
    obtain ⟨M2, g1, g2, g3, g4⟩ := x_weighStates hw hP true hq
    have f2 := f1.tr (g2.wd cWs_pl)
    obtain ⟨r1, r2⟩ := rdy_iff hw (smr_0 hm)
    have hl := sE_lack (P := P) hw (Nat.le_refl (S 0)) (fun _ => 0)
    rw [show (1 : Int32) = rI true from rfl, g1, cI_some]
    by_cases hE : sE S P (S 0) (fun _ => 0) < 6400000
    · refine ⟨M2, ?_, f2, g3.1.2.2.2.2.2.2.2.1, g3.1.2.2.2.2.2.2.2.2⟩
      have hwv := g4.1 (fun _ => 0) (bx_0 true) (by rw [(ssum_zero 4).mpr (fun k _ => rfl)]; exact Nat.zero_le _)
      rw [six_0, Nat.sub_zero, r2 hE] at hwv
      have hbd := sE_bd (P := P) hw (Nat.le_refl (S 0)) (fun _ => 0)
      have hl0 := hl.mp hE
      rw [if_neg (fun z => (r1.mp z) hE), if_neg (by decide), aL_z (by omega) (by omega), hwv, show (64 : Int64) = lN 64 from rfl, show (100000 : Int64) = lN 100000 from rfl, lx_div (by omega) (by omega), lx_div (by omega) (by omega), lN_mul, lN_sub (by omega), lN_i]
      unfold scn2
      rw [if_neg (by omega)]
      congr 3
      unfold sE enc3
      omega
    · refine ⟨M2, ?_, f2, g3.1.2.2.2.2.2.2.2.1, g3.1.2.2.2.2.2.2.2.2⟩
      rw [if_pos (r1.mpr hE), if_pos rfl]
      unfold scn2
      rw [if_pos (by have := fun z => hE (hl.mpr z); omega)]
  · refine ⟨M1, ?_, f1, e3.2.2.2.2.2.2.2.1, e3.2.2.2.2.2.2.2.2⟩
    rw [if_neg hm, if_pos rfl]
    have := smr_lack (P := P) hw (Bool.eq_false_iff.mpr hm)
    unfold scn2
    rw [if_pos (by omega)]
/-- the set that is chosen can be -/
theorem wa_ok {rdy : Bool} {r : Nat} {c : Nat → Nat} (h : rdy = false ∨ wv S P rdy (r + 1) c < 2 ^ 50) : wok S P rdy (S 0 - (r + 1)) c (wa S P rdy r c) = true := by
  have hN := nok_iff.mp (nbest_iB (wg S P rdy (wv S P rdy r) (S 0 - (r + 1)) c) (wok S P rdy (S 0 - (r + 1)) c) 15).1
  rcases hN.2 with q | q
  · exact q
  · have q : wa S P rdy r c = 0 := q
    have hm : wmust S P rdy (S 0 - (r + 1)) c = 0 := by
      rcases h with h | h
      · subst h; exact wmust_f _ _
      · apply Classical.byContradiction
        intro hn
        rw [wv_succ, q] at h
        unfold wg at h
        rw [if_pos rfl, if_neg hn] at h
        omega
    rw [q, wok_iff (by omega)]
    exact ⟨fun b _ h => (by rw [sbit0] at h; exact Bool.noConfusion h), Nat.zero_le _, (by rw [stk_0]; exact Nat.zero_le _), fun b hb h => by
      have := (wmust_bit (S := S) (P := P) hb).mpr h
      rw [hm, sbit0] at this
      exact Bool.noConfusion this⟩
/-- along BEST -/
theorem path_ok (hw : sWF S) {rdy : Bool} (hg : rdy = false ∨ (ssum (fun b => slk S P b (smt S P b)) 4 = 0 ∧ sE S P (S 0) (fun _ => 0) < 6400000)) : ∀ s, s ≤ S 0 → bx S P rdy s (scnt S P s) ∧ ssum (scnt S P s) 4 ≤ P.2.1 * s ∧ (rdy = false ∨ sE S P (S 0 - s) (scnt S P s) < 6400000) ∧ (s < S 0 → wa S P rdy (S 0 - (s + 1)) (scnt S P s) = sarg S P (S 0 - (s + 1)) (scnt S P s)) := by
  have key : ∀ s c, s < S 0 → bx S P rdy s c → (rdy = false ∨ sE S P (S 0 - s) c < 6400000) → wa S P rdy (S 0 - (s + 1)) c = sarg S P (S 0 - (s + 1)) c ∧ (rdy = false ∨ wv S P rdy (S 0 - (s + 1) + 1) c < 2 ^ 50) := by
    intro s c hs hb hE
    have h1 : S 0 - (S 0 - (s + 1) + 1) = s := by omega
    cases rdy with
    | false =>
      have := wv_all (P := P) hw (S 0 - (s + 1) + 1) (by omega) c (by rw [h1]; exact hb)
      exact ⟨this.2 _ rfl, Or.inl rfl⟩
    | true =>
      have h0 := (hg.resolve_left (fun z => Bool.noConfusion z)).1
      have hE := hE.resolve_left (fun z => Bool.noConfusion z)
      rw [show S 0 - s = S 0 - (s + 1) + 1 by omega] at hE
      have := (wv_rdy (P := P) hw h0 (S 0 - (s + 1) + 1) (by omega) c (by rw [h1]; exact hb)).1 hE
      exact ⟨this.2 _ rfl, Or.inr (by rw [this.1]; omega)⟩
  intro s
  induction s with
  | zero =>
    intro _
    have hb : bx S P rdy 0 (scnt S P 0) := bx_0 rdy
    have hE : rdy = false ∨ sE S P (S 0 - 0) (scnt S P 0) < 6400000 := hg.imp (fun z => z) (fun z => z.2)
    exact ⟨hb, Nat.le_trans (Nat.le_of_eq ((ssum_zero (f := scnt S P 0) 4).mpr (fun k _ => rfl))) (Nat.zero_le _), hE, fun h => (key 0 _ h hb hE).1⟩
  | succ s ih =>
    intro hs
    obtain ⟨i1, i2, i3, i4⟩ := ih (by omega)
    obtain ⟨k1, k2⟩ := key s _ (by omega) i1 i3
    have h1 : S 0 - (S 0 - (s + 1) + 1) = s := by omega
    have hok := wa_ok k2
    rw [k1, h1] at hok
    have h16 := two_pow_le hw.B
    have hl16 : sarg S P (S 0 - (s + 1)) (scnt S P s) < 16 := by have := sarg_lt S P (S 0 - (s + 1)) (scnt S P s); omega
    have ho := (wok_iff hl16).mp hok
    have hb : bx S P rdy (s + 1) (scnt S P (s + 1)) := bx_next i1 ho.1 ho.2.2.2
    have hE : rdy = false ∨ sE S P (S 0 - (s + 1)) (scnt S P (s + 1)) < 6400000 := by
      rcases i3 with z | z
      · exact Or.inl z
      · right
        rw [show S 0 - s = S 0 - (s + 1) + 1 by omega, sE_succ] at z
        exact (sfx_lack hw (by omega) _ hl16).mp z
    refine ⟨hb, ?_, hE, fun h => (key (s + 1) _ h hb hE).1⟩
    show ssum (snx (scnt S P s) (sarg S P (S 0 - (s + 1)) (scnt S P s))) 4 ≤ _
    rw [sum_snx hl16, Nat.mul_succ]
    have := ho.2.1
    omega
theorem sarg16 (hw : sWF S) (r : Nat) (c : Nat → Nat) : sarg S P r c < 16 := by
  have := sarg_lt S P r c
  have := two_pow_le hw.B
  omega
theorem x_fp29 (hw : sWF S) {rdy : Bool} {d : Nat} (hg : rdy = false ∨ (ssum (fun b => slk S P b (smt S P b)) 4 = 0 ∧ sE S P (S 0) (fun _ => 0) < 6400000)) : ∀ (k s n : Nat) (M : mm_M), s + k = 8 → k < n → vQ M d S P → vI M S P rdy 0 → (∀ j, j < s → mI M 45 j = nI (sbpl S P j)) → ∃ M', l2_findPlan_29 n 45 (nI (six S P (scnt S P (min s (S 0))))) (nI s) M = some M' ∧ Fr (fun c => c = 45) M M' ∧ ∀ j, j < 8 → mI M' 45 j = nI (sbpl S P j) := by
  have hT := hw.T
  have h45 : mm_n 45 = 8 := by decide
  intro k
  induction k with
  | zero =>
    intro s n M hk hn hq hi hl
    obtain ⟨n, rfl⟩ : ∃ m, n = m + 1 := ⟨n - 1, by omega⟩
    refine ⟨M, ?_, Fr.rf, fun j hj => hl j (by omega)⟩
    unfold l2_findPlan_29 b2_findPlan_29
    rw [nx_l8, if_pos (by rw [nx_le (by omega) (by omega)]; omega)]
  | succ k ih =>
    intro s n M hk hn hq hi hl
    obtain ⟨n, rfl⟩ : ∃ m, n = m + 1 := ⟨n - 1, by omega⟩
    -- with the set v
    have step : ∀ v, v < 16 → v = sbpl S P s → six S P (scnt S P (min s (S 0))) + ssh S P v = six S P (scnt S P (min (s + 1) (S 0))) → ∃ M', l2_findPlan_65 (l2_findPlan_29 n) 45 (nI (six S P (scnt S P (min s (S 0))))) (nI s) (nI v) (nI s) 45 M = some M' ∧ Fr (fun c => c = 45) M M' ∧ ∀ j, j < 8 → mI M' 45 j = nI (sbpl S P j) := by
      intro v hv16 hv hsh
      have f0 : Fr (fun c => c = 45) M (sI M 45 s (nI v)) := Fr.sI rfl
      have hq1 : vQ (sI M 45 s (nI v)) d S P := by
        refine ⟨hq.1.mv f0 (fun c h => by omega) (by rw [f0.mI (by decide)]; exact hq.1.2.2.2.2.2.2.2.1) (by rw [f0.mI (by decide)]; exact hq.1.2.2.2.2.2.2.2.2), fun b hb => (hq.2.1 b hb).mv (fun x hx => by rcases hx with rfl | rfl <;> exact f0.mI (by decide) _) (fun x hx c hc => by rcases hx with rfl | rfl <;> exact f0.mI (by decide) _), fun s' hs' => by rw [f0.mI (by decide)]; exact hq.2.2 s' hs'⟩
      have hi1 : vI (sI M 45 s (nI v)) S P rdy 0 := ⟨fun c => by rw [mL_sI]; exact hi.1 c, fun s' c => by rw [mI_sI_c _ _ _ _ (by decide)]; exact hi.2 s' c⟩
      obtain ⟨M', e1, e2, e3⟩ := ih (s + 1) n (sI M 45 s (nI v)) (by omega) (by omega) hq1 hi1 (fun j hj => by
        by_cases hjs : j = s
        · subst hjs; rw [mI_sI_eq, hv]
        · rw [mI_sI_k _ _ _ hjs]; exact hl j (by omega))
      refine ⟨M', ?_, f0.tr e2, e3⟩
      unfold l2_findPlan_65
      rw [h45, uI_in (by omega) (by omega), aI_in (by omega) (by omega), mI_sI_eq, aI_in hv16 (by omega), hq1.2.2 v hv16, bI_eq, nx_add, hsh, nx_l1, nx_add]
      exact e1
    unfold l2_findPlan_29 b2_findPlan_29
    rw [nx_l8, if_neg (by rw [nx_le (by omega) (by omega)]; omega), bN_eq, hq.1.1, if_pos hq.1.2.1.ok, bI_eq, hq.1.2.1.T]
    simp only [nx_le (show S 0 < 2 ^ 31 by omega) (show s < 2 ^ 31 by omega)]
    by_cases hs : S 0 ≤ s
    · rw [if_pos hs]
      refine step 0 (by omega) (by unfold sbpl; rw [if_neg (by omega)]) ?_
      rw [ssh_0, show min s (S 0) = S 0 by omega, show min (s + 1) (S 0) = S 0 by omega, Nat.add_zero]
    · rw [if_neg hs]
      obtain ⟨p1, p2, p3, p4⟩ := path_ok hw hg s (by omega)
      have e1 : min s (S 0) = s := by omega
      have hc := hi.2 s (scnt S P s) (by omega) (by omega) p1 p2
      rw [p4 (by omega)] at hc
      unfold wnib at hc
      rw [show (4 : Int32) = nI 4 from rfl] at hc ⊢
      have st := step (sarg S P (S 0 - (s + 1)) (scnt S P s)) (sarg16 hw _ _) (by unfold sbpl; rw [if_pos (by omega)]) (by
        rw [e1, show min (s + 1) (S 0) = s + 1 by omega, show scnt S P (s + 1) = snx (scnt S P s) (sarg S P (S 0 - (s + 1)) (scnt S P s)) from rfl, six_snx])
      rw [e1] at st ⊢
      rw [aI_in (six_lt p1.le) (by omega), hc]
      exact st
theorem x_findPlan (hw : sWF S) (hP : pOK P) {d : Nat} {M : mm_M} (hv : vP M d S P) : ∃ M', f2_findPlan 45 M = some M' ∧ Fr (fun c => cPl c ∨ c = 45) M M' ∧ mI M' 33 0 = 0 ∧ mI M' 40 0 = 0 ∧ ∀ j, j < 8 → mI M' 45 j = nI (sbpl S P j) := by
  obtain ⟨M1, e1, e2, e3, e4, e5⟩ := x_traceAll hw hP hv
  have hq : vQ M1 d S P := ⟨e3, e4, e5⟩
  have f1 := e2.wd cTa_pl
  have hT := hw.T
  -- from the tables on
  have tail : ∀ (rdy : Bool) (M2 : mm_M), (rdy = false ∨ (ssum (fun b => slk S P b (smt S P b)) 4 = 0 ∧ sE S P (S 0) (fun _ => 0) < 6400000)) → Fr cPl M M2 → vQ M2 d S P → vI M2 S P rdy 0 → ∃ M', l2_findPlan_25 45 M2 = some M' ∧ Fr (fun c => cPl c ∨ c = 45) M M' ∧ mI M' 33 0 = 0 ∧ mI M' 40 0 = 0 ∧ ∀ j, j < 8 → mI M' 45 j = nI (sbpl S P j) := by
    intro rdy M2 hg f2 hq2 hi2
    obtain ⟨M', g1, g2, g3⟩ := x_fp29 hw hg 8 0 FU M2 (by omega) (by have := FU_big; omega) hq2 hi2 (fun j hj => by omega)
    refine ⟨M', ?_, (f2.wd (fun c h => Or.inl h)).tr (g2.wd (fun c h => Or.inr h)), by rw [g2.mI (by decide)]; exact hq2.1.2.2.2.2.2.2.2.1, by rw [g2.mI (by decide)]; exact hq2.1.2.2.2.2.2.2.2.2, g3⟩
    unfold l2_findPlan_25
    rw [show min 0 (S 0) = 0 by omega, show scnt S P 0 = fun _ => 0 from rfl, six_0] at g1
    exact g1
  have all : ∀ M2, Fr cPl M M2 → vQ M2 d S P → ∃ M', l2_findPlan_19 45 M2 = some M' ∧ Fr (fun c => cPl c ∨ c = 45) M M' ∧ mI M' 33 0 = 0 ∧ mI M' 40 0 = 0 ∧ ∀ j, j < 8 → mI M' 45 j = nI (sbpl S P j) := by
    intro M2 f2 hq2
    obtain ⟨M3, g1, g2, g3, g4⟩ := x_weighStates hw hP false hq2
    unfold l2_findPlan_19
    rw [show (0 : Int32) = rI false from rfl, g1, cI_some]
    exact tail false M3 (Or.inl rfl) (f2.tr (g2.wd cWs_pl)) g3 g4
  unfold f2_findPlan
  rw [if_pos (by decide), e1, cV_some, x_mayBeReady hw hP e3 e4, cI_some]
  by_cases hm : smr S P = true
  · rw [if_pos hm, if_neg (by decide)]
    obtain ⟨M2, g1, g2, g3, g4⟩ := x_weighStates hw hP true hq
    have f2 := f1.tr (g2.wd cWs_pl)
    obtain ⟨r1, r2⟩ := rdy_iff hw (smr_0 hm)
    rw [show (1 : Int32) = rI true from rfl, g1, cI_some]
    by_cases hE : sE S P (S 0) (fun _ => 0) < 6400000
    · rw [if_neg (fun z => (r1.mp z) hE), if_neg (by decide)]
      exact tail true M2 (Or.inr ⟨smr_0 hm, hE⟩) f2 g3 g4
    · rw [if_pos (r1.mpr hE), if_pos rfl]
      exact all M2 f2 g3
  · rw [if_neg hm, if_pos rfl]
    exact all M1 f1 hq
end PLAN9
