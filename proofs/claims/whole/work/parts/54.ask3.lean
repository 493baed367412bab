/-! askings: what would be -/
theorem all_bit : ∀ n : Fin 5, ∀ b : Fin 4, b.1 < n.1 → sbit (2 ^ n.1 - 1) b.1 = true := by decide +kernel
theorem all15 : ∀ b : Fin 4, sbit 15 b.1 = true := by decide +kernel
/-- a BUS comes later; a setting is another; other BUSES matter -/
def sPl (S : sS) (b y : Nat) : sP := (fun k => if k = b then scom S k + y else scom S k, S 3, S 4, S 5, 2 ^ S 1 - 1)
def sPs (S : sS) (w v : Nat) : sP := (scom S, if w = 0 then v else S 3, if w = 1 then v else S 4, if w = 2 then v else S 5, 2 ^ S 1 - 1)
def sPw (S : sS) (w : Nat) : sP := (scom S, S 3, S 4, S 5, w)
theorem x_la27 {S : sS} {d : Nat} : ∀ (k b n : Nat) (M : mm_M), b + k = 4 → k < n → vD M d S → (∀ j, j < b → mI M 28 j = nI (scom S j)) → ∃ M', l2_lookAt_27 n d (nI b) M = some M' ∧ Fr (fun c => c = 28) M M' ∧ ∀ j, j < 4 → mI M' 28 j = nI (scom S j) := by
  intro k
  induction k with
  | zero =>
    intro b n M hk hn hv h28
    obtain ⟨n, rfl⟩ : ∃ j, n = j + 1 := ⟨n - 1, by omega⟩
    refine ⟨M, ?_, Fr.rf, fun j hj => h28 j (by omega)⟩
    unfold l2_lookAt_27 b2_lookAt_27
    rw [nx_l4, if_pos (by rw [nx_le (by omega) (by omega)]; omega)]
  | succ k ih =>
    intro b n M hk hn hv h28
    obtain ⟨n, rfl⟩ : ∃ j, n = j + 1 := ⟨n - 1, by omega⟩
    have f0 : Fr (fun c => c = 28) M (sI M 28 b (nI (scom S b))) := Fr.sI rfl
    obtain ⟨M', e1, e2, e3⟩ := ih (b + 1) n (sI M 28 b (nI (scom S b))) (by omega) (by omega) (hv.mv f0 (fun c h => by omega)) (fun j hj => by
      by_cases hjb : j = b
      · subst hjb; rw [mI_sI_eq]
      · rw [mI_sI_k _ _ _ hjb]; exact h28 j (by omega))
    refine ⟨M', ?_, f0.tr e2, e3⟩
    unfold l2_lookAt_27 b2_lookAt_27
    rw [nx_l4, if_neg (by rw [nx_le (by omega) (by omega)]; omega), x_fact hv (by omega) (by omega), cI_some, uI_in (by omega) (by omega), nx_l1, nx_add]
    exact e1
section ASK3
variable {M : mm_M} {q : sQ}
theorem x_lookAt (h : TT M q) : ∃ M1, f2_lookAt (mNow M) M = some M1 ∧ KF M M1 ∧ vP M1 (mNow M) q.1 (sP0 q.1) := by
  have hw := h.1.1
  have hB := hw.B
  have hD := h.2.1.2.2.1
  have hd := isD_le hD.ok
  have hD0 : vD (sDep M (mNow M)) (mNow M) q.1 := hD
  have f0 : Fr (fun c => c = 26 ∨ c = 27 ∨ c = 28) (sDep M (mNow M)) (sR (sI (sDep M (mNow M)) 26 2 15) 27 (va_cpy ((sI (sDep M (mNow M)) 26 2 15).1 (mNow M + 1)) ((sI (sDep M (mNow M)) 26 2 15).1 27) 0 0 3)) := (Fr.sI (Or.inl rfl)).tr (Fr.sR (Or.inr (Or.inl rfl)))
  have hD2 := hD0.mv f0 (fun c h => by rcases h with h | h | h <;> omega)
  obtain ⟨M', e1, e2, e3⟩ := x_la27 (d := mNow M) 4 0 FU _ (by omega) (by have := FU_big; omega) hD2 (fun j hj => by omega)
  have ff : Fr (fun c => c = 26 ∨ c = 27 ∨ c = 28) (sDep M (mNow M)) M' := f0.tr (e2.wd (fun c h => Or.inr (Or.inr h)))
  have k27 : ∀ k, k < 3 → mI M' 27 k = nI (q.1 (3 + k)) := fun k hk => by
    rw [e2.mI (by decide), mI_sR, if_pos rfl]
    unfold va_cpy
    rw [if_pos (by omega)]
    show mI (sI (sDep M (mNow M)) 26 2 15) (mNow M + 1) (0 + (k - 0)) = _
    rw [show 0 + (k - 0) = k by omega, mI_sI_c _ _ _ _ (by omega)]
    exact hD.set k hk
  have k26 : mI M' 26 2 = nI 15 := by
    rw [e2.mI (by decide), mI_sR, if_neg (by decide), mI_sI_eq]
    rfl
  refine ⟨M', ?_, ⟨fun c hc => ff.1 c (fun z => hc (by rcases z with z | z | z <;> omega)), ?_, ?_, ?_, fun z => by rw [ff.mI (by decide)]; exact z, fun z => by rw [ff.mI (by decide)]; exact z⟩, ?_, hD2.mv e2 (fun c h => by omega), k27 0 (by omega), k27 1 (by omega), k27 2 (by omega), e3, ⟨15, by omega, k26, fun b hb => ?_⟩, ?_, ?_⟩
  · unfold f2_lookAt
    rw [if_pos hD.ok, bM_eq, bM_eq, show (0 : Int32) = nI 0 from rfl, show (3 : Int32) = nI 3 from rfl, cpy_in (by omega) (by omega) (by omega) (by omega)]
    exact e1
  · unfold mNow; rw [ff.2.2]; rfl
  · unfold mDra; rw [ff.2.2]; rfl
  · unfold mG; rw [ff.2.2]; rfl
  · unfold mDep; rw [ff.2.2]; rfl
  · show sbit 15 b = sbit (2 ^ q.1 1 - 1) b
    rw [show sbit 15 b = true from all15 ⟨b, by omega⟩, show sbit (2 ^ q.1 1 - 1) b = true from all_bit ⟨q.1 1, by omega⟩ ⟨b, by omega⟩ hb]
  · rw [ff.mI (by decide)]; exact h.2.1.2.2.2.2.2.2.1
  · rw [ff.mI (by decide)]; exact h.2.1.2.2.2.2.2.2.2.1
theorem x_cost {S : sS} {P : sP} (hw : sWF S) (hP : pOK P) {d : Nat} {M1 : mm_M} (hv : vP M1 d S P) : ∃ M', f2_costIfReady M1 = some (scn2 S P, M') ∧ KF M1 M' := by
  obtain ⟨M', e1, e2, e3, e4⟩ := x_costIfReady hw hP hv
  exact ⟨M', e1, KF_of e2 (fun c h => by have : 26 ≤ c ∧ c ≤ 40 := h; omega) (fun _ => e3) (fun _ => e4)⟩
theorem pOKl (h : sQok q) {b y : Nat} (hb : b < q.1 1) (hy : y ≤ 8) : pOK (sPl q.1 b y) := by
  have hw := h.1
  have hB := hw.B
  obtain ⟨p1, p2, p3, p4, p5⟩ := pOK0 hw h.2.1
  refine ⟨fun k => ?_, p2, p3, p4, p5⟩
  show (if k = b then scom q.1 k + y else scom q.1 k) < 100
  by_cases hk : k = b
  · rw [if_pos hk, hk]
    have : scom q.1 b ≤ 8 := hw.com b (by omega)
    omega
  · rw [if_neg hk]; exact scb hw h.2.1 k
theorem pOKs (h : sQok q) {w v : Nat} (hv : v ≤ 200) : pOK (sPs q.1 w v) := by
  have hw := h.1
  obtain ⟨p1, p2, p3, p4, p5⟩ := pOK0 hw h.2.1
  have p2 : q.1 3 < 1000 := p2
  have p3 : q.1 4 < 1000 := p3
  have p4 : q.1 5 < 10000 := p4
  refine ⟨p1, ?_, ?_, ?_, p5⟩
  · show (if w = 0 then v else q.1 3) < 1000
    split <;> omega
  · show (if w = 1 then v else q.1 4) < 1000
    split <;> omega
  · show (if w = 2 then v else q.1 5) < 10000
    split <;> omega
theorem pOKw (h : sQok q) {w : Nat} (hv : w < 16) : pOK (sPw q.1 w) := by
  obtain ⟨p1, p2, p3, p4, p5⟩ := pOK0 h.1 h.2.1
  exact ⟨p1, p2, p3, p4, hv⟩
theorem x_costIfLate (h : TT M q) {b y : Nat} (hb : b < q.1 1) (hy : y ≤ 8) : ∃ M', f6_costIfLate (nI b) (nI y) M = some (scn2 q.1 (sPl q.1 b y), M') ∧ KF M M' := by
  have hw := h.1.1
  have hB := hw.B
  have hD := h.2.1.2.2.1
  obtain ⟨M1, e1, e2, e3⟩ := x_lookAt h
  have f0 : Fr (fun c => c = 28) M1 (sI M1 28 b (nI (scom q.1 b + y))) := Fr.sI rfl
  have h28 : mI M1 28 b = nI (scom q.1 b) := e3.2.2.2.2.2.1 b (by omega)
  have hv : vP (sI M1 28 b (nI (scom q.1 b + y))) (mNow M) q.1 (sPl q.1 b y) := by
    obtain ⟨v1, v2, v3, v4, v5, v6, ⟨w, w1, w2, w3⟩, v8, v9⟩ := e3
    refine ⟨v1, v2.mv f0 (fun c h => by omega), by rw [f0.mI (by decide)]; exact v3, by rw [f0.mI (by decide)]; exact v4, by rw [f0.mI (by decide)]; exact v5, fun k hk => ?_, ⟨w, w1, by rw [f0.mI (by decide)]; exact w2, w3⟩, by rw [f0.mI (by decide)]; exact v8, by rw [f0.mI (by decide)]; exact v9⟩
    show _ = nI (if k = b then scom q.1 k + y else scom q.1 k)
    by_cases hkb : k = b
    · subst hkb; rw [mI_sI_eq, if_pos rfl]
    · rw [mI_sI_k _ _ _ hkb, if_neg hkb]; exact v6 k hk
  obtain ⟨M3, g1, g2⟩ := x_cost hw (pOKl h.1 hb hy) hv
  refine ⟨M3, ?_, (e2.tr (KF_of' f0 (fun c h => by omega) (by decide) (by decide))).tr g2⟩
  unfold f6_costIfLate
  rw [bN_eq, if_pos hD.ok, e1, cV_some, aI_in (by omega) (by omega), h28, uI_in (by omega) (by omega), nx_add, g1, cI_some]
theorem x_costIfSet (h : TT M q) {w v : Nat} (hw3 : w < 3) (hv : v ≤ 200) : ∃ M', f6_costIfSet (nI w) (nI v) M = some (scn2 q.1 (sPs q.1 w v), M') ∧ KF M M' := by
  have hw := h.1.1
  have hD := h.2.1.2.2.1
  obtain ⟨M1, e1, e2, e3⟩ := x_lookAt h
  have f0 : Fr (fun c => c = 27) M1 (sI M1 27 w (nI v)) := Fr.sI rfl
  have hp : vP (sI M1 27 w (nI v)) (mNow M) q.1 (sPs q.1 w v) := by
    obtain ⟨v1, v2, v3, v4, v5, v6, ⟨wd, w1, w2, w3⟩, v8, v9⟩ := e3
    have e27 : ∀ k, k < 3 → mI M1 27 k = nI (q.1 (3 + k)) := fun k hk => by
      rcases (show k = 0 ∨ k = 1 ∨ k = 2 by omega) with rfl | rfl | rfl
      · exact v3
      · exact v4
      · exact v5
    have k27 : ∀ k, k < 3 → mI (sI M1 27 w (nI v)) 27 k = nI (if w = k then v else q.1 (3 + k)) := fun k hk => by
      by_cases hk2 : k = w
      · subst hk2; rw [mI_sI_eq, if_pos rfl]
      · rw [mI_sI_k _ _ _ hk2, if_neg (fun z => hk2 z.symm)]; exact e27 k hk
    exact ⟨v1, v2.mv f0 (fun c h => by omega), k27 0 (by omega), k27 1 (by omega), k27 2 (by omega), fun k hk => by rw [f0.mI (by decide)]; exact v6 k hk, ⟨wd, w1, by rw [f0.mI (by decide)]; exact w2, w3⟩, by rw [f0.mI (by decide)]; exact v8, by rw [f0.mI (by decide)]; exact v9⟩
  obtain ⟨M3, g1, g2⟩ := x_cost hw (pOKs h.1 hv) hp
  refine ⟨M3, ?_, (e2.tr (KF_of' f0 (fun c h => by omega) (by decide) (by decide))).tr g2⟩
  unfold f6_costIfSet
  rw [bN_eq, if_pos hD.ok, e1, cV_some, uI_in (by omega) (by omega), g1, cI_some]
/-- the reference, likewise -/
theorem y_cost {S : sS} {P : sP} (hw : sWF S) (hP : pOK P) {M1 : mm_M} (hv : vR M1 S P) : ∃ M', f7_costNow M1 = some (scn2 S P, M') ∧ NF M1 M' := by
  obtain ⟨M', e1, e2⟩ := y_costNow hw hP hv
  exact ⟨M', e1, NF_of' e2 (fun c h => by rcases h with h | h | h | h | h <;> omega)⟩
theorem y_late (h : sQok q) (hn : vN M q) {b y : Nat} (hb : b < q.1 1) (hy : y ≤ 8) : ∃ M1 M', f7_asTold M = some M1 ∧ mI M1 50 b = nI (scom q.1 b) ∧ f7_costNow (sI M1 50 b (nI (scom q.1 b + y))) = some (scn2 q.1 (sPl q.1 b y), M') ∧ NF M M' := by
  have hw := h.1
  have hB := hw.B
  obtain ⟨M1, e1, e2, e3⟩ := y_asTold hw hn.1 hn.2.2.2.2
  have f0 : Fr (fun c => c = 50) M1 (sI M1 50 b (nI (scom q.1 b + y))) := Fr.sI rfl
  have h50 : mI M1 50 b = nI (scom q.1 b) := e3.2.2.2.2.2.1 b (by omega)
  have hv : vR (sI M1 50 b (nI (scom q.1 b + y))) q.1 (sPl q.1 b y) := by
    obtain ⟨v1, v2, v3, v4, v5, v6, v7⟩ := e3
    refine ⟨v1.mv f0 (by decide), by rw [f0.mI (by decide)]; exact v2, by rw [f0.mI (by decide)]; exact v3, by rw [f0.mI (by decide)]; exact v4, by rw [f0.mI (by decide)]; exact v5, fun k hk => ?_, fun k hk => by rw [f0.mI (by decide)]; exact v7 k hk⟩
    show _ = nI (if k = b then scom q.1 k + y else scom q.1 k)
    by_cases hkb : k = b
    · subst hkb; rw [mI_sI_eq, if_pos rfl]
    · rw [mI_sI_k _ _ _ hkb, if_neg hkb]; exact v6 k hk
  obtain ⟨M3, g1, g2⟩ := y_cost hw (pOKl h hb hy) hv
  exact ⟨M1, M3, e1, h50, g1, (e2.tr (NF_of' f0 (fun c h => by omega))).tr g2⟩
theorem y_lays (h : sQok q) (hn : vN M q) {w v : Nat} (hw3 : w < 3) : ∃ M', f7_lays (nI w) (nI v) M = some M' ∧ NF M M' ∧ vR M' q.1 (sPs q.1 w v) := by
  have hw := h.1
  obtain ⟨M2, e1, e2, e3⟩ := y_asTold hw hn.1 hn.2.2.2.2
  have g11 : mI M2 46 11 = nI (q.1 3) := e3.2.1
  have g12 : mI M2 46 12 = nI (q.1 4) := e3.2.2.1
  have g13 : mI M2 46 13 = nI (q.1 5) := e3.2.2.2.1
  have key : f7_lays (nI w) (nI v) M = some (sI (sI (sI M2 46 11 (nI (if w = 0 then v else q.1 3))) 46 12 (nI (if w = 1 then v else q.1 4))) 46 13 (nI (if w = 2 then v else q.1 5))) := by
    unfold f7_lays l7_lays_17 l7_lays_34 l7_lays_51
    rcases (show w = 0 ∨ w = 1 ∨ w = 2 by omega) with rfl | rfl | rfl
    · rw [e1, cV_some, if_pos (show nI 0 = 0 from rfl), bM_eq, if_neg (show ¬ nI 0 = 1 by decide), bI_eq, mI_sI_k _ _ _ (show 12 ≠ 11 by decide), g12, bM_eq, if_neg (show ¬ nI 0 = 2 by decide), bI_eq, mI_sI_k _ _ _ (show 13 ≠ 12 by decide), mI_sI_k _ _ _ (show 13 ≠ 11 by decide), g13, bM_eq]
      rfl
    · rw [e1, cV_some, if_neg (show ¬ nI 1 = 0 by decide), bI_eq, g11, bM_eq, if_pos (show nI 1 = 1 from rfl), bM_eq, if_neg (show ¬ nI 1 = 2 by decide), bI_eq, mI_sI_k _ _ _ (show 13 ≠ 12 by decide), mI_sI_k _ _ _ (show 13 ≠ 11 by decide), g13, bM_eq]
      rfl
    · rw [e1, cV_some, if_neg (show ¬ nI 2 = 0 by decide), bI_eq, g11, bM_eq, if_neg (show ¬ nI 2 = 1 by decide), bI_eq, mI_sI_k _ _ _ (show 12 ≠ 11 by decide), g12, bM_eq, if_pos (show nI 2 = 2 from rfl), bM_eq]
      rfl
  generalize ha : (if w = 0 then v else q.1 3) = a at key
  generalize hb : (if w = 1 then v else q.1 4) = b at key
  generalize hc : (if w = 2 then v else q.1 5) = c at key
  have f0 : Fr (fun c => c = 46) M2 (sI (sI (sI M2 46 11 (nI a)) 46 12 (nI b)) 46 13 (nI c)) := ((Fr.sI (P := fun c => c = 46) rfl).tr (Fr.sI (P := fun c => c = 46) rfl)).tr (Fr.sI (P := fun c => c = 46) rfl)
  have g : ∀ k, k ≠ 11 → k ≠ 12 → k ≠ 13 → mI (sI (sI (sI M2 46 11 (nI a)) 46 12 (nI b)) 46 13 (nI c)) 46 k = mI M2 46 k := fun k h1 h2 h3 => by
    rw [mI_sI_k _ _ _ h3, mI_sI_k _ _ _ h2, mI_sI_k _ _ _ h1]
  obtain ⟨v1, v2, v3, v4, v5, v6, v7⟩ := e3
  refine ⟨_, key, e2.tr (NF_of f0 (fun c h => by omega) (g 4 (by decide) (by decide) (by decide)) (g 5 (by decide) (by decide) (by decide))), v1.mv f0 (by decide), ?_, ?_, ?_, ?_, fun k hk => by rw [f0.mI (by decide)]; exact v6 k hk, fun k hk => by rw [f0.mI (by decide)]; exact v7 k hk⟩
  · show _ = nI (if w = 0 then v else q.1 3)
    rw [ha, mI_sI_k _ _ _ (by decide), mI_sI_k _ _ _ (by decide), mI_sI_eq]
  · show _ = nI (if w = 1 then v else q.1 4)
    rw [hb, mI_sI_k _ _ _ (by decide), mI_sI_eq]
  · show _ = nI (if w = 2 then v else q.1 5)
    rw [hc, mI_sI_eq]
  · rw [g 15 (by decide) (by decide) (by decide)]; exact v5
theorem t_late (h : TT M q) (x z : Int32) : CC (f6_late x z) (f7_late x z) M q := by
  have hw := h.1.1
  have hB := hw.B
  have hD := h.2.1.2.2.1
  have hn : ∀ {M1 : mm_M}, KF M M1 → vN (sI M1 46 0 0) q := fun hk => (h.2.2.mvK hk.high).mv (raised0 _)
  by_cases h1 : okR x (q.1 1) = true
  · obtain ⟨b, hb, rfl⟩ := okR_t h1 (by omega)
    by_cases h2 : okR z 9 = true
    · obtain ⟨y, hy, rfl⟩ := okR_t h2 (by omega)
      obtain ⟨M1, e1, e2⟩ := x_costIfLate h hb (show y ≤ 8 by omega)
      obtain ⟨M2, M3, g1, g2, g3, g4⟩ := y_late h.1 (hn e2) hb (show y ≤ 8 by omega)
      refine CC_ask (r := scn2 q.1 (sPl q.1 b y)) (M1 := M1) (M2 := M3) h ?_ e2 ?_ ((raised0 M1).tr g4)
      · unfold f6_late
        rw [bN_eq, if_pos hD.ok, x_hasBus hD, cI_some, if_pos h1, if_neg (by decide), if_neg (nI_pos (by omega)), if_pos (by rw [nx_l8, nx_le (by omega) (by omega)]; omega), e1, cI_some]
      · unfold f7_late
        rw [bM_eq, y_isBus (hn e2).1 hw, cI_some, if_pos h1, if_neg (by decide), y_in08, cI_some, if_pos h2, if_neg (by decide), g1, cV_some, aI_in (by omega) (by omega), g2, uI_in (by omega) (by omega), nx_add, g3, cI_some]
    · refine CC_ask (r := -1) (M1 := M) (M2 := sI M 46 0 0) h ?_ KF.rf ?_ (raised0 M)
      · unfold f6_late l6_late_21
        rw [bN_eq, if_pos hD.ok, x_hasBus hD, cI_some, if_pos h1, if_neg (by decide)]
        by_cases hz : z < 0
        · rw [if_pos hz]
        · obtain ⟨y, hy, rfl⟩ := nx_of hz
          rw [if_neg hz, if_neg]
          rw [nx_l8, nx_le hy (by omega)]
          intro z2
          exact h2 (by rw [okR_nI hy (by omega)]; exact decide_eq_true (by omega))
      · unfold f7_late l7_late_23
        rw [bM_eq, y_isBus (hn KF.rf).1 hw, cI_some, if_pos h1, if_neg (by decide), y_in08, cI_some, if_neg h2, if_pos rfl]
  · refine CC_ask (r := -1) (M1 := M) (M2 := sI M 46 0 0) h ?_ KF.rf ?_ (raised0 M)
    · unfold f6_late l6_late_21
      rw [bN_eq, if_pos hD.ok, x_hasBus hD, cI_some, if_neg h1, if_pos rfl]
    · unfold f7_late l7_late_23
      rw [bM_eq, y_isBus (hn KF.rf).1 hw, cI_some, if_neg h1, if_pos rfl]
-- latest
def sgd (S : sS) (P : sP) : Prop := (sdp S P (S 0) (fun _ => 0)).1 = 0
def slat (S : sS) (b : Nat) (g : Nat → Bool) : Nat → Int32
  | 0 => -2
  | k + 1 => if g k = true then nI k else slat S b g k
theorem slat_up {S : sS} {b : Nat} {g : Nat → Bool} (hm : ∀ i j, i ≤ j → g j = true → g i = true) : ∀ y k, y ≤ k → g y = false → (∀ j, j < y → g j = true) → slat S b g k = if y = 0 then -2 else nI (y - 1)
  | y, 0, h1, h2, h3 => by
    have : y = 0 := by omega
    rw [if_pos this]; rfl
  | y, k + 1, h1, h2, h3 => by
    unfold slat
    by_cases hk : y = k + 1
    · subst hk
      rw [if_pos (h3 k (by omega)), if_neg (by omega)]
      rfl
    · rw [if_neg (by
        intro z
        have := hm y k (by omega) z
        rw [h2] at this
        cases this)]
      exact slat_up hm y k (by omega) h2 h3
theorem late_mono {S : sS} (hw : sWF S) {b i j : Nat} (hij : i ≤ j) (h : sgd S (sPl S b j)) : sgd S (sPl S b i) := by
  refine eas_lack hw (P := sPl S b j) (P' := sPl S b i) ⟨fun k hk => ?_, rfl, rfl, Nat.le_refl _, rfl⟩ (S 0) (Nat.le_refl _) _ h
  show (if k = b then scom S k + i else scom S k) ≤ (if k = b then scom S k + j else scom S k)
  by_cases hkb : k = b
  · rw [if_pos hkb, if_pos hkb]; omega
  · rw [if_neg hkb, if_neg hkb]; exact Nat.le_refl _
def sgl (S : sS) (b y : Nat) : Bool := decide ((sdp S (sPl S b y) (S 0) (fun _ => 0)).1 = 0)
theorem sgl_mono {S : sS} (hw : sWF S) (b : Nat) : ∀ i j, i ≤ j → sgl S b j = true → sgl S b i = true := fun i j hij h => by
  unfold sgl at h ⊢
  rw [decide_eq_true_eq] at h ⊢
  exact late_mono hw hij h
theorem TT.K {M1 : mm_M} (h : TT M q) (hk : KF M M1) : TT M1 q := (h.ask hk NF.rf).1
theorem x_lt15 {b : Nat} : ∀ (k y n : Nat) (M : mm_M), TT M q → b < q.1 1 → y + k = 9 → k < n → (∀ j, j < y → sgl q.1 b j = true) → ∃ M', l6_latest_15 n (nI b) (nI y) M = some (slat q.1 b (sgl q.1 b) 9, M') ∧ KF M M' := by
  intro k
  induction k with
  | zero =>
    intro y n M h hb hk hn hg
    obtain ⟨n, rfl⟩ : ∃ j, n = j + 1 := ⟨n - 1, by omega⟩
    refine ⟨M, ?_, KF.rf⟩
    unfold l6_latest_15 b6_latest_15
    rw [if_pos (by rw [nx_l8, nx_lt (by omega) (by omega)]; omega)]
    unfold slat
    rw [if_pos (hg 8 (by omega))]
    rfl
  | succ k ih =>
    intro y n M h hb hk hn hg
    obtain ⟨n, rfl⟩ : ∃ j, n = j + 1 := ⟨n - 1, by omega⟩
    have hw := h.1.1
    obtain ⟨M1, e1, e2⟩ := x_costIfLate h hb (show y ≤ 8 by omega)
    unfold l6_latest_15 b6_latest_15 l6_latest_44
    rw [if_neg (by rw [nx_l8, nx_lt (by omega) (by omega)]; omega), e1, cI_some]
    simp only [cn2_m2 hw (sPl q.1 b y)]
    by_cases hgy : sgl q.1 b y = true
    · rw [if_neg (by unfold sgl at hgy; rw [decide_eq_true_eq] at hgy; exact fun z => z hgy), nx_l1, nx_add]
      obtain ⟨M2, g1, g2⟩ := ih (y + 1) n M1 (h.K e2) hb (by omega) (by omega) (fun j hj => by
        by_cases hjy : j = y
        · rw [hjy]; exact hgy
        · exact hg j (by omega))
      exact ⟨M2, g1, e2.tr g2⟩
    · have hgy' : sgl q.1 b y = false := Bool.eq_false_iff.mpr hgy
      refine ⟨M1, ?_, e2⟩
      rw [if_pos (by intro z; exact hgy (by unfold sgl; exact decide_eq_true z)), slat_up (sgl_mono hw b) y 9 (by omega) hgy' hg]
      by_cases hy0 : y = 0
      · subst hy0
        rw [if_pos (show nI 0 = 0 from rfl), if_pos rfl]
      · rw [if_neg (by rw [nx_lit0, nx_eq (by omega) (by omega)]; exact hy0), if_neg hy0, nx_l1, nx_sub (by omega)]
theorem y_lt18 {b : Nat} (h : sQok q) (hb : b < q.1 1) : ∀ (k n : Nat) (M : mm_M), k ≤ 9 → k < n → vN M q → ∃ M', l7_latest_18 n (nI b) (nI k - 1) M = some (slat q.1 b (sgl q.1 b) k, M') ∧ NF M M' := by
  have hw := h.1
  have hB := hw.B
  intro k
  induction k with
  | zero =>
    intro n M hk hn hv
    obtain ⟨n, rfl⟩ : ∃ j, n = j + 1 := ⟨n - 1, by omega⟩
    refine ⟨M, ?_, NF.rf⟩
    unfold l7_latest_18 b7_latest_18
    rw [if_pos (show nI 0 - 1 < 0 by decide)]
    rfl
  | succ k ih =>
    intro n M hk hn hv
    obtain ⟨n, rfl⟩ : ∃ j, n = j + 1 := ⟨n - 1, by omega⟩
    obtain ⟨M2, M3, g1, g2, g3, g4⟩ := y_late h hv hb (show k ≤ 8 by omega)
    unfold l7_latest_18 b7_latest_18
    rw [nI_pred, if_neg (nI_pos (by omega)), g1, cV_some, aI_in (by omega) (by omega), g2, uI_in (by omega) (by omega), nx_add, g3, cI_some]
    simp only [cn2_neg hw (sPl q.1 b k)]
    unfold slat
    by_cases hg : sgl q.1 b k = true
    · rw [if_neg (by unfold sgl at hg; rw [decide_eq_true_eq] at hg; exact fun z => z hg), if_pos hg]
      exact ⟨M3, rfl, g4⟩
    · rw [if_pos (by intro z; exact hg (by unfold sgl; exact decide_eq_true z)), if_neg hg]
      obtain ⟨M4, i1, i2⟩ := ih n M3 (by omega) (by omega) (hv.mv g4)
      refine ⟨M4, ?_, g4.tr i2⟩
      rw [show nI k + (-1) = nI k - 1 from (Int32.sub_eq_add_neg _ _).symm]
      exact i1
theorem t_latest (h : TT M q) (x : Int32) : CC (f6_latest x) (f7_latest x) M q := by
  have hw := h.1.1
  have hB := hw.B
  have hD := h.2.1.2.2.1
  by_cases h1 : okR x (q.1 1) = true
  · obtain ⟨b, hb, rfl⟩ := okR_t h1 (by omega)
    obtain ⟨M1, e1, e2⟩ := x_lt15 (b := b) 9 0 FU M h hb (by omega) (by have := FU_big; omega) (fun j hj => by omega)
    have hn : vN (sI M1 46 0 0) q := (h.2.2.mvK e2.high).mv (raised0 _)
    obtain ⟨M2, g1, g2⟩ := y_lt18 h.1 hb 9 FU _ (by omega) (by have := FU_big; omega) hn
    refine CC_ask (r := slat q.1 b (sgl q.1 b) 9) (M1 := M1) (M2 := M2) h ?_ e2 ?_ ((raised0 M1).tr g2)
    · unfold f6_latest
      rw [bN_eq, if_pos hD.ok, x_hasBus hD, cI_some, if_pos h1, if_neg (by decide)]
      exact e1
    · unfold f7_latest
      rw [bM_eq, y_isBus hn.1 hw, cI_some, if_pos h1, if_neg (by decide)]
      exact g1
  · have hn : vN (sI M 46 0 0) q := h.2.2.mv (raised0 _)
    refine CC_ask (r := -1) (M1 := M) (M2 := sI M 46 0 0) h ?_ KF.rf ?_ (raised0 M)
    · unfold f6_latest
      rw [bN_eq, if_pos hD.ok, x_hasBus hD, cI_some, if_neg h1, if_pos rfl]
    · unfold f7_latest
      rw [bM_eq, y_isBus hn.1 hw, cI_some, if_neg h1, if_pos rfl]
end ASK3
