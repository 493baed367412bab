section STM4
variable {B : Nat → Nat} {n d : Nat} {S : sS}
theorem x_piece {Sr : sS} {M : mm_M} {c k f r : Nat} (hc : c < 4) (hk : k < 4) (hv : vD M d (updS Sr (14 + 9 * c) k)) : ∃ M', f0_addPiece d (nI c) (nI f) (nI r) M = some M' ∧ Fr (fun x => d ≤ x ∧ x ≤ d + 8) M M' ∧ vD M' d (updS (updS (updS Sr (14 + 9 * c + 2 * k + 1) f) (14 + 9 * c + 2 * k + 2) r) (14 + 9 * c) (k + 1)) := by
  have hp : mI M (d + 4) c = nI k := by rw [hv.pc c hc, updS_eq]
  have e5 : dix 5 (c * 4 + k) = 14 + 9 * c + 2 * k + 1 := by
    show 14 + 9 * ((c * 4 + k) / 4) + 1 + 2 * ((c * 4 + k) % 4) = _
    omega
  have e6 : dix 6 (c * 4 + k) = 14 + 9 * c + 2 * k + 2 := by
    show 14 + 9 * ((c * 4 + k) / 4) + 2 + 2 * ((c * 4 + k) % 4) = _
    omega
  have g1 := vE_upd hv.E (i := 5) (k := c * 4 + k) (by omega) (show c * 4 + k < 16 by omega) f
  have g2 := vE_upd g1 (i := 6) (k := c * 4 + k) (by omega) (show c * 4 + k < 16 by omega) r
  have g3 := vE_upd g2 (i := 4) (k := c) (by omega) hc (k + 1)
  rw [e5, e6, show dix 4 c = 14 + 9 * c from rfl] at g3
  have e : updS (updS (updS (updS Sr (14 + 9 * c) k) (14 + 9 * c + 2 * k + 1) f) (14 + 9 * c + 2 * k + 2) r) (14 + 9 * c) (k + 1) = updS (updS (updS Sr (14 + 9 * c + 2 * k + 1) f) (14 + 9 * c + 2 * k + 2) r) (14 + 9 * c) (k + 1) := by
    funext j
    unfold updS
    by_cases h1 : j = 14 + 9 * c
    · simp [h1]
    · simp [h1]
  rw [e] at g3
  refine ⟨_, ?_, ((Fr.sI (P := fun x => d ≤ x ∧ x ≤ d + 8) (by omega)).tr (Fr.sI (by omega))).tr (Fr.sI (by omega)), g3.D⟩
  unfold f0_addPiece l0_addPiece_53
  rw [if_pos hv.ok, if_neg (by rw [nx_l4, nx_le (by omega) (by omega)]; omega), aI_in (by omega) (by omega), hp, if_neg (by rw [nx_l4, nx_le (by omega) (by omega)]; omega), aI_in (by omega) (by omega), hp, nx_l4, nx_mul, nx_add, bI_eq, uI_in (by omega) (by omega), uI_in (by omega) (by omega), aI_in (by omega) (by omega), mI_sI_c _ _ _ _ (by omega), mI_sI_c _ _ _ _ (by omega), hp, show nI k + 1 = nI (k + 1) from nx_add k 1, uI_in (by omega) (by omega)]
def cvI (S Sr : sS) (at0 k : Nat) : Prop := (∀ j, (j ≤ at0 ∨ at0 + 2 * k < j) → Sr j = S j) ∧ (∀ i, i < k → Sr (at0 + 1 + 2 * i) ≤ 100 ∧ 1 ≤ Sr (at0 + 2 + 2 * i) ∧ Sr (at0 + 2 + 2 * i) ≤ 50) ∧ (0 < k → Sr (at0 + 1) = 0)
theorem sOK_cv (hS : sOK S) {Sr : sS} {k : Nat} (h4 : S 2 < 4) (hk1 : 1 ≤ k) (hk4 : k ≤ 4) (hI : cvI S Sr (14 + 9 * S 2) k) : sOK (updS (updS Sr (14 + 9 * S 2) k) 2 (S 2 + 1)) := by
  have hw := hS.1
  obtain ⟨c, hc⟩ : ∃ c, S 2 = c := ⟨_, rfl⟩
  rw [hc] at hI h4 ⊢
  have e2 : updS (updS Sr (14 + 9 * c) k) 2 (c + 1) 2 = c + 1 := updS_eq _ _ _
  have ea : updS (updS Sr (14 + 9 * c) k) 2 (c + 1) (14 + 9 * c) = k := by rw [updS_ne _ _ (by omega), updS_eq]
  have ne : ∀ j, j ≠ 2 → (j < 14 + 9 * c ∨ 14 + 9 * c + 8 < j) → updS (updS Sr (14 + 9 * c) k) 2 (c + 1) j = S j := fun j h1 h2 => by
    rw [updS_ne _ _ h1, updS_ne _ _ (by omega), hI.1 j (by omega)]
  have ep : ∀ j, 14 + 9 * c < j → updS (updS Sr (14 + 9 * c) k) 2 (c + 1) j = Sr j := fun j h => by
    rw [updS_ne _ _ (by omega), updS_ne _ _ (by omega)]
  generalize updS (updS Sr (14 + 9 * c) k) 2 (c + 1) = S' at e2 ea ne ep ⊢
  refine ⟨⟨by rw [ne 0 (by omega) (by omega)]; exact hw.T, by rw [ne 1 (by omega) (by omega)]; exact hw.B, by rw [e2]; omega, by rw [ne 3 (by omega) (by omega)]; exact hw.plug, by rw [ne 4 (by omega) (by omega)]; exact hw.pow, by rw [ne 5 (by omega) (by omega)]; exact hw.lim, fun s hs => by rw [ne _ (by omega) (by omega)]; exact hw.price s hs, fun c' hc' => ?_, fun b hb => ?_, fun b hb => by rw [ne _ (by omega) (by omega)]; exact hw.com b hb, fun s hs => by rw [ne _ (by omega) (by omega), ne 1 (by omega) (by omega)]; exact hw.set s hs, fun s h1 h2 => by rw [ne 0 (by omega) (by omega)] at h1; rw [ne _ (by omega) (by omega)]; exact hw.out s h1 h2⟩, fun j hj => by rw [ne j (by omega) (by omega)]; exact hS.2 j hj⟩
  · rw [e2] at hc'
    by_cases he : c' = c
    · subst he
      rw [ea, ep _ (by omega)]
      refine ⟨⟨hk1, hk4⟩, hI.2.2 (by omega), fun i hi => ?_⟩
      rw [ep _ (by omega), ep _ (by omega)]
      exact hI.2.1 i hi
    · have h := hw.crv c' (by omega)
      rw [ne (14 + 9 * c') (by omega) (by omega), ne (14 + 9 * c' + 1) (by omega) (by omega)]
      refine ⟨h.1, h.2.1, fun i hi => ?_⟩
      rw [ne (14 + 9 * c' + 1 + 2 * i) (by omega) (by omega), ne (14 + 9 * c' + 2 + 2 * i) (by omega) (by omega)]
      exact h.2.2 i hi
  · have hB := hw.B
    rw [ne 1 (by omega) (by omega)] at hb
    have h := hw.bus b hb
    rw [ne (50 + 6 * b) (by omega) (by omega), ne (50 + 6 * b + 1) (by omega) (by omega), ne (50 + 6 * b + 2) (by omega) (by omega), ne (50 + 6 * b + 3) (by omega) (by omega), ne (50 + 6 * b + 4) (by omega) (by omega), ne (50 + 6 * b + 5) (by omega) (by omega), ne 0 (by omega) (by omega), e2]
    exact ⟨by omega, h.2⟩
theorem Stm.pre {p : Nat} {Mc Mc1 Mr Mr1 : mm_M} {fc : Option mm_M} {fr : Option (Int32 × mm_M)} (h : Stm d B n p Mc1 Mr1 fc fr) (h1 : Fr (cCl d) Mc Mc1) (h2 : RG Mr Mr1) : Stm d B n p Mc Mr fc fr := by
  obtain ⟨Mc', Mr', z1, z2, z3⟩ := h
  refine ⟨Mc', Mr', h1.tr z1, z2, z3.imp (fun z => ?_) (fun z => ?_)⟩
  · obtain ⟨S', a', w1, w2, w3⟩ := z
    exact ⟨S', a', w1, h2.tr w2, w3⟩
  · obtain ⟨F, w1, w2, w3⟩ := z
    exact ⟨F, w1, h2.x w2, w3⟩
/-- the end of a curve -/
theorem j_cvend (hS : sOK S) {Sr : sS} {k a p0 : Nat} (h4 : S 2 < 4) (hk1 : 1 ≤ k) (hk4 : k ≤ 4) (hI : cvI S Sr (14 + 9 * S 2) k) {Mc Mr : mm_M} (hD : vD Mc d (updS Sr (14 + 9 * S 2) k)) (hT : vTk Mc B n (sskip B n a)) (h22 : mI Mc 22 1 = 0) (hr : cR Mr B n Sr a) (ha : a ≤ n) (hpa : p0 < a) : Stm d B n p0 Mc Mr (l3_readCurve_142 d Mc) (uI 48 82 (nI (14 + 9 * S 2)) (nI k) Mr (fun M => aI 48 82 2 M (fun w_4 => uI 48 82 2 (w_4 + 1) M (fun M => rZ 1 M)))) := by
  have hd := isD_le hD.ok
  have hge := skge (B := B) (n := n) (a := a) rfl
  have e2 : updS Sr (14 + 9 * S 2) k 2 = S 2 := by rw [updS_ne _ _ (by omega), hI.1 2 (by omega)]
  have f1 : Fr (fun x => d ≤ x ∧ x ≤ d + 8) Mc (sI Mc d 1 (nI (S 2 + 1))) := Fr.sI (by omega)
  have g1 : vE (sI Mc (d + 0) 1 (nI (S 2 + 1))) d (updS (updS Sr (14 + 9 * S 2) k) (dix 0 1) (S 2 + 1)) := vE_upd hD.E (i := 0) (k := 1) (by omega) (by decide) (S 2 + 1)
  have g1 : vE (sI Mc d 1 (nI (S 2 + 1))) d (updS (updS Sr (14 + 9 * S 2) k) 2 (S 2 + 1)) := g1
  have hr1 := cR_upd (k := 14 + 9 * S 2) (v := k) hr
  have r2 : mI (sI Mr 48 (14 + 9 * S 2) (nI k)) 48 2 = nI (S 2) := by rw [hr1.1 2 (by omega), e2]
  refine ⟨sI Mc d 1 (nI (S 2 + 1)), sI (sI Mr 48 (14 + 9 * S 2) (nI k)) 48 2 (nI (S 2 + 1)), frd f1, ?_, Or.inl ⟨_, a, ?_, (RG.s48 _ _ _).tr (RG.s48 _ _ _), ha, by omega, sOK_cv hS h4 hk1 hk4 hI, ⟨g1.D, hT.mv f1 (fun z => by omega) (fun z => by omega), by rw [f1.mI (fun z => by omega)]; exact h22⟩, cR_upd hr1⟩⟩
  · unfold l3_readCurve_142
    rw [bI_eq, hD.C, e2, show nI (S 2) + 1 = nI (S 2 + 1) from nx_add _ 1, bM_eq]
  · rw [uI_in (by omega) (by omega), show aI (α := Int32 × mm_M) 48 82 2 (sI Mr 48 (14 + 9 * S 2) (nI k)) = aI 48 82 (nI 2) (sI Mr 48 (14 + 9 * S 2) (nI k)) from rfl, aI_in (by omega) (by omega), r2, show nI (S 2) + 1 = nI (S 2 + 1) from nx_add _ 1, show uI (α := Int32 × mm_M) 48 82 2 (nI (S 2 + 1)) (sI Mr 48 (14 + 9 * S 2) (nI k)) = uI 48 82 (nI 2) (nI (S 2 + 1)) (sI Mr 48 (14 + 9 * S 2) (nI k)) from rfl, uI_in (by omega) (by omega)]
    rfl
theorem okI_00 {v : Nat} (hv : v < 10000) : okI (nI v) 0 0 = decide (v = 0) := by
  have : okI (nI v) (nI 0) (nI 0) = (decide (0 ≤ v) && decide (v ≤ 0)) := okS_nI (by omega) (by omega) (by omega)
  rw [show okI (nI v) 0 0 = okI (nI v) (nI 0) (nI 0) from rfl, this]
  by_cases h : v = 0
  · rw [decide_eq_true h, decide_eq_true (by omega), decide_eq_true (by omega)]; rfl
  · rw [decide_eq_false h, decide_eq_false (show ¬ v ≤ 0 by omega), Bool.and_false]
theorem j_cvS (hB : ∀ i, B i < 256) (hn : n ≤ 400) (hS : sOK S) (h4 : S 2 < 4) {p0 k a kc kr : Nat} {Sr : sS} {x3 x4 : Int32} {Mc Mr : mm_M} (hk : k ≤ 4) (hkc : 0 < kc) (ha : a ≤ n) (hpa : p0 < a) (hI : cvI S Sr (14 + 9 * S 2) k) (hD : vD Mc d (updS Sr (14 + 9 * S 2) k)) (hT : vTk Mc B n (sskip B n a)) (h22 : mI Mc 22 1 = 0) (hr : cR Mr B n Sr a) (hx : (k = 0 ∧ x3 = 0 ∧ x4 = 0) ∨ (0 < k ∧ tk B n (sskip B n a) = 2 ∧ x3 = nI (Sr (14 + 9 * S 2 + 2 * k - 1) + 1) ∧ x4 = 100))
    (IH : k < 4 → ∀ (a' : Nat) (Sr' : sS) (Mc' Mr' : mm_M), a' ≤ n → p0 < a' → cvI S Sr' (14 + 9 * S 2) (k + 1) → vD Mc' d (updS Sr' (14 + 9 * S 2) (k + 1)) → vTk Mc' B n (sskip B n a') → mI Mc' 22 1 = 0 → cR Mr' B n Sr' a' → tk B n (sskip B n a') = 2 → Stm d B n p0 Mc' Mr' (l3_readCurve_41 kc d (nI (S 2)) (nI (Sr' (14 + 9 * S 2 + 2 * k + 1) + 1)) 100 (nI (k + 1)) Mc') (l7_readCurve_30 kr (nI (14 + 9 * S 2)) (nI (k + 1)) Mr')) :
    Stm d B n p0 Mc Mr (l3_readCurve_41 (kc + 1) d (nI (S 2)) x3 x4 (nI k) Mc) (l7_readCurve_30 (kr + 1) (nI (14 + 9 * S 2)) (nI k) Mr) := by
  have hd := isD_le hD.ok
  obtain ⟨p, hp⟩ : ∃ p, sskip B n a = p := ⟨_, rfl⟩
  rw [hp] at hT hx
  have hle := skle (B := B) ha hp
  have hge := skge hp
  obtain ⟨nu, hT3, hT4⟩ := id hT
  have hlast : 0 < k → Sr (14 + 9 * S 2 + 2 * k - 1) ≤ 100 := fun h0 => by
    have := (hI.2.1 (k - 1) (by omega)).1
    rw [show 14 + 9 * S 2 + 1 + 2 * (k - 1) = 14 + 9 * S 2 + 2 * k - 1 by omega] at this
    exact this
  have hcl : l3_readCurve_41 (kc + 1) d (nI (S 2)) x3 x4 (nI k) Mc = l3_readCurve_63 (l3_readCurve_41 kc) d (nI (S 2)) x3 x4 (nI k) Mc := by
    rw [show l3_readCurve_41 (kc + 1) d (nI (S 2)) x3 x4 (nI k) Mc = b3_readCurve_41 (l3_readCurve_41 kc) d (nI (S 2)) x3 x4 (nI k) Mc from rfl]
    unfold b3_readCurve_41
    rw [if_neg (by rw [nx_l4, nx_lt (by omega) (by omega)]; omega)]
    rcases hx with ⟨h0, -⟩ | ⟨h0, ht, -⟩
    · rw [if_pos (by rw [h0]; rfl)]
    · rw [if_neg (by rw [nx_lit0, nx_eq (by omega) (by omega)]; omega), bI_eq, hT3.2.2.1, if_pos (by rw [ht]; rfl)]
  rw [hcl, show l7_readCurve_30 (kr + 1) (nI (14 + 9 * S 2)) (nI k) Mr = b7_readCurve_30 (l7_readCurve_30 kr) (nI (14 + 9 * S 2)) (nI k) Mr from rfl]
  obtain ⟨w1, w2⟩ := x_within (show p ≤ 400 by omega) hT h22 x3 x4
  obtain ⟨y1, y2⟩ := y_readPlain hB hn ha hp hr.2
  cases hv : pn B n p with
  | none =>
    obtain ⟨Mr1, b1, b2, b3⟩ := y2 hv
    have e1 : rdF B n p x3 x4 = none := by unfold rdF; rw [hv]
    have e2 : rdE B n p = 1 + 8 * p := by unfold rdE; rw [hv]
    refine ⟨sI Mc 22 1 (nI (rdE B n p)), Mr1, fr22 (Fr.sI rfl), ?_, Or.inr ⟨1 + 8 * p, ?_, b2.x, by omega, by omega, by rw [mI_sI_eq, e2], b3⟩⟩
    · unfold l3_readCurve_63
      rw [w2 e1, cI_some, if_pos rfl]
    · unfold b7_readCurve_30
      rw [b1, cI_some, if_pos rfl]
      rfl
  | some v =>
    obtain ⟨Mr1, b1, b2, b3, b4, b5⟩ := y1 v hv
    obtain ⟨v1, v2, -, -, v5⟩ := pn_lt hv
    have hr1 := cR_rs hr b2 b3
    have ht := tb_le (B := B) hle
    have hrf : b7_readCurve_30 (l7_readCurve_30 kr) (nI (14 + 9 * S 2)) (nI k) Mr = l7_readCurve_93 (l7_readCurve_30 kr) (nI (14 + 9 * S 2)) (nI k) (if okI (nI v) x3 x4 = true then 1 else 0) Mr1 := by
      unfold b7_readCurve_30 l7_readCurve_92
      rw [b1, cI_some, if_neg (show ¬ (1 : Int32) = 0 by decide)]
      rcases hx with ⟨h0, rfl, rfl⟩ | ⟨h0, -, rfl, rfl⟩
      · rw [if_pos (by rw [h0]; rfl), bI_eq, b4, okI_00 v1]
        by_cases hv0 : v = 0
        · rw [if_pos (by rw [hv0]; rfl), decide_eq_true hv0, it_t]
        · rw [if_neg (by rw [nx_lit0, nx_eq (by omega) (by omega)]; exact hv0), decide_eq_false hv0, it_f]
      · have hl := hlast h0
        have ok : okI (nI v) (nI (Sr (14 + 9 * S 2 + 2 * k - 1) + 1)) (nI 100) = (decide (Sr (14 + 9 * S 2 + 2 * k - 1) + 1 ≤ v) && decide (v ≤ 100)) := okS_nI (by omega) (by omega) (by omega)
        rw [if_neg (by rw [nx_lit0, nx_eq (by omega) (by omega)]; omega), bI_eq, b4, show (2 : Int32) * nI k = nI (2 * k) from nx_mul 2 k, nx_add, show nI (14 + 9 * S 2 + 2 * k) - 1 = nI (14 + 9 * S 2 + 2 * k - 1) from nx_sub (b := 1) (by omega), aI_in (by omega) (by omega), hr1.1 _ (by omega), show okI (nI v) (nI (Sr (14 + 9 * S 2 + 2 * k - 1) + 1)) 100 = okI (nI v) (nI (Sr (14 + 9 * S 2 + 2 * k - 1) + 1)) (nI 100) from rfl, ok]
        by_cases q1 : v ≤ Sr (14 + 9 * S 2 + 2 * k - 1)
        · rw [if_pos (by rw [nx_le (by omega) (by omega)]; exact q1), decide_eq_false (show ¬ Sr (14 + 9 * S 2 + 2 * k - 1) + 1 ≤ v by omega)]
          rfl
        · rw [if_neg (by rw [nx_le (by omega) (by omega)]; exact q1), bI_eq, decide_eq_true (show Sr (14 + 9 * S 2 + 2 * k - 1) + 1 ≤ v by omega)]
          by_cases q2 : v ≤ 100
          · rw [if_neg (by rw [nx_l100, nx_lt (by omega) (by omega)]; omega), decide_eq_true q2]
            rfl
          · rw [if_pos (by rw [nx_l100, nx_lt (by omega) (by omega)]; omega), decide_eq_false q2]
            rfl
    rw [hrf]
    by_cases hg : okI (nI v) x3 x4 = true
    · have e1 : rdF B n p x3 x4 = some v := by unfold rdF; rw [hv]; exact if_pos hg
      obtain ⟨c1, c2⟩ := w1 v e1
      rw [if_pos hg]
      unfold l3_readCurve_63 l7_readCurve_93
      rw [c1, cI_some, if_neg (show ¬ (1 : Int32) = 0 by decide), if_neg (show ¬ (1 : Int32) = 0 by decide)]
      by_cases hk4 : k = 4
      · rw [if_pos (by rw [hk4]; rfl), if_pos (by rw [hk4]; rfl), show f3_blame 4 Mc = some (sI Mc 22 1 (nI (4 + 8 * p))) from x_blame (k := 4) hT3.2.2.2.1 h22, cV_some]
        refine ⟨_, sI Mr1 46 7 (nI (4 + 8 * p)), fr22 (Fr.sI rfl), rfl, Or.inr ⟨4 + 8 * p, ?_, b2.g.x (RE.s7 _ _).x, by omega, by omega, mI_sI_eq _ _ _ _, mI_sI_eq _ _ _ _⟩⟩
        unfold f7_fails
        rw [bI_eq, b5, show (4 : Int32) + 8 * nI p = nI (4 + 8 * p) from by rw [show (8 : Int32) = nI 8 from rfl, nx_mul]; exact nx_add 4 _, bM_eq]
        rfl
      · have hk5 : k < 4 := by omega
        have ne4 : ¬ nI k = 4 := by rw [nx_l4, nx_eq (by omega) (by omega)]; exact hk4
        have hv100 : v ≤ 100 ∧ (k = 0 → v = 0) := by
          rcases hx with ⟨h0, rfl, rfl⟩ | ⟨h0, -, rfl, rfl⟩
          · rw [okI_00 v1, decide_eq_true_eq] at hg
            omega
          · have hl := hlast h0
            obtain ⟨x, -, x2, xe⟩ := okI_t (a := Sr (14 + 9 * S 2 + 2 * k - 1) + 1) (b := 100) (by omega) (by omega) hg
            rw [nx_eq (by omega) (by omega)] at xe
            omega
        obtain ⟨M1, e1, e2, e3⟩ := x_step hB hn hle hT
        have h221 : mI M1 22 1 = 0 := by rw [e2.mI (by decide)]; exact h22
        have hD1 := hD.mv e2 (fun c z => by omega)
        have i1 : nI (14 + 9 * S 2) + 2 * nI k + 1 = nI (14 + 9 * S 2 + 2 * k + 1) := by rw [show (2 : Int32) * nI k = nI (2 * k) from nx_mul 2 k, nx_add]; exact nx_add _ 1
        have i2 : nI (14 + 9 * S 2) + 2 * nI k + 2 = nI (14 + 9 * S 2 + 2 * k + 2) := by rw [show (2 : Int32) * nI k = nI (2 * k) from nx_mul 2 k, nx_add]; exact nx_add _ 2
        have hr2 := cR_upd (k := 14 + 9 * S 2 + 2 * k + 1) (v := v) hr1
        have g2 : RG Mr (sI Mr1 48 (14 + 9 * S 2 + 2 * k + 1) (nI v)) := b2.g.tr (RG.s48 _ _ _)
        have hge2 := skge (B := B) (n := n) (a := tb B n p) rfl
        rw [if_neg ne4, if_neg ne4, bI_eq, c2, e1, cV_some, bI_eq, b4, i1, uI_in (by omega) (by omega), i2]
        unfold f7_reads
        rcases jnum hB hn ht.2.1 rfl e3 h221 hr2.2 1 50 with ⟨r, Mc2, Mr2, a1, a2, a3, a4, a5, a6, a7, a8, a9, a10, a11, a12, a13⟩ | ⟨F, Mc2, Mr2, a1, a2, a3, a4, a5, a6, a7, a8⟩
        · obtain ⟨r', r1, r2, re⟩ := okI_t (a := 1) (b := 50) (by omega) (by omega) a10
          have : r = r' := by rw [nx_eq (by omega) (by omega)] at re; exact re
          subst this
          have hD2 := hD1.mv a3 (fun c z => by omega)
          obtain ⟨M3, k1, k2, k3⟩ := x_piece (f := v) (r := r) h4 hk5 hD2
          have hr3 := cR_upd (k := 14 + 9 * S 2 + 2 * k + 2) (v := r) (cR_rs hr2 a4 a6)
          have hT5 := a5.mv k2 (fun z => by omega) (fun z => by omega)
          have h223 : mI M3 22 1 = 0 := by rw [k2.mI (fun z => by omega), a3.mI (by decide)]; exact h221
          have hI' : cvI S (updS (updS Sr (14 + 9 * S 2 + 2 * k + 1) v) (14 + 9 * S 2 + 2 * k + 2) r) (14 + 9 * S 2) (k + 1) := by
            refine ⟨fun j hj => ?_, fun i hi => ?_, fun _ => ?_⟩
            · rw [updS_ne _ _ (by omega), updS_ne _ _ (by omega)]; exact hI.1 j (by omega)
            · by_cases hik : i = k
              · subst hik
                rw [show 14 + 9 * S 2 + 1 + 2 * i = 14 + 9 * S 2 + 2 * i + 1 by omega, show 14 + 9 * S 2 + 2 + 2 * i = 14 + 9 * S 2 + 2 * i + 2 by omega, updS_eq, updS_ne _ _ (by omega), updS_eq]
                omega
              · rw [updS_ne _ _ (by omega), updS_ne _ _ (by omega), updS_ne _ _ (by omega), updS_ne _ _ (by omega)]
                exact hI.2.1 i (by omega)
            · by_cases h0 : k = 0
              · rw [updS_ne _ _ (by omega), show 14 + 9 * S 2 + 1 = 14 + 9 * S 2 + 2 * k + 1 by omega, updS_eq]
                exact hv100.2 h0
              · rw [updS_ne _ _ (by omega), updS_ne _ _ (by omega)]; exact hI.2.2 (by omega)
          have ev : updS (updS Sr (14 + 9 * S 2 + 2 * k + 1) v) (14 + 9 * S 2 + 2 * k + 2) r (14 + 9 * S 2 + 2 * k + 1) = v := by rw [updS_ne _ _ (by omega), updS_eq]
          generalize updS (updS Sr (14 + 9 * S 2 + 2 * k + 1) v) (14 + 9 * S 2 + 2 * k + 2) r = Sr' at hI' ev k3 hr3
          obtain ⟨Mr4, n1, n2, n3⟩ := y_isNumber hB hn a12 rfl hr3.2
          have hr4 := cR_rs hr3 n2 n3
          have fcl : Fr (cCl d) Mc M3 := (fr20 e2).tr ((fr20 a3).tr (frd k2))
          have frl : RG Mr Mr4 := g2.tr (a4.g.tr ((RG.s48 _ _ _).tr n2.g))
          have hle3 := skle (B := B) (n := n) a12 rfl
          have hge3 := skge (B := B) (n := n) (a := tb B n (sskip B n (tb B n p))) rfl
          have hid := sskip_idem B n (tb B n (sskip B n (tb B n p)))
          rw [a1, cI_some, if_neg (by rw [nx_neg1 (by omega)]; exact fun z => z), k1, cV_some, bI_eq, a2, cI_some, if_neg (show ¬ (1 : Int32) = 0 by decide), bI_eq, a7, uI_in (by omega) (by omega), rZ1, cI_some, if_neg (show ¬ (1 : Int32) = 0 by decide), n1, cI_some, show nI v + 1 = nI (v + 1) from nx_add v 1, show nI k + 1 = nI (k + 1) from nx_add k 1]
          by_cases htk : tk B n (sskip B n (tb B n (sskip B n (tb B n p)))) = 2
          · rw [if_pos htk, if_neg (show ¬ (1 : Int32) = 0 by decide)]
            have J := IH hk5 _ Sr' M3 Mr4 hle3 (by omega) hI' k3 (by rw [hid]; exact hT5) h223 hr4 (by rw [hid]; exact htk)
            rw [ev] at J
            exact J.pre fcl frl
          · rw [if_neg htk, if_pos rfl]
            obtain ⟨kc, rfl⟩ : ∃ j, kc = j + 1 := ⟨kc - 1, by omega⟩
            obtain ⟨nu5, hT6, -⟩ := id hT5
            have htl : tk B n (sskip B n (tb B n (sskip B n (tb B n p)))) < 4 := by unfold tk; split <;> (try split) <;> (try split) <;> omega
            have hend : l3_readCurve_41 (kc + 1) d (nI (S 2)) (nI (v + 1)) 100 (nI (k + 1)) M3 = l3_readCurve_142 d M3 := by
              rw [show l3_readCurve_41 (kc + 1) d (nI (S 2)) (nI (v + 1)) 100 (nI (k + 1)) M3 = b3_readCurve_41 (l3_readCurve_41 kc) d (nI (S 2)) (nI (v + 1)) 100 (nI (k + 1)) M3 from rfl]
              unfold b3_readCurve_41
              rw [if_neg (by rw [nx_l4, nx_lt (by omega) (by omega)]; omega), if_neg (by rw [nx_lit0, nx_eq (by omega) (by omega)]; omega), bI_eq, hT6.2.2.1, if_neg (by rw [show (2 : Int32) = nI 2 from rfl, nx_eq (by omega) (by omega)]; exact htk)]
            rw [hend]
            exact (j_cvend hS h4 (by omega) (by omega) hI' k3 (by rw [hid]; exact hT5) h223 hr4 hle3 (by omega)).pre fcl frl
        · refine ⟨Mc2, Mr2, (fr20 e2).tr (fr22 a3), ?_, Or.inr ⟨F, ?_, g2.x a4.x, a5, a6, a7, a8⟩⟩
          · rw [a1, cI_some, if_pos rfl]
          · rw [a2, cI_some, if_pos rfl, rZ0, cI_some, if_pos rfl]
            rfl
    · have e1 : rdF B n p x3 x4 = none := by unfold rdF; rw [hv]; exact if_neg hg
      have e2 : rdE B n p = 2 + 8 * p := by unfold rdE; rw [hv]
      rw [if_neg hg]
      refine ⟨sI Mc 22 1 (nI (rdE B n p)), sI Mr1 46 7 (nI (2 + 8 * p)), fr22 (Fr.sI rfl), ?_, Or.inr ⟨2 + 8 * p, ?_, b2.g.x (RE.s7 _ _).x, by omega, by omega, by rw [mI_sI_eq, e2], mI_sI_eq _ _ _ _⟩⟩
      · unfold l3_readCurve_63
        rw [w2 e1, cI_some, if_pos rfl]
      · unfold l7_readCurve_93 f7_fails
        rw [if_pos rfl, bI_eq, b5, show (2 : Int32) + 8 * nI p = nI (2 + 8 * p) from by rw [show (8 : Int32) = nI 8 from rfl, nx_mul]; exact nx_add 2 _, bM_eq]
        rfl
end STM4
