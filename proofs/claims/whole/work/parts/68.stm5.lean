section STM5
variable {B : Nat → Nat} {n d : Nat} {S : sS}
theorem j_cv (hB : ∀ i, B i < 256) (hn : n ≤ 400) (hS : sOK S) (h4 : S 2 < 4) {p0 : Nat} : ∀ (m k a kc kr : Nat) (Sr : sS) (x3 x4 : Int32) (Mc Mr : mm_M), k + m = 4 → m + 2 ≤ kc → m + 1 ≤ kr → a ≤ n → p0 < a → cvI S Sr (14 + 9 * S 2) k → vD Mc d (updS Sr (14 + 9 * S 2) k) → vTk Mc B n (sskip B n a) → mI Mc 22 1 = 0 → cR Mr B n Sr a → ((k = 0 ∧ x3 = 0 ∧ x4 = 0) ∨ (0 < k ∧ tk B n (sskip B n a) = 2 ∧ x3 = nI (Sr (14 + 9 * S 2 + 2 * k - 1) + 1) ∧ x4 = 100)) →
    Stm d B n p0 Mc Mr (l3_readCurve_41 kc d (nI (S 2)) x3 x4 (nI k) Mc) (l7_readCurve_30 kr (nI (14 + 9 * S 2)) (nI k) Mr) := by
  intro m
  induction m with
  | zero =>
    intro k a kc kr Sr x3 x4 Mc Mr hk hkc hkr ha hpa hI hD hT h22 hr hx
    obtain ⟨kc, rfl⟩ : ∃ j, kc = j + 1 := ⟨kc - 1, by omega⟩
    obtain ⟨kr, rfl⟩ : ∃ j, kr = j + 1 := ⟨kr - 1, by omega⟩
    exact j_cvS hB hn hS h4 (by omega) (by omega) ha hpa hI hD hT h22 hr hx (fun z => by omega)
  | succ m ih =>
    intro k a kc kr Sr x3 x4 Mc Mr hk hkc hkr ha hpa hI hD hT h22 hr hx
    obtain ⟨kc, rfl⟩ : ∃ j, kc = j + 1 := ⟨kc - 1, by omega⟩
    obtain ⟨kr, rfl⟩ : ∃ j, kr = j + 1 := ⟨kr - 1, by omega⟩
    refine j_cvS hB hn hS h4 (by omega) (by omega) ha hpa hI hD hT h22 hr hx (fun z a' Sr' Mc' Mr' q1 q2 q3 q4 q5 q6 q7 q8 => ?_)
    exact ih (k + 1) a' kc kr Sr' _ _ Mc' Mr' (by omega) (by omega) (by omega) q1 q2 q3 q4 q5 q6 q7 (Or.inr ⟨by omega, q8, by rw [show 14 + 9 * S 2 + 2 * (k + 1) - 1 = 14 + 9 * S 2 + 2 * k + 1 by omega], rfl⟩)
theorem j_curve (hB : ∀ i, B i < 256) (hn : n ≤ 400) {Mc Mr : mm_M} {p : Nat} (hS : sOK S) (hp : p < n) (hc : cC Mc d B n S p) (hr : cR Mr B n S (tb B n p)) : Stm d B n p Mc Mr (f3_readCurve d Mc) (f7_readCurve (nI p) Mr) := by
  have hw := hS.1
  have hC := hw.C
  have hd := isD_le hc.1.ok
  have hF := FU_big
  have ht := tb_le (B := B) (show p ≤ n by omega)
  have a2' : ∀ {N : mm_M} {e : Int32 → Option (Int32 × mm_M)}, aI 48 82 2 N e = e (mI N 48 2) := fun {N e} => aI_in (i := 2) (by omega) (by omega)
  have r2 : mI Mr 48 2 = nI (S 2) := hr.1 2 (by omega)
  by_cases h4 : S 2 = 4
  · obtain ⟨nu, hT3, -⟩ := id hc.2.1
    refine ⟨sI Mc 22 1 (nI (4 + 8 * p)), sI Mr 46 7 (nI (4 + 8 * p)), fr22 (Fr.sI rfl), ?_, Or.inr ⟨4 + 8 * p, ?_, (RE.s7 _ _).x, by omega, by omega, mI_sI_eq _ _ _ _, mI_sI_eq _ _ _ _⟩⟩
    · unfold f3_readCurve
      rw [if_pos hc.1.ok, bI_eq, hc.1.C, h4, if_neg (show ¬ nI 4 < 4 by decide), show f3_blame 4 Mc = some (sI Mc 22 1 (nI (4 + 8 * p))) from x_blame (k := 4) hT3.2.2.2.1 hc.2.2, cV_some]
    · unfold f7_readCurve f7_fails
      rw [a2', r2, h4, if_pos (show nI 4 = 4 from rfl), show (4 : Int32) + 8 * nI p = nI (4 + 8 * p) from by rw [show (8 : Int32) = nI 8 from rfl, nx_mul]; exact nx_add 4 _, bM_eq]
      rfl
  · have hC4 : S 2 < 4 := by omega
    obtain ⟨M0, e1, e2, e3⟩ := x_step hB hn (by omega) hc.2.1
    have hD0 := hc.1.mv e2 (fun c z => by omega)
    have f4 : Fr (fun c => d ≤ c ∧ c ≤ d + 8) M0 (sI M0 (d + 4) (S 2) (nI 0)) := Fr.sI (by omega)
    have hD1 : vD (sI M0 (d + 4) (S 2) (nI 0)) d (updS S (14 + 9 * S 2) 0) := (vE_upd hD0.E (i := 4) (k := S 2) (by omega) hC4 0).D
    have J := j_cv (d := d) hB hn hS hC4 (p0 := p) 4 0 (tb B n p) FU FU S 0 0 (sI M0 (d + 4) (S 2) (nI 0)) Mr (by omega) (by omega) (by omega) ht.2.1 (ht.2.2 hp) ⟨fun _ _ => rfl, fun i hi => by omega, fun z => by omega⟩ hD1 (e3.mv f4 (fun z => by omega) (fun z => by omega)) (by rw [f4.mI (fun z => by omega), e2.mI (by decide)]; exact hc.2.2) hr (Or.inl ⟨rfl, rfl, rfl⟩)
    have ec : f3_readCurve d Mc = l3_readCurve_41 FU d (nI (S 2)) 0 0 (nI 0) (sI M0 (d + 4) (S 2) (nI 0)) := by
      unfold f3_readCurve
      rw [if_pos hc.1.ok, bI_eq, hc.1.C, if_pos (by rw [nx_l4, nx_lt (by omega) (by omega)]; exact hC4), e1, cV_some, bI_eq, hD0.C, uI_in (by omega) (by omega)]
      rfl
    have er : f7_readCurve (nI p) Mr = l7_readCurve_30 FU (nI (14 + 9 * S 2)) (nI 0) Mr := by
      unfold f7_readCurve
      rw [a2', r2, if_neg (by rw [nx_l4, nx_eq (by omega) (by omega)]; exact h4), bI_eq, show (14 : Int32) + 9 * nI (S 2) = nI (14 + 9 * S 2) from by rw [show (9 : Int32) = nI 9 from rfl, nx_mul]; exact nx_add 14 _]
      rfl
    rw [ec, er]
    exact J.pre ((fr20 e2).tr (frd f4)) RG.rf
theorem Stm.rz {p : Nat} {Mc Mr : mm_M} {fc : Option mm_M} {fr : Option (Int32 × mm_M)} (h : Stm d B n p Mc Mr fc fr) : Stm d B n p Mc Mr fc (cI fr (fun r M => rZ r M)) := by
  obtain ⟨Mc', Mr', z1, z2, z3⟩ := h
  refine ⟨Mc', Mr', z1, z2, z3.imp (fun z => ?_) (fun z => ?_)⟩
  · obtain ⟨S', a', w1, w2⟩ := z
    exact ⟨S', a', by rw [w1]; rfl, w2⟩
  · obtain ⟨F, w1, w2⟩ := z
    exact ⟨F, by rw [w1]; rfl, w2⟩
theorem tk1 (p : Nat) : tk B n p = 1 ↔ p < n ∧ islt (B p) = true := by
  unfold tk
  by_cases h1 : n ≤ p
  · rw [if_pos h1]; constructor
    · intro z; omega
    · intro z; omega
  · rw [if_neg h1]
    by_cases h2 : isdg (B p) = true
    · rw [if_pos h2]
      constructor
      · intro z; omega
      · intro z
        have h3 := z.2
        unfold isdg at h2
        rw [Bool.and_eq_true, decide_eq_true_eq, decide_eq_true_eq] at h2
        have := islt_b h3
        omega
    · rw [if_neg h2]
      by_cases h3 : islt (B p) = true
      · rw [if_pos h3]; exact ⟨fun _ => ⟨by omega, h3⟩, fun _ => rfl⟩
      · rw [if_neg h3]
        constructor
        · intro z; omega
        · intro z; exact absurd z.2 h3
theorem j_body (hB : ∀ i, B i < 256) (hn : n ≤ 400) {Mc Mr : mm_M} {p : Nat} (hS : sOK S) (hp : p < n) (hsk : sskip B n p = p) (hc : cC Mc d B n S p) (hr : cR Mr B n S p) : ∃ fc, f3_readStatement d Mc = cV fc (fun M => l3_readStatement_168 M) ∧ Stm d B n p Mc Mr fc (f7_readStatement Mr) := by
  have hb := hB p
  obtain ⟨nu, hT3, -⟩ := id hc.2.1
  have X : ∀ q, q < 8 → f5_isWord (200 + q) Mc = some (if tk B n p = 1 ∧ wIs B p (tb B n p - p) q = true then 1 else 0, Mc) := fun q hq => x_isWord hB hn (by omega) hq hc.2.1
  obtain ⟨Mr1, h1, h2, h3⟩ := y_here hB hn (show p ≤ n by omega) hsk hr.2
  have hr1 := cR_rs hr (RSh h2) h3
  have hin : f7_in (nI (B p)) 97 122 Mr1 = some (if islt (B p) = true then 1 else 0, Mr1) := by
    rw [show f7_in (nI (B p)) 97 122 Mr1 = some (if okS (nI (B p)) 97 122 = true then 1 else 0, Mr1) from y_inS _ 97 122 Mr1, okS_lt hb]
  have bl : f3_blame 1 Mc = some (sI Mc 22 1 (nI (1 + 8 * p))) := x_blame (k := 1) hT3.2.2.2.1 hc.2.2
  have z10 : ¬ (1 : Int32) = 0 := by decide
  have hp8 : (1 : Int32) + 8 * nI p = nI (1 + 8 * p) := by rw [show (8 : Int32) = nI 8 from rfl, nx_mul]; exact nx_add 1 _
  by_cases ht : tk B n p = 1
  · obtain ⟨-, hl⟩ := (tk1 p).mp ht
    have hdf : ¬ isdg (B p) = true := fun z => by
      have := (tk2 (B := B) (n := n) p).mpr ⟨hp, z⟩
      omega
    have eb : tb B n p = runT B n islt p := by unfold tb; rw [if_neg (by omega), if_neg hdf, if_pos hl]
    obtain ⟨Mr2, k1, k2, k3, k4⟩ := y_readWord hB hn (show p ≤ n by omega) h3
    rw [← eb] at k1 k3
    have hr2 := cR_rs hr1 k2 k3
    have hge := tb_le (B := B) (show p ≤ n by omega)
    have rg2 : RG Mr Mr2 := (RSh h2).g.tr k2.g
    have hd : ∀ i, i < tb B n p - p → 97 ≤ B (p + i) ∧ B (p + i) ≤ 122 := fun i hi => islt_b (run_all B n islt (n - p) p (p + i) (by omega) (by rw [eb] at hi; unfold runT at hi; omega))
    have Y : ∀ q, q < 8 → (lg_cmp (wy B p (tb B n p - p)) (lN (cods.getD q 0)) = 0) = (wIs B p (tb B n p - p) q = true) := fun q hq => word_eq B p _ q hq hd
    have X : ∀ q, q < 8 → f5_isWord (200 + q) Mc = some (if wIs B p (tb B n p - p) q = true then 1 else 0, Mc) := fun q hq => by
      rw [X q hq]
      by_cases hw : wIs B p (tb B n p - p) q = true
      · rw [if_pos hw, if_pos ⟨ht, hw⟩]
      · rw [if_neg hw, if_neg (fun z => hw z.2)]
    have x0 : f5_isWord 200 Mc = some (if wIs B p (tb B n p - p) 0 = true then 1 else 0, Mc) := X 0 (by omega)
    have y0 : (lg_cmp (wy B p (tb B n p - p)) 10345069 = 0) = (wIs B p (tb B n p - p) 0 = true) := Y 0 (by omega)
    have x1 : f5_isWord 201 Mc = some (if wIs B p (tb B n p - p) 1 = true then 1 else 0, Mc) := X 1 (by omega)
    have y1 : (lg_cmp (wy B p (tb B n p - p)) 8863997 = 0) = (wIs B p (tb B n p - p) 1 = true) := Y 1 (by omega)
    have x2 : f5_isWord 202 Mc = some (if wIs B p (tb B n p - p) 2 = true then 1 else 0, Mc) := X 2 (by omega)
    have y2 : (lg_cmp (wy B p (tb B n p - p)) 8754769 = 0) = (wIs B p (tb B n p - p) 2 = true) := Y 2 (by omega)
    have x3 : f5_isWord 203 Mc = some (if wIs B p (tb B n p - p) 3 = true then 1 else 0, Mc) := X 3 (by omega)
    have y3 : (lg_cmp (wy B p (tb B n p - p)) 8815221 = 0) = (wIs B p (tb B n p - p) 3 = true) := Y 3 (by omega)
    have x4 : f5_isWord 204 Mc = some (if wIs B p (tb B n p - p) 4 = true then 1 else 0, Mc) := X 4 (by omega)
    have y4 : (lg_cmp (wy B p (tb B n p - p)) 6564179 = 0) = (wIs B p (tb B n p - p) 4 = true) := Y 4 (by omega)
    have x5 : f5_isWord 205 Mc = some (if wIs B p (tb B n p - p) 5 = true then 1 else 0, Mc) := X 5 (by omega)
    have y5 : (lg_cmp (wy B p (tb B n p - p)) 2021387 = 0) = (wIs B p (tb B n p - p) 5 = true) := Y 5 (by omega)
    have x6 : f5_isWord 206 Mc = some (if wIs B p (tb B n p - p) 6 = true then 1 else 0, Mc) := X 6 (by omega)
    have y6 : (lg_cmp (wy B p (tb B n p - p)) 2044 = 0) = (wIs B p (tb B n p - p) 6 = true) := Y 6 (by omega)
    have x7 : f5_isWord 207 Mc = some (if wIs B p (tb B n p - p) 7 = true then 1 else 0, Mc) := X 7 (by omega)
    have y7 : (lg_cmp (wy B p (tb B n p - p)) 47331248 = 0) = (wIs B p (tb B n p - p) 7 = true) := Y 7 (by omega)
    have start : f7_readStatement Mr = (fun M => if (lg_cmp (wy B p (tb B n p - p)) 10345069) = 0 then (cI (f7_readSlots M) (fun r_13 M => rZ r_13 M)) else (if (lg_cmp (wy B p (tb B n p - p)) 8863997) = 0 then (cI (f7_readPrice M) (fun r_12 M => rZ r_12 M)) else (if (lg_cmp (wy B p (tb B n p - p)) 8754769) = 0 then (cI (f7_reads 3 1 4 M) (fun r_11 M => rZ r_11 M)) else (if (lg_cmp (wy B p (tb B n p - p)) 8815221) = 0 then (cI (f7_reads 4 1 50 M) (fun r_10 M => rZ r_10 M)) else (if (lg_cmp (wy B p (tb B n p - p)) 6564179) = 0 then (cI (f7_reads 5 1 200 M) (fun r_9 M => rZ r_9 M)) else (if (lg_cmp (wy B p (tb B n p - p)) 2021387) = 0 then (cI (f7_readCurve (nI p) M) (fun r_8 M => rZ r_8 M)) else (if (lg_cmp (wy B p (tb B n p - p)) 2044) = 0 then (cI (f7_readBus (nI p) M) (fun r_7 M => rZ r_7 M)) else (if (lg_cmp (wy B p (tb B n p - p)) 47331248) = 0 then (cI (f7_readCharge M) (fun r_6 M => l7_readStatement_160 r_6 M)) else (cI (f7_fails 1 (nI p) M) (fun r_5 M => l7_readStatement_160 r_5 M))))))))) ) Mr2 := by
      unfold f7_readStatement
      rw [h1, cI_some, if_pos hp, hin, cI_some, if_pos hl, if_neg z10, k1, cL_some, bI_eq, k4]
    rw [start]
    unfold f3_readStatement
    rw [if_pos hc.1.ok]
    by_cases w0 : wIs B p (tb B n p - p) 0 = true
    · refine ⟨f3_readSlots d Mc, ?_, ?_⟩
      · rw [x0, cI_some, if_pos w0, if_neg z10]
      · show Stm d B n p Mc Mr _ (if _ then _ else _)
        rw [if_pos (by rw [y0]; exact w0)]
        exact (j_slots hB hn hS hp hc hr2).rz.pre Fr.rf rg2
    by_cases w1 : wIs B p (tb B n p - p) 1 = true
    · refine ⟨f3_readPrice d Mc, ?_, ?_⟩
      · rw [x0, cI_some, if_neg w0, if_pos rfl, x1, cI_some, if_pos w1, if_neg z10]
      · show Stm d B n p Mc Mr _ (if _ then _ else _)
        rw [if_neg (by rw [y0]; exact w0), if_pos (by rw [y1]; exact w1)]
        exact (j_price hB hn hS hp hc hr2).rz.pre Fr.rf rg2
    by_cases w2 : wIs B p (tb B n p - p) 2 = true
    · refine ⟨f3_readSetting d 0 Mc, ?_, ?_⟩
      · rw [x0, cI_some, if_neg w0, if_pos rfl, x1, cI_some, if_neg w1, if_pos rfl, x2, cI_some, if_pos w2, if_neg z10]
      · show Stm d B n p Mc Mr _ (if _ then _ else _)
        rw [if_neg (by rw [y0]; exact w0), if_neg (by rw [y1]; exact w1), if_pos (by rw [y2]; exact w2)]
        exact (j_setting (w := 0) hB hn hS hp (by omega) hc hr2).rz.pre Fr.rf rg2
    by_cases w3 : wIs B p (tb B n p - p) 3 = true
    · refine ⟨f3_readSetting d 1 Mc, ?_, ?_⟩
      · rw [x0, cI_some, if_neg w0, if_pos rfl, x1, cI_some, if_neg w1, if_pos rfl, x2, cI_some, if_neg w2, if_pos rfl, x3, cI_some, if_pos w3, if_neg z10]
      · show Stm d B n p Mc Mr _ (if _ then _ else _)
        rw [if_neg (by rw [y0]; exact w0), if_neg (by rw [y1]; exact w1), if_neg (by rw [y2]; exact w2), if_pos (by rw [y3]; exact w3)]
        exact (j_setting (w := 1) hB hn hS hp (by omega) hc hr2).rz.pre Fr.rf rg2
    by_cases w4 : wIs B p (tb B n p - p) 4 = true
    · refine ⟨f3_readSetting d 2 Mc, ?_, ?_⟩
      · rw [x0, cI_some, if_neg w0, if_pos rfl, x1, cI_some, if_neg w1, if_pos rfl, x2, cI_some, if_neg w2, if_pos rfl, x3, cI_some, if_neg w3, if_pos rfl, x4, cI_some, if_pos w4, if_neg z10]
      · show Stm d B n p Mc Mr _ (if _ then _ else _)
        rw [if_neg (by rw [y0]; exact w0), if_neg (by rw [y1]; exact w1), if_neg (by rw [y2]; exact w2), if_neg (by rw [y3]; exact w3), if_pos (by rw [y4]; exact w4)]
        exact (j_setting (w := 2) hB hn hS hp (by omega) hc hr2).rz.pre Fr.rf rg2
    by_cases w5 : wIs B p (tb B n p - p) 5 = true
    · refine ⟨f3_readCurve d Mc, ?_, ?_⟩
      · rw [x0, cI_some, if_neg w0, if_pos rfl, x1, cI_some, if_neg w1, if_pos rfl, x2, cI_some, if_neg w2, if_pos rfl, x3, cI_some, if_neg w3, if_pos rfl, x4, cI_some, if_neg w4, if_pos rfl, x5, cI_some, if_pos w5, if_neg z10]
      · show Stm d B n p Mc Mr _ (if _ then _ else _)
        rw [if_neg (by rw [y0]; exact w0), if_neg (by rw [y1]; exact w1), if_neg (by rw [y2]; exact w2), if_neg (by rw [y3]; exact w3), if_neg (by rw [y4]; exact w4), if_pos (by rw [y5]; exact w5)]
        exact (j_curve hB hn hS hp hc hr2).rz.pre Fr.rf rg2
    by_cases w6 : wIs B p (tb B n p - p) 6 = true
    · refine ⟨f3_readBus d Mc, ?_, ?_⟩
      · rw [x0, cI_some, if_neg w0, if_pos rfl, x1, cI_some, if_neg w1, if_pos rfl, x2, cI_some, if_neg w2, if_pos rfl, x3, cI_some, if_neg w3, if_pos rfl, x4, cI_some, if_neg w4, if_pos rfl, x5, cI_some, if_neg w5, if_pos rfl, x6, cI_some, if_pos w6, if_neg z10]
      · show Stm d B n p Mc Mr _ (if _ then _ else _)
        rw [if_neg (by rw [y0]; exact w0), if_neg (by rw [y1]; exact w1), if_neg (by rw [y2]; exact w2), if_neg (by rw [y3]; exact w3), if_neg (by rw [y4]; exact w4), if_neg (by rw [y5]; exact w5), if_pos (by rw [y6]; exact w6)]
        exact (j_bus hB hn hS hp hc hr2).rz.pre Fr.rf rg2
    by_cases w7 : wIs B p (tb B n p - p) 7 = true
    · refine ⟨f3_readCharge d Mc, ?_, ?_⟩
      · rw [x0, cI_some, if_neg w0, if_pos rfl, x1, cI_some, if_neg w1, if_pos rfl, x2, cI_some, if_neg w2, if_pos rfl, x3, cI_some, if_neg w3, if_pos rfl, x4, cI_some, if_neg w4, if_pos rfl, x5, cI_some, if_neg w5, if_pos rfl, x6, cI_some, if_neg w6, if_pos rfl, x7, cI_some, if_pos w7, if_neg z10]
      · show Stm d B n p Mc Mr _ (if _ then _ else _)
        rw [if_neg (by rw [y0]; exact w0), if_neg (by rw [y1]; exact w1), if_neg (by rw [y2]; exact w2), if_neg (by rw [y3]; exact w3), if_neg (by rw [y4]; exact w4), if_neg (by rw [y5]; exact w5), if_neg (by rw [y6]; exact w6), if_pos (by rw [y7]; exact w7)]
        exact (j_charge hB hn hS hp hc hr2).rz.pre Fr.rf rg2
    refine ⟨f3_blame 1 Mc, ?_, ?_⟩
    · rw [x0, cI_some, if_neg w0, if_pos rfl, x1, cI_some, if_neg w1, if_pos rfl, x2, cI_some, if_neg w2, if_pos rfl, x3, cI_some, if_neg w3, if_pos rfl, x4, cI_some, if_neg w4, if_pos rfl, x5, cI_some, if_neg w5, if_pos rfl, x6, cI_some, if_neg w6, if_pos rfl, x7, cI_some, if_neg w7, if_pos rfl]
    · show Stm d B n p Mc Mr _ (if _ then _ else _)
      rw [if_neg (by rw [y0]; exact w0), if_neg (by rw [y1]; exact w1), if_neg (by rw [y2]; exact w2), if_neg (by rw [y3]; exact w3), if_neg (by rw [y4]; exact w4), if_neg (by rw [y5]; exact w5), if_neg (by rw [y6]; exact w6), if_neg (by rw [y7]; exact w7)]
      refine ⟨_, sI Mr2 46 7 (nI (1 + 8 * p)), fr22 (Fr.sI rfl), bl, Or.inr ⟨1 + 8 * p, ?_, rg2.x (RE.s7 _ _).x, by omega, by omega, mI_sI_eq _ _ _ _, mI_sI_eq _ _ _ _⟩⟩
      unfold f7_fails
      rw [hp8, bM_eq]
      rfl
  · have hl : ¬ islt (B p) = true := fun z => ht ((tk1 p).mpr ⟨hp, z⟩)
    have X : ∀ q, q < 8 → f5_isWord (200 + q) Mc = some (0, Mc) := fun q hq => by rw [X q hq, if_neg (fun z => ht z.1)]
    have x0 : f5_isWord 200 Mc = some (0, Mc) := X 0 (by omega)
    have x1 : f5_isWord 201 Mc = some (0, Mc) := X 1 (by omega)
    have x2 : f5_isWord 202 Mc = some (0, Mc) := X 2 (by omega)
    have x3 : f5_isWord 203 Mc = some (0, Mc) := X 3 (by omega)
    have x4 : f5_isWord 204 Mc = some (0, Mc) := X 4 (by omega)
    have x5 : f5_isWord 205 Mc = some (0, Mc) := X 5 (by omega)
    have x6 : f5_isWord 206 Mc = some (0, Mc) := X 6 (by omega)
    have x7 : f5_isWord 207 Mc = some (0, Mc) := X 7 (by omega)
    refine ⟨f3_blame 1 Mc, ?_, ?_⟩
    · unfold f3_readStatement
      rw [if_pos hc.1.ok, x0, cI_some, if_pos rfl, x1, cI_some, if_pos rfl, x2, cI_some, if_pos rfl, x3, cI_some, if_pos rfl, x4, cI_some, if_pos rfl, x5, cI_some, if_pos rfl, x6, cI_some, if_pos rfl, x7, cI_some, if_pos rfl]
    · refine ⟨_, sI Mr1 46 7 (nI (1 + 8 * p)), fr22 (Fr.sI rfl), bl, Or.inr ⟨1 + 8 * p, ?_, (RSh h2).g.x (RE.s7 _ _).x, by omega, by omega, mI_sI_eq _ _ _ _, mI_sI_eq _ _ _ _⟩⟩
      unfold f7_readStatement f7_fails
      rw [h1, cI_some, if_pos hp, hin, cI_some, if_neg hl, if_pos rfl, bI_eq, h3.2.2, hp8, bM_eq]
      rfl
end STM5
