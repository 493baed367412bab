theorem it_f {α : Type} {a b : α} : (if false = true then a else b) = b := rfl
theorem it_t {α : Type} {a b : α} : (if true = true then a else b) = a := rfl
section ASK2
variable {M : mm_M} {q : sQ}
theorem ltI {x : Int32} (h : x < 0) {n : Nat} (hn : n < 2 ^ 31) : x < nI n := by
  rw [Int32.lt_iff_toInt_lt] at h ⊢
  rw [nI_toInt hn]
  have : (0 : Int32).toInt = 0 := rfl
  omega
theorem neI {x : Int32} (h : x < 0) {n : Nat} (hn : n < 2 ^ 31) : x ≠ nI n := fun z => by
  rw [z] at h
  exact nI_pos hn h
theorem t_count (h : TT M q) (x : Int32) : CC (f6_count x) (f7_count x) M q := by
  have hw := h.1.1
  have hT := hw.T
  have hD := h.2.1.2.2.1
  have hn0 : vN (sI M 46 0 0) q := h.2.2.mv (raised0 M)
  have hv0 := hn0.1
  have r0 : mI (sI M 46 0 0) 47 0 = nI (q.1 0) := hv0 0 (by omega)
  have e9 : (9 : Int32) + nI (q.1 0) = nI (9 + q.1 0) := nx_add 9 (q.1 0)
  by_cases hneg : x < 0
  · refine CC_ask (r := -1) (M1 := M) (M2 := sI M 46 0 0) h ?_ KF.rf ?_ (raised0 M)
    · unfold f6_count l6_count_126
      rw [if_neg (show ¬ x = 0 from neI hneg (n := 0) (by omega)), if_neg (show ¬ x = 1 from neI hneg (n := 1) (by omega)), if_neg (show ¬ x = 2 from neI hneg (n := 2) (by omega)), if_neg (show ¬ x = 3 from neI hneg (n := 3) (by omega)), if_neg (show ¬ x = 4 from neI hneg (n := 4) (by omega)), if_neg (show ¬ x = 5 from neI hneg (n := 5) (by omega)), if_neg (show ¬ x = 6 from neI hneg (n := 6) (by omega)), if_pos (show x < 10 from ltI hneg (n := 10) (by omega))]
    · unfold f7_count l7_count_68
      rw [bM_eq, aI_z (by omega) (by omega), r0, e9, y_in, if_pos (show x < 10 from ltI hneg (n := 10) (by omega)), cI_some, if_pos rfl, if_neg (show ¬ x = 6 from neI hneg (n := 6) (by omega)), y_in05, cI_some, okR_neg hneg, it_f, if_pos rfl]
  · obtain ⟨n, hn, rfl⟩ := nx_of hneg
    by_cases h10 : 10 ≤ n
    · have ne : ∀ k, k < 10 → ¬ nI n = nI k := fun k hk => by rw [nx_eq hn (by omega)]; omega
      have nlt : ¬ nI n < 10 := by rw [show (10 : Int32) = nI 10 from rfl, nx_lt hn (by omega)]; omega
      have sub10 : nI n - 10 = nI (n - 10) := nx_sub h10
      by_cases hs : n - 10 < q.1 0
      · refine CC_ask (r := nI (q.1 (6 + (n - 10)))) (M1 := M) (M2 := sI M 46 0 0) h ?_ KF.rf ?_ (raised0 M)
        · unfold f6_count
          rw [if_neg (show ¬ nI n = 0 from ne 0 (by omega)), if_neg (show ¬ nI n = 1 from ne 1 (by omega)), if_neg (show ¬ nI n = 2 from ne 2 (by omega)), if_neg (show ¬ nI n = 3 from ne 3 (by omega)), if_neg (show ¬ nI n = 4 from ne 4 (by omega)), if_neg (show ¬ nI n = 5 from ne 5 (by omega)), if_neg (show ¬ nI n = 6 from ne 6 (by omega)), if_neg nlt, bN_eq, if_pos hD.ok, sub10, x_hasSlot hD, cI_some, okR_nI (by omega) (by omega), decide_eq_true hs, it_t, if_neg (by decide), bN_eq, if_pos hD.ok, aI_in (by omega) (by omega), hD.price _ (by omega)]
        · unfold f7_count
          rw [bM_eq, aI_z (by omega) (by omega), r0, e9, y_in, if_neg nlt, if_neg (by rw [nx_lt (by omega) hn]; omega), cI_some, if_neg (by decide), nx_l6, nx_add, show nI (6 + n) - 10 = nI (6 + n - 10) from nx_sub (a := 6 + n) (b := 10) (by omega), aI_in (by omega) (by omega), hv0 _ (by omega), show 6 + n - 10 = 6 + (n - 10) by omega]
      · refine CC_ask (r := -1) (M1 := M) (M2 := sI M 46 0 0) h ?_ KF.rf ?_ (raised0 M)
        · unfold f6_count l6_count_126
          rw [if_neg (show ¬ nI n = 0 from ne 0 (by omega)), if_neg (show ¬ nI n = 1 from ne 1 (by omega)), if_neg (show ¬ nI n = 2 from ne 2 (by omega)), if_neg (show ¬ nI n = 3 from ne 3 (by omega)), if_neg (show ¬ nI n = 4 from ne 4 (by omega)), if_neg (show ¬ nI n = 5 from ne 5 (by omega)), if_neg (show ¬ nI n = 6 from ne 6 (by omega)), if_neg nlt, bN_eq, if_pos hD.ok, sub10, x_hasSlot hD, cI_some, okR_nI (by omega) (by omega), decide_eq_false hs, it_f, if_pos rfl]
        · unfold f7_count l7_count_68
          rw [bM_eq, aI_z (by omega) (by omega), r0, e9, y_in, if_neg nlt, if_pos (by rw [nx_lt (by omega) hn]; omega), cI_some, if_pos rfl, if_neg (show ¬ nI n = 6 from ne 6 (by omega)), y_in05, cI_some, okR_nI hn (by omega), decide_eq_false (by omega), it_f, if_pos rfl]
    · have hlt : nI n < 10 := by rw [show (10 : Int32) = nI 10 from rfl, nx_lt hn (by omega)]; omega
      have refl6 : ∀ v : Nat, n < 6 → v = q.1 n → f7_count (nI n) M = some (nI v, sI M 46 0 0) := by
        intro v h6 hv
        unfold f7_count l7_count_68
        rw [bM_eq, aI_z (by omega) (by omega), r0, e9, y_in, if_pos hlt, cI_some, if_pos rfl, if_neg (show ¬ nI n = 6 by rw [show (6 : Int32) = nI 6 from rfl, nx_eq hn (by omega)]; omega), y_in05, cI_some, okR_nI hn (by omega), decide_eq_true h6, it_t, if_neg (by decide), aI_in (by omega) (by omega), hv0 _ (by omega), hv]
      have : n = 0 ∨ n = 1 ∨ n = 2 ∨ n = 3 ∨ n = 4 ∨ n = 5 ∨ n = 6 ∨ 7 ≤ n := by omega
      rcases this with rfl | rfl | rfl | rfl | rfl | rfl | rfl | h7
      · refine CC_ask (r := nI (q.1 0)) (M1 := M) (M2 := sI M 46 0 0) h ?_ KF.rf (refl6 _ (by omega) rfl) (raised0 M)
        unfold f6_count
        rw [if_pos (show nI 0 = 0 from rfl), bN_eq, if_pos hD.ok, bI_eq, hD.T]
      · refine CC_ask (r := nI (q.1 1)) (M1 := M) (M2 := sI M 46 0 0) h ?_ KF.rf (refl6 _ (by omega) rfl) (raised0 M)
        unfold f6_count
        rw [if_neg (by decide), if_pos (show nI 1 = 1 from rfl), bN_eq, if_pos hD.ok, bI_eq, hD.B]
      · refine CC_ask (r := nI (q.1 2)) (M1 := M) (M2 := sI M 46 0 0) h ?_ KF.rf (refl6 _ (by omega) rfl) (raised0 M)
        unfold f6_count
        rw [if_neg (by decide), if_neg (by decide), if_pos (show nI 2 = 2 from rfl), bN_eq, if_pos hD.ok, bI_eq, hD.C]
      · refine CC_ask (r := nI (q.1 3)) (M1 := M) (M2 := sI M 46 0 0) h ?_ KF.rf (refl6 _ (by omega) rfl) (raised0 M)
        unfold f6_count
        rw [if_neg (by decide), if_neg (by decide), if_neg (by decide), if_pos (show nI 3 = 3 from rfl), bN_eq, if_pos hD.ok, aI_z (by omega) (by omega), hD.plug]
      · refine CC_ask (r := nI (q.1 4)) (M1 := M) (M2 := sI M 46 0 0) h ?_ KF.rf (refl6 _ (by omega) rfl) (raised0 M)
        unfold f6_count
        rw [if_neg (by decide), if_neg (by decide), if_neg (by decide), if_neg (by decide), if_pos (show nI 4 = 4 from rfl), bN_eq, if_pos hD.ok, nx_l1, aI_in (by omega) (by omega), hD.pow]
      · refine CC_ask (r := nI (q.1 5)) (M1 := M) (M2 := sI M 46 0 0) h ?_ KF.rf (refl6 _ (by omega) rfl) (raised0 M)
        unfold f6_count
        rw [if_neg (by decide), if_neg (by decide), if_neg (by decide), if_neg (by decide), if_neg (by decide), if_pos (show nI 5 = 5 from rfl), bN_eq, if_pos hD.ok, nx_l2, aI_in (by omega) (by omega), hD.lim]
      · refine CC_ask (r := nI q.2.2.1) (M1 := M) (M2 := sI M 46 0 0) h ?_ KF.rf ?_ (raised0 M)
        · unfold f6_count
          rw [if_neg (by decide), if_neg (by decide), if_neg (by decide), if_neg (by decide), if_neg (by decide), if_neg (by decide), if_pos (show nI 6 = 6 from rfl), bI_eq, h.2.1.2.2.2.1]
        · unfold f7_count l7_count_68
          rw [bM_eq, aI_z (by omega) (by omega), r0, e9, y_in, if_pos hlt, cI_some, if_pos rfl, if_pos (show nI 6 = 6 from rfl), bI_eq, hn0.2.1]
      · have ne : ∀ k, k < 7 → ¬ nI n = nI k := fun k hk => by rw [nx_eq hn (by omega)]; omega
        refine CC_ask (r := -1) (M1 := M) (M2 := sI M 46 0 0) h ?_ KF.rf ?_ (raised0 M)
        · unfold f6_count l6_count_126
          rw [if_neg (show ¬ nI n = 0 from ne 0 (by omega)), if_neg (show ¬ nI n = 1 from ne 1 (by omega)), if_neg (show ¬ nI n = 2 from ne 2 (by omega)), if_neg (show ¬ nI n = 3 from ne 3 (by omega)), if_neg (show ¬ nI n = 4 from ne 4 (by omega)), if_neg (show ¬ nI n = 5 from ne 5 (by omega)), if_neg (show ¬ nI n = 6 from ne 6 (by omega)), if_pos hlt]
        · unfold f7_count l7_count_68
          rw [bM_eq, aI_z (by omega) (by omega), r0, e9, y_in, if_pos hlt, cI_some, if_pos rfl, if_neg (show ¬ nI n = 6 from ne 6 (by omega)), y_in05, cI_some, okR_nI hn (by omega), decide_eq_false (by omega), it_f, if_pos rfl]
theorem t_slots (h : TT M q) (x y z : Int32) : CC (f6_slots x y z) (f7_slots x y z) M q := by
  have hw := h.1.1
  have hT := hw.T
  have hB := hw.B
  have hpo := hw.pow
  have hD := h.2.1.2.2.1
  have hn : vN (sI M 46 0 0) q := h.2.2.mv (raised0 M)
  obtain ⟨M2, g1, g2, g3⟩ := y_asTold hw hn.1 hn.2.2.2.2
  have hpw : mI M2 46 12 = nI (q.1 4) := g3.2.2.1
  by_cases h1 : okR x (q.1 1) = true
  · obtain ⟨b, hb, rfl⟩ := okR_t h1 (by omega)
    have hb2 := hw.bus b hb
    have hcap : scap q.1 b ≤ 200 := hb2.2.1.2
    by_cases h2 : okR y (scap q.1 b + 1) = true
    · obtain ⟨v, hv, rfl⟩ := okR_t h2 (by omega)
      by_cases h3 : z ≤ nI (scap q.1 b)
      · -- the number
        have key : ∃ r, f0_fewestCharges (mNow M) (nI b) (nI v) z M = some (r, M) ∧ f7_slotsOf (nI b) (nI v) z M2 = some (r, M2) := by
          by_cases hz : z < 0
          · refine ⟨0, ?_, ?_⟩
            · unfold f0_fewestCharges
              obtain ⟨n, hn⟩ : ∃ n, FU = n + 1 := ⟨FU - 1, by have := FU_big; omega⟩
              rw [if_pos hD.ok, hn]
              unfold l0_fewestCharges_6 b0_fewestCharges_6 l0_fewestCharges_44
              rw [if_pos (Int32.le_of_lt (ltI hz (by omega)))]
            · unfold f7_slotsOf
              obtain ⟨n, hn⟩ : ∃ n, FU = n + 1 := ⟨FU - 1, by have := FU_big; omega⟩
              rw [hn]
              unfold l7_slotsOf_6 b7_slotsOf_6
              rw [if_pos (Int32.le_of_lt (ltI hz (by omega)))]
          · obtain ⟨t, ht, rfl⟩ := nx_of hz
            rw [nx_le ht (by omega)] at h3
            exact ⟨_, x_fewest hw hD hb h3 (by omega), y_slotsOf hw g3.1 hpo.1 (by omega) hpw hb h3 (by omega)⟩
        obtain ⟨r, k1, k2⟩ := key
        refine CC_ask (r := r) (M1 := M) (M2 := M2) h ?_ KF.rf ?_ ((raised0 M).tr g2)
        · unfold f6_slots
          rw [bN_eq, if_pos hD.ok, x_hasLevel hD hw, cI_some, nx_cl (by omega), if_pos (show okR (nI b) (q.1 1) = true ∧ okR (nI v) (scap q.1 b + 1) = true from ⟨h1, h2⟩), if_neg (by decide), bN_eq, if_pos hD.ok, nx_l1, x_fact hD (by omega) (by omega), cI_some, show q.1 (50 + 6 * b + 1) = scap q.1 b from rfl, if_pos h3, bN_eq, if_pos hD.ok, k1, cI_some]
        · unfold f7_slots
          rw [bM_eq, g1, cV_some, y_isBus g3.1 hw, cI_some, if_pos h1, if_neg (by decide), nx_l1, y_of g3.1 (by omega) (by omega), cI_some, show q.1 (50 + 6 * b + 1) = scap q.1 b from rfl, y_in0S _ (by omega), cI_some, if_pos h2, if_neg (by decide), y_of g3.1 (by omega) (by omega), cI_some, show q.1 (50 + 6 * b + 1) = scap q.1 b from rfl, if_pos h3, k2, cI_some]
      · refine CC_ask (r := -1) (M1 := M) (M2 := M2) h ?_ KF.rf ?_ ((raised0 M).tr g2)
        · unfold f6_slots l6_slots_25
          rw [bN_eq, if_pos hD.ok, x_hasLevel hD hw, cI_some, nx_cl (by omega), if_pos (show okR (nI b) (q.1 1) = true ∧ okR (nI v) (scap q.1 b + 1) = true from ⟨h1, h2⟩), if_neg (by decide), bN_eq, if_pos hD.ok, show f0_fact (mNow M) (nI b) 1 M = some (nI (q.1 (50 + 6 * b + 1)), M) from x_fact hD (w := 1) (by omega) (by omega), cI_some, show q.1 (50 + 6 * b + 1) = scap q.1 b from rfl, if_neg h3]
        · unfold f7_slots l7_slots_41
          rw [bM_eq, g1, cV_some, y_isBus g3.1 hw, cI_some, if_pos h1, if_neg (by decide), show f7_of (nI b) 1 M2 = some (nI (q.1 (50 + 6 * b + 1)), M2) from y_of g3.1 (w := 1) (by omega) (by omega), cI_some, show q.1 (50 + 6 * b + 1) = scap q.1 b from rfl, y_in0S _ (by omega), cI_some, if_pos h2, if_neg (by decide), show f7_of (nI b) 1 M2 = some (nI (q.1 (50 + 6 * b + 1)), M2) from y_of g3.1 (w := 1) (by omega) (by omega), cI_some, show q.1 (50 + 6 * b + 1) = scap q.1 b from rfl, if_neg h3]
    · refine CC_ask (r := -1) (M1 := M) (M2 := M2) h ?_ KF.rf ?_ ((raised0 M).tr g2)
      · unfold f6_slots l6_slots_25
        rw [bN_eq, if_pos hD.ok, x_hasLevel hD hw, cI_some, nx_cl (by omega), if_neg (show ¬ (okR (nI b) (q.1 1) = true ∧ okR y (scap q.1 b + 1) = true) from fun z => h2 z.2), if_pos rfl]
      · unfold f7_slots l7_slots_41
        rw [bM_eq, g1, cV_some, y_isBus g3.1 hw, cI_some, if_pos h1, if_neg (by decide), show f7_of (nI b) 1 M2 = some (nI (q.1 (50 + 6 * b + 1)), M2) from y_of g3.1 (w := 1) (by omega) (by omega), cI_some, show q.1 (50 + 6 * b + 1) = scap q.1 b from rfl, y_in0S _ (by omega), cI_some, if_neg h2, if_pos rfl]
  · refine CC_ask (r := -1) (M1 := M) (M2 := M2) h ?_ KF.rf ?_ ((raised0 M).tr g2)
    · unfold f6_slots l6_slots_25
      rw [bN_eq, if_pos hD.ok, x_hasLevel hD hw, cI_some, if_neg (show ¬ (okR x (q.1 1) = true ∧ okR y (scap q.1 x.toNatClampNeg + 1) = true) from fun z => h1 z.1), if_pos rfl]
    · unfold f7_slots l7_slots_41
      rw [bM_eq, g1, cV_some, y_isBus g3.1 hw, cI_some, if_neg h1, if_pos rfl]
theorem t_curve (h : TT M q) (x y z : Int32) : CC (f6_curve x y z) (f7_curve x y z) M q := by
  have hw := h.1.1
  have hC := hw.C
  have hD := h.2.1.2.2.1
  have hv0 : vM (sI M 46 0 0) q.1 := (h.2.2.mv (raised0 M)).1
  have r2 : mI (sI M 46 0 0) 47 2 = nI (q.1 2) := hv0 2 (by omega)
  have hin : f7_in x 0 (nI (q.1 2) - 1) (sI M 46 0 0) = some (if okR x (q.1 2) = true then 1 else 0, sI M 46 0 0) := y_in0 x (by omega) _
  have a2 : ∀ {e : Int32 → Option (Int32 × mm_M)}, aI 47 82 2 (sI M 46 0 0) e = e (nI (q.1 2)) := fun {e} => by
    have : aI 47 82 2 (sI M 46 0 0) e = e (mI (sI M 46 0 0) 47 2) := aI_in (i := 2) (by omega) (by omega)
    rw [this, r2]
  by_cases h1 : okR x (q.1 2) = true
  · obtain ⟨c, hc, rfl⟩ := okR_t h1 (by omega)
    have hcr := hw.crv c hc
    have ix : (14 : Int32) + 9 * nI c = nI (14 + 9 * c) := by rw [show (14 : Int32) = nI 14 from rfl, show (9 : Int32) = nI 9 from rfl, nx_mul, nx_add]
    have rp : mI (sI M 46 0 0) 47 (14 + 9 * c) = nI (q.1 (14 + 9 * c)) := hv0 _ (by omega)
    by_cases hy : y = -1
    · by_cases hz : z = 0
      · refine CC_ask (r := nI (q.1 (14 + 9 * c))) (M1 := M) (M2 := sI M 46 0 0) h ?_ KF.rf ?_ (raised0 M)
        · unfold f6_curve l6_curve_35
          rw [bN_eq, if_pos hD.ok, x_hasCurve hD, cI_some, if_pos h1, if_neg (by decide), if_pos hy, if_pos hz, bN_eq, if_pos hD.ok, aI_in (by omega) (by omega), hD.pc c (by omega)]
        · unfold f7_curve l7_curve_52
          rw [bM_eq, a2, hin, cI_some, if_pos h1, if_neg (by decide), bI_eq, if_pos hy, if_pos hz, ix, aI_in (by omega) (by omega), rp]
      · refine CC_ask (r := -1) (M1 := M) (M2 := sI M 46 0 0) h ?_ KF.rf ?_ (raised0 M)
        · unfold f6_curve l6_curve_35
          rw [bN_eq, if_pos hD.ok, x_hasCurve hD, cI_some, if_pos h1, if_neg (by decide), if_pos hy, if_neg hz]
        · unfold f7_curve l7_curve_52
          rw [bM_eq, a2, hin, cI_some, if_pos h1, if_neg (by decide), bI_eq, if_pos hy, if_neg hz]
    · have hinp : f7_in y 0 (nI (q.1 (14 + 9 * c)) - 1) (sI M 46 0 0) = some (if okR y (q.1 (14 + 9 * c)) = true then 1 else 0, sI M 46 0 0) := y_in0 y (by omega) _
      by_cases h2 : okR y (q.1 (14 + 9 * c)) = true
      · obtain ⟨k, hk, rfl⟩ := okR_t h2 (by omega)
        have hlt : nI k < nI (q.1 (14 + 9 * c)) := by rw [nx_lt (by omega) (by omega)]; exact hk
        have pl : nI c * 4 + nI k = nI (c * 4 + k) := by rw [show (4 : Int32) = nI 4 from rfl, nx_mul, nx_add]
        by_cases hz : okR z 2 = true
        · obtain ⟨w, hw2, rfl⟩ := okR_t hz (by omega)
          have : w = 0 ∨ w = 1 := by omega
          have pr : ∀ w, nI (14 + 9 * c) + 2 * nI k + 1 + nI w = nI (14 + 9 * c + 2 * k + 1 + w) := fun w => by rw [show (2 : Int32) = nI 2 from rfl, show (1 : Int32) = nI 1 from rfl, nx_mul, nx_add, nx_add, nx_add]
          rcases this with rfl | rfl
          · refine CC_ask (r := nI (q.1 (14 + 9 * c + 1 + 2 * k))) (M1 := M) (M2 := sI M 46 0 0) h ?_ KF.rf ?_ (raised0 M)
            · unfold f6_curve
              rw [bN_eq, if_pos hD.ok, x_hasCurve hD, cI_some, if_pos h1, if_neg (by decide), if_neg hy, if_neg (nI_pos (by omega)), bN_eq, if_pos hD.ok, aI_in (by omega) (by omega), hD.pc c (by omega), if_pos hlt, if_pos (show nI 0 = 0 from rfl), bN_eq, if_pos hD.ok, pl, aI_in (by omega) (by omega), show c * 4 + k = 4 * c + k by omega, hD.fr c k (by omega) (by omega)]
            · unfold f7_curve l7_curve_98
              rw [bM_eq, a2, hin, cI_some, if_pos h1, if_neg (by decide), bI_eq, if_neg hy, ix, aI_in (by omega) (by omega), rp, hinp, cI_some, if_pos h2, if_neg (by decide), y_in01, cI_some, if_pos hz, if_neg (by decide), pr, aI_in (by omega) (by omega), hv0 _ (by omega), show 14 + 9 * c + 2 * k + 1 + 0 = 14 + 9 * c + 1 + 2 * k by omega]
          · refine CC_ask (r := nI (q.1 (14 + 9 * c + 2 + 2 * k))) (M1 := M) (M2 := sI M 46 0 0) h ?_ KF.rf ?_ (raised0 M)
            · unfold f6_curve
              rw [bN_eq, if_pos hD.ok, x_hasCurve hD, cI_some, if_pos h1, if_neg (by decide), if_neg hy, if_neg (nI_pos (by omega)), bN_eq, if_pos hD.ok, aI_in (by omega) (by omega), hD.pc c (by omega), if_pos hlt, if_neg (by decide), if_pos (show nI 1 = 1 from rfl), bN_eq, if_pos hD.ok, pl, aI_in (by omega) (by omega), show c * 4 + k = 4 * c + k by omega, hD.ra c k (by omega) (by omega)]
            · unfold f7_curve l7_curve_98
              rw [bM_eq, a2, hin, cI_some, if_pos h1, if_neg (by decide), bI_eq, if_neg hy, ix, aI_in (by omega) (by omega), rp, hinp, cI_some, if_pos h2, if_neg (by decide), y_in01, cI_some, if_pos hz, if_neg (by decide), pr, aI_in (by omega) (by omega), hv0 _ (by omega), show 14 + 9 * c + 2 * k + 1 + 1 = 14 + 9 * c + 2 + 2 * k by omega]
        · have ne : ∀ j, j < 2 → ¬ z = nI j := fun j hj zz => hz (by rw [zz, okR_nI (by omega) (by omega)]; exact decide_eq_true hj)
          refine CC_ask (r := -1) (M1 := M) (M2 := sI M 46 0 0) h ?_ KF.rf ?_ (raised0 M)
          · unfold f6_curve
            rw [bN_eq, if_pos hD.ok, x_hasCurve hD, cI_some, if_pos h1, if_neg (by decide), if_neg hy, if_neg (nI_pos (by omega)), bN_eq, if_pos hD.ok, aI_in (by omega) (by omega), hD.pc c (by omega), if_pos hlt, if_neg (show ¬ z = 0 from ne 0 (by omega)), if_neg (show ¬ z = 1 from ne 1 (by omega))]
          · unfold f7_curve l7_curve_97 l7_curve_98
            rw [bM_eq, a2, hin, cI_some, if_pos h1, if_neg (by decide), bI_eq, if_neg hy, ix, aI_in (by omega) (by omega), rp, hinp, cI_some, if_pos h2, if_neg (by decide), y_in01, cI_some, if_neg hz, if_pos rfl]
      · refine CC_ask (r := -1) (M1 := M) (M2 := sI M 46 0 0) h ?_ KF.rf ?_ (raised0 M)
        · unfold f6_curve l6_curve_53
          rw [bN_eq, if_pos hD.ok, x_hasCurve hD, cI_some, if_pos h1, if_neg (by decide), if_neg hy]
          by_cases hyn : y < 0
          · rw [if_pos hyn]
          · obtain ⟨k, hk, rfl⟩ := nx_of hyn
            rw [if_neg hyn, bN_eq, if_pos hD.ok, aI_in (by omega) (by omega), hD.pc c (by omega), if_neg]
            rw [nx_lt hk (by omega)]
            intro zz
            exact h2 (by rw [okR_nI hk (by omega)]; exact decide_eq_true zz)
        · unfold f7_curve l7_curve_97 l7_curve_98
          rw [bM_eq, a2, hin, cI_some, if_pos h1, if_neg (by decide), bI_eq, if_neg hy, ix, aI_in (by omega) (by omega), rp, hinp, cI_some, if_neg h2, if_pos rfl]
  · refine CC_ask (r := -1) (M1 := M) (M2 := sI M 46 0 0) h ?_ KF.rf ?_ (raised0 M)
    · unfold f6_curve
      rw [bN_eq, if_pos hD.ok, x_hasCurve hD, cI_some, if_neg h1, if_pos rfl]
    · unfold f7_curve
      rw [bM_eq, a2, hin, cI_some, if_neg h1, if_pos rfl]
end ASK2
