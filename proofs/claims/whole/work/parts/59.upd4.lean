section UPD4
variable {M : mm_M} {q : sQ}
theorem sWF_one {S : sS} (hw : sWF S) {k v : Nat} (hk : 3 ≤ k) (hk2 : k < 14) (h3 : k = 3 → 1 ≤ v ∧ v ≤ 4) (h4 : k = 4 → 1 ≤ v ∧ v ≤ 50) (h5 : k = 5 → 1 ≤ v ∧ v ≤ 200) (h6 : 6 ≤ k → v ≤ 99) : sWF (updS S k v) := by
  have ne : ∀ j, j ≠ k → updS S k v j = S j := fun j hj => updS_ne _ _ hj
  have at3 : ∀ j lo hi, (lo ≤ S j ∧ S j ≤ hi) → (k = j → lo ≤ v ∧ v ≤ hi) → lo ≤ updS S k v j ∧ updS S k v j ≤ hi := fun j lo hi g1 g2 => by
    by_cases hj : j = k
    · subst hj; rw [updS_eq]; exact g2 rfl
    · rw [ne j hj]; exact g1
  refine sWF_mk hw (ne 0 (by omega)) (ne 2 (by omega)) (fun j h1 h2 => ne j (by omega)) (by rw [ne 1 (by omega)]; exact hw.B) (at3 3 1 4 hw.plug h3) (at3 4 1 50 hw.pow h4) (at3 5 1 200 hw.lim h5) (fun s hs => (at3 (6 + s) 0 99 ⟨Nat.zero_le _, hw.price s hs⟩ (fun z => ⟨Nat.zero_le _, h6 (by omega)⟩)).2) (fun b hb => ?_) (fun b hb => by rw [ne _ (by omega)]; exact hw.com b hb) (fun s hs => by rw [ne _ (by omega), ne 1 (by omega)]; exact hw.set s hs) (fun s h1 h2 => by rw [ne 0 (by omega)] at h1; rw [ne _ (by omega)]; exact hw.out s h1 h2)
  rw [ne 1 (by omega)] at hb
  rw [ne (50 + 6 * b) (by omega), ne (50 + 6 * b + 1) (by omega), ne (50 + 6 * b + 2) (by omega), ne (50 + 6 * b + 3) (by omega), ne (50 + 6 * b + 4) (by omega), ne (50 + 6 * b + 5) (by omega), ne 2 (by omega), ne 0 (by omega)]
  exact hw.bus b hb
theorem l28_0 (M : mm_M) : l6_set_28 0 M = some (0, M) := rfl
theorem l28_1 (M : mm_M) : l6_set_28 1 M = some (1, sI M 1 8 0) := rfl
/-- one entry told anew -/
theorem CC_set (h : TT M q) {i k : Nat} {v : Nat} {x y : Int32} (hi : i < 8) (hk : k < dsz i) (hwf : sWF (updS q.1 (dix i k) v)) (ha : f6_set x y M = some (1, sI (sI M (mNow M + i) k (nI v)) 1 8 0)) (hb : ∀ M1, vN (sI M1 46 0 0) q → f7_set x y M1 = some (1, sI (sI M1 46 0 0) 47 (dix i k) (nI v))) : CC (f6_set x y) (f7_set x y) M q := by
  have hD := h.2.1.2.2.1
  have hd := isD_le hD.ok
  have hlt : dix i k < 82 := by
    have h1 := dsz_le ⟨i, hi⟩
    simp only at h1
    exact dix_lt ⟨i, hi⟩ ⟨k, by omega⟩ hk
  have f1 : Fr (fun c => c = mNow M + i) M (sI M (mNow M + i) k (nI v)) := Fr.sI rfl
  have f3 : Fr (fun c => c = 1) (sI M (mNow M + i) k (nI v)) (sI (sI M (mNow M + i) k (nI v)) 1 8 0) := Fr.sI rfl
  have hD3 : vD (sI (sI M (mNow M + i) k (nI v)) 1 8 0) (mNow M) (updS q.1 (dix i k) v) := (vE_upd hD.E hi hk v).D.mvc (fun c c1 c2 => f3.1 c (fun z => by omega))
  have cc : ∀ c, c ≠ 1 → ¬ (2 ≤ c ∧ c ≤ 19) → (sI (sI M (mNow M + i) k (nI v)) 1 8 0).1 c = M.1 c := fun c c1 c2 => by
    rw [f3.1 c (fun z => c1 z), f1.1 c (fun z => by omega)]
  have hk2 := vK_new h.2.1 hD3 cc rfl (mI_sI_eq _ _ _ _)
  generalize hM1 : sI (sI M (mNow M + i) k (nI v)) 1 8 0 = M1 at ha hk2 cc
  have hn : vN (sI M1 46 0 0) q := (h.2.2.mvK (fun c hc => cc c (by omega) (by omega))).mv (raised0 _)
  have f2 : Fr (fun c => c = 47) (sI M1 46 0 0) (sI (sI M1 46 0 0) 47 (dix i k) (nI v)) := Fr.sI rfl
  exact CC_mk (r := 1) ha hk2 (by rw [← hM1]; rfl) (hb M1 hn) (vN_told hn (vM_upd hn.1 v) f2 (by decide) (by decide) (by decide)) (fun c hc => by rw [f2.1 c (fun z => by omega)]; exact (raised0 M1).low c hc) rfl ⟨hwf, fun j hj => by
    show updS q.1 (dix i k) v j = 0
    rw [updS_ne _ _ (by omega)]
    exact h.1.2.1 j hj, h.1.2.2⟩
theorem y_in12 (x : Int32) (M : mm_M) (m : Nat) : f7_in x 1 (nI m) M = some (if okS x 1 m = true then 1 else 0, M) := y_inS x 1 m M
theorem t_setv (h : TT M q) (x y : Int32) : CC (f6_set x y) (f7_set x y) M q := by
  have hw := h.1.1
  have hT := hw.T
  have hD := h.2.1.2.2.1
  by_cases hx : okR x 3 = true
  · obtain ⟨w, hw3, rfl⟩ := okR_t hx (by omega)
    have hm := most_le hw3
    have nle : ¬ (3 : Int32) ≤ nI w := by rw [nx_l3, nx_le (by omega) (by omega)]; omega
    rcases x_settingCanBe (nI w) y M with ⟨w', v, hw3', hv1, hv2, e1, rfl, hs⟩ | ⟨hs, hno⟩
    · have : w = w' := by rw [nx_eq (by omega) (by omega)] at e1; exact e1
      subst this
      have hin : ∀ M1, f7_in (nI v) 1 (nI (([4, 50, 200] : List Nat).getD w 0)) M1 = some (1, M1) := fun M1 => by
        rw [y_in12, okS_nI (by omega) (by omega) (by omega), decide_eq_true hv1, decide_eq_true hv2]; rfl
      have cls : f6_set (nI w) (nI v) M = if nI (q.1 (3 + w)) = nI v then some (0, M) else some (1, sI (sI M (mNow M + 1) w (nI v)) 1 8 0) := by
        unfold f6_set f0_changeSetting l0_changeSetting_18
        rw [if_neg nle, bN_eq, if_pos hD.ok, if_pos hD.ok, hs, cI_some, if_neg (by decide), aI_in (by omega) (by omega), hD.set w hw3]
        by_cases he : nI (q.1 (3 + w)) = nI v
        · rw [if_pos he, if_pos he, rZ0, cI_some, l28_0]
        · rw [if_neg he, if_neg he, uI_in (by omega) (by omega), rZ1, cI_some, l28_1]
      have rf : ∀ M1, vN (sI M1 46 0 0) q → f7_set (nI w) (nI v) M1 = if nI (q.1 (3 + w)) = nI v then some (0, sI M1 46 0 0) else some (1, sI (sI M1 46 0 0) 47 (3 + w) (nI v)) := fun M1 hn => by
        unfold f7_set l7_set_57 l7_set_75 l7_set_92
        rw [bM_eq, y_in02, cI_some, if_pos hx, if_neg (by decide), y_mostOf hw3, cI_some, hin, cI_some, if_neg nle, if_neg (by decide), show (3 : Int32) + nI w = nI (3 + w) from nx_add 3 w, aI_in (by omega) (by omega), hn.1 _ (by omega), uI_in (by omega) (by omega)]
        by_cases he : nI (q.1 (3 + w)) = nI v
        · rw [if_pos he, if_pos he]; rfl
        · rw [if_neg he, if_neg he]; rfl
      by_cases he : nI (q.1 (3 + w)) = nI v
      · refine CC_ask (r := 0) (M1 := M) (M2 := sI M 46 0 0) h ?_ KF.rf ?_ (raised0 M)
        · rw [cls, if_pos he]
        · rw [rf M (h.2.2.mv (raised0 M)), if_pos he]
      · refine CC_set h (i := 1) (k := w) (v := v) (by omega) hw3 ?_ (by rw [cls, if_neg he]) (fun M1 hn => by rw [rf M1 hn, if_neg he]; rfl)
        show sWF (updS q.1 (3 + w) v)
        refine sWF_one hw (by omega) (by omega) (fun z => ?_) (fun z => ?_) (fun z => ?_) (fun z => by omega)
        · have : w = 0 := by omega
          subst this; exact ⟨hv1, hv2⟩
        · have : w = 1 := by omega
          subst this; exact ⟨hv1, hv2⟩
        · have : w = 2 := by omega
          subst this; exact ⟨hv1, hv2⟩
    · have hnk : ¬ okS y 1 (([4, 50, 200] : List Nat).getD w 0) = true := by
        intro z
        obtain ⟨v, hv1, hv2, rfl⟩ := okS_t (by omega) (by omega) z
        exact hno ⟨w, v, hw3, hv1, hv2, rfl, rfl⟩
      refine CC_ask (r := 0) (M1 := M) (M2 := sI M 46 0 0) h ?_ KF.rf ?_ (raised0 M)
      · unfold f6_set f0_changeSetting l0_changeSetting_18
        rw [if_neg nle, bN_eq, if_pos hD.ok, if_pos hD.ok, hs, cI_some, if_pos rfl, rZ0, cI_some, l28_0]
      · unfold f7_set l7_set_57 l7_set_75 l7_set_92
        rw [bM_eq, y_in02, cI_some, if_pos hx, if_neg (by decide), y_mostOf hw3, cI_some, y_in12, cI_some, if_neg hnk, if_neg nle, if_pos rfl]
        rfl
  · by_cases hneg : x < 0
    · have nle : ¬ (3 : Int32) ≤ x := Int32.not_le.mpr (ltI hneg (n := 3) (by omega))
      refine CC_ask (r := 0) (M1 := M) (M2 := sI M 46 0 0) h ?_ KF.rf ?_ (raised0 M)
      · unfold f6_set f0_changeSetting l0_changeSetting_18 f0_settingCanBe l0_settingCanBe_27 l0_settingCanBe_28
        rw [if_neg nle, bN_eq, if_pos hD.ok, if_pos hD.ok, if_pos hneg, rZ0, cI_some, if_pos rfl, rZ0, cI_some, l28_0]
      · have hn := h.2.2.mv (raised0 M)
        unfold f7_set l7_set_56 l7_set_57 l7_set_75 l7_set_92
        rw [bM_eq, y_in02, cI_some, if_neg hx, if_pos rfl, aI_z (by omega) (by omega), y_in, if_pos (show x < 3 from ltI hneg (n := 3) (by omega)), cI_some, if_pos rfl, if_neg nle, if_pos rfl]
        rfl
    · obtain ⟨n, hn, rfl⟩ := nx_of hneg
      have hn3 : 3 ≤ n := by
        rcases Nat.lt_or_ge n 3 with z | z
        · exact absurd (by rw [okR_nI hn (by omega)]; exact decide_eq_true z) hx
        · exact z
      have le : (3 : Int32) ≤ nI n := by rw [nx_l3, nx_le (by omega) hn]; exact hn3
      have sub3 : nI n - 3 = nI (n - 3) := nx_sub hn3
      have clsA : f6_set (nI n) y M = cI (f0_changePrice (mNow M) (nI (n - 3)) y M) (fun r_2 M => l6_set_28 r_2 M) := by
        unfold f6_set
        rw [if_pos le, bN_eq, if_pos hD.ok, sub3]
      have in3 : ∀ M1, f7_in (nI n) 3 (nI (2 + q.1 0)) M1 = some (if okR (nI (n - 3)) (q.1 0) = true then 1 else 0, M1) := fun M1 => by
        rw [show f7_in (nI n) 3 (nI (2 + q.1 0)) M1 = some (if okS (nI n) 3 (2 + q.1 0) = true then 1 else 0, M1) from y_inS _ 3 _ _, okS_nI hn (by omega) (by omega), okR_nI (by omega) (by omega), decide_eq_true hn3]
        by_cases z : n ≤ 2 + q.1 0
        · rw [decide_eq_true z, decide_eq_true (show n - 3 < q.1 0 by omega)]; rfl
        · rw [decide_eq_false z, decide_eq_false (show ¬ n - 3 < q.1 0 by omega)]; rfl
      have e2 : (2 : Int32) + nI (q.1 0) = nI (2 + q.1 0) := nx_add 2 _
      have in99 : ∀ M1, f7_in y 0 99 M1 = some (if okR y 100 = true then 1 else 0, M1) := fun M1 => y_in0S y (b := 99) (by omega) M1
      by_cases hs : n - 3 < q.1 0
      · have hok : okR (nI (n - 3)) (q.1 0) = true := by rw [okR_nI (by omega) (by omega)]; exact decide_eq_true hs
        by_cases hy : okR y 100 = true
        · obtain ⟨v, hv, rfl⟩ := okR_t hy (by omega)
          have cls : f6_set (nI n) (nI v) M = if nI (q.1 (6 + (n - 3))) = nI v then some (0, M) else some (1, sI (sI M (mNow M + 2) (n - 3) (nI v)) 1 8 0) := by
            rw [clsA]
            unfold f0_changePrice l0_changePrice_28
            rw [if_pos hD.ok, x_hasSlot hD, cI_some, if_pos hok, if_neg (by decide), if_neg (nI_pos (by omega)), if_neg (by rw [nx_l99, nx_lt (by omega) (by omega)]; omega), aI_in (by omega) (by omega), hD.price _ (by omega)]
            by_cases he : nI (q.1 (6 + (n - 3))) = nI v
            · rw [if_pos he, if_pos he, rZ0, cI_some, l28_0]
            · rw [if_neg he, if_neg he, uI_in (by omega) (by omega), rZ1, cI_some, l28_1]
          have rf : ∀ M1, vN (sI M1 46 0 0) q → f7_set (nI n) (nI v) M1 = if nI (q.1 (6 + (n - 3))) = nI v then some (0, sI M1 46 0 0) else some (1, sI (sI M1 46 0 0) 47 (6 + (n - 3)) (nI v)) := fun M1 hn1 => by
            have e6 : (6 : Int32) + nI n - 3 = nI (6 + (n - 3)) := by
              rw [show (6 : Int32) + nI n = nI (6 + n) from nx_add 6 n, show nI (6 + n) - 3 = nI (6 + n - 3) from nx_sub (a := 6 + n) (b := 3) (by omega), show 6 + n - 3 = 6 + (n - 3) by omega]
            unfold f7_set l7_set_57 l7_set_75 l7_set_92
            rw [bM_eq, y_in02, cI_some, if_neg hx, if_pos rfl, aI_z (by omega) (by omega), hn1.1 0 (by omega), e2, in3, cI_some, if_pos hok, if_neg (by decide), in99, cI_some, if_pos hy, if_neg (by decide), if_pos le, if_neg (by decide), e6, aI_in (by omega) (by omega), hn1.1 _ (by omega), uI_in (by omega) (by omega)]
            by_cases he : nI (q.1 (6 + (n - 3))) = nI v
            · rw [if_pos he, if_pos he]; rfl
            · rw [if_neg he, if_neg he]; rfl
          by_cases he : nI (q.1 (6 + (n - 3))) = nI v
          · refine CC_ask (r := 0) (M1 := M) (M2 := sI M 46 0 0) h ?_ KF.rf ?_ (raised0 M)
            · rw [cls, if_pos he]
            · rw [rf M (h.2.2.mv (raised0 M)), if_pos he]
          · refine CC_set h (i := 2) (k := n - 3) (v := v) (by omega) (show n - 3 < 8 by omega) ?_ (by rw [cls, if_neg he]) (fun M1 hn1 => by rw [rf M1 hn1, if_neg he]; rfl)
            show sWF (updS q.1 (6 + (n - 3)) v)
            exact sWF_one hw (by omega) (by omega) (fun z => by omega) (fun z => by omega) (fun z => by omega) (fun z => by omega)
        · refine CC_ask (r := 0) (M1 := M) (M2 := sI M 46 0 0) h ?_ KF.rf ?_ (raised0 M)
          · rw [clsA]
            unfold f0_changePrice l0_changePrice_28
            rw [if_pos hD.ok, x_hasSlot hD, cI_some, if_pos hok, if_neg (by decide)]
            by_cases hyn : y < 0
            · rw [if_pos hyn, rZ0, cI_some, l28_0]
            · obtain ⟨v, hv, rfl⟩ := nx_of hyn
              rw [if_neg hyn, if_pos, rZ0, cI_some, l28_0]
              rw [nx_l99, nx_lt (by omega) hv]
              rcases Nat.lt_or_ge v 100 with z | z
              · exact absurd (by rw [okR_nI hv (by omega)]; exact decide_eq_true z) hy
              · omega
          · have hn1 := h.2.2.mv (raised0 M)
            unfold f7_set l7_set_56 l7_set_57 l7_set_75 l7_set_92
            rw [bM_eq, y_in02, cI_some, if_neg hx, if_pos rfl, aI_z (by omega) (by omega), hn1.1 0 (by omega), e2, in3, cI_some, if_pos hok, if_neg (by decide), in99, cI_some, if_neg hy, if_pos rfl, if_pos le, if_pos rfl]
            rfl
      · have hok : ¬ okR (nI (n - 3)) (q.1 0) = true := by rw [okR_nI (by omega) (by omega)]; exact fun z => hs (of_decide_eq_true z)
        refine CC_ask (r := 0) (M1 := M) (M2 := sI M 46 0 0) h ?_ KF.rf ?_ (raised0 M)
        · rw [clsA]
          unfold f0_changePrice l0_changePrice_28
          rw [if_pos hD.ok, x_hasSlot hD, cI_some, if_neg hok, if_pos rfl, rZ0, cI_some, l28_0]
        · have hn1 := h.2.2.mv (raised0 M)
          unfold f7_set l7_set_56 l7_set_57 l7_set_75 l7_set_92
          rw [bM_eq, y_in02, cI_some, if_neg hx, if_pos rfl, aI_z (by omega) (by omega), hn1.1 0 (by omega), e2, in3, cI_some, if_neg hok, if_pos rfl, if_pos le, if_pos rfl]
          rfl
-- bus
def okI (x lo hi : Int32) : Bool := !(decide (x < lo)) && !(decide (hi < x))
theorem y_inG (x lo hi : Int32) (M : mm_M) : f7_in x lo hi M = some (if okI x lo hi = true then 1 else 0, M) := by
  rw [y_in]
  unfold okI
  by_cases h1 : x < lo
  · simp [h1]
  · by_cases h2 : hi < x
    · simp [h1, h2]
    · simp [h1, h2]
theorem x_offerG {d k : Nat} {x lo hi : Int32} {M : mm_M} (hd : isD d = true) (hk : k < 6) (h1 : f0_leastOffer d (nI k) M = some (lo, M)) (h2 : f0_mostOffer d (nI k) M = some (hi, M)) : f0_offer d (nI k) x M = if okI x lo hi = true then some (1, sI M (d + 8) k x) else some (0, M) := by
  unfold f0_offer l0_offer_18 okI
  rw [if_pos hd, h1, cI_some, h2, cI_some, uI_in hk (by omega)]
  by_cases h3 : x < lo
  · rw [if_pos h3, if_neg (by simp [h3])]; rfl
  · rw [if_neg h3]
    by_cases h4 : hi < x
    · rw [if_neg (Int32.not_le.mpr h4), if_neg (by simp [h4])]; rfl
    · rw [if_pos (Int32.not_lt.mp h4), if_pos (by simp [h3, h4])]; rfl
theorem okI_t {x : Int32} {a b : Nat} (ha : a < 2 ^ 31) (hb : b < 2 ^ 31) (h : okI x (nI a) (nI b) = true) : ∃ n, a ≤ n ∧ n ≤ b ∧ x = nI n := okS_t ha hb h
theorem okI_p {x : Int32} {n : Nat} (hn : n < 2 ^ 31) (h : okI x 0 (nI n - 1) = true) : ∃ b, b < n ∧ x = nI b := by
  unfold okI at h
  simp only [nx_predlt hn, Bool.and_eq_true, Bool.not_eq_true', decide_eq_false_iff_not] at h
  exact nx_rng hn h.1 h.2
theorem vK_off {M1 : mm_M} (h : vK M q) (hf : Fr (fun c => c = mNow M + 8) M M1) : vK M1 q := by
  have hd := isD_le h.2.2.1.ok
  obtain ⟨q1, q2, q3, q4, q5, q6, q7, q8, q9⟩ := h
  have hcase : mNow M = 2 ∨ mNow M = 11 := isD_or q3.ok
  have ci : ∀ c k, c ≠ mNow M + 8 → mI M1 c k = mI M c k := fun c k hc => hf.mI (fun z => hc z) k
  have en : mNow M1 = mNow M := hf.mNow
  have ed : mDra M1 = mDra M := by unfold mDra; rw [hf.2.2]
  refine ⟨by rw [ed]; exact q1, by rw [en, ed]; exact q2, ?_, by rw [ci 20 _ (by omega)]; exact q4, fun j hj => by rw [ci 21 _ (by omega)]; exact q5 j hj, by rw [ci 22 _ (by omega)]; exact q6, by rw [ci 33 _ (by omega)]; exact q7, by rw [ci 40 _ (by omega)]; exact q8, ?_⟩
  · rw [en]
    exact (show vE M1 (mNow M) q.1 from ⟨q3.ok, fun i k hi hk => by rw [ci _ _ (by omega)]; exact q3.E.2 i k hi hk⟩).D
  · rw [ci 1 _ (by omega)]
    exact q9.imp (fun z => z) (fun z => ⟨z.1, fun s hs => by rw [ci 45 _ (by omega)]; exact z.2 s hs⟩)
theorem CC_off (h : TT M q) {M1 : mm_M} {a b : mm_M → Option (Int32 × mm_M)} {r : Int32} (hf : Fr (fun c => c = mNow M + 8) M M1) (ha : a M = some (r, M1)) (hb : vN (sI M1 46 0 0) q → b M1 = some (r, sI M1 46 0 0)) : CC a b M q := by
  have hd := isD_le h.2.1.2.2.1.ok
  have hn : vN (sI M1 46 0 0) q := (h.2.2.mvK (fun c hc => hf.1 c (fun z => by omega))).mv (raised0 _)
  exact CC_mk ha (vK_off h.2.1 hf) (by unfold mG; rw [hf.2.2]) (hb hn) hn (raised0 M1).low (raised0 M1).2.2.2 h.1

def sbus (a b c d e f : Nat) : Nat → Nat := fun w => ([a, b, c, d, e, f] : List Nat).getD w 0
theorem x_add {a b c d e f B : Nat} {dd : Nat} {S : sS} {M : mm_M} (hv : vD M dd S) (hB : S 1 = B) (hB4 : B < 4) (ho : ∀ w, w < 6 → mI M (dd + 8) w = nI (sbus a b c d e f w)) : ∃ M', f0_addOffered dd M = some M' ∧ Fr (fun c => c = dd ∨ c = dd + 7) M M' ∧ vD M' dd (updS (rowS S (50 + 6 * B) 6 (sbus a b c d e f)) 1 (B + 1)) := by
  have hd := isD_le hv.ok
  have f1 : Fr (fun c => c = dd ∨ c = dd + 7) M (sR M (dd + 7) (va_cpy (M.1 (dd + 8)) (M.1 (dd + 7)) 0 (B * 6) 6)) := Fr.sR (Or.inr rfl)
  have hE : vE (sR M (dd + 7) (va_cpy (M.1 (dd + 8)) (M.1 (dd + 7)) 0 (B * 6) 6)) dd (rowS S (50 + 6 * B) 6 (sbus a b c d e f)) := vE_rng hv.E (i := 7) (a := 50) (k0 := 6 * B) (n := 6) (g := sbus a b c d e f) (by omega) (fun k => rfl) (show 6 * B + 6 ≤ 24 by omega) (fun j hj => by
    rw [mI_sR, if_pos rfl]
    unfold va_cpy
    by_cases hc : 6 * B ≤ j ∧ j < 6 * B + 6
    · rw [if_pos (by omega), if_pos hc]
      show mI M (dd + 8) (0 + (j - B * 6)) = _
      rw [show 0 + (j - B * 6) = j - 6 * B by omega]
      exact ho _ (by omega)
    · rw [if_neg (by omega), if_neg hc]
      rfl) (fun i' h1 h2 j => by rw [mI_sR, if_neg (by omega)])
  have b2 : mI (sR M (dd + 7) (va_cpy (M.1 (dd + 8)) (M.1 (dd + 7)) 0 (B * 6) 6)) dd 2 = nI B := by
    rw [mI_sR, if_neg (by omega), hv.B, hB]
  have hE2 := vE_upd hE (i := 0) (k := 2) (by omega) (by decide) (B + 1)
  refine ⟨sI (sR M (dd + 7) (va_cpy (M.1 (dd + 8)) (M.1 (dd + 7)) 0 (B * 6) 6)) dd 2 (nI (B + 1)), ?_, f1.tr (Fr.sI (Or.inl rfl)), hE2.D⟩
  unfold f0_addOffered l0_addOffered_39
  rw [if_pos hv.ok, bI_eq, hv.B, hB, if_neg (by rw [nx_l4, nx_le (by omega) (by omega)]; omega), bI_eq, nx_l6, nx_mul, show (0 : Int32) = nI 0 from rfl, cpy_in (by omega) (by omega) (by omega) (by omega), bI_eq, b2, nx_l1, nx_add, bM_eq]
theorem sQ_bus (h : sQok q) {a b c d e f B : Nat} (hB : q.1 1 = B) (hB4 : B < 4) (h0 : a < q.1 2) (h1 : 1 ≤ b ∧ b ≤ 200) (h2 : c ≤ b) (h3 : d ≤ b) (h4 : e < f) (h5 : f ≤ q.1 0) : sQok (updS (rowS q.1 (50 + 6 * B) 6 (sbus a b c d e f)) 1 (B + 1), q.2) := by
  have hw := h.1
  have hT := hw.T
  have ne : ∀ j, j ≠ 1 → (j < 50 + 6 * B ∨ 56 + 6 * B ≤ j) → updS (rowS q.1 (50 + 6 * B) 6 (sbus a b c d e f)) 1 (B + 1) j = q.1 j := fun j hj h1 => by
    rw [updS_ne _ _ hj, rowS_out _ _ (by omega)]
  have e1 : updS (rowS q.1 (50 + 6 * B) 6 (sbus a b c d e f)) 1 (B + 1) 1 = B + 1 := updS_eq _ _ _
  have at6 : ∀ w, w < 6 → updS (rowS q.1 (50 + 6 * B) 6 (sbus a b c d e f)) 1 (B + 1) (50 + 6 * B + w) = sbus a b c d e f w := fun w hw => by
    rw [updS_ne _ _ (by omega), rowS_in _ _ (by omega) (by omega), show 50 + 6 * B + w - (50 + 6 * B) = w by omega]
  generalize updS (rowS q.1 (50 + 6 * B) 6 (sbus a b c d e f)) 1 (B + 1) = S' at ne e1 at6 ⊢
  refine (fun (hwf : sWF S') => (⟨hwf, fun k hk => by
    show S' k = 0
    rw [ne k (by omega) (by omega)]; exact h.2.1 k hk, h.2.2⟩ : sQok (S', q.2))) ?_
  refine sWF_mk hw (ne 0 (by omega) (by omega)) (ne 2 (by omega) (by omega)) (fun j h1 h2 => ne j (by omega) (by omega)) (by rw [e1]; omega) (by rw [ne 3 (by omega) (by omega)]; exact hw.plug) (by rw [ne 4 (by omega) (by omega)]; exact hw.pow) (by rw [ne 5 (by omega) (by omega)]; exact hw.lim) (fun s hs => by rw [ne _ (by omega) (by omega)]; exact hw.price s hs) (fun b' hb' => ?_) (fun b' hb' => ?_) (fun s hs => ?_) (fun s h1 h2 => ?_)
  · rw [e1] at hb'
    by_cases hbb : b' = B
    · subst hbb
      have g0 := at6 0 (by omega)
      rw [Nat.add_zero] at g0
      rw [g0, at6 1 (by omega), at6 2 (by omega), at6 3 (by omega), at6 4 (by omega), at6 5 (by omega), ne 2 (by omega) (by omega), ne 0 (by omega) (by omega)]
      exact ⟨h0, h1, h2, h3, h4, h5⟩
    · rw [ne (50 + 6 * b') (by omega) (by omega), ne (50 + 6 * b' + 1) (by omega) (by omega), ne (50 + 6 * b' + 2) (by omega) (by omega), ne (50 + 6 * b' + 3) (by omega) (by omega), ne (50 + 6 * b' + 4) (by omega) (by omega), ne (50 + 6 * b' + 5) (by omega) (by omega), ne 2 (by omega) (by omega), ne 0 (by omega) (by omega)]
      exact hw.bus b' (by omega)
  · by_cases hbb : b' = B
    · subst hbb
      rw [at6 4 (by omega)]
      show e ≤ 8
      omega
    · rw [ne _ (by omega) (by omega)]; exact hw.com b' hb'
  · rw [ne _ (by omega) (by omega), e1, Nat.pow_succ]
    have := hw.set s hs
    rw [hB] at this
    omega
  · rw [ne 0 (by omega) (by omega)] at h1
    rw [ne _ (by omega) (by omega)]
    exact hw.out s h1 h2
theorem t_bus_ok (h : TT M q) {x1 x2 x3 x4 x5 x6 : Int32} (h4 : ¬ q.1 1 = 4) (g0 : okI x1 0 (nI (q.1 2) - 1) = true) (g1 : okI x2 1 200 = true) (g2 : okI x3 0 x2 = true) (g3 : okI x4 0 x2 = true) (g4 : okI x5 0 (nI (q.1 0) - 1) = true) (g5 : okI x6 (x5 + 1) (nI (q.1 0)) = true) : CC (f6_bus x1 x2 x3 x4 x5 x6) (f7_bus x1 x2 x3 x4 x5 x6) M q := by
  have hw := h.1.1
  have hT := hw.T
  have hB := hw.B
  have hC := hw.C
  have hD := h.2.1.2.2.1
  have hd := isD_le hD.ok
  obtain ⟨a, ha, rfl⟩ := okI_p (show q.1 2 < 2 ^ 31 by omega) g0
  obtain ⟨b, hb1, hb2, rfl⟩ := okI_t (a := 1) (b := 200) (by omega) (by omega) g1
  obtain ⟨c, -, hc, rfl⟩ := okI_t (a := 0) (b := b) (by omega) (by omega) g2
  obtain ⟨d, -, hdd, rfl⟩ := okI_t (a := 0) (b := b) (by omega) (by omega) g3
  obtain ⟨e, he, rfl⟩ := okI_p (show q.1 0 < 2 ^ 31 by omega) g4
  obtain ⟨f, hf1, hf2, rfl⟩ := okI_t (a := e + 1) (b := q.1 0) (by omega) (by omega) (by rw [← nx_add]; exact g5)
  obtain ⟨B, hBe⟩ : ∃ B, q.1 1 = B := ⟨_, rfl⟩
  have hB4 : B < 4 := by omega
  have m1 : ∀ {M1 : mm_M}, Fr (fun c => c = mNow M + 8) M M1 → mI M1 (mNow M) 0 = nI (q.1 0) ∧ mI M1 (mNow M) 1 = nI (q.1 2) ∧ mI M1 (mNow M) 2 = nI (q.1 1) := fun hf => ⟨by rw [hf.mI (fun z => by omega)]; exact hD.T, by rw [hf.mI (fun z => by omega)]; exact hD.C, by rw [hf.mI (fun z => by omega)]; exact hD.B⟩
  have r2 : ∀ {M1 : mm_M}, vN (sI M1 46 0 0) q → ∀ {ee : Int32 → Option (Int32 × mm_M)}, aI 47 82 2 (sI M1 46 0 0) ee = ee (nI (q.1 2)) := fun {M1} hn {ee} => by
    have : aI 47 82 2 (sI M1 46 0 0) ee = ee (mI (sI M1 46 0 0) 47 2) := aI_in (i := 2) (by omega) (by omega)
    rw [this, hn.1 2 (by omega)]
  have r0 : ∀ {M1 : mm_M}, vN (sI M1 46 0 0) q → ∀ {ee : Int32 → Option (Int32 × mm_M)}, aI 47 82 0 (sI M1 46 0 0) ee = ee (nI (q.1 0)) := fun {M1} hn {ee} => by
    have : aI 47 82 0 (sI M1 46 0 0) ee = ee (mI (sI M1 46 0 0) 47 0) := aI_in (i := 0) (by omega) (by omega)
    rw [this, hn.1 0 (by omega)]
  have r1 : ∀ {M1 : mm_M}, vN (sI M1 46 0 0) q → ∀ {ee : Int32 → Option (Int32 × mm_M)}, aI 47 82 1 (sI M1 46 0 0) ee = ee (nI (q.1 1)) := fun {M1} hn {ee} => by
    have : aI 47 82 1 (sI M1 46 0 0) ee = ee (mI (sI M1 46 0 0) 47 1) := aI_in (i := 1) (by omega) (by omega)
    rw [this, hn.1 1 (by omega)]
  have f0 : Fr (fun c => c = mNow M + 8) M M := Fr.rf
  have f1 : Fr (fun c => c = mNow M + 8) M (sI M (mNow M + 8) 0 (nI a)) := f0.tr (Fr.sI rfl)
  have f2 : Fr (fun c => c = mNow M + 8) M (sI (sI M (mNow M + 8) 0 (nI a)) (mNow M + 8) 1 (nI b)) := f1.tr (Fr.sI rfl)
  have f3 : Fr (fun c => c = mNow M + 8) M (sI (sI (sI M (mNow M + 8) 0 (nI a)) (mNow M + 8) 1 (nI b)) (mNow M + 8) 2 (nI c)) := f2.tr (Fr.sI rfl)
  have f4 : Fr (fun c => c = mNow M + 8) M (sI (sI (sI (sI M (mNow M + 8) 0 (nI a)) (mNow M + 8) 1 (nI b)) (mNow M + 8) 2 (nI c)) (mNow M + 8) 3 (nI d)) := f3.tr (Fr.sI rfl)
  have f5 : Fr (fun c => c = mNow M + 8) M (sI (sI (sI (sI (sI M (mNow M + 8) 0 (nI a)) (mNow M + 8) 1 (nI b)) (mNow M + 8) 2 (nI c)) (mNow M + 8) 3 (nI d)) (mNow M + 8) 4 (nI e)) := f4.tr (Fr.sI rfl)
  have f6 : Fr (fun c => c = mNow M + 8) M (sI (sI (sI (sI (sI (sI M (mNow M + 8) 0 (nI a)) (mNow M + 8) 1 (nI b)) (mNow M + 8) 2 (nI c)) (mNow M + 8) 3 (nI d)) (mNow M + 8) 4 (nI e)) (mNow M + 8) 5 (nI f)) := f5.tr (Fr.sI rfl)
  have o0 : f0_offer (mNow M) 0 (nI a) M = if okI (nI a) (0) (nI (q.1 2) - 1) = true then some (1, (sI M (mNow M + 8) 0 (nI a))) else some (0, M) := by
    refine x_offerG (k := 0) hD.ok (by omega) ?_ ?_
    · unfold f0_leastOffer
      rw [if_pos hD.ok, if_neg (show ¬ nI 0 = 1 by decide), if_neg (show ¬ nI 0 = 5 by decide)]
    · unfold f0_mostOffer
      rw [if_pos hD.ok, if_pos (show nI 0 = 0 from rfl), bI_eq, (m1 f0).2.1]
  have o1 : f0_offer (mNow M) 1 (nI b) (sI M (mNow M + 8) 0 (nI a)) = if okI (nI b) (1) (200) = true then some (1, (sI (sI M (mNow M + 8) 0 (nI a)) (mNow M + 8) 1 (nI b))) else some (0, (sI M (mNow M + 8) 0 (nI a))) := by
    refine x_offerG (k := 1) hD.ok (by omega) ?_ ?_
    · unfold f0_leastOffer
      rw [if_pos hD.ok, if_pos (show nI 1 = 1 from rfl)]
    · unfold f0_mostOffer
      rw [if_pos hD.ok, if_neg (show ¬ nI 1 = 0 by decide), if_pos (show nI 1 = 1 from rfl)]
  have o2 : f0_offer (mNow M) 2 (nI c) (sI (sI M (mNow M + 8) 0 (nI a)) (mNow M + 8) 1 (nI b)) = if okI (nI c) (0) ((nI b)) = true then some (1, (sI (sI (sI M (mNow M + 8) 0 (nI a)) (mNow M + 8) 1 (nI b)) (mNow M + 8) 2 (nI c))) else some (0, (sI (sI M (mNow M + 8) 0 (nI a)) (mNow M + 8) 1 (nI b))) := by
    refine x_offerG (k := 2) hD.ok (by omega) ?_ ?_
    · unfold f0_leastOffer
      rw [if_pos hD.ok, if_neg (show ¬ nI 2 = 1 by decide), if_neg (show ¬ nI 2 = 5 by decide)]
    · unfold f0_mostOffer
      rw [if_pos hD.ok, if_neg (show ¬ nI 2 = 0 by decide), if_neg (show ¬ nI 2 = 1 by decide), if_pos (show nI 2 = 2 from rfl), show aI (α := Int32 × mm_M) (mNow M + 8) 6 1 (sI (sI M (mNow M + 8) 0 (nI a)) (mNow M + 8) 1 (nI b)) = aI (mNow M + 8) 6 (nI 1) (sI (sI M (mNow M + 8) 0 (nI a)) (mNow M + 8) 1 (nI b)) from rfl, aI_in (by omega) (by omega), mI_sI_eq]
  have o3 : f0_offer (mNow M) 3 (nI d) (sI (sI (sI M (mNow M + 8) 0 (nI a)) (mNow M + 8) 1 (nI b)) (mNow M + 8) 2 (nI c)) = if okI (nI d) (0) ((nI b)) = true then some (1, (sI (sI (sI (sI M (mNow M + 8) 0 (nI a)) (mNow M + 8) 1 (nI b)) (mNow M + 8) 2 (nI c)) (mNow M + 8) 3 (nI d))) else some (0, (sI (sI (sI M (mNow M + 8) 0 (nI a)) (mNow M + 8) 1 (nI b)) (mNow M + 8) 2 (nI c))) := by
    refine x_offerG (k := 3) hD.ok (by omega) ?_ ?_
    · unfold f0_leastOffer
      rw [if_pos hD.ok, if_neg (show ¬ nI 3 = 1 by decide), if_neg (show ¬ nI 3 = 5 by decide)]
    · unfold f0_mostOffer
      rw [if_pos hD.ok, if_neg (show ¬ nI 3 = 0 by decide), if_neg (show ¬ nI 3 = 1 by decide), if_neg (show ¬ nI 3 = 2 by decide), if_pos (show nI 3 = 3 from rfl), show aI (α := Int32 × mm_M) (mNow M + 8) 6 1 (sI (sI (sI M (mNow M + 8) 0 (nI a)) (mNow M + 8) 1 (nI b)) (mNow M + 8) 2 (nI c)) = aI (mNow M + 8) 6 (nI 1) (sI (sI (sI M (mNow M + 8) 0 (nI a)) (mNow M + 8) 1 (nI b)) (mNow M + 8) 2 (nI c)) from rfl, aI_in (by omega) (by omega), mI_sI_k _ _ _ (by decide), mI_sI_eq]
  have o4 : f0_offer (mNow M) 4 (nI e) (sI (sI (sI (sI M (mNow M + 8) 0 (nI a)) (mNow M + 8) 1 (nI b)) (mNow M + 8) 2 (nI c)) (mNow M + 8) 3 (nI d)) = if okI (nI e) (0) (nI (q.1 0) - 1) = true then some (1, (sI (sI (sI (sI (sI M (mNow M + 8) 0 (nI a)) (mNow M + 8) 1 (nI b)) (mNow M + 8) 2 (nI c)) (mNow M + 8) 3 (nI d)) (mNow M + 8) 4 (nI e))) else some (0, (sI (sI (sI (sI M (mNow M + 8) 0 (nI a)) (mNow M + 8) 1 (nI b)) (mNow M + 8) 2 (nI c)) (mNow M + 8) 3 (nI d))) := by
    refine x_offerG (k := 4) hD.ok (by omega) ?_ ?_
    · unfold f0_leastOffer
      rw [if_pos hD.ok, if_neg (show ¬ nI 4 = 1 by decide), if_neg (show ¬ nI 4 = 5 by decide)]
    · unfold f0_mostOffer
      rw [if_pos hD.ok, if_neg (show ¬ nI 4 = 0 by decide), if_neg (show ¬ nI 4 = 1 by decide), if_neg (show ¬ nI 4 = 2 by decide), if_neg (show ¬ nI 4 = 3 by decide), if_pos (show nI 4 = 4 from rfl), bI_eq, (m1 f4).1]
  have o5 : f0_offer (mNow M) 5 (nI f) (sI (sI (sI (sI (sI M (mNow M + 8) 0 (nI a)) (mNow M + 8) 1 (nI b)) (mNow M + 8) 2 (nI c)) (mNow M + 8) 3 (nI d)) (mNow M + 8) 4 (nI e)) = if okI (nI f) ((nI e) + 1) (nI (q.1 0)) = true then some (1, (sI (sI (sI (sI (sI (sI M (mNow M + 8) 0 (nI a)) (mNow M + 8) 1 (nI b)) (mNow M + 8) 2 (nI c)) (mNow M + 8) 3 (nI d)) (mNow M + 8) 4 (nI e)) (mNow M + 8) 5 (nI f))) else some (0, (sI (sI (sI (sI (sI M (mNow M + 8) 0 (nI a)) (mNow M + 8) 1 (nI b)) (mNow M + 8) 2 (nI c)) (mNow M + 8) 3 (nI d)) (mNow M + 8) 4 (nI e))) := by
    refine x_offerG (k := 5) hD.ok (by omega) ?_ ?_
    · unfold f0_leastOffer
      rw [if_pos hD.ok, if_neg (show ¬ nI 5 = 1 by decide), if_pos (show nI 5 = 5 from rfl), show aI (α := Int32 × mm_M) (mNow M + 8) 6 4 (sI (sI (sI (sI (sI M (mNow M + 8) 0 (nI a)) (mNow M + 8) 1 (nI b)) (mNow M + 8) 2 (nI c)) (mNow M + 8) 3 (nI d)) (mNow M + 8) 4 (nI e)) = aI (mNow M + 8) 6 (nI 4) (sI (sI (sI (sI (sI M (mNow M + 8) 0 (nI a)) (mNow M + 8) 1 (nI b)) (mNow M + 8) 2 (nI c)) (mNow M + 8) 3 (nI d)) (mNow M + 8) 4 (nI e)) from rfl, aI_in (by omega) (by omega), mI_sI_eq]
    · unfold f0_mostOffer
      rw [if_pos hD.ok, if_neg (show ¬ nI 5 = 0 by decide), if_neg (show ¬ nI 5 = 1 by decide), if_neg (show ¬ nI 5 = 2 by decide), if_neg (show ¬ nI 5 = 3 by decide), if_neg (show ¬ nI 5 = 4 by decide), if_pos (show nI 5 = 5 from rfl), bI_eq, (m1 f5).1]
  have n1 : mNow (sI M (mNow M + 8) 0 (nI a)) = mNow M := rfl
  have n2 : mNow (sI (sI M (mNow M + 8) 0 (nI a)) (mNow M + 8) 1 (nI b)) = mNow M := rfl
  have n3 : mNow (sI (sI (sI M (mNow M + 8) 0 (nI a)) (mNow M + 8) 1 (nI b)) (mNow M + 8) 2 (nI c)) = mNow M := rfl
  have n4 : mNow (sI (sI (sI (sI M (mNow M + 8) 0 (nI a)) (mNow M + 8) 1 (nI b)) (mNow M + 8) 2 (nI c)) (mNow M + 8) 3 (nI d)) = mNow M := rfl
  have n5 : mNow (sI (sI (sI (sI (sI M (mNow M + 8) 0 (nI a)) (mNow M + 8) 1 (nI b)) (mNow M + 8) 2 (nI c)) (mNow M + 8) 3 (nI d)) (mNow M + 8) 4 (nI e)) = mNow M := rfl
  have n6 : mNow (sI (sI (sI (sI (sI (sI M (mNow M + 8) 0 (nI a)) (mNow M + 8) 1 (nI b)) (mNow M + 8) 2 (nI c)) (mNow M + 8) 3 (nI d)) (mNow M + 8) 4 (nI e)) (mNow M + 8) 5 (nI f)) = mNow M := rfl
  have hk6 := vK_off h.2.1 f6
  have hv6 : vD (sI (sI (sI (sI (sI (sI M (mNow M + 8) 0 (nI a)) (mNow M + 8) 1 (nI b)) (mNow M + 8) 2 (nI c)) (mNow M + 8) 3 (nI d)) (mNow M + 8) 4 (nI e)) (mNow M + 8) 5 (nI f)) (mNow M) q.1 := hk6.2.2.1
  obtain ⟨M7, k1, k2, k3⟩ := x_add (a := a) (b := b) (c := c) (d := d) (e := e) (f := f) hv6 hBe hB4 (fun w hw6 => by
    rcases (show w = 0 ∨ w = 1 ∨ w = 2 ∨ w = 3 ∨ w = 4 ∨ w = 5 by omega) with rfl | rfl | rfl | rfl | rfl | rfl
    · rw [mI_sI_k _ _ _ (by decide), mI_sI_k _ _ _ (by decide), mI_sI_k _ _ _ (by decide), mI_sI_k _ _ _ (by decide), mI_sI_k _ _ _ (by decide), mI_sI_eq]; rfl
    · rw [mI_sI_k _ _ _ (by decide), mI_sI_k _ _ _ (by decide), mI_sI_k _ _ _ (by decide), mI_sI_k _ _ _ (by decide), mI_sI_eq]; rfl
    · rw [mI_sI_k _ _ _ (by decide), mI_sI_k _ _ _ (by decide), mI_sI_k _ _ _ (by decide), mI_sI_eq]; rfl
    · rw [mI_sI_k _ _ _ (by decide), mI_sI_k _ _ _ (by decide), mI_sI_eq]; rfl
    · rw [mI_sI_k _ _ _ (by decide), mI_sI_eq]; rfl
    · rw [mI_sI_eq]; rfl)
  have hq' := sQ_bus (a := a) (b := b) (c := c) (d := d) (e := e) (f := f) h.1 hBe hB4 ha ⟨hb1, hb2⟩ hc hdd (by omega) hf2
  obtain ⟨S', hS'⟩ : ∃ S', S' = updS (rowS q.1 (50 + 6 * B) 6 (sbus a b c d e f)) 1 (B + 1) := ⟨_, rfl⟩
  rw [← hS'] at k3 hq'
  have s1 : S' 1 = B + 1 := by rw [hS']; exact updS_eq _ _ _
  have f3 : Fr (fun c => c = 1) M7 (sI M7 1 8 0) := Fr.sI rfl
  have hD8 : vD (sI M7 1 8 0) (mNow M) S' := k3.mvc (fun c c1 c2 => f3.1 c (fun z => by omega))
  have m22 : (sI M7 1 8 0).2.2 = M.2.2 := by
    rw [f3.2.2, k2.2.2, f6.2.2]
  have cc : ∀ c, c ≠ 1 → ¬ (2 ≤ c ∧ c ≤ 19) → (sI M7 1 8 0).1 c = M.1 c := fun c c1 c2 => by
    rw [f3.1 c (fun z => c1 z), k2.1 c (fun z => by rcases z with z | z <;> omega), f6.1 c (fun z => by omega)]
  have hk : vK (sI M7 1 8 0) (S', q.2) := vK_new h.2.1 hD8 cc m22 (mI_sI_eq _ _ _ _)
  have e7 : mNow (sI M7 1 8 0) = mNow M := by unfold mNow; rw [m22]
  have hn : vN (sI (sI M7 1 8 0) 46 0 0) q := (h.2.2.mvK (fun c hc => cc c (by omega) (by omega))).mv (raised0 _)
  have eA : (50 : Int32) + 6 * nI B = nI (50 + 6 * B) := by rw [show (6 : Int32) = nI 6 from rfl, show (50 : Int32) = nI 50 from rfl, nx_mul, nx_add]
  have a1 : ∀ {N : mm_M} {e : Int32 → Option (Int32 × mm_M)}, aI 47 82 1 N e = e (mI N 47 1) := fun {N e} => aI_in (i := 1) (by omega) (by omega)
  have u1 : ∀ {N : mm_M} {v : Int32} {e : mm_M → Option (Int32 × mm_M)}, uI 47 82 1 v N e = e (sI N 47 1 v) := fun {N v e} => uI_in (i := 1) (by omega) (by omega)
  obtain ⟨N0, hN0⟩ : ∃ N0, N0 = sI (sI M7 1 8 0) 46 0 0 := ⟨_, rfl⟩
  have hn0 : vN N0 q := by rw [hN0]; exact hn
  have v0 : vM N0 (rowS q.1 (50 + 6 * B) 0 (sbus a b c d e f)) := by rw [rowS_0]; exact hn0.1
  have step : ∀ {N : mm_M} {j v : Nat}, vM N (rowS q.1 (50 + 6 * B) j (sbus a b c d e f)) → sbus a b c d e f j = v → vM (sI N 47 (50 + 6 * B + j) (nI v)) (rowS q.1 (50 + 6 * B) (j + 1) (sbus a b c d e f)) := fun {N j v} hv he => by
    rw [← rowS_succ, he]
    exact vM_upd hv v
  have v1 := step v0 (v := a) rfl
  have v2 := step v1 (v := b) rfl
  have v3 := step v2 (v := c) rfl
  have v4 := step v3 (v := d) rfl
  have v5 := step v4 (v := e) rfl
  have v6 := step v5 (v := f) rfl
  rw [Nat.add_zero] at v6
  have l6 : Fr (fun c => c = 47) N0 (sI (sI (sI (sI (sI (sI N0 47 (50 + 6 * B) (nI a)) 47 (50 + 6 * B + (0 + 1)) (nI b)) 47 (50 + 6 * B + (0 + 1 + 1)) (nI c)) 47 (50 + 6 * B + (0 + 1 + 1 + 1)) (nI d)) 47 (50 + 6 * B + (0 + 1 + 1 + 1 + 1)) (nI e)) 47 (50 + 6 * B + (0 + 1 + 1 + 1 + 1 + 1)) (nI f)) := by
    refine Fr.tr (Fr.tr (Fr.tr (Fr.tr (Fr.tr (Fr.sI ?_) (Fr.sI ?_)) (Fr.sI ?_)) (Fr.sI ?_)) (Fr.sI ?_)) (Fr.sI ?_) <;> rfl
  generalize hN6 : sI (sI (sI (sI (sI (sI N0 47 (50 + 6 * B) (nI a)) 47 (50 + 6 * B + (0 + 1)) (nI b)) 47 (50 + 6 * B + (0 + 1 + 1)) (nI c)) 47 (50 + 6 * B + (0 + 1 + 1 + 1)) (nI d)) 47 (50 + 6 * B + (0 + 1 + 1 + 1 + 1)) (nI e)) 47 (50 + 6 * B + (0 + 1 + 1 + 1 + 1 + 1)) (nI f) = N6 at v6 l6
  have c6 : mI N6 47 1 = nI B := by rw [v6 1 (by omega), rowS_out _ _ (Or.inl (by omega)), hBe]
  have v7 : vM (sI N6 47 1 (nI (B + 1))) S' := by rw [hS']; exact vM_upd v6 (B + 1)
  have l7 : Fr (fun c => c = 47) N0 (sI N6 47 1 (nI (B + 1))) := l6.tr (Fr.sI rfl)
  refine CC_mk (r := nI B) (M1 := sI M7 1 8 0) (M2 := sI N6 47 1 (nI (B + 1))) ?_ hk (by unfold mG; rw [m22]) ?_ (vN_told hn0 v7 l7 (by decide) (by decide) (by decide)) (fun c hc => by rw [l7.1 c (fun z => by omega), hN0]; exact (raised0 _).low c hc) (by rw [l7.2.2, hN0]; rfl) hq'
  · unfold f6_bus l6_bus_80
    rw [bN_eq, if_pos hD.ok, o0, if_pos g0, cI_some, if_neg (show ¬ (1 : Int32) = 0 by decide), bN_eq, n1, if_pos hD.ok, o1, if_pos g1, cI_some, if_neg (show ¬ (1 : Int32) = 0 by decide), bN_eq, n2, if_pos hD.ok, o2, if_pos g2, cI_some, if_neg (show ¬ (1 : Int32) = 0 by decide), bN_eq, n3, if_pos hD.ok, o3, if_pos g3, cI_some, if_neg (show ¬ (1 : Int32) = 0 by decide), bN_eq, n4, if_pos hD.ok, o4, if_pos g4, cI_some, if_neg (show ¬ (1 : Int32) = 0 by decide), bN_eq, n5, if_pos hD.ok, o5, if_pos g5, cI_some, if_neg (show ¬ (1 : Int32) = 0 by decide), if_neg (show ¬ (1 : Int32) = 0 by decide), bN_eq, n6, if_pos hD.ok, bI_eq, (m1 f6).2.2, if_pos (by rw [nx_l4, nx_lt (by omega) (by omega)]; omega), bN_eq, if_pos hD.ok, k1, cV_some, bM_eq, bN_eq, e7, if_pos hD.ok, bI_eq, hD8.B, s1, nI_pred]
  · have r2 : ∀ {e : Int32 → Option (Int32 × mm_M)}, aI 47 82 2 N0 e = e (nI (q.1 2)) := fun {e} => by
      have : aI 47 82 2 N0 e = e (mI N0 47 2) := aI_in (i := 2) (by omega) (by omega)
      rw [this, hn0.1 2 (by omega)]
    have r0 : ∀ {e : Int32 → Option (Int32 × mm_M)}, aI 47 82 0 N0 e = e (nI (q.1 0)) := fun {e} => by
      have : aI 47 82 0 N0 e = e (mI N0 47 0) := aI_in (i := 0) (by omega) (by omega)
      rw [this, hn0.1 0 (by omega)]
    have r1 : mI N0 47 1 = nI B := by rw [hn0.1 1 (by omega), hBe]
    unfold f7_bus
    rw [bM_eq, ← hN0, r2, y_inG, cI_some, if_pos g0, if_neg (show ¬ (1 : Int32) = 0 by decide), y_inG, cI_some, if_pos g1, if_neg (show ¬ (1 : Int32) = 0 by decide), y_inG, cI_some, if_pos g2, if_neg (show ¬ (1 : Int32) = 0 by decide), y_inG, cI_some, if_pos g3, if_neg (show ¬ (1 : Int32) = 0 by decide), r0, y_inG, cI_some, if_pos g4, if_neg (show ¬ (1 : Int32) = 0 by decide), r0, y_inG, cI_some, if_pos g5, if_neg (show ¬ (1 : Int32) = 0 by decide), a1, r1, if_neg (by rw [nx_l4, nx_eq (by omega) (by omega)]; omega), a1, r1, bI_eq, eA, uI_in (by omega) (by omega), show nI (50 + 6 * B) + 1 = nI (50 + 6 * B + (0 + 1)) from nx_add _ 1, uI_in (by omega) (by omega), show nI (50 + 6 * B) + 2 = nI (50 + 6 * B + (0 + 1 + 1)) from nx_add _ 2, uI_in (by omega) (by omega), show nI (50 + 6 * B) + 3 = nI (50 + 6 * B + (0 + 1 + 1 + 1)) from nx_add _ 3, uI_in (by omega) (by omega), show nI (50 + 6 * B) + 4 = nI (50 + 6 * B + (0 + 1 + 1 + 1 + 1)) from nx_add _ 4, uI_in (by omega) (by omega), show nI (50 + 6 * B) + 5 = nI (50 + 6 * B + (0 + 1 + 1 + 1 + 1 + 1)) from nx_add _ 5, uI_in (by omega) (by omega), hN6, a1, c6, u1, show nI B + 1 = nI (B + 1) from nx_add B 1, a1, mI_sI_eq, nI_pred]
theorem t_bus (h : TT M q) (x1 x2 x3 x4 x5 x6 : Int32) : CC (f6_bus x1 x2 x3 x4 x5 x6) (f7_bus x1 x2 x3 x4 x5 x6) M q := by
  have hw := h.1.1
  have hT := hw.T
  have hB := hw.B
  have hC := hw.C
  have hD := h.2.1.2.2.1
  have hd := isD_le hD.ok
  have m1 : ∀ {M1 : mm_M}, Fr (fun c => c = mNow M + 8) M M1 → mI M1 (mNow M) 0 = nI (q.1 0) ∧ mI M1 (mNow M) 1 = nI (q.1 2) ∧ mI M1 (mNow M) 2 = nI (q.1 1) := fun hf => ⟨by rw [hf.mI (fun z => by omega)]; exact hD.T, by rw [hf.mI (fun z => by omega)]; exact hD.C, by rw [hf.mI (fun z => by omega)]; exact hD.B⟩
  have r2 : ∀ {M1 : mm_M}, vN (sI M1 46 0 0) q → ∀ {e : Int32 → Option (Int32 × mm_M)}, aI 47 82 2 (sI M1 46 0 0) e = e (nI (q.1 2)) := fun {M1} hn {e} => by
    have : aI 47 82 2 (sI M1 46 0 0) e = e (mI (sI M1 46 0 0) 47 2) := aI_in (i := 2) (by omega) (by omega)
    rw [this, hn.1 2 (by omega)]
  have r0 : ∀ {M1 : mm_M}, vN (sI M1 46 0 0) q → ∀ {e : Int32 → Option (Int32 × mm_M)}, aI 47 82 0 (sI M1 46 0 0) e = e (nI (q.1 0)) := fun {M1} hn {e} => by
    have : aI 47 82 0 (sI M1 46 0 0) e = e (mI (sI M1 46 0 0) 47 0) := aI_in (i := 0) (by omega) (by omega)
    rw [this, hn.1 0 (by omega)]
  have r1 : ∀ {M1 : mm_M}, vN (sI M1 46 0 0) q → ∀ {e : Int32 → Option (Int32 × mm_M)}, aI 47 82 1 (sI M1 46 0 0) e = e (nI (q.1 1)) := fun {M1} hn {e} => by
    have : aI 47 82 1 (sI M1 46 0 0) e = e (mI (sI M1 46 0 0) 47 1) := aI_in (i := 1) (by omega) (by omega)
    rw [this, hn.1 1 (by omega)]
  have f0 : Fr (fun c => c = mNow M + 8) M M := Fr.rf
  have f1 : Fr (fun c => c = mNow M + 8) M (sI M (mNow M + 8) 0 x1) := f0.tr (Fr.sI rfl)
  have f2 : Fr (fun c => c = mNow M + 8) M (sI (sI M (mNow M + 8) 0 x1) (mNow M + 8) 1 x2) := f1.tr (Fr.sI rfl)
  have f3 : Fr (fun c => c = mNow M + 8) M (sI (sI (sI M (mNow M + 8) 0 x1) (mNow M + 8) 1 x2) (mNow M + 8) 2 x3) := f2.tr (Fr.sI rfl)
  have f4 : Fr (fun c => c = mNow M + 8) M (sI (sI (sI (sI M (mNow M + 8) 0 x1) (mNow M + 8) 1 x2) (mNow M + 8) 2 x3) (mNow M + 8) 3 x4) := f3.tr (Fr.sI rfl)
  have f5 : Fr (fun c => c = mNow M + 8) M (sI (sI (sI (sI (sI M (mNow M + 8) 0 x1) (mNow M + 8) 1 x2) (mNow M + 8) 2 x3) (mNow M + 8) 3 x4) (mNow M + 8) 4 x5) := f4.tr (Fr.sI rfl)
  have f6 : Fr (fun c => c = mNow M + 8) M (sI (sI (sI (sI (sI (sI M (mNow M + 8) 0 x1) (mNow M + 8) 1 x2) (mNow M + 8) 2 x3) (mNow M + 8) 3 x4) (mNow M + 8) 4 x5) (mNow M + 8) 5 x6) := f5.tr (Fr.sI rfl)
  have o0 : f0_offer (mNow M) 0 x1 M = if okI x1 (0) (nI (q.1 2) - 1) = true then some (1, (sI M (mNow M + 8) 0 x1)) else some (0, M) := by
    refine x_offerG (k := 0) hD.ok (by omega) ?_ ?_
    · unfold f0_leastOffer
      rw [if_pos hD.ok, if_neg (show ¬ nI 0 = 1 by decide), if_neg (show ¬ nI 0 = 5 by decide)]
    · unfold f0_mostOffer
      rw [if_pos hD.ok, if_pos (show nI 0 = 0 from rfl), bI_eq, (m1 f0).2.1]
  have o1 : f0_offer (mNow M) 1 x2 (sI M (mNow M + 8) 0 x1) = if okI x2 (1) (200) = true then some (1, (sI (sI M (mNow M + 8) 0 x1) (mNow M + 8) 1 x2)) else some (0, (sI M (mNow M + 8) 0 x1)) := by
    refine x_offerG (k := 1) hD.ok (by omega) ?_ ?_
    · unfold f0_leastOffer
      rw [if_pos hD.ok, if_pos (show nI 1 = 1 from rfl)]
    · unfold f0_mostOffer
      rw [if_pos hD.ok, if_neg (show ¬ nI 1 = 0 by decide), if_pos (show nI 1 = 1 from rfl)]
  have o2 : f0_offer (mNow M) 2 x3 (sI (sI M (mNow M + 8) 0 x1) (mNow M + 8) 1 x2) = if okI x3 (0) (x2) = true then some (1, (sI (sI (sI M (mNow M + 8) 0 x1) (mNow M + 8) 1 x2) (mNow M + 8) 2 x3)) else some (0, (sI (sI M (mNow M + 8) 0 x1) (mNow M + 8) 1 x2)) := by
    refine x_offerG (k := 2) hD.ok (by omega) ?_ ?_
    · unfold f0_leastOffer
      rw [if_pos hD.ok, if_neg (show ¬ nI 2 = 1 by decide), if_neg (show ¬ nI 2 = 5 by decide)]
    · unfold f0_mostOffer
      rw [if_pos hD.ok, if_neg (show ¬ nI 2 = 0 by decide), if_neg (show ¬ nI 2 = 1 by decide), if_pos (show nI 2 = 2 from rfl), show aI (α := Int32 × mm_M) (mNow M + 8) 6 1 (sI (sI M (mNow M + 8) 0 x1) (mNow M + 8) 1 x2) = aI (mNow M + 8) 6 (nI 1) (sI (sI M (mNow M + 8) 0 x1) (mNow M + 8) 1 x2) from rfl, aI_in (by omega) (by omega), mI_sI_eq]
  have o3 : f0_offer (mNow M) 3 x4 (sI (sI (sI M (mNow M + 8) 0 x1) (mNow M + 8) 1 x2) (mNow M + 8) 2 x3) = if okI x4 (0) (x2) = true then some (1, (sI (sI (sI (sI M (mNow M + 8) 0 x1) (mNow M + 8) 1 x2) (mNow M + 8) 2 x3) (mNow M + 8) 3 x4)) else some (0, (sI (sI (sI M (mNow M + 8) 0 x1) (mNow M + 8) 1 x2) (mNow M + 8) 2 x3)) := by
    refine x_offerG (k := 3) hD.ok (by omega) ?_ ?_
    · unfold f0_leastOffer
      rw [if_pos hD.ok, if_neg (show ¬ nI 3 = 1 by decide), if_neg (show ¬ nI 3 = 5 by decide)]
    · unfold f0_mostOffer
      rw [if_pos hD.ok, if_neg (show ¬ nI 3 = 0 by decide), if_neg (show ¬ nI 3 = 1 by decide), if_neg (show ¬ nI 3 = 2 by decide), if_pos (show nI 3 = 3 from rfl), show aI (α := Int32 × mm_M) (mNow M + 8) 6 1 (sI (sI (sI M (mNow M + 8) 0 x1) (mNow M + 8) 1 x2) (mNow M + 8) 2 x3) = aI (mNow M + 8) 6 (nI 1) (sI (sI (sI M (mNow M + 8) 0 x1) (mNow M + 8) 1 x2) (mNow M + 8) 2 x3) from rfl, aI_in (by omega) (by omega), mI_sI_k _ _ _ (by decide), mI_sI_eq]
  have o4 : f0_offer (mNow M) 4 x5 (sI (sI (sI (sI M (mNow M + 8) 0 x1) (mNow M + 8) 1 x2) (mNow M + 8) 2 x3) (mNow M + 8) 3 x4) = if okI x5 (0) (nI (q.1 0) - 1) = true then some (1, (sI (sI (sI (sI (sI M (mNow M + 8) 0 x1) (mNow M + 8) 1 x2) (mNow M + 8) 2 x3) (mNow M + 8) 3 x4) (mNow M + 8) 4 x5)) else some (0, (sI (sI (sI (sI M (mNow M + 8) 0 x1) (mNow M + 8) 1 x2) (mNow M + 8) 2 x3) (mNow M + 8) 3 x4)) := by
    refine x_offerG (k := 4) hD.ok (by omega) ?_ ?_
    · unfold f0_leastOffer
      rw [if_pos hD.ok, if_neg (show ¬ nI 4 = 1 by decide), if_neg (show ¬ nI 4 = 5 by decide)]
    · unfold f0_mostOffer
      rw [if_pos hD.ok, if_neg (show ¬ nI 4 = 0 by decide), if_neg (show ¬ nI 4 = 1 by decide), if_neg (show ¬ nI 4 = 2 by decide), if_neg (show ¬ nI 4 = 3 by decide), if_pos (show nI 4 = 4 from rfl), bI_eq, (m1 f4).1]
  have o5 : f0_offer (mNow M) 5 x6 (sI (sI (sI (sI (sI M (mNow M + 8) 0 x1) (mNow M + 8) 1 x2) (mNow M + 8) 2 x3) (mNow M + 8) 3 x4) (mNow M + 8) 4 x5) = if okI x6 (x5 + 1) (nI (q.1 0)) = true then some (1, (sI (sI (sI (sI (sI (sI M (mNow M + 8) 0 x1) (mNow M + 8) 1 x2) (mNow M + 8) 2 x3) (mNow M + 8) 3 x4) (mNow M + 8) 4 x5) (mNow M + 8) 5 x6)) else some (0, (sI (sI (sI (sI (sI M (mNow M + 8) 0 x1) (mNow M + 8) 1 x2) (mNow M + 8) 2 x3) (mNow M + 8) 3 x4) (mNow M + 8) 4 x5)) := by
    refine x_offerG (k := 5) hD.ok (by omega) ?_ ?_
    · unfold f0_leastOffer
      rw [if_pos hD.ok, if_neg (show ¬ nI 5 = 1 by decide), if_pos (show nI 5 = 5 from rfl), show aI (α := Int32 × mm_M) (mNow M + 8) 6 4 (sI (sI (sI (sI (sI M (mNow M + 8) 0 x1) (mNow M + 8) 1 x2) (mNow M + 8) 2 x3) (mNow M + 8) 3 x4) (mNow M + 8) 4 x5) = aI (mNow M + 8) 6 (nI 4) (sI (sI (sI (sI (sI M (mNow M + 8) 0 x1) (mNow M + 8) 1 x2) (mNow M + 8) 2 x3) (mNow M + 8) 3 x4) (mNow M + 8) 4 x5) from rfl, aI_in (by omega) (by omega), mI_sI_eq]
    · unfold f0_mostOffer
      rw [if_pos hD.ok, if_neg (show ¬ nI 5 = 0 by decide), if_neg (show ¬ nI 5 = 1 by decide), if_neg (show ¬ nI 5 = 2 by decide), if_neg (show ¬ nI 5 = 3 by decide), if_neg (show ¬ nI 5 = 4 by decide), if_pos (show nI 5 = 5 from rfl), bI_eq, (m1 f5).1]
  have n1 : mNow (sI M (mNow M + 8) 0 x1) = mNow M := rfl
  have n2 : mNow (sI (sI M (mNow M + 8) 0 x1) (mNow M + 8) 1 x2) = mNow M := rfl
  have n3 : mNow (sI (sI (sI M (mNow M + 8) 0 x1) (mNow M + 8) 1 x2) (mNow M + 8) 2 x3) = mNow M := rfl
  have n4 : mNow (sI (sI (sI (sI M (mNow M + 8) 0 x1) (mNow M + 8) 1 x2) (mNow M + 8) 2 x3) (mNow M + 8) 3 x4) = mNow M := rfl
  have n5 : mNow (sI (sI (sI (sI (sI M (mNow M + 8) 0 x1) (mNow M + 8) 1 x2) (mNow M + 8) 2 x3) (mNow M + 8) 3 x4) (mNow M + 8) 4 x5) = mNow M := rfl
  have n6 : mNow (sI (sI (sI (sI (sI (sI M (mNow M + 8) 0 x1) (mNow M + 8) 1 x2) (mNow M + 8) 2 x3) (mNow M + 8) 3 x4) (mNow M + 8) 4 x5) (mNow M + 8) 5 x6) = mNow M := rfl
  by_cases g0 : okI x1 (0) (nI (q.1 2) - 1) = true
  · skip
    by_cases g1 : okI x2 (1) (200) = true
    · skip
      by_cases g2 : okI x3 (0) (x2) = true
      · skip
        by_cases g3 : okI x4 (0) (x2) = true
        · skip
          by_cases g4 : okI x5 (0) (nI (q.1 0) - 1) = true
          · skip
            by_cases g5 : okI x6 (x5 + 1) (nI (q.1 0)) = true
            · skip
              by_cases h4 : q.1 1 = 4
              · refine CC_off (r := -2) h f6 ?_ (fun hn => ?_)
                · unfold f6_bus l6_bus_80
                  rw [bN_eq, if_pos hD.ok, o0, if_pos g0, cI_some, if_neg (show ¬ (1 : Int32) = 0 by decide), bN_eq, n1, if_pos hD.ok, o1, if_pos g1, cI_some, if_neg (show ¬ (1 : Int32) = 0 by decide), bN_eq, n2, if_pos hD.ok, o2, if_pos g2, cI_some, if_neg (show ¬ (1 : Int32) = 0 by decide), bN_eq, n3, if_pos hD.ok, o3, if_pos g3, cI_some, if_neg (show ¬ (1 : Int32) = 0 by decide), bN_eq, n4, if_pos hD.ok, o4, if_pos g4, cI_some, if_neg (show ¬ (1 : Int32) = 0 by decide), bN_eq, n5, if_pos hD.ok, o5, if_pos g5, cI_some, if_neg (show ¬ (1 : Int32) = 0 by decide), if_neg (show ¬ (1 : Int32) = 0 by decide), bN_eq, n6, if_pos hD.ok, bI_eq, (m1 f6).2.2, h4, if_neg (show ¬ nI 4 < 4 by decide)]
                · unfold f7_bus
                  rw [bM_eq, r2 hn, y_inG, cI_some, if_pos g0, if_neg (show ¬ (1 : Int32) = 0 by decide), y_inG, cI_some, if_pos g1, if_neg (show ¬ (1 : Int32) = 0 by decide), y_inG, cI_some, if_pos g2, if_neg (show ¬ (1 : Int32) = 0 by decide), y_inG, cI_some, if_pos g3, if_neg (show ¬ (1 : Int32) = 0 by decide), r0 hn, y_inG, cI_some, if_pos g4, if_neg (show ¬ (1 : Int32) = 0 by decide), r0 hn, y_inG, cI_some, if_pos g5, if_neg (show ¬ (1 : Int32) = 0 by decide), r1 hn, h4, if_pos (show nI 4 = 4 from rfl)]
              · exact t_bus_ok h h4 g0 g1 g2 g3 g4 g5
            · refine CC_off (r := -1) h f5 ?_ (fun hn => ?_)
              · unfold f6_bus l6_bus_79 l6_bus_80
                rw [bN_eq, if_pos hD.ok, o0, if_pos g0, cI_some, if_neg (show ¬ (1 : Int32) = 0 by decide), bN_eq, n1, if_pos hD.ok, o1, if_pos g1, cI_some, if_neg (show ¬ (1 : Int32) = 0 by decide), bN_eq, n2, if_pos hD.ok, o2, if_pos g2, cI_some, if_neg (show ¬ (1 : Int32) = 0 by decide), bN_eq, n3, if_pos hD.ok, o3, if_pos g3, cI_some, if_neg (show ¬ (1 : Int32) = 0 by decide), bN_eq, n4, if_pos hD.ok, o4, if_pos g4, cI_some, if_neg (show ¬ (1 : Int32) = 0 by decide), bN_eq, n5, if_pos hD.ok, o5, if_neg g5, cI_some, if_pos rfl, if_pos rfl]
              · unfold f7_bus l7_bus_86
                rw [bM_eq, r2 hn, y_inG, cI_some, if_pos g0, if_neg (show ¬ (1 : Int32) = 0 by decide), y_inG, cI_some, if_pos g1, if_neg (show ¬ (1 : Int32) = 0 by decide), y_inG, cI_some, if_pos g2, if_neg (show ¬ (1 : Int32) = 0 by decide), y_inG, cI_some, if_pos g3, if_neg (show ¬ (1 : Int32) = 0 by decide), r0 hn, y_inG, cI_some, if_pos g4, if_neg (show ¬ (1 : Int32) = 0 by decide), r0 hn, y_inG, cI_some, if_neg g5, if_pos rfl]
          · refine CC_off (r := -1) h f4 ?_ (fun hn => ?_)
            · unfold f6_bus l6_bus_79 l6_bus_80
              rw [bN_eq, if_pos hD.ok, o0, if_pos g0, cI_some, if_neg (show ¬ (1 : Int32) = 0 by decide), bN_eq, n1, if_pos hD.ok, o1, if_pos g1, cI_some, if_neg (show ¬ (1 : Int32) = 0 by decide), bN_eq, n2, if_pos hD.ok, o2, if_pos g2, cI_some, if_neg (show ¬ (1 : Int32) = 0 by decide), bN_eq, n3, if_pos hD.ok, o3, if_pos g3, cI_some, if_neg (show ¬ (1 : Int32) = 0 by decide), bN_eq, n4, if_pos hD.ok, o4, if_neg g4, cI_some, if_pos rfl, if_pos rfl]
            · unfold f7_bus l7_bus_86
              rw [bM_eq, r2 hn, y_inG, cI_some, if_pos g0, if_neg (show ¬ (1 : Int32) = 0 by decide), y_inG, cI_some, if_pos g1, if_neg (show ¬ (1 : Int32) = 0 by decide), y_inG, cI_some, if_pos g2, if_neg (show ¬ (1 : Int32) = 0 by decide), y_inG, cI_some, if_pos g3, if_neg (show ¬ (1 : Int32) = 0 by decide), r0 hn, y_inG, cI_some, if_neg g4, if_pos rfl]
        · refine CC_off (r := -1) h f3 ?_ (fun hn => ?_)
          · unfold f6_bus l6_bus_79 l6_bus_80
            rw [bN_eq, if_pos hD.ok, o0, if_pos g0, cI_some, if_neg (show ¬ (1 : Int32) = 0 by decide), bN_eq, n1, if_pos hD.ok, o1, if_pos g1, cI_some, if_neg (show ¬ (1 : Int32) = 0 by decide), bN_eq, n2, if_pos hD.ok, o2, if_pos g2, cI_some, if_neg (show ¬ (1 : Int32) = 0 by decide), bN_eq, n3, if_pos hD.ok, o3, if_neg g3, cI_some, if_pos rfl, if_pos rfl]
          · unfold f7_bus l7_bus_86
            rw [bM_eq, r2 hn, y_inG, cI_some, if_pos g0, if_neg (show ¬ (1 : Int32) = 0 by decide), y_inG, cI_some, if_pos g1, if_neg (show ¬ (1 : Int32) = 0 by decide), y_inG, cI_some, if_pos g2, if_neg (show ¬ (1 : Int32) = 0 by decide), y_inG, cI_some, if_neg g3, if_pos rfl]
      · refine CC_off (r := -1) h f2 ?_ (fun hn => ?_)
        · unfold f6_bus l6_bus_79 l6_bus_80
          rw [bN_eq, if_pos hD.ok, o0, if_pos g0, cI_some, if_neg (show ¬ (1 : Int32) = 0 by decide), bN_eq, n1, if_pos hD.ok, o1, if_pos g1, cI_some, if_neg (show ¬ (1 : Int32) = 0 by decide), bN_eq, n2, if_pos hD.ok, o2, if_neg g2, cI_some, if_pos rfl, if_pos rfl]
        · unfold f7_bus l7_bus_86
          rw [bM_eq, r2 hn, y_inG, cI_some, if_pos g0, if_neg (show ¬ (1 : Int32) = 0 by decide), y_inG, cI_some, if_pos g1, if_neg (show ¬ (1 : Int32) = 0 by decide), y_inG, cI_some, if_neg g2, if_pos rfl]
    · refine CC_off (r := -1) h f1 ?_ (fun hn => ?_)
      · unfold f6_bus l6_bus_79 l6_bus_80
        rw [bN_eq, if_pos hD.ok, o0, if_pos g0, cI_some, if_neg (show ¬ (1 : Int32) = 0 by decide), bN_eq, n1, if_pos hD.ok, o1, if_neg g1, cI_some, if_pos rfl, if_pos rfl]
      · unfold f7_bus l7_bus_86
        rw [bM_eq, r2 hn, y_inG, cI_some, if_pos g0, if_neg (show ¬ (1 : Int32) = 0 by decide), y_inG, cI_some, if_neg g1, if_pos rfl]
  · refine CC_off (r := -1) h f0 ?_ (fun hn => ?_)
    · unfold f6_bus l6_bus_79 l6_bus_80
      rw [bN_eq, if_pos hD.ok, o0, if_neg g0, cI_some, if_pos rfl, if_pos rfl]
    · unfold f7_bus l7_bus_86
      rw [bM_eq, r2 hn, y_inG, cI_some, if_neg g0, if_pos rfl]
end UPD4
