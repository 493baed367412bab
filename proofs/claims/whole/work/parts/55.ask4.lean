section ASK4
variable {M : mm_M} {q : sQ}
theorem x_settingCanBe (x y : Int32) (M : mm_M) : (∃ w v, w < 3 ∧ 1 ≤ v ∧ v ≤ ([4, 50, 200] : List Nat).getD w 0 ∧ x = nI w ∧ y = nI v ∧ f0_settingCanBe x y M = some (1, M)) ∨ (f0_settingCanBe x y M = some (0, M) ∧ ¬ ∃ w v, w < 3 ∧ 1 ≤ v ∧ v ≤ ([4, 50, 200] : List Nat).getD w 0 ∧ x = nI w ∧ y = nI v) := by
  have tab : ∀ w : Fin 3, mm_ro 0 w.1 = nI (([4, 50, 200] : List Nat).getD w.1 0) ∧ ([4, 50, 200] : List Nat).getD w.1 0 ≤ 200 := by decide +kernel
  unfold f0_settingCanBe l0_settingCanBe_27 l0_settingCanBe_28
  by_cases h1 : okR x 3 = true
  · obtain ⟨w, hw, rfl⟩ := okR_t h1 (by omega)
    obtain ⟨t1, t2⟩ := tab ⟨w, hw⟩
    simp only at t1 t2
    rw [if_neg (nI_pos (by omega)), if_neg (by rw [nx_l3, nx_le (by omega) (by omega)]; omega)]
    by_cases h2 : y < 1
    · right
      refine ⟨by rw [if_pos h2]; rfl, ?_⟩
      rintro ⟨w', v, hw', hv1, hv2, -, rfl⟩
      have := tab ⟨w', hw'⟩
      simp only at this
      rw [nx_l1, nx_lt (by omega) (by omega)] at h2
      omega
    · rw [if_neg h2, aT_in hw (by omega), t1]
      have h3 : ¬ y < 0 := fun z => h2 (Int32.lt_of_lt_of_le z (by decide))
      obtain ⟨v, hv, rfl⟩ := nx_of h3
      rw [nx_l1, nx_lt hv (by omega)] at h2
      simp only [nx_lt (show ([4, 50, 200] : List Nat).getD w 0 < 2 ^ 31 by omega) hv]
      by_cases h4 : ([4, 50, 200] : List Nat).getD w 0 < v
      · right
        refine ⟨by rw [if_pos h4]; rfl, ?_⟩
        rintro ⟨w', v', hw', hv1, hv2, e1, e2⟩
        have := tab ⟨w', hw'⟩
        simp only at this
        rw [nx_eq (by omega) (by omega)] at e1
        rw [nx_eq hv (by omega)] at e2
        subst e1; subst e2
        omega
      · left
        exact ⟨w, v, hw, by omega, by omega, rfl, rfl, by rw [if_neg h4]; rfl⟩
  · right
    have hne : ¬ ∃ w v, w < 3 ∧ 1 ≤ v ∧ v ≤ ([4, 50, 200] : List Nat).getD w 0 ∧ x = nI w ∧ y = nI v := by
      rintro ⟨w, v, hw, -, -, rfl, -⟩
      exact h1 (by rw [okR_nI (by omega) (by omega)]; exact decide_eq_true hw)
    refine ⟨?_, hne⟩
    by_cases h2 : x < 0
    · rw [if_pos h2]; rfl
    · obtain ⟨n, hn, rfl⟩ := nx_of h2
      rw [if_neg h2, if_pos]
      · rfl
      · rw [nx_l3, nx_le (by omega) hn]
        rcases Nat.lt_or_ge n 3 with z | z
        · exact absurd (by rw [okR_nI hn (by omega)]; exact decide_eq_true z) h1
        · exact z
theorem y_mostOf {w : Nat} (hw : w < 3) (M : mm_M) : f7_mostOf (nI w) M = some (nI (([4, 50, 200] : List Nat).getD w 0), M) := by
  unfold f7_mostOf l7_mostOf_21
  rcases (show w = 0 ∨ w = 1 ∨ w = 2 by omega) with rfl | rfl | rfl <;> rfl
theorem most_le {w : Nat} (hw : w < 3) : ([4, 50, 200] : List Nat).getD w 0 ≤ 200 := by
  rcases (show w = 0 ∨ w = 1 ∨ w = 2 by omega) with rfl | rfl | rfl <;> decide
theorem t_were (h : TT M q) (x y : Int32) : CC (f6_were x y) (f7_were x y) M q := by
  have hw := h.1.1
  rcases x_settingCanBe x y M with ⟨w, v, hw3, hv1, hv2, rfl, rfl, hs⟩ | ⟨hs, hno⟩
  · have hm := most_le hw3
    obtain ⟨M1, e1, e2⟩ := x_costIfSet h hw3 (show v ≤ 200 by omega)
    have hn : vN (sI M1 46 0 0) q := (h.2.2.mvK e2.high).mv (raised0 _)
    obtain ⟨M2, g1, g2, g3⟩ := y_lays (v := v) h.1 hn hw3
    obtain ⟨M3, k1, k2⟩ := y_cost hw (pOKs h.1 (show v ≤ 200 by omega)) g3
    refine CC_ask (r := scn2 q.1 (sPs q.1 w v)) (M1 := M1) (M2 := M3) h ?_ e2 ?_ (((raised0 M1).tr g2).tr k2)
    · unfold f6_were
      rw [hs, cI_some, if_neg (by decide), e1, cI_some]
    · unfold f7_were
      rw [bM_eq, y_in02, cI_some, okR_nI (by omega) (by omega), decide_eq_true hw3, it_t, if_neg (by decide), y_mostOf hw3, cI_some, nx_l1, y_inS, cI_some, okS_nI (by omega) (by omega) (by omega), decide_eq_true hv1, decide_eq_true hv2, if_pos (show (true && true) = true from rfl), if_neg (by decide), g1, cV_some, k1, cI_some]
  · refine CC_ask (r := -1) (M1 := M) (M2 := sI M 46 0 0) h ?_ KF.rf ?_ (raised0 M)
    · unfold f6_were
      rw [hs, cI_some, if_pos rfl]
    · unfold f7_were l7_were_26
      rw [bM_eq, y_in02, cI_some]
      by_cases h1 : okR x 3 = true
      · obtain ⟨w, hw3, rfl⟩ := okR_t h1 (by omega)
        have hm := most_le hw3
        have hnk : ¬ okS y 1 (([4, 50, 200] : List Nat).getD w 0) = true := by
          intro z
          obtain ⟨v, hv1, hv2, rfl⟩ := okS_t (by omega) (by omega) z
          exact hno ⟨w, v, hw3, hv1, hv2, rfl, rfl⟩
        rw [if_pos h1, if_neg (by decide), y_mostOf hw3, cI_some, show f7_in y 1 (nI (([4, 50, 200] : List Nat).getD w 0)) (sI M 46 0 0) = some (if okS y 1 (([4, 50, 200] : List Nat).getD w 0) = true then 1 else 0, sI M 46 0 0) from y_inS y 1 _ _, cI_some, if_neg hnk, if_pos rfl]
      · rw [if_neg h1, if_pos rfl]
theorem t_without (h : TT M q) (x : Int32) : CC (f6_without x) (f7_without x) M q := by
  have hw := h.1.1
  have hB := hw.B
  have hD := h.2.1.2.2.1
  have h16 := two_pow_le hB
  have r1 : ∀ {M1 : mm_M}, vN M1 q → mI M1 47 1 = nI (q.1 1) := fun hn => hn.1 1 (by omega)
  by_cases h1 : okR x (2 ^ q.1 1) = true
  · obtain ⟨w, hw3, rfl⟩ := okR_t h1 (by omega)
    obtain ⟨M1, e1, e2, e3⟩ := x_lookAt h
    have f0 : Fr (fun c => c = 26) M1 (sI M1 26 2 (nI w)) := Fr.sI rfl
    have hp : vP (sI M1 26 2 (nI w)) (mNow M) q.1 (sPw q.1 w) := by
      obtain ⟨v1, v2, v3, v4, v5, v6, -, v8, v9⟩ := e3
      exact ⟨v1, v2.mv f0 (fun c h => by omega), by rw [f0.mI (by decide)]; exact v3, by rw [f0.mI (by decide)]; exact v4, by rw [f0.mI (by decide)]; exact v5, fun k hk => by rw [f0.mI (by decide)]; exact v6 k hk, ⟨w, by omega, mI_sI_eq _ _ _ _, fun _ _ => rfl⟩, by rw [f0.mI (by decide)]; exact v8, by rw [f0.mI (by decide)]; exact v9⟩
    obtain ⟨M2, k1, k2⟩ := x_cost hw (pOKw h.1 (show w < 16 by omega)) hp
    have hK : KF M M2 := (e2.tr (KF_of' f0 (fun c h => by omega) (by decide) (by decide))).tr k2
    have hn : vN (sI M2 46 0 0) q := (h.2.2.mvK hK.high).mv (raised0 _)
    obtain ⟨M3, g1, g2, g3⟩ := y_asTold hw hn.1 hn.2.2.2.2
    have f3 : Fr (fun c => c = 46) M3 (sI M3 46 15 (nI w)) := Fr.sI rfl
    have hr : vR (sI M3 46 15 (nI w)) q.1 (sPw q.1 w) := by
      obtain ⟨v1, v2, v3, v4, v5, v6, v7⟩ := g3
      exact ⟨v1.mv f3 (by decide), by rw [mI_sI_k _ _ _ (by decide)]; exact v2, by rw [mI_sI_k _ _ _ (by decide)]; exact v3, by rw [mI_sI_k _ _ _ (by decide)]; exact v4, mI_sI_eq _ _ _ _, fun k hk => by rw [f3.mI (by decide)]; exact v6 k hk, fun k hk => by rw [f3.mI (by decide)]; exact v7 k hk⟩
    obtain ⟨M4, c1, c2⟩ := y_cost hw (pOKw h.1 (show w < 16 by omega)) hr
    refine CC_ask (r := scn2 q.1 (sPw q.1 w)) (M1 := M2) (M2 := M4) h ?_ hK ?_ ((((raised0 M2).tr g2).tr (NF_of f3 (fun c h => by omega) (mI_sI_k _ _ _ (by decide)) (mI_sI_k _ _ _ (by decide)))).tr c2)
    · unfold f6_without
      rw [if_neg (nI_pos (by omega)), bN_eq, if_pos hD.ok, bI_eq, hD.B, shl_pow' hB, if_pos (by rw [nx_lt (by omega) (by omega)]; exact hw3), bN_eq, if_pos hD.ok, e1, cV_some, bM_eq, k1, cI_some]
    · unfold f7_without
      rw [bM_eq, show aI 47 82 1 (sI M2 46 0 0) = aI 47 82 (nI 1) (sI M2 46 0 0) from rfl, aI_in (by omega) (by omega), r1 hn, shl_pow' hB, y_in0 _ (by omega), cI_some, if_pos h1, if_neg (by decide), g1, cV_some, bM_eq, c1, cI_some]
  · have hn : vN (sI M 46 0 0) q := h.2.2.mv (raised0 _)
    refine CC_ask (r := -1) (M1 := M) (M2 := sI M 46 0 0) h ?_ KF.rf ?_ (raised0 M)
    · unfold f6_without l6_without_17
      by_cases hz : x < 0
      · rw [if_pos hz]
      · obtain ⟨n, hn, rfl⟩ := nx_of hz
        rw [if_neg hz, bN_eq, if_pos hD.ok, bI_eq, hD.B, shl_pow' hB, if_neg]
        rw [nx_lt hn (by omega)]
        intro z
        exact h1 (by rw [okR_nI hn (by omega)]; exact decide_eq_true z)
    · unfold f7_without
      rw [bM_eq, show aI 47 82 1 (sI M 46 0 0) = aI 47 82 (nI 1) (sI M 46 0 0) from rfl, aI_in (by omega) (by omega), r1 hn, shl_pow' hB, y_in0 _ (by omega), cI_some, if_neg h1, if_pos rfl]
-- least
def sgs (S : sS) (w v : Nat) : Bool := decide ((sdp S (sPs S w v) (S 0) (fun _ => 0)).1 = 0)
def slst (g : Nat → Bool) : Nat → Nat → Int32
  | 0, _ => -1
  | k + 1, v => if g v = true then nI v else slst g k (v + 1)
theorem slst_first {g : Nat → Bool} : ∀ k v n, v ≤ n → n < v + k → g n = true → (∀ j, v ≤ j → j < n → g j = false) → slst g k v = nI n
  | 0, v, n, h1, h2, h3, h4 => by omega
  | k + 1, v, n, h1, h2, h3, h4 => by
    unfold slst
    by_cases hv : v = n
    · subst hv; rw [if_pos h3]
    · rw [if_neg (by rw [h4 v (Nat.le_refl _) (by omega)]; decide)]
      exact slst_first k (v + 1) n (by omega) (by omega) h3 (fun j h5 h6 => h4 j (by omega) h6)
theorem slst_none {g : Nat → Bool} : ∀ k v, (∀ j, v ≤ j → j < v + k → g j = false) → slst g k v = -1
  | 0, v, _ => rfl
  | k + 1, v, h => by
    unfold slst
    rw [if_neg (by rw [h v (Nat.le_refl _) (by omega)]; decide)]
    exact slst_none k (v + 1) (fun j h5 h6 => h j (by omega) (by omega))
theorem slst_ext {g : Nat → Bool} : ∀ k m v, k ≤ m → (∀ j, v + k ≤ j → j < v + m → g j = true → ∃ i, v ≤ i ∧ i < v + k ∧ g i = true) → slst g k v = slst g m v
  | 0, m, v, h1, h2 => by
    rw [slst_none m v (fun j h3 h4 => by
      cases hg : g j with
      | false => rfl
      | true =>
        obtain ⟨i, i1, i2, -⟩ := h2 j (by omega) h4 hg
        omega)]
    rfl
  | k + 1, 0, v, h1, h2 => by omega
  | k + 1, m + 1, v, h1, h2 => by
    unfold slst
    by_cases hv : g v = true
    · rw [if_pos hv, if_pos hv]
    · rw [if_neg hv, if_neg hv]
      refine slst_ext k m (v + 1) (by omega) (fun j h3 h4 h5 => ?_)
      obtain ⟨i, i1, i2, i3⟩ := h2 j (by omega) (by omega) h5
      by_cases hiv : i = v
      · subst hiv; exact absurd i3 hv
      · exact ⟨i, by omega, by omega, i3⟩
theorem x_fr2 {w m : Nat} (hw3 : w < 3) (hm : m ≤ 200) : ∀ (k v n : Nat) (M : mm_M), TT M q → v + k = m + 1 → k < n → ∃ M', l6_firstReady_2 n (nI w) (nI m) (nI v) M = some (slst (sgs q.1 w) k v, M') ∧ KF M M' := by
  intro k
  induction k with
  | zero =>
    intro v n M h hk hn
    obtain ⟨n, rfl⟩ : ∃ j, n = j + 1 := ⟨n - 1, by omega⟩
    refine ⟨M, ?_, KF.rf⟩
    unfold l6_firstReady_2 b6_firstReady_2
    rw [if_pos (by rw [nx_lt (by omega) (by omega)]; omega)]
    rfl
  | succ k ih =>
    intro v n M h hk hn
    obtain ⟨n, rfl⟩ : ∃ j, n = j + 1 := ⟨n - 1, by omega⟩
    have hw := h.1.1
    obtain ⟨M1, e1, e2⟩ := x_costIfSet h hw3 (show v ≤ 200 by omega)
    unfold l6_firstReady_2 b6_firstReady_2
    rw [if_neg (by rw [nx_lt (by omega) (by omega)]; omega), e1, cI_some]
    simp only [cn2_m2 hw (sPs q.1 w v)]
    unfold slst
    by_cases hg : sgs q.1 w v = true
    · rw [if_pos hg, if_neg (by unfold sgs at hg; rw [decide_eq_true_eq] at hg; exact fun z => z hg)]
      exact ⟨M1, rfl, e2⟩
    · rw [if_neg hg, if_pos (by intro z; exact hg (by unfold sgs; exact decide_eq_true z)), nx_l1, nx_add]
      obtain ⟨M2, g1, g2⟩ := ih (v + 1) n M1 (h.K e2) (by omega) (by omega)
      exact ⟨M2, g1, e2.tr g2⟩
theorem y_le18 {w : Nat} (h : sQok q) (hw3 : w < 3) : ∀ (k v n : Nat) (M : mm_M), vN M q → v + k = ([4, 50, 200] : List Nat).getD w 0 + 1 → k < n → ∃ M', l7_least_18 n (nI w) (nI v) M = some (slst (sgs q.1 w) k v, M') ∧ NF M M' := by
  have hw := h.1
  have hm := most_le hw3
  intro k
  induction k with
  | zero =>
    intro v n M hv hk hn
    obtain ⟨n, rfl⟩ : ∃ j, n = j + 1 := ⟨n - 1, by omega⟩
    refine ⟨M, ?_, NF.rf⟩
    unfold l7_least_18 b7_least_18
    rw [y_mostOf hw3, cI_some, if_pos (by rw [nx_lt (by omega) (by omega)]; omega)]
    rfl
  | succ k ih =>
    intro v n M hv hk hn
    obtain ⟨n, rfl⟩ : ∃ j, n = j + 1 := ⟨n - 1, by omega⟩
    obtain ⟨M1, e1, e2, e3⟩ := y_lays (v := v) h hv hw3
    obtain ⟨M2, c1, c2⟩ := y_cost hw (pOKs h (show v ≤ 200 by omega)) e3
    unfold l7_least_18 b7_least_18
    rw [y_mostOf hw3, cI_some, if_neg (by rw [nx_lt (by omega) (by omega)]; omega), e1, cV_some, c1, cI_some]
    simp only [cn2_neg hw (sPs q.1 w v)]
    unfold slst
    by_cases hg : sgs q.1 w v = true
    · rw [if_pos hg, if_neg (by unfold sgs at hg; rw [decide_eq_true_eq] at hg; exact fun z => z hg)]
      exact ⟨M2, rfl, e2.tr c2⟩
    · rw [if_neg hg, if_pos (by intro z; exact hg (by unfold sgs; exact decide_eq_true z)), nx_l1, nx_add]
      obtain ⟨M3, g1, g2⟩ := ih (v + 1) n M2 (hv.mv (e2.tr c2)) (by omega) (by omega)
      exact ⟨M3, g1, (e2.tr c2).tr g2⟩
theorem lim_mono {S : sS} (hw : sWF S) {i j : Nat} (hij : i ≤ j) (h : sgs S 2 i = true) : sgs S 2 j = true := by
  unfold sgs at h ⊢
  rw [decide_eq_true_eq] at h ⊢
  exact eas_lack hw (P := sPs S 2 i) (P' := sPs S 2 j) ⟨fun k hk => Nat.le_refl _, rfl, rfl, hij, rfl⟩ (S 0) (Nat.le_refl _) _ h
theorem x_ll23 : ∀ (k i lo hi n : Nat) (M : mm_M), TT M q → hi - lo ≤ k → k < n → 1 ≤ lo → lo ≤ hi → hi ≤ 200 → i + (hi - lo) ≤ 199 → sgs q.1 2 hi = true → (∀ j, j < lo → sgs q.1 2 j = false ∨ j = 0) → ∃ M' r, l6_leastLimit_23 n (nI hi) (nI lo) (nI i) M = some (nI r, M') ∧ KF M M' ∧ 1 ≤ r ∧ r ≤ 200 ∧ sgs q.1 2 r = true ∧ ∀ j, 1 ≤ j → j < r → sgs q.1 2 j = false := by
  intro k
  induction k with
  | zero =>
    intro i lo hi n M h hk hn h1 h2 h3 h4 h5 h6
    obtain ⟨n, rfl⟩ : ∃ j, n = j + 1 := ⟨n - 1, by omega⟩
    refine ⟨M, hi, ?_, KF.rf, by omega, h3, h5, fun j j1 j2 => (h6 j (by omega)).resolve_right (by omega)⟩
    unfold l6_leastLimit_23 b6_leastLimit_23 l6_leastLimit_73
    rw [show aT (α := Int32 × mm_M) 0 3 2 = aT 0 3 (nI 2) from rfl, aT_in (by omega) (by omega), show mm_ro 0 2 = nI 200 from rfl, if_neg (by rw [nx_le (by omega) (by omega)]; omega), if_pos (by rw [nx_le (by omega) (by omega)]; omega)]
  | succ k ih =>
    intro i lo hi n M h hk hn h1 h2 h3 h4 h5 h6
    obtain ⟨n, rfl⟩ : ∃ j, n = j + 1 := ⟨n - 1, by omega⟩
    have hw := h.1.1
    unfold l6_leastLimit_23 b6_leastLimit_23 l6_leastLimit_73 l6_leastLimit_67
    rw [show aT (α := Int32 × mm_M) 0 3 2 = aT 0 3 (nI 2) from rfl, aT_in (by omega) (by omega), show mm_ro 0 2 = nI 200 from rfl, if_neg (by rw [nx_le (by omega) (by omega)]; omega)]
    by_cases hlt : hi ≤ lo
    · refine ⟨M, hi, ?_, KF.rf, by omega, h3, h5, fun j j1 j2 => (h6 j (by omega)).resolve_right (by omega)⟩
      rw [if_pos (by rw [nx_le (by omega) (by omega)]; exact hlt)]
    · rw [if_neg (by rw [nx_le (by omega) (by omega)]; exact hlt), bI_eq, nx_add, show (2 : Int32) = nI 2 from rfl, nx_div (by omega) (by omega)]
      obtain ⟨M1, e1, e2⟩ := x_costIfSet h (show 2 < 3 by omega) (show (lo + hi) / 2 ≤ 200 by omega)
      rw [e1, cI_some]
      simp only [show (scn2 q.1 (sPs q.1 2 ((lo + hi) / 2)) = -nI 2) = ¬ (sdp q.1 (sPs q.1 2 ((lo + hi) / 2)) (q.1 0) (fun _ => 0)).1 = 0 from cn2_m2 hw (sPs q.1 2 ((lo + hi) / 2))]
      by_cases hg : sgs q.1 2 ((lo + hi) / 2) = true
      · rw [if_neg (by unfold sgs at hg; rw [decide_eq_true_eq] at hg; exact fun z => z hg), nx_l1, nx_add]
        obtain ⟨M2, r, g1, g2, g3⟩ := ih (i + 1) lo ((lo + hi) / 2) n M1 (h.K e2) (by omega) (by omega) h1 (by omega) (by omega) (by omega) hg h6
        exact ⟨M2, r, g1, e2.tr g2, g3⟩
      · rw [if_pos (by intro z; exact hg (by unfold sgs; exact decide_eq_true z)), nx_l1, nx_add, nx_add, bI_eq]
        obtain ⟨M2, r, g1, g2, g3⟩ := ih (i + 1) ((lo + hi) / 2 + 1) hi n M1 (h.K e2) (by omega) (by omega) (by omega) (by omega) h3 (by omega) h5 (fun j hj => by
          cases hj2 : sgs q.1 2 j with
          | false => exact Or.inl rfl
          | true => exact absurd (lim_mono hw (show j ≤ (lo + hi) / 2 by omega) hj2) hg)
        exact ⟨M2, r, g1, e2.tr g2, g3⟩
-- POWER above all RATES
theorem x_tr14 {S : sS} {d : Nat} (hw : sWF S) {M : mm_M} (hv : vD M d S) {c : Nat} (hc : c < S 2) (rec4 : Nat → Int32 → Int32 → mm_M → Option (Int32 × mm_M)) : ∀ (k j n t : Nat), j + k = S (14 + 9 * c) → k < n → 1 ≤ t → t ≤ 50 → ∃ t', l0_topRate_14 rec4 n d (nI t) (nI c) (nI j) M = rec4 d (nI t') (nI (c + 1)) M ∧ t ≤ t' ∧ t' ≤ 50 ∧ ∀ i, j ≤ i → i < S (14 + 9 * c) → S (14 + 9 * c + 2 + 2 * i) ≤ t' := by
  have hC := hw.C
  have hcr := hw.crv c hc
  intro k
  induction k with
  | zero =>
    intro j n t hk hn h1 h2
    obtain ⟨n, rfl⟩ : ∃ j, n = j + 1 := ⟨n - 1, by omega⟩
    refine ⟨t, ?_, Nat.le_refl _, h2, fun i i1 i2 => by omega⟩
    unfold l0_topRate_14 b0_topRate_14
    rw [aI_in (by omega) (by omega), hv.pc c (by omega), if_pos (by rw [nx_le (by omega) (by omega)]; omega), nx_l1, nx_add]
  | succ k ih =>
    intro j n t hk hn h1 h2
    obtain ⟨n, rfl⟩ : ∃ j, n = j + 1 := ⟨n - 1, by omega⟩
    have hr := (hcr.2.2 j (by omega)).2
    obtain ⟨t', g1, g2, g3, g4⟩ := ih (j + 1) n (max t (S (14 + 9 * c + 2 + 2 * j))) (by omega) (by omega) (by omega) (by omega)
    refine ⟨t', ?_, by omega, g3, fun i i1 i2 => ?_⟩
    · unfold l0_topRate_14 b0_topRate_14
      rw [aI_in (by omega) (by omega), hv.pc c (by omega), if_neg (by rw [nx_le (by omega) (by omega)]; omega), nx_l4, nx_mul, nx_add, aI_in (by omega) (by omega), show c * 4 + j = 4 * c + j by omega, hv.ra c j (by omega) (by omega), bI_eq, mx_nI (by omega) (by omega), nx_l1, nx_add]
      exact g1
    · by_cases hij : i = j
      · subst hij; omega
      · exact g4 i (by omega) i2
theorem x_tr4 {S : sS} {d : Nat} (hw : sWF S) {M : mm_M} (hv : vD M d S) : ∀ (k c n t : Nat), c + k = S 2 → k < n → 1 ≤ t → t ≤ 50 → ∃ t', l0_topRate_4 n d (nI t) (nI c) M = some (nI t', M) ∧ t ≤ t' ∧ t' ≤ 50 ∧ ∀ c', c ≤ c' → c' < S 2 → ∀ i, i < S (14 + 9 * c') → S (14 + 9 * c' + 2 + 2 * i) ≤ t' := by
  have hC := hw.C
  intro k
  induction k with
  | zero =>
    intro c n t hk hn h1 h2
    obtain ⟨n, rfl⟩ : ∃ j, n = j + 1 := ⟨n - 1, by omega⟩
    refine ⟨t, ?_, Nat.le_refl _, h2, fun i i1 i2 => by omega⟩
    unfold l0_topRate_4 b0_topRate_4
    rw [bI_eq, hv.C, if_pos (by rw [nx_le (by omega) (by omega)]; omega)]
  | succ k ih =>
    intro c n t hk hn h1 h2
    obtain ⟨n, rfl⟩ : ∃ j, n = j + 1 := ⟨n - 1, by omega⟩
    have hcr := (hw.crv c (by omega)).1
    obtain ⟨t1, f1, f2, f3, f4⟩ := x_tr14 hw hv (show c < S 2 by omega) (l0_topRate_4 n) (S (14 + 9 * c)) 0 FU t (by omega) (by have := FU_big; omega) h1 h2
    obtain ⟨t', g1, g2, g3, g4⟩ := ih (c + 1) n t1 (by omega) (by omega) (by omega) f3
    refine ⟨t', ?_, by omega, g3, fun c' i1 i2 i i3 => ?_⟩
    · unfold l0_topRate_4 b0_topRate_4
      rw [bI_eq, hv.C, if_neg (by rw [nx_le (by omega) (by omega)]; omega), nx_lit0, f1]
      exact g1
    · by_cases hij : c' = c
      · subst hij
        have := f4 i (by omega) i3
        omega
      · exact g4 c' (by omega) i2 i i3
theorem top_al {S : sS} (hw : sWF S) {t v : Nat} (ht : ∀ c', c' < S 2 → ∀ i, i < S (14 + 9 * c') → S (14 + 9 * c' + 2 + 2 * i) ≤ t) (hv : t ≤ v) (h : sgs S 1 v = true) : sgs S 1 t = true := by
  unfold sgs at h ⊢
  rw [decide_eq_true_eq] at h ⊢
  have hT := hw.T
  have al : sAl S S (sPs S 1 v) (sPs S 1 t) := by
    refine ⟨rfl, rfl, fun _ _ => rfl, fun _ _ => ⟨rfl, rfl, rfl, rfl⟩, fun b lev hb => ?_, rfl, rfl, rfl⟩
    show sgain S v b lev = sgain S t b lev
    have h1 := (hw.bus b hb).1
    have hcr := (hw.crv _ h1).1
    have hk := spick_le S (S (50 + 6 * b)) (scap S b) lev (S (14 + 9 * S (50 + 6 * b)) - 1)
    have hr : srate S b lev ≤ t := ht _ h1 _ (by omega)
    unfold sgain
    omega
  rw [← al_dp al (by omega) (S 0) (Nat.le_refl _)]
  exact h
theorem t_least (h : TT M q) (x : Int32) : CC (f6_least x) (f7_least x) M q := by
  have hw := h.1.1
  have hD := h.2.1.2.2.1
  have hF := FU_big
  -- the reference, whatever the class did
  have ref : ∀ {w : Nat} {M1 : mm_M}, w < 3 → KF M M1 → ∃ M2, f7_least (nI w) M1 = some (slst (sgs q.1 w) (([4, 50, 200] : List Nat).getD w 0) 1, M2) ∧ NF M1 M2 := by
    intro w M1 hw3 hk
    have hm := most_le hw3
    have hn : vN (sI M1 46 0 0) q := (h.2.2.mvK hk.high).mv (raised0 _)
    obtain ⟨M2, g1, g2⟩ := y_le18 h.1 hw3 (([4, 50, 200] : List Nat).getD w 0) 1 FU _ hn (by omega) (by omega)
    refine ⟨M2, ?_, (raised0 M1).tr g2⟩
    unfold f7_least
    rw [bM_eq, y_in02, cI_some, okR_nI (by omega) (by omega), decide_eq_true hw3, it_t, if_neg (by decide)]
    exact g1
  by_cases h1 : okR x 3 = true
  · obtain ⟨w, hw3, rfl⟩ := okR_t h1 (by omega)
    rcases (show w = 0 ∨ w = 1 ∨ w = 2 by omega) with rfl | rfl | rfl
    · obtain ⟨M1, e1, e2⟩ := x_fr2 (q := q) (w := 0) (m := 4) (by omega) (by omega) 4 1 FU M h (by omega) (by omega)
      obtain ⟨M2, g1, g2⟩ := ref (w := 0) (by omega) e2
      refine CC_ask (r := slst (sgs q.1 0) 4 1) (M1 := M1) (M2 := M2) h ?_ e2 g1 g2
      unfold f6_least f6_firstReady
      rw [if_pos (show nI 0 = 0 from rfl), show aT (α := Int32 × mm_M) 0 3 0 = aT 0 3 (nI 0) from rfl, aT_in (by omega) (by omega), show mm_ro 0 0 = nI 4 from rfl, show l6_firstReady_2 FU 0 (nI 4) 1 M = some (slst (sgs q.1 0) 4 1, M1) from e1, cI_some]
    · obtain ⟨t, t1, t2, t3, t4⟩ := x_tr4 hw hD (q.1 2) 0 FU 1 (by omega) (by have := hw.C; omega) (by omega) (by omega)
      obtain ⟨M1, e1, e2⟩ := x_fr2 (q := q) (w := 1) (m := t) (by omega) (by omega) t 1 FU M h (by omega) (by omega)
      obtain ⟨M2, g1, g2⟩ := ref (w := 1) (by omega) e2
      have heq : slst (sgs q.1 1) t 1 = slst (sgs q.1 1) 50 1 := slst_ext t 50 1 t3 (fun j j1 j2 j3 => ⟨t, t2, by omega, top_al hw (fun c' hc' i hi => t4 c' (by omega) hc' i hi) (by omega) j3⟩)
      refine CC_ask (r := slst (sgs q.1 1) t 1) (M1 := M1) (M2 := M2) h ?_ e2 (by rw [heq]; exact g1) g2
      unfold f6_least f6_firstReady f0_topRate
      rw [if_neg (show ¬ nI 1 = 0 by decide), if_pos (show nI 1 = 1 from rfl), bN_eq, if_pos hD.ok, if_pos hD.ok, show l0_topRate_4 FU (mNow M) 1 0 M = some (nI t, M) from t1, cI_some, show l6_firstReady_2 FU 1 (nI t) 1 M = some (slst (sgs q.1 1) t 1, M1) from e1, cI_some]
    · obtain ⟨M1, e1, e2⟩ := x_costIfSet h (show 2 < 3 by omega) (show 200 ≤ 200 by omega)
      by_cases hg : sgs q.1 2 200 = true
      · obtain ⟨M2, r, f1, f2, f3, f4, f5, f6⟩ := x_ll23 (q := q) 199 0 1 200 FU M1 (h.K e2) (by omega) (by omega) (by omega) (by omega) (by omega) (by omega) hg (fun j hj => Or.inr (by omega))
        obtain ⟨M3, g1, g2⟩ := ref (w := 2) (by omega) (e2.tr f2)
        have heq : slst (sgs q.1 2) 200 1 = nI r := slst_first 200 1 r f3 (by omega) f5 f6
        refine CC_ask (r := nI r) (M1 := M2) (M2 := M3) h ?_ (e2.tr f2) (by rw [← heq]; exact g1) g2
        unfold f6_least f6_leastLimit
        rw [if_neg (show ¬ nI 2 = 0 by decide), if_neg (show ¬ nI 2 = 1 by decide), if_pos (show nI 2 = 2 from rfl), show aT (α := Int32 × mm_M) 0 3 2 = aT 0 3 (nI 2) from rfl, aT_in (by omega) (by omega), show mm_ro 0 2 = nI 200 from rfl, show f6_costIfSet 2 (nI 200) M = some (scn2 q.1 (sPs q.1 2 200), M1) from e1, cI_some, if_neg (by rw [cn2_m2 hw]; unfold sgs at hg; rw [decide_eq_true_eq] at hg; exact fun z => z hg), show l6_leastLimit_23 FU (nI 200) 1 0 M1 = some (nI r, M2) from f1, cI_some]
      · obtain ⟨M3, g1, g2⟩ := ref (w := 2) (by omega) e2
        have heq : slst (sgs q.1 2) 200 1 = -1 := slst_none 200 1 (fun j j1 j2 => by
          cases hj : sgs q.1 2 j with
          | false => rfl
          | true => exact absurd (lim_mono hw (show j ≤ 200 by omega) hj) hg)
        refine CC_ask (r := -1) (M1 := M1) (M2 := M3) h ?_ e2 (by rw [← heq]; exact g1) g2
        unfold f6_least f6_leastLimit
        rw [if_neg (show ¬ nI 2 = 0 by decide), if_neg (show ¬ nI 2 = 1 by decide), if_pos (show nI 2 = 2 from rfl), show aT (α := Int32 × mm_M) 0 3 2 = aT 0 3 (nI 2) from rfl, aT_in (by omega) (by omega), show mm_ro 0 2 = nI 200 from rfl, show f6_costIfSet 2 (nI 200) M = some (scn2 q.1 (sPs q.1 2 200), M1) from e1, cI_some, if_pos (by rw [cn2_m2 hw]; intro z; exact hg (by unfold sgs; exact decide_eq_true z)), cI_some]
  · have ne : ∀ j, j < 3 → ¬ x = nI j := fun j hj zz => h1 (by rw [zz, okR_nI (by omega) (by omega)]; exact decide_eq_true hj)
    refine CC_ask (r := -1) (M1 := M) (M2 := sI M 46 0 0) h ?_ KF.rf ?_ (raised0 M)
    · unfold f6_least
      rw [if_neg (show ¬ x = 0 from ne 0 (by omega)), if_neg (show ¬ x = 1 from ne 1 (by omega)), if_neg (show ¬ x = 2 from ne 2 (by omega))]
    · unfold f7_least
      rw [bM_eq, y_in02, cI_some, if_neg h1, if_pos rfl]
end ASK4
