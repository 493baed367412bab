section UPD3
variable {M : mm_M} {q : sQ}
theorem x_fl5 {a : Nat} (ha : mm_n a = 8) (v : Int32) : ∀ (k s n : Nat) (M : mm_M), s + k = 8 → k < n → (∀ j, j < s → mI M a j = v) → ∃ M', lJ_fill_53178_5 n a v (nI s) (nI 8) M = some M' ∧ Fr (fun c => c = a) M M' ∧ ∀ j, j < 8 → mI M' a j = v := by
  intro k
  induction k with
  | zero =>
    intro s n M hk hn h
    obtain ⟨n, rfl⟩ : ∃ j, n = j + 1 := ⟨n - 1, by omega⟩
    refine ⟨M, ?_, Fr.rf, fun j hj => h j (by omega)⟩
    unfold lJ_fill_53178_5 bJ_fill_53178_5
    rw [if_pos (by rw [nx_le (by omega) (by omega)]; omega)]
  | succ k ih =>
    intro s n M hk hn h
    obtain ⟨n, rfl⟩ : ∃ j, n = j + 1 := ⟨n - 1, by omega⟩
    have f1 : Fr (fun c => c = a) M (sI M a s v) := Fr.sI rfl
    obtain ⟨M', e1, e2, e3⟩ := ih (s + 1) n (sI M a s v) (by omega) (by omega) (fun j hj => by
      by_cases hjs : j = s
      · subst hjs; rw [mI_sI_eq]
      · rw [mI_sI_k _ _ _ hjs]; exact h j (by omega))
    refine ⟨M', ?_, f1.tr e2, e3⟩
    unfold lJ_fill_53178_5 bJ_fill_53178_5
    rw [if_neg (by rw [nx_le (by omega) (by omega)]; omega), ha, uI_in (by omega) (by omega), nx_l1, nx_add]
    exact e1
theorem x_fill {a : Nat} (hA : isA a = true) (ha : mm_n a = 8) (v : Int32) (M : mm_M) : ∃ M', fJ_fill_53178 a v M = some M' ∧ Fr (fun c => c = a) M M' ∧ ∀ j, j < 8 → mI M' a j = v := by
  obtain ⟨M', e1, e2⟩ := x_fl5 ha v 8 0 FU M (by omega) (by have := FU_big; omega) (fun j hj => by omega)
  refine ⟨M', ?_, e2⟩
  unfold fJ_fill_53178
  rw [if_pos hA, bI_eq, ha]
  exact e1
theorem y_cl12 {S : sS} {x : Int32} : ∀ (k s n : Nat) (M : mm_M), s + k = 8 → k < n → vM M (rowS S 74 s (fun _ => 0)) → ∃ M', l7_clear_12 n x (nI s) M = some (x, M') ∧ Fr (fun c => c = 47) M M' ∧ vM M' (rowS S 74 8 (fun _ => 0)) := by
  intro k
  induction k with
  | zero =>
    intro s n M hk hn h
    obtain ⟨n, rfl⟩ : ∃ j, n = j + 1 := ⟨n - 1, by omega⟩
    have hs : s = 8 := by omega
    subst hs
    refine ⟨M, ?_, Fr.rf, h⟩
    unfold l7_clear_12 b7_clear_12
    rw [nx_l8, if_pos (by rw [nx_le (by omega) (by omega)]; omega)]
  | succ k ih =>
    intro s n M hk hn h
    obtain ⟨n, rfl⟩ : ∃ j, n = j + 1 := ⟨n - 1, by omega⟩
    have f1 : Fr (fun c => c = 47) M (sI M 47 (74 + s) (nI 0)) := Fr.sI rfl
    have h1 := vM_upd h (k := 74 + s) 0
    rw [show updS (rowS S 74 s (fun _ => 0)) (74 + s) 0 = rowS S 74 (s + 1) (fun _ => 0) from rowS_succ S 74 s (fun _ => 0)] at h1
    obtain ⟨M', e1, e2, e3⟩ := ih (s + 1) n _ (by omega) (by omega) h1
    refine ⟨M', ?_, f1.tr e2, e3⟩
    unfold l7_clear_12 b7_clear_12
    rw [nx_l8, if_neg (by rw [nx_le (by omega) (by omega)]; omega), nx_l74, nx_add, uI_in (by omega) (by omega), nx_l1, nx_add]
    exact e1
theorem t_clear (h : TT M q) : CC (fun M => f6_clear M) (fun M => f7_clear M) M q := by
  have hw := h.1.1
  have hD := h.2.1.2.2.1
  have hd := isD_le hD.ok
  have hp : ∀ s, s < 8 → (fun _ : Nat => 0) s < 2 ^ q.1 1 := fun s _ => two_pow_pos _
  have ho : ∀ s, q.1 0 ≤ s → s < 8 → (fun _ : Nat => 0) s = 0 := fun _ _ _ => rfl
  obtain ⟨M1, e1, e2, e3⟩ := x_now h
  obtain ⟨a1, a2, a3⟩ := dA hD.ok
  obtain ⟨M2, g1, g2, g3⟩ := x_fill a1 a2 (nI 0) M1
  have en : mNow M1 = mNow M := e2.2.1
  have hD1 : vD M1 (mNow M) q.1 := hD.KF e2
  have hE : vE M2 (mNow M) (rowS q.1 (74 + 0) 8 (fun _ => 0)) := vE_rng hD1.E (i := 3) (a := 74) (k0 := 0) (n := 8) (g := fun _ => 0) (by omega) (fun k => rfl) (by decide) (fun j hj => by
    have hj : j < 8 := hj
    rw [g3 j hj, if_pos (by omega)]) (fun i' h1 h2 j => g2.mI (fun z => h2 (by omega)) j)
  have h1 := h.K e2
  have hk : vK M2 (rowS q.1 74 8 (fun _ => 0), q.2) := vK_plan h1.2.1 hw (fun j hj => (rowS_out _ _ (Or.inl hj)).symm) (by rw [en]; exact hE.D) (fun c c1 c2 => g2.1 c (fun z => by omega)) g2.2.2 (by rw [g2.mI (fun z => by omega)]; exact h1.2.1.2.2.2.2.2.2.1) (by rw [g2.mI (fun z => by omega)]; exact h1.2.1.2.2.2.2.2.2.2.1)
  have hn2 : vN (sI M2 46 0 0) q := (h1.2.2.mvK (fun c hc => g2.1 c (fun z => by omega))).mv (raised0 _)
  obtain ⟨M3, k1, k2, k3⟩ := y_cl12 (S := q.1) (x := nI (schg q.1 (fun s => q.1 (74 + s)))) 8 0 FU (sI M2 46 0 0) (by omega) (by have := FU_big; omega) (by rw [rowS_0]; exact hn2.1)
  refine CC_mk (r := nI (schg q.1 (fun s => q.1 (74 + s)))) (M1 := M2) (M2 := M3) ?_ hk (by show mG M2 = mG M; rw [← e2.2.2.2.1]; unfold mG; rw [g2.2.2]) ?_ (vN_told hn2 k3 k2 (by decide) (by decide) (by decide)) (fun c hc => by rw [k2.1 c (fun z => by omega)]; exact (raised0 M2).low c hc) (by rw [k2.2.2]; rfl) (sQ_plan h.1 hp ho)
  · show f6_clear M = _
    unfold f6_clear
    rw [bN_eq, if_pos hD.ok, bN_eq, if_pos hD.ok, e1, cV_some, bN_eq, en, if_pos hD.ok, show fJ_fill_53178 (mNow M + 3) 0 M1 = some M2 from g1, cV_some, bI_eq, g2.mI (fun z => by omega), e3.2.1]
  · show f7_clear M2 = _
    unfold f7_clear
    rw [bM_eq, y_chargesOf hw hn2.1, cI_some]
    exact k1
-- drop
theorem drop_tab : ∀ n : Fin 4, ∀ s : Fin 16, s.1 < 2 ^ (n.1 + 1) → (nI s.1 &&& (nI (2 ^ n.1) ^^^ (-1))) = nI (s.1 % 2 ^ n.1) ∧ (nI s.1 &&& (nI (2 ^ n.1) - 1)) = nI (s.1 % 2 ^ n.1) ∧ s.1 % 2 ^ n.1 < 2 ^ n.1 := by decide +kernel
theorem x_rl19 {d B : Nat} {f : Nat → Nat} (hd : isD d = true) (hB : B < 4) (hf : ∀ j, j < 8 → f j < 2 ^ (B + 1)) : ∀ (k s n : Nat) (M : mm_M), s + k = 8 → k < n → mI M d 2 = nI B → (∀ j, j < 8 → mI M (d + 3) j = nI (if j < s then f j % 2 ^ B else f j)) → ∃ M', l0_removeLast_19 n d (nI s) M = some M' ∧ Fr (fun c => c = d + 3) M M' ∧ ∀ j, j < 8 → mI M' (d + 3) j = nI (f j % 2 ^ B) := by
  have h16 : 2 ^ (B + 1) ≤ 16 := two_pow_le (by omega)
  intro k
  induction k with
  | zero =>
    intro s n M hk hn h2 h3
    obtain ⟨n, rfl⟩ : ∃ j, n = j + 1 := ⟨n - 1, by omega⟩
    refine ⟨M, ?_, Fr.rf, fun j hj => by rw [h3 j hj, if_pos (by omega)]⟩
    unfold l0_removeLast_19 b0_removeLast_19 l0_removeLast_48
    rw [nx_l8, if_pos (by rw [nx_le (by omega) (by omega)]; omega)]
  | succ k ih =>
    intro s n M hk hn h2 h3
    obtain ⟨n, rfl⟩ : ∃ j, n = j + 1 := ⟨n - 1, by omega⟩
    have hs := hf s (by omega)
    obtain ⟨t1, -, t3⟩ := drop_tab ⟨B, hB⟩ ⟨f s, by omega⟩ hs
    simp only at t1 t3
    have f1 : Fr (fun c => c = d + 3) M (sI M (d + 3) s (nI (f s % 2 ^ B))) := Fr.sI rfl
    obtain ⟨M', e1, e2, e3⟩ := ih (s + 1) n (sI M (d + 3) s (nI (f s % 2 ^ B))) (by omega) (by omega) (by rw [f1.mI (fun z => by omega)]; exact h2) (fun j hj => by
      by_cases hjs : j = s
      · subst hjs; rw [mI_sI_eq, if_pos (by omega)]
      · rw [mI_sI_k _ _ _ hjs, h3 j hj]
        by_cases hlt : j < s
        · rw [if_pos hlt, if_pos (by omega)]
        · rw [if_neg hlt, if_neg (by omega)])
    refine ⟨M', ?_, f1.tr e2, e3⟩
    unfold l0_removeLast_19 b0_removeLast_19
    rw [nx_l8, if_neg (by rw [nx_le (by omega) (by omega)]; omega), aI_in (by omega) (by omega), h3 s (by omega), if_neg (by omega), bI_eq, h2, shl_pow' (show B ≤ 4 by omega), t1, uI_in (by omega) (by omega), show (1 : Int32) = nI 1 from rfl, nx_add]
    exact e1
theorem y_dr28 {S : sS} {B : Nat} (hB : B < 4) (h1 : S 1 = B) (hf : ∀ j, j < 8 → S (74 + j) < 2 ^ (B + 1)) : ∀ (k s n : Nat) (M : mm_M), s + k = 8 → k < n → vM M (rowS S 74 s (fun j => S (74 + j) % 2 ^ B)) → ∃ M', l7_drop_28 n (nI s) M = some (nI B, M') ∧ Fr (fun c => c = 47) M M' ∧ vM M' (rowS S 74 8 (fun j => S (74 + j) % 2 ^ B)) := by
  have h16 : 2 ^ (B + 1) ≤ 16 := two_pow_le (by omega)
  intro k
  induction k with
  | zero =>
    intro s n M hk hn h
    obtain ⟨n, rfl⟩ : ∃ j, n = j + 1 := ⟨n - 1, by omega⟩
    have hs : s = 8 := by omega
    subst hs
    have r1 : mI M 47 1 = nI B := by rw [h 1 (by omega), rowS_out _ _ (Or.inl (by omega)), h1]
    refine ⟨M, ?_, Fr.rf, h⟩
    unfold l7_drop_28 b7_drop_28
    rw [nx_l8, if_pos (by rw [nx_le (by omega) (by omega)]; omega), show aI (α := Int32 × mm_M) 47 82 1 M = aI 47 82 (nI 1) M from rfl, aI_in (by omega) (by omega), r1]
  | succ k ih =>
    intro s n M hk hn h
    obtain ⟨n, rfl⟩ : ∃ j, n = j + 1 := ⟨n - 1, by omega⟩
    have r1 : mI M 47 1 = nI B := by rw [h 1 (by omega), rowS_out _ _ (Or.inl (by omega)), h1]
    have rs : mI M 47 (74 + s) = nI (S (74 + s)) := by rw [h _ (by omega), rowS_out _ _ (Or.inr (by omega))]
    have hs := hf s (by omega)
    obtain ⟨-, t2, t3⟩ := drop_tab ⟨B, hB⟩ ⟨S (74 + s), by omega⟩ hs
    simp only at t2 t3
    have f1 : Fr (fun c => c = 47) M (sI M 47 (74 + s) (nI (S (74 + s) % 2 ^ B))) := Fr.sI rfl
    have h1' := vM_upd h (k := 74 + s) (S (74 + s) % 2 ^ B)
    rw [show updS (rowS S 74 s (fun j => S (74 + j) % 2 ^ B)) (74 + s) (S (74 + s) % 2 ^ B) = rowS S 74 (s + 1) (fun j => S (74 + j) % 2 ^ B) from rowS_succ S 74 s (fun j => S (74 + j) % 2 ^ B)] at h1'
    obtain ⟨M', e1, e2, e3⟩ := ih (s + 1) n _ (by omega) (by omega) h1'
    refine ⟨M', ?_, f1.tr e2, e3⟩
    unfold l7_drop_28 b7_drop_28
    rw [nx_l8, if_neg (by rw [nx_le (by omega) (by omega)]; omega), nx_l74, nx_add, aI_in (by omega) (by omega), rs, show aI (α := Int32 × mm_M) 47 82 1 M = aI 47 82 (nI 1) M from rfl, aI_in (by omega) (by omega), r1, shl_pow' (show B ≤ 4 by omega), t2, uI_in (by omega) (by omega), show nI s + 1 = nI (s + 1) from nx_add s 1]
    exact e1
theorem t_drop (h : TT M q) : CC (fun M => f6_drop M) (fun M => f7_drop M) M q := by
  have hw := h.1.1
  have hB := hw.B
  have hD := h.2.1.2.2.1
  have hd := isD_le hD.ok
  by_cases h0 : q.1 1 = 0
  · have hn0 : vN (sI M 46 0 0) q := h.2.2.mv (raised0 M)
    have r1 : mI (sI M 46 0 0) 47 1 = nI (q.1 1) := hn0.1 1 (by omega)
    refine CC_ask (r := -1) (M1 := M) (M2 := sI M 46 0 0) h ?_ KF.rf ?_ (raised0 M)
    · show f6_drop M = _
      unfold f6_drop
      rw [bN_eq, if_pos hD.ok, bI_eq, hD.B, h0, if_pos (show nI 0 = 0 from rfl)]
    · show f7_drop M = _
      unfold f7_drop
      rw [bM_eq, show aI (α := Int32 × mm_M) 47 82 1 (sI M 46 0 0) = aI 47 82 (nI 1) (sI M 46 0 0) from rfl, aI_in (by omega) (by omega), r1, h0, if_pos (show nI 0 = 0 from rfl)]
  · obtain ⟨B, hBe⟩ : ∃ B, q.1 1 = B + 1 := ⟨q.1 1 - 1, by omega⟩
    have hB4 : B < 4 := by omega
    have hne : ¬ nI (q.1 1) = 0 := by rw [nx_lit0, nx_eq (by omega) (by omega)]; exact h0
    have hsub : nI (q.1 1) - 1 = nI B := by rw [hBe]; exact nI_pred B
    have hset : ∀ j, j < 8 → q.1 (74 + j) < 2 ^ (B + 1) := fun j hj => by rw [← hBe]; exact hw.set j hj
    have h16 : 2 ^ (B + 1) ≤ 16 := two_pow_le (by omega)
    -- what is told behind it
    obtain ⟨S1, hS1⟩ : ∃ S1, S1 = updS q.1 1 B := ⟨_, rfl⟩
    have s1 : S1 1 = B := by rw [hS1, updS_eq]
    have sne : ∀ j, j ≠ 1 → S1 j = q.1 j := fun j hj => by rw [hS1, updS_ne _ _ hj]
    have hset1 : ∀ j, j < 8 → S1 (74 + j) < 2 ^ (B + 1) := fun j hj => by rw [sne _ (by omega)]; exact hset j hj
    obtain ⟨S', hS'⟩ : ∃ S', S' = rowS S1 74 8 (fun j => S1 (74 + j) % 2 ^ B) := ⟨_, rfl⟩
    have sl : ∀ j, j < 74 → S' j = S1 j := fun j hj => by rw [hS', rowS_out _ _ (Or.inl hj)]
    have sp : ∀ s, s < 8 → S' (74 + s) = q.1 (74 + s) % 2 ^ B := fun s hs => by
      rw [hS', rowS_in _ _ (by omega) (by omega), show 74 + s - 74 = s by omega]
      show S1 (74 + s) % 2 ^ B = _
      rw [sne _ (by omega)]
    have hwf : sWF S' := by
      refine sWF_mk hw (by rw [sl 0 (by omega), sne 0 (by omega)]) (by rw [sl 2 (by omega), sne 2 (by omega)]) (fun j h1 h2 => by rw [sl j (by omega), sne j (by omega)]) (by rw [sl 1 (by omega), s1]; omega) (by rw [sl 3 (by omega), sne 3 (by omega)]; exact hw.plug) (by rw [sl 4 (by omega), sne 4 (by omega)]; exact hw.pow) (by rw [sl 5 (by omega), sne 5 (by omega)]; exact hw.lim) (fun s hs => by rw [sl _ (by omega), sne _ (by omega)]; exact hw.price s hs) (fun b hb => ?_) (fun b hb => by rw [sl _ (by omega), sne _ (by omega)]; exact hw.com b hb) (fun s hs => ?_) (fun s h1 h2 => ?_)
      · rw [sl 1 (by omega), s1] at hb
        rw [sl (50 + 6 * b) (by omega), sne (50 + 6 * b) (by omega), sl (50 + 6 * b + 1) (by omega), sne (50 + 6 * b + 1) (by omega), sl (50 + 6 * b + 2) (by omega), sne (50 + 6 * b + 2) (by omega), sl (50 + 6 * b + 3) (by omega), sne (50 + 6 * b + 3) (by omega), sl (50 + 6 * b + 4) (by omega), sne (50 + 6 * b + 4) (by omega), sl (50 + 6 * b + 5) (by omega), sne (50 + 6 * b + 5) (by omega), sl 2 (by omega), sne 2 (by omega), sl 0 (by omega), sne 0 (by omega)]
        exact hw.bus b (by omega)
      · rw [sp s hs, sl 1 (by omega), s1]
        exact Nat.mod_lt _ (two_pow_pos _)
      · rw [sl 0 (by omega), sne 0 (by omega)] at h1
        rw [sp s h2, hw.out s h1 h2, Nat.zero_mod]
    have hqok : sQok (S', q.2) := ⟨hwf, fun k hk => by
      show S' k = 0
      rw [hS', rowS_out _ _ (Or.inr (by omega)), sne k (by omega)]
      exact h.1.2.1 k hk, h.1.2.2⟩
    -- the class
    have hE1 : vE (sI M (mNow M + 0) 2 (nI B)) (mNow M) (updS q.1 (dix 0 2) B) := vE_upd hD.E (i := 0) (k := 2) (by omega) (by decide) B
    have hE1 : vE (sI M (mNow M) 2 (nI B)) (mNow M) S1 := by rw [hS1]; exact hE1
    obtain ⟨M2, g1, g2, g3⟩ := x_rl19 (f := fun j => q.1 (74 + j)) hD.ok hB4 hset 8 0 FU (sI M (mNow M) 2 (nI B)) (by omega) (by have := FU_big; omega) (mI_sI_eq _ _ _ _) (fun j hj => by
      rw [if_neg (by omega), mI_sI_c _ _ _ _ (by omega)]
      exact hD.plan j hj)
    have hE2 : vE M2 (mNow M) (rowS S1 (74 + 0) 8 (fun j => S1 (74 + j) % 2 ^ B)) := vE_rng hE1 (i := 3) (a := 74) (k0 := 0) (n := 8) (g := fun j => S1 (74 + j) % 2 ^ B) (by omega) (fun k => rfl) (by decide) (fun j hj => by
      have hj : j < 8 := hj
      rw [g3 j hj, if_pos (by omega), Nat.sub_zero, sne _ (by omega)]) (fun i' h1 h2 j => g2.mI (fun z => h2 (by omega)) j)
    have hD2 : vD M2 (mNow M) S' := by rw [hS']; exact hE2.D
    have f0 : Fr (fun c => c = mNow M) M (sI M (mNow M) 2 (nI B)) := Fr.sI rfl
    have f3 : Fr (fun c => c = 1) M2 (sI M2 1 8 0) := Fr.sI rfl
    have hD3 : vD (sI M2 1 8 0) (mNow M) S' := hD2.mvc (fun c c1 c2 => f3.1 c (fun z => by omega))
    have m22 : (sI M2 1 8 0).2.2 = M.2.2 := by
      rw [f3.2.2, g2.2.2]; rfl
    have cc : ∀ c, c ≠ 1 → ¬ (2 ≤ c ∧ c ≤ 19) → (sI M2 1 8 0).1 c = M.1 c := fun c c1 c2 => by
      rw [f3.1 c (fun z => c1 z), g2.1 c (fun z => by omega), f0.1 c (fun z => by omega)]
    have hk : vK (sI M2 1 8 0) (S', q.2) := vK_new h.2.1 hD3 cc m22 (mI_sI_eq _ _ _ _)
    have e2n : mNow M2 = mNow M := by rw [g2.mNow]; rfl
    have hn3 : vN (sI (sI M2 1 8 0) 46 0 0) q := (h.2.2.mvK (fun c hc => cc c (by omega) (by omega))).mv (raised0 _)
    -- the reference
    have f4 : Fr (fun c => c = 47) (sI (sI M2 1 8 0) 46 0 0) (sI (sI (sI M2 1 8 0) 46 0 0) 47 1 (nI B)) := Fr.sI rfl
    have hv4 : vM (sI (sI (sI M2 1 8 0) 46 0 0) 47 1 (nI B)) S1 := by rw [hS1]; exact vM_upd hn3.1 B
    obtain ⟨M4, k1, k2, k3⟩ := y_dr28 (S := S1) hB4 s1 hset1 8 0 FU _ (by omega) (by have := FU_big; omega) (by rw [rowS_0]; exact hv4)
    rw [← hS'] at k3
    have r1 : mI (sI (sI M2 1 8 0) 46 0 0) 47 1 = nI (q.1 1) := hn3.1 1 (by omega)
    refine CC_mk (r := nI B) (M1 := sI M2 1 8 0) (M2 := M4) ?_ hk (by unfold mG; rw [m22]) ?_ (vN_told hn3 k3 (f4.tr k2) (by decide) (by decide) (by decide)) (fun c hc => by rw [(f4.tr k2).1 c (fun z => by omega)]; exact (raised0 _).low c hc) (by rw [(f4.tr k2).2.2]; rfl) hqok
    · show f6_drop M = _
      unfold f6_drop f0_removeLast
      rw [bN_eq, if_pos hD.ok, bI_eq, hD.B, if_neg hne, bN_eq, if_pos hD.ok, if_pos hD.ok, bI_eq, hD.B, if_neg (by rw [nx_lit0, nx_le (by omega) (by omega)]; omega), bI_eq, hsub, bM_eq, show l0_removeLast_19 FU (mNow M) 0 (sI M (mNow M) 2 (nI B)) = some M2 from g1, cV_some, bM_eq, bN_eq, show mNow (sI M2 1 8 0) = mNow M from e2n, if_pos hD.ok, bI_eq, hD3.B, sl 1 (by omega), s1]
    · show f7_drop (sI M2 1 8 0) = _
      unfold f7_drop
      rw [bM_eq, show aI (α := Int32 × mm_M) 47 82 1 (sI (sI M2 1 8 0) 46 0 0) = aI 47 82 (nI 1) (sI (sI M2 1 8 0) 46 0 0) from rfl, aI_in (by omega) (by omega), r1, if_neg hne, aI_in (by omega) (by omega), r1, hsub, show uI (α := Int32 × mm_M) 47 82 1 (nI B) (sI (sI M2 1 8 0) 46 0 0) = uI 47 82 (nI 1) (nI B) (sI (sI M2 1 8 0) 46 0 0) from rfl, uI_in (by omega) (by omega)]
      exact k1
end UPD3
