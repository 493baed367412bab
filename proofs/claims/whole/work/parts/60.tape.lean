/-! the TAPE: feed and end -/
def sby (x : Int32) (k : Nat) : Nat := x.toBitVec.toNat / 2 ^ k % 256
theorem sby_lt (x : Int32) (k : Nat) : sby x k < 256 := Nat.mod_lt _ (by decide)
theorem b255 : ∀ i : Fin 32, (255#32).getLsbD i.1 = decide (i.1 < 8) := by decide +kernel
theorem sby_bit (x : Int32) (k : Nat) {i : Nat} (hi : i < 32) : (nI (sby x k)).toBitVec.getLsbD i = (decide (i < 8) && x.toBitVec.getLsbD (k + i)) := by
  show (BitVec.ofNat 32 (sby x k)).getLsbD i = _
  rw [BitVec.getLsbD_ofNat, decide_eq_true hi, Bool.true_and]
  unfold sby
  rw [show (256 : Nat) = 2 ^ 8 from rfl, Nat.testBit_mod_two_pow, Nat.testBit_div_two_pow]
  rw [← BitVec.testBit_toNat, Nat.add_comm k i]
theorem sar_n (x : Int32) {j : Nat} (hj : j < 4) : (x >>> (nI (8 * j) &&& 31)).toBitVec = x.toBitVec.sshiftRight (8 * j) := by
  rcases (show j = 0 ∨ j = 1 ∨ j = 2 ∨ j = 3 by omega) with rfl | rfl | rfl | rfl <;> rfl
theorem shr_8 (x : Int32) {j : Nat} (hj : j < 4) : ((x.toUInt32 >>> ((nI (8 * j)).toUInt32 &&& Int32.toUInt32 31)).toInt32).toBitVec = x.toBitVec >>> (8 * j) := by
  rcases (show j = 0 ∨ j = 1 ∨ j = 2 ∨ j = 3 by omega) with rfl | rfl | rfl | rfl <;> rfl
theorem byte_ref (x : Int32) {j : Nat} (hj : j < 4) : ((x >>> (nI (8 * j) &&& 31)) &&& 255) = nI (sby x (8 * j)) := by
  apply Int32.toBitVec_inj.mp
  apply BitVec.eq_of_getLsbD_eq
  intro i hi
  rw [sby_bit _ _ hi, Int32.toBitVec_and, BitVec.getLsbD_and, sar_n x hj, BitVec.getLsbD_sshiftRight, show (255 : Int32).toBitVec = 255#32 from rfl, b255 ⟨i, hi⟩]
  by_cases h8 : i < 8
  · rw [decide_eq_true h8, if_pos (by omega), decide_eq_false (show ¬ 32 ≤ i by omega)]
    simp
  · rw [decide_eq_false h8]
    simp
theorem byte_cls (x : Int32) {j : Nat} (hj : j < 4) : (((x.toUInt32 >>> ((nI (8 * j)).toUInt32 &&& Int32.toUInt32 31)).toInt32).toInt8.toInt32).toInt8.toInt32 = sb8 (sby x (8 * j)) := by
  rw [Int8.toInt8_toInt32]
  unfold sb8
  congr 1
  apply Int8.toBitVec_inj.mp
  apply BitVec.eq_of_getLsbD_eq
  intro i hi
  rw [Int32.toBitVec_toInt8, Int32.toBitVec_toInt8, BitVec.getLsbD_signExtend, BitVec.getLsbD_signExtend, shr_8 x hj, BitVec.getLsbD_ushiftRight, sby_bit _ _ (show i < 32 by omega), decide_eq_true hi, if_pos (show i < 32 by omega), if_pos (show i < 32 by omega)]
  simp
def sapp (x : Int32) : Nat → (Nat → Nat) → Nat → (Nat → Nat)
  | 0, B, _ => B
  | j + 1, B, n => sapp x j (updS B n (sby x (8 * j))) (n + 1)
theorem sapp_lt (x : Int32) : ∀ j B n, (∀ i, B i < 256) → ∀ i, sapp x j B n i < 256
  | 0, B, n, h, i => h i
  | j + 1, B, n, h, i => sapp_lt x j _ (n + 1) (fun i => by
    by_cases hi : i = n
    · subst hi; rw [updS_eq]; exact sby_lt x _
    · rw [updS_ne _ _ hi]; exact h i) i
theorem m8 (j : Nat) : nI (8 * (j + 1)) - 8 = nI (8 * j) := by
  have : nI (8 * (j + 1)) - nI 8 = nI (8 * (j + 1) - 8) := nx_sub (by omega)
  rw [show 8 * (j + 1) - 8 = 8 * j by omega] at this
  exact this
theorem x_ap3 (x : Int32) : ∀ (j k n : Nat) (B : Nat → Nat) (M : mm_M), j ≤ 4 → j < k → n + j ≤ 400 → mI M 20 1 = nI n → (∀ i, i < n → mI M 21 i = sb8 (B i)) → ∃ M', l5_append_3 k x (nI (8 * j) - 8) M = some M' ∧ Fr (fun c => c = 20 ∨ c = 21) M M' ∧ mI M' 20 1 = nI (n + j) ∧ ∀ i, i < n + j → mI M' 21 i = sb8 (sapp x j B n i) := by
  intro j
  induction j with
  | zero =>
    intro k n B M h4 hk hn h20 h21
    obtain ⟨k, rfl⟩ : ∃ j, k = j + 1 := ⟨k - 1, by omega⟩
    refine ⟨M, ?_, Fr.rf, h20, h21⟩
    unfold l5_append_3 b5_append_3 l5_append_46
    rw [if_pos (show nI (8 * 0) - 8 < 0 by decide)]
  | succ j ih =>
    intro k n B M h4 hk hn h20 h21
    obtain ⟨k, rfl⟩ : ∃ j, k = j + 1 := ⟨k - 1, by omega⟩
    have f1 : Fr (fun c => c = 20 ∨ c = 21) M (sI M 21 n (sb8 (sby x (8 * j)))) := Fr.sI (Or.inr rfl)
    have f2 : Fr (fun c => c = 20 ∨ c = 21) (sI M 21 n (sb8 (sby x (8 * j)))) (sI (sI M 21 n (sb8 (sby x (8 * j)))) 20 1 (nI (n + 1))) := Fr.sI (Or.inl rfl)
    obtain ⟨M', e1, e2, e3, e4⟩ := ih k (n + 1) (updS B n (sby x (8 * j))) (sI (sI M 21 n (sb8 (sby x (8 * j)))) 20 1 (nI (n + 1))) (by omega) (by omega) (by omega) (mI_sI_eq _ _ _ _) (fun i hi => by
      rw [mI_sI_c _ _ _ _ (by decide)]
      by_cases hin : i = n
      · subst hin; rw [mI_sI_eq, updS_eq]
      · rw [mI_sI_k _ _ _ hin, updS_ne _ _ hin]; exact h21 i (by omega))
    refine ⟨M', ?_, (f1.tr f2).tr e2, by rw [e3, show n + 1 + j = n + (j + 1) by omega], fun i hi => e4 i (by omega)⟩
    unfold l5_append_3 b5_append_3
    rw [m8, if_neg (nI_pos (by omega)), bI_eq, h20, if_neg (by rw [show (400 : Int32) = nI 400 from rfl, nx_le (by omega) (by omega)]; omega), bI_eq, uB_in (by omega) (by omega), byte_cls x (show j < 4 by omega), bI_eq, mI_sI_c _ _ _ _ (by decide), h20, show nI n + 1 = nI (n + 1) from nx_add n 1, bM_eq, show nI (8 * j) + (-8) = nI (8 * j) - 8 from (Int32.sub_eq_add_neg _ _).symm]
    exact e1
theorem y_fo3 (x : Int32) : ∀ (j k n : Nat) (B : Nat → Nat) (M : mm_M), j ≤ 4 → j < k → n + j ≤ 400 → mI M 46 4 = nI n → (∀ i, i < n → mI M 49 i = nI (B i)) → ∃ M', l7_four_3 k x (nI (8 * j) - 8) M = some M' ∧ Fr (fun c => c = 46 ∨ c = 49) M M' ∧ mI M' 46 4 = nI (n + j) ∧ (∀ i, i ≠ 4 → mI M' 46 i = mI M 46 i) ∧ ∀ i, i < n + j → mI M' 49 i = nI (sapp x j B n i) := by
  intro j
  induction j with
  | zero =>
    intro k n B M h4 hk hn h20 h21
    obtain ⟨k, rfl⟩ : ∃ j, k = j + 1 := ⟨k - 1, by omega⟩
    refine ⟨M, ?_, Fr.rf, h20, fun _ _ => rfl, h21⟩
    unfold l7_four_3 b7_four_3
    rw [if_pos (show nI (8 * 0) - 8 < 0 by decide)]
  | succ j ih =>
    intro k n B M h4 hk hn h20 h21
    obtain ⟨k, rfl⟩ : ∃ j, k = j + 1 := ⟨k - 1, by omega⟩
    have f1 : Fr (fun c => c = 46 ∨ c = 49) M (sI M 49 n (nI (sby x (8 * j)))) := Fr.sI (Or.inr rfl)
    have f2 : Fr (fun c => c = 46 ∨ c = 49) (sI M 49 n (nI (sby x (8 * j)))) (sI (sI M 49 n (nI (sby x (8 * j)))) 46 4 (nI (n + 1))) := Fr.sI (Or.inl rfl)
    obtain ⟨M', e1, e2, e3, e5, e4⟩ := ih k (n + 1) (updS B n (sby x (8 * j))) (sI (sI M 49 n (nI (sby x (8 * j)))) 46 4 (nI (n + 1))) (by omega) (by omega) (by omega) (mI_sI_eq _ _ _ _) (fun i hi => by
      rw [mI_sI_c _ _ _ _ (by decide)]
      by_cases hin : i = n
      · subst hin; rw [mI_sI_eq, updS_eq]
      · rw [mI_sI_k _ _ _ hin, updS_ne _ _ hin]; exact h21 i (by omega))
    refine ⟨M', ?_, (f1.tr f2).tr e2, by rw [e3, show n + 1 + j = n + (j + 1) by omega], fun i hi => by rw [e5 i hi, mI_sI_k _ _ _ hi, mI_sI_c _ _ _ _ (by decide)], fun i hi => e4 i (by omega)⟩
    unfold l7_four_3 b7_four_3
    rw [m8, if_neg (nI_pos (by omega)), bI_eq, h20, byte_ref x (show j < 4 by omega), uI_in (by omega) (by omega), bI_eq, mI_sI_c _ _ _ _ (by decide), h20, show nI n + 1 = nI (n + 1) from nx_add n 1, bM_eq, show nI (8 * j) + (-8) = nI (8 * j) - 8 from (Int32.sub_eq_add_neg _ _).symm]
    exact e1
section TAPE
variable {M : mm_M} {q : sQ}
theorem x_append (x : Int32) {n : Nat} {B : Nat → Nat} {M : mm_M} (hn : n + 4 ≤ 400) (h20 : mI M 20 1 = nI n) (h21 : ∀ i, i < n → mI M 21 i = sb8 (B i)) : ∃ M', f5_append x M = some M' ∧ Fr (fun c => c = 20 ∨ c = 21) M M' ∧ mI M' 20 1 = nI (n + 4) ∧ ∀ i, i < n + 4 → mI M' 21 i = sb8 (sapp x 4 B n i) :=
  x_ap3 x 4 FU n B M (by omega) (by have := FU_big; omega) hn h20 h21
theorem y_four (x : Int32) {n : Nat} {B : Nat → Nat} {M : mm_M} (hn : n + 4 ≤ 400) (h20 : mI M 46 4 = nI n) (h21 : ∀ i, i < n → mI M 49 i = nI (B i)) : ∃ M', f7_four x M = some M' ∧ Fr (fun c => c = 46 ∨ c = 49) M M' ∧ mI M' 46 4 = nI (n + 4) ∧ (∀ i, i ≠ 4 → mI M' 46 i = mI M 46 i) ∧ ∀ i, i < n + 4 → mI M' 49 i = nI (sapp x 4 B n i) :=
  y_fo3 x 4 FU n B M (by omega) (by have := FU_big; omega) hn h20 h21
/-- the TAPE is another -/
theorem vK_tape {M1 : mm_M} {B : Nat → Nat} {n : Nat} (h : vK M q) (hf : Fr (fun c => c = 20 ∨ c = 21) M M1) (h20 : mI M1 20 1 = nI n) (h21 : ∀ i, i < n → mI M1 21 i = sb8 (B i)) : vK M1 (q.1, B, n, q.2.2.2) := by
  obtain ⟨q1, q2, q3, q4, q5, q6, q7, q8, q9⟩ := h
  have en : mNow M1 = mNow M := hf.mNow
  have ed : mDra M1 = mDra M := by unfold mDra; rw [hf.2.2]
  refine ⟨by rw [ed]; exact q1, by rw [en, ed]; exact q2, by rw [en]; exact q3.mvc (fun c c1 c2 => hf.1 c (fun z => by rcases z with z | z <;> omega)), h20, h21, by rw [hf.mI (by decide)]; exact q6, by rw [hf.mI (by decide)]; exact q7, by rw [hf.mI (by decide)]; exact q8, ?_⟩
  rw [hf.mI (by decide)]
  exact q9.imp (fun z => z) (fun z => ⟨z.1, fun s hs => by rw [hf.mI (by decide)]; exact z.2 s hs⟩)
theorem vN_tape {M1 : mm_M} {B : Nat → Nat} {n : Nat} (h : vN M q) (hf : Fr (fun c => c = 46 ∨ c = 49) M M1) (h4 : mI M1 46 4 = nI n) (h5 : mI M1 46 5 = mI M 46 5) (h49 : ∀ i, i < n → mI M1 49 i = nI (B i)) : vN M1 (q.1, B, n, q.2.2.2) :=
  ⟨h.1.mv hf (by decide), h4, by rw [h5]; exact h.2.2.1, h49, fun b hb => by rw [hf.mI (by decide)]; exact h.2.2.2.2 b hb⟩
theorem t_end (h : TT M q) (x : Int32) : CC (f6_end x) (f7_end x) M q := by
  have hn4 := h.1.2.2.1
  have h20 := h.2.1.2.2.2.1
  by_cases hx : okR x (q.2.2.1 + 1) = true
  · obtain ⟨n, hn, rfl⟩ := okR_t hx (by omega)
    have f1 : Fr (fun c => c = 20 ∨ c = 21) M (sI M 20 1 (nI n)) := Fr.sI (Or.inl rfl)
    have hk : vK (sI M 20 1 (nI n)) (q.1, q.2.1, n, q.2.2.2) := vK_tape h.2.1 f1 (mI_sI_eq _ _ _ _) (fun i hi => by rw [mI_sI_c _ _ _ _ (by decide)]; exact h.2.1.2.2.2.2.1 i (by omega))
    have hv : vN (sI (sI M 20 1 (nI n)) 46 0 0) q := (h.2.2.mvK (fun c hc => f1.1 c (fun z => by rcases z with z | z <;> omega))).mv (raised0 _)
    have f2 : Fr (fun c => c = 46 ∨ c = 49) (sI (sI M 20 1 (nI n)) 46 0 0) (sI (sI (sI M 20 1 (nI n)) 46 0 0) 46 4 (nI n)) := Fr.sI (Or.inl rfl)
    have hv2 := vN_tape (B := q.2.1) (n := n) hv f2 (mI_sI_eq _ _ _ _) (mI_sI_k _ _ _ (by decide)) (fun i hi => by rw [mI_sI_c _ _ _ _ (by decide)]; exact hv.2.2.2.1 i (by omega))
    refine CC_mk (r := 1) (M1 := sI M 20 1 (nI n)) (M2 := sI (sI (sI M 20 1 (nI n)) 46 0 0) 46 4 (nI n)) ?_ hk rfl ?_ hv2 (fun c hc => by rw [f2.1 c (fun z => by rcases z with z | z <;> omega)]; exact (raised0 _).low c hc) rfl ⟨h.1.1, h.1.2.1, by show n ≤ 400; omega, h.1.2.2.2.1, h.1.2.2.2.2⟩
    · unfold f6_end
      rw [if_neg (nI_pos (by omega)), bI_eq, h20, if_pos (by rw [nx_le (by omega) (by omega)]; omega), bM_eq]
      rfl
    · unfold f7_end
      rw [bM_eq, bI_eq, hv.2.1, y_in0S _ (by omega), cI_some, if_pos hx, if_neg (by decide), bM_eq]
      rfl
  · have hv := h.2.2.mv (raised0 M)
    refine CC_ask (r := 0) (M1 := M) (M2 := sI M 46 0 0) h ?_ KF.rf ?_ (raised0 M)
    · unfold f6_end l6_end_15
      by_cases hz : x < 0
      · rw [if_pos hz]; rfl
      · obtain ⟨n, hn, rfl⟩ := nx_of hz
        rw [if_neg hz, bI_eq, h20, if_neg]
        · rfl
        · rw [nx_le hn (by omega)]
          intro z
          exact hx (by rw [okR_nI hn (by omega)]; exact decide_eq_true (by omega))
    · unfold f7_end
      rw [bM_eq, bI_eq, hv.2.1, y_in0S _ (by omega), cI_some, if_neg hx, if_pos rfl]
      rfl
theorem t_feed (h : TT M q) (x1 x2 x3 x4 x5 : Int32) : CC (f6_feed x1 x2 x3 x4 x5) (f7_feed x1 x2 x3 x4 x5) M q := by
  have hn4 := h.1.2.2.1
  have h20 := h.2.1.2.2.2.1
  have h21 := h.2.1.2.2.2.2.1
  obtain ⟨S, B, n, F⟩ := q
  simp only at hn4 h20 h21
  by_cases hl : n + 20 ≤ 400
  · obtain ⟨M1, a1, b1, c1, d1⟩ := x_append x1 (by omega) h20 h21
    obtain ⟨M2, a2, b2, c2, d2⟩ := x_append x2 (by omega) c1 d1
    obtain ⟨M3, a3, b3, c3, d3⟩ := x_append x3 (by omega) c2 d2
    obtain ⟨M4, a4, b4, c4, d4⟩ := x_append x4 (by omega) c3 d3
    obtain ⟨M5, a5, b5, c5, d5⟩ := x_append x5 (by omega) c4 d4
    have ff := (((b1.tr b2).tr b3).tr b4).tr b5
    have hk := vK_tape h.2.1 ff c5 d5
    have hv : vN (sI M5 46 0 0) (S, B, n, F) := (h.2.2.mvK (fun c hc => ff.1 c (fun z => by rcases z with z | z <;> omega))).mv (raised0 _)
    have g4 : mI (sI M5 46 0 0) 46 4 = nI n := hv.2.1
    have g49 : ∀ j, j < n → mI (sI M5 46 0 0) 49 j = nI (B j) := hv.2.2.2.1
    obtain ⟨N1, k1, l1, m1, o1, p1⟩ := y_four x1 (by omega) g4 g49
    obtain ⟨N2, k2, l2, m2, o2, p2⟩ := y_four x2 (by omega) m1 p1
    obtain ⟨N3, k3, l3, m3, o3, p3⟩ := y_four x3 (by omega) m2 p2
    obtain ⟨N4, k4, l4, m4, o4, p4⟩ := y_four x4 (by omega) m3 p3
    obtain ⟨N5, k5, l5, m5, o5, p5⟩ := y_four x5 (by omega) m4 p4
    have gg := (((l1.tr l2).tr l3).tr l4).tr l5
    have hv2 := vN_tape hv gg m5 (by rw [o5 5 (by decide), o4 5 (by decide), o3 5 (by decide), o2 5 (by decide), o1 5 (by decide)]) p5
    refine CC_mk (r := nI (n + 4 + 4 + 4 + 4 + 4)) (M1 := M5) (M2 := N5) ?_ hk (by unfold mG; rw [ff.2.2]) ?_ hv2 (fun c hc => by rw [gg.1 c (fun z => by rcases z with z | z <;> omega)]; exact (raised0 _).low c hc) (by rw [gg.2.2]; rfl) ⟨h.1.1, h.1.2.1, by show n + 4 + 4 + 4 + 4 + 4 ≤ 400; omega, sapp_lt _ _ _ _ (sapp_lt _ _ _ _ (sapp_lt _ _ _ _ (sapp_lt _ _ _ _ (sapp_lt _ _ _ _ h.1.2.2.2.1)))), h.1.2.2.2.2⟩
    · unfold f6_feed
      rw [bI_eq, h20, show nI n + 20 = nI (n + 20) from nx_add n 20, if_pos (by rw [show (400 : Int32) = nI 400 from rfl, nx_le (by omega) (by omega)]; exact hl), a1, cV_some, a2, cV_some, a3, cV_some, a4, cV_some, a5, cV_some, bI_eq, c5]
    · unfold f7_feed
      rw [bM_eq, bI_eq, g4, show nI n + 20 = nI (n + 20) from nx_add n 20, if_pos (by rw [show (400 : Int32) = nI 400 from rfl, nx_le (by omega) (by omega)]; exact hl), k1, cV_some, k2, cV_some, k3, cV_some, k4, cV_some, k5, cV_some, bI_eq, m5]
  · have hv := h.2.2.mv (raised0 M)
    have g4 : mI (sI M 46 0 0) 46 4 = nI n := hv.2.1
    refine CC_ask (r := -1) (M1 := M) (M2 := sI M 46 0 0) h ?_ KF.rf ?_ (raised0 M)
    · unfold f6_feed
      rw [bI_eq, h20, show nI n + 20 = nI (n + 20) from nx_add n 20, if_neg (by rw [show (400 : Int32) = nI 400 from rfl, nx_le (by omega) (by omega)]; exact hl)]
    · unfold f7_feed
      rw [bM_eq, bI_eq, g4, show nI n + 20 = nI (n + 20) from nx_add n 20, if_neg (by rw [show (400 : Int32) = nI 400 from rfl, nx_le (by omega) (by omega)]; exact hl)]
end TAPE
