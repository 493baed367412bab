section STM3
variable {B : Nat → Nat} {n d : Nat} {S : sS}
theorem rowS_cg {a m : Nat} {g g' : Nat → Nat} (h : ∀ j, j < m → g j = g' j) : rowS S a m g = rowS S a m g' := by
  funext j
  unfold rowS
  by_cases hc : a ≤ j ∧ j < a + m
  · rw [if_pos hc, if_pos hc, h _ (by omega)]
  · rw [if_neg hc, if_neg hc]
def JB (d : Nat) (B : Nat → Nat) (n : Nat) (S : sS) (A p0 : Nat) (g : Nat → Nat) (i a : Nat) (Mc Mr : mm_M) : Prop := vD Mc d S ∧ vTk Mc B n (sskip B n a) ∧ mI Mc 22 1 = 0 ∧ (∀ j, j < i → mI Mc (d + 8) j = nI (g j)) ∧ cR Mr B n (rowS S A i g) a ∧ a ≤ n ∧ p0 < a
theorem jb_step (hB : ∀ i, B i < 256) (hn : n ≤ 400) {A p0 i a kc : Nat} {g : Nat → Nat} {Mc Mr : mm_M} {lo hi : Int32} (hi6 : i < 6) (hA : A + 6 ≤ 82) (J : JB d B n S A p0 g i a Mc Mr) (hlo : ∀ M', Fr (fun c => c = 20) Mc M' → f0_leastOffer d (nI i) M' = some (lo, M')) (hhi : ∀ M', Fr (fun c => c = 20) Mc M' → f0_mostOffer d (nI i) M' = some (hi, M')) :
    (∃ v a' Mc' Mr', l3_readBus_23 (kc + 1) d (nI i) Mc = l3_readBus_23 kc d (nI (i + 1)) Mc' ∧ f7_reads (nI (A + i)) lo hi Mr = some (1, Mr') ∧ Fr (cCl d) Mc Mc' ∧ RG Mr Mr' ∧ JB d B n S A p0 (updS g i v) (i + 1) a' Mc' Mr' ∧ v < 10000 ∧ okI (nI v) lo hi = true) ∨
    (∃ F Mc' Mr', l3_readBus_23 (kc + 1) d (nI i) Mc = some Mc' ∧ f7_reads (nI (A + i)) lo hi Mr = some (0, Mr') ∧ Fr (cCl d) Mc Mc' ∧ RX Mr Mr' ∧ 0 < F ∧ F < 10000 ∧ mI Mc' 22 1 = nI F ∧ mI Mr' 46 7 = nI F) := by
  obtain ⟨hD, hT, h22, ho, hr, ha, hpa⟩ := J
  have hd := isD_le hD.ok
  have hge := skge (B := B) (n := n) (a := a) rfl
  rcases jnum hB hn ha rfl hT h22 hr.2 lo hi with ⟨v, Mc1, Mr1, a1, a2, a3, a4, a5, a6, a7, a8, a9, a10, a11, a12, a13⟩ | ⟨F, Mc', Mr', a1, a2, a3, a4, a5, a6, a7, a8⟩
  · left
    have f8 : Fr (fun c => d ≤ c ∧ c ≤ d + 8) Mc1 (sI Mc1 (d + 8) i (nI v)) := Fr.sI (by omega)
    have hD1 := hD.mv a3 (fun c z => by omega)
    have hD2 : vD (sI Mc1 (d + 8) i (nI v)) d S := (show vE (sI Mc1 (d + 8) i (nI v)) d S from ⟨hD.ok, fun i' k' hi' hk' => by rw [mI_sI_c _ _ _ _ (by omega)]; exact hD1.E.2 i' k' hi' hk'⟩).D
    have e : rowS S A i g = rowS S A i (updS g i v) := rowS_cg (fun j hj => (updS_ne _ _ (by omega)).symm)
    have hr1 := cR_rs hr a4 a6
    rw [e] at hr1
    have hr2 := cR_upd (k := A + i) (v := v) hr1
    have e2 : updS (rowS S A i (updS g i v)) (A + i) v = rowS S A (i + 1) (updS g i v) := by
      have := rowS_succ S A i (updS g i v)
      rw [updS_eq] at this
      exact this
    rw [e2] at hr2
    refine ⟨v, _, sI Mc1 (d + 8) i (nI v), sI Mr1 48 (A + i) (nI v), ?_, ?_, (fr20 a3).tr (frd f8), a4.g.tr (RG.s48 _ _ _), ⟨hD2, a5.mv f8 (fun z => by omega) (fun z => by omega), by rw [f8.mI (fun z => by omega), a3.mI (by decide)]; exact h22, fun j hj => ?_, hr2, a12, by omega⟩, a9, a10⟩
    · rw [show l3_readBus_23 (kc + 1) d (nI i) Mc = b3_readBus_23 (l3_readBus_23 kc) d (nI i) Mc from rfl]
      unfold b3_readBus_23
      rw [if_neg (by rw [nx_l6, nx_le (by omega) (by omega)]; omega), hlo Mc Fr.rf, cI_some, hhi Mc Fr.rf, cI_some, a1, cI_some, if_neg (by rw [nx_neg1 (by omega)]; exact fun z => z), x_offerG hD.ok hi6 (hlo Mc1 a3) (hhi Mc1 a3), if_pos a10, cI_some, show nI i + 1 = nI (i + 1) from nx_add i 1]
    · unfold f7_reads
      rw [a2, cI_some, if_neg (by decide), bI_eq, a7, uI_in (by omega) (by omega)]
      rfl
    · by_cases hji : j = i
      · subst hji; rw [mI_sI_eq, updS_eq]
      · rw [mI_sI_k _ _ _ hji, updS_ne _ _ hji, a3.mI (fun z => by omega)]; exact ho j (by omega)
  · right
    refine ⟨F, Mc', Mr', ?_, ?_, fr22 a3, a4.x, a5, a6, a7, a8⟩
    · rw [show l3_readBus_23 (kc + 1) d (nI i) Mc = b3_readBus_23 (l3_readBus_23 kc) d (nI i) Mc from rfl]
      unfold b3_readBus_23
      rw [if_neg (by rw [nx_l6, nx_le (by omega) (by omega)]; omega), hlo Mc Fr.rf, cI_some, hhi Mc Fr.rf, cI_some, a1, cI_some, if_pos rfl]
    · unfold f7_reads
      rw [a2, cI_some, if_pos rfl]
      rfl
theorem j_bus (hB : ∀ i, B i < 256) (hn : n ≤ 400) {Mc Mr : mm_M} {p : Nat} (hS : sOK S) (hp : p < n) (hc : cC Mc d B n S p) (hr : cR Mr B n S (tb B n p)) : Stm d B n p Mc Mr (f3_readBus d Mc) (f7_readBus (nI p) Mr) := by
  have hw := hS.1
  have hT := hw.T
  have hBb := hw.B
  have hC := hw.C
  have hd := isD_le hc.1.ok
  have ht := tb_le (B := B) (show p ≤ n by omega)
  obtain ⟨Bc, hBc⟩ : ∃ Bc, S 1 = Bc := ⟨_, rfl⟩
  have a1' : ∀ {N : mm_M} {e : Int32 → Option (Int32 × mm_M)}, aI 48 82 1 N e = e (mI N 48 1) := fun {N e} => aI_in (i := 1) (by omega) (by omega)
  have a2' : ∀ {N : mm_M} {e : Int32 → Option (Int32 × mm_M)}, aI 48 82 2 N e = e (mI N 48 2) := fun {N e} => aI_in (i := 2) (by omega) (by omega)
  have a0' : ∀ {N : mm_M} {e : Int32 → Option (Int32 × mm_M)}, aI 48 82 0 N e = e (mI N 48 0) := fun {N e} => aI_in (i := 0) (by omega) (by omega)
  have u1 : ∀ {N : mm_M} {v : Int32} {e : mm_M → Option (Int32 × mm_M)}, uI 48 82 1 v N e = e (sI N 48 1 v) := fun {N v e} => uI_in (i := 1) (by omega) (by omega)
  have r1 : mI Mr 48 1 = nI Bc := by rw [hr.1 1 (by omega), hBc]
  by_cases h4 : Bc = 4
  · obtain ⟨nu, hT3, -⟩ := id hc.2.1
    refine ⟨sI Mc 22 1 (nI (4 + 8 * p)), sI Mr 46 7 (nI (4 + 8 * p)), fr22 (Fr.sI rfl), ?_, Or.inr ⟨4 + 8 * p, ?_, (RE.s7 _ _).x, by omega, by omega, mI_sI_eq _ _ _ _, mI_sI_eq _ _ _ _⟩⟩
    · unfold f3_readBus
      rw [if_pos hc.1.ok, bI_eq, hc.1.B, hBc, h4, if_neg (show ¬ nI 4 < 4 by decide), show f3_blame 4 Mc = some (sI Mc 22 1 (nI (4 + 8 * p))) from x_blame (k := 4) hT3.2.2.2.1 hc.2.2, cV_some]
    · unfold f7_readBus f7_fails
      rw [a1', r1, h4, if_pos (show nI 4 = 4 from rfl), show (4 : Int32) + 8 * nI p = nI (4 + 8 * p) from by rw [show (8 : Int32) = nI 8 from rfl, nx_mul]; exact nx_add 4 _, bM_eq]
      rfl
  · have hB4 : Bc < 4 := by omega
    obtain ⟨M0, e1, e2, e3⟩ := x_step hB hn (by omega) hc.2.1
    obtain ⟨A, hA⟩ : ∃ A, A = 50 + 6 * Bc := ⟨_, rfl⟩
    have eA : (50 : Int32) + 6 * nI Bc = nI A := by rw [hA, show (6 : Int32) = nI 6 from rfl, show (50 : Int32) = nI 50 from rfl, nx_mul, nx_add]
    have ne4 : ¬ nI Bc = 4 := by rw [nx_l4, nx_eq (by omega) (by omega)]; omega
    obtain ⟨kk, hkk⟩ : ∃ kk, FU = kk + 7 := ⟨FU - 7, by have := FU_big; omega⟩
    have J0 : JB d B n S A p (fun _ => 0) 0 (tb B n p) M0 Mr := ⟨hc.1.mv e2 (fun c z => by omega), e3, by rw [e2.mI (by decide)]; exact hc.2.2, fun j hj => by omega, by rw [rowS_0]; exact hr, ht.2.1, ht.2.2 hp⟩
    have c0 : f3_readBus d Mc = l3_readBus_23 (kk + 7) d (nI 0) M0 := by
      unfold f3_readBus
      rw [if_pos hc.1.ok, bI_eq, hc.1.B, hBc, if_pos (by rw [nx_l4, nx_lt (by omega) (by omega)]; exact hB4), e1, cV_some, hkk]
      rfl
    have fc0 : Fr (cCl d) Mc M0 := fr20 e2
    have rg0 : RG Mr Mr := RG.rf
    have low : ∀ {g : Nat → Nat} {i a : Nat} {Mx My : mm_M}, JB d B n S A p g i a Mx My → i ≤ 6 → ∀ k, k < 50 → mI My 48 k = nI (S k) := fun J hi k hk => by
      rw [J.2.2.2.2.1.1 k (by omega), rowS_out _ _ (Or.inl (by omega))]
    have mid : ∀ {g : Nat → Nat} {i a : Nat} {Mx My : mm_M}, JB d B n S A p g i a Mx My → i ≤ 6 → ∀ j, j < i → mI My 48 (A + j) = nI (g j) := fun J hi j hj => by
      rw [J.2.2.2.2.1.1 (A + j) (by omega), rowS_in _ _ (by omega) (by omega), show A + j - A = j by omega]
    rcases jb_step (kc := kk + 6) (lo := 0) (hi := nI (S 2) - 1) hB hn (show 0 < 6 by omega) (by omega) J0 (fun M' hf => by
      unfold f0_leastOffer
      rw [if_pos hc.1.ok, if_neg (show ¬ nI 0 = 1 by decide), if_neg (show ¬ nI 0 = 5 by decide)]) (fun M' hf => by
      unfold f0_mostOffer
      rw [if_pos hc.1.ok, if_pos (show nI 0 = 0 from rfl), bI_eq, show mI M' d 1 = nI (S 2) from (by rw [hf.mI (fun z => by omega)]; exact J0.1.C)]) with ⟨v0, a1, C1, R1, l0, R_0, f0, g0, J1, b0, o0⟩ | ⟨F, C', R', l', R_', f', g', F1, F2, F3, F4⟩
    rotate_left
    · refine ⟨C', R', fc0.tr f', (c0.trans l'), Or.inr ⟨F, ?_, rg0.x g', F1, F2, F3, F4⟩⟩
      unfold f7_readBus l7_readBus_99 l7_readBus_146
      rw [a1', r1, if_neg ne4, a1', r1, bI_eq, eA, a2', low J0 (by omega) 2 (by omega), show f7_reads (nI A) (0) (nI (S 2) - 1) Mr = some (0, R') from R_', cI_some, if_pos rfl]
      rfl
    have R_0 : f7_reads (nI A) 0 (nI (S 2) - 1) Mr = some (1, R1) := R_0
    have c1 := c0.trans l0
    have fc1 := fc0.tr f0
    have rg1 := rg0.tr g0
    rcases jb_step (kc := kk + 5) (lo := 1) (hi := 200) hB hn (show 1 < 6 by omega) (by omega) J1 (fun M' hf => by
      unfold f0_leastOffer
      rw [if_pos hc.1.ok, if_pos (show nI 1 = 1 from rfl)]) (fun M' hf => by
      unfold f0_mostOffer
      rw [if_pos hc.1.ok, if_neg (show ¬ nI 1 = 0 by decide), if_pos (show nI 1 = 1 from rfl)]) with ⟨v1, a2, C2, R2, l1, R_1, f1, g1, J2, b1, o1⟩ | ⟨F, C', R', l', R_', f', g', F1, F2, F3, F4⟩
    rotate_left
    · refine ⟨C', R', fc1.tr f', (c1.trans l'), Or.inr ⟨F, ?_, rg1.x g', F1, F2, F3, F4⟩⟩
      unfold f7_readBus l7_readBus_99 l7_readBus_146
      rw [a1', r1, if_neg ne4, a1', r1, bI_eq, eA, a2', low J0 (by omega) 2 (by omega), R_0, cI_some, if_neg (show ¬ (1 : Int32) = 0 by decide), show nI A + 1 = nI (A + 1) from nx_add A 1, R_', cI_some, if_pos rfl]
      rfl
    have c2 := c1.trans l1
    have fc2 := fc1.tr f1
    have rg2 := rg1.tr g1
    rcases jb_step (kc := kk + 4) (lo := 0) (hi := nI v1) hB hn (show 2 < 6 by omega) (by omega) J2 (fun M' hf => by
      unfold f0_leastOffer
      rw [if_pos hc.1.ok, if_neg (show ¬ nI 2 = 1 by decide), if_neg (show ¬ nI 2 = 5 by decide)]) (fun M' hf => by
      unfold f0_mostOffer
      rw [if_pos hc.1.ok, if_neg (show ¬ nI 2 = 0 by decide), if_neg (show ¬ nI 2 = 1 by decide), if_pos (show nI 2 = 2 from rfl), show aI (α := Int32 × mm_M) (d + 8) 6 1 M' = aI (d + 8) 6 (nI 1) M' from rfl, aI_in (by omega) (by omega), show mI M' (d + 8) 1 = nI v1 from (by rw [hf.mI (fun z => by omega)]; exact J2.2.2.2.1 1 (by omega))]) with ⟨v2, a3, C3, R3, l2, R_2, f2, g2, J3, b2, o2⟩ | ⟨F, C', R', l', R_', f', g', F1, F2, F3, F4⟩
    rotate_left
    · refine ⟨C', R', fc2.tr f', (c2.trans l'), Or.inr ⟨F, ?_, rg2.x g', F1, F2, F3, F4⟩⟩
      unfold f7_readBus l7_readBus_99 l7_readBus_146
      rw [a1', r1, if_neg ne4, a1', r1, bI_eq, eA, a2', low J0 (by omega) 2 (by omega), R_0, cI_some, if_neg (show ¬ (1 : Int32) = 0 by decide), show nI A + 1 = nI (A + 1) from nx_add A 1, R_1, cI_some, if_neg (show ¬ (1 : Int32) = 0 by decide), aI_in (by omega) (by omega), mid J2 (by omega) 1 (by omega), show nI ((updS (updS (fun _ => 0) 0 v0) 1 v1) 1) = nI v1 from rfl, show nI A + 2 = nI (A + 2) from nx_add A 2, R_', cI_some, if_pos rfl]
      rfl
    have c3 := c2.trans l2
    have fc3 := fc2.tr f2
    have rg3 := rg2.tr g2
    rcases jb_step (kc := kk + 3) (lo := 0) (hi := nI v1) hB hn (show 3 < 6 by omega) (by omega) J3 (fun M' hf => by
      unfold f0_leastOffer
      rw [if_pos hc.1.ok, if_neg (show ¬ nI 3 = 1 by decide), if_neg (show ¬ nI 3 = 5 by decide)]) (fun M' hf => by
      unfold f0_mostOffer
      rw [if_pos hc.1.ok, if_neg (show ¬ nI 3 = 0 by decide), if_neg (show ¬ nI 3 = 1 by decide), if_neg (show ¬ nI 3 = 2 by decide), if_pos (show nI 3 = 3 from rfl), show aI (α := Int32 × mm_M) (d + 8) 6 1 M' = aI (d + 8) 6 (nI 1) M' from rfl, aI_in (by omega) (by omega), show mI M' (d + 8) 1 = nI v1 from (by rw [hf.mI (fun z => by omega)]; exact J3.2.2.2.1 1 (by omega))]) with ⟨v3, a4, C4, R4, l3, R_3, f3, g3, J4, b3, o3⟩ | ⟨F, C', R', l', R_', f', g', F1, F2, F3, F4⟩
    rotate_left
    · refine ⟨C', R', fc3.tr f', (c3.trans l'), Or.inr ⟨F, ?_, rg3.x g', F1, F2, F3, F4⟩⟩
      unfold f7_readBus l7_readBus_99 l7_readBus_146
      rw [a1', r1, if_neg ne4, a1', r1, bI_eq, eA, a2', low J0 (by omega) 2 (by omega), R_0, cI_some, if_neg (show ¬ (1 : Int32) = 0 by decide), show nI A + 1 = nI (A + 1) from nx_add A 1, R_1, cI_some, if_neg (show ¬ (1 : Int32) = 0 by decide), aI_in (by omega) (by omega), mid J2 (by omega) 1 (by omega), show nI ((updS (updS (fun _ => 0) 0 v0) 1 v1) 1) = nI v1 from rfl, show nI A + 2 = nI (A + 2) from nx_add A 2, R_2, cI_some, if_neg (show ¬ (1 : Int32) = 0 by decide), aI_in (by omega) (by omega), mid J3 (by omega) 1 (by omega), show nI ((updS (updS (updS (fun _ => 0) 0 v0) 1 v1) 2 v2) 1) = nI v1 from rfl, show nI A + 3 = nI (A + 3) from nx_add A 3, R_', cI_some, if_pos rfl]
      rfl
    have c4 := c3.trans l3
    have fc4 := fc3.tr f3
    have rg4 := rg3.tr g3
    rcases jb_step (kc := kk + 2) (lo := 0) (hi := nI (S 0) - 1) hB hn (show 4 < 6 by omega) (by omega) J4 (fun M' hf => by
      unfold f0_leastOffer
      rw [if_pos hc.1.ok, if_neg (show ¬ nI 4 = 1 by decide), if_neg (show ¬ nI 4 = 5 by decide)]) (fun M' hf => by
      unfold f0_mostOffer
      rw [if_pos hc.1.ok, if_neg (show ¬ nI 4 = 0 by decide), if_neg (show ¬ nI 4 = 1 by decide), if_neg (show ¬ nI 4 = 2 by decide), if_neg (show ¬ nI 4 = 3 by decide), if_pos (show nI 4 = 4 from rfl), bI_eq, show mI M' d 0 = nI (S 0) from (by rw [hf.mI (fun z => by omega)]; exact J4.1.T)]) with ⟨v4, a5, C5, R5, l4, R_4, f4, g4, J5, b4, o4⟩ | ⟨F, C', R', l', R_', f', g', F1, F2, F3, F4⟩
    rotate_left
    · refine ⟨C', R', fc4.tr f', (c4.trans l'), Or.inr ⟨F, ?_, rg4.x g', F1, F2, F3, F4⟩⟩
      unfold f7_readBus l7_readBus_99 l7_readBus_146
      rw [a1', r1, if_neg ne4, a1', r1, bI_eq, eA, a2', low J0 (by omega) 2 (by omega), R_0, cI_some, if_neg (show ¬ (1 : Int32) = 0 by decide), show nI A + 1 = nI (A + 1) from nx_add A 1, R_1, cI_some, if_neg (show ¬ (1 : Int32) = 0 by decide), aI_in (by omega) (by omega), mid J2 (by omega) 1 (by omega), show nI ((updS (updS (fun _ => 0) 0 v0) 1 v1) 1) = nI v1 from rfl, show nI A + 2 = nI (A + 2) from nx_add A 2, R_2, cI_some, if_neg (show ¬ (1 : Int32) = 0 by decide), aI_in (by omega) (by omega), mid J3 (by omega) 1 (by omega), show nI ((updS (updS (updS (fun _ => 0) 0 v0) 1 v1) 2 v2) 1) = nI v1 from rfl, show nI A + 3 = nI (A + 3) from nx_add A 3, R_3, cI_some, if_neg (show ¬ (1 : Int32) = 0 by decide), a0', low J4 (by omega) 0 (by omega), show nI A + 4 = nI (A + 4) from nx_add A 4, R_', cI_some, if_pos rfl]
      rfl
    have c5 := c4.trans l4
    have fc5 := fc4.tr f4
    have rg5 := rg4.tr g4
    rcases jb_step (kc := kk + 1) (lo := nI v4 + 1) (hi := nI (S 0)) hB hn (show 5 < 6 by omega) (by omega) J5 (fun M' hf => by
      unfold f0_leastOffer
      rw [if_pos hc.1.ok, if_neg (show ¬ nI 5 = 1 by decide), if_pos (show nI 5 = 5 from rfl), show aI (α := Int32 × mm_M) (d + 8) 6 4 M' = aI (d + 8) 6 (nI 4) M' from rfl, aI_in (by omega) (by omega), show mI M' (d + 8) 4 = nI v4 from (by rw [hf.mI (fun z => by omega)]; exact J5.2.2.2.1 4 (by omega))]) (fun M' hf => by
      unfold f0_mostOffer
      rw [if_pos hc.1.ok, if_neg (show ¬ nI 5 = 0 by decide), if_neg (show ¬ nI 5 = 1 by decide), if_neg (show ¬ nI 5 = 2 by decide), if_neg (show ¬ nI 5 = 3 by decide), if_neg (show ¬ nI 5 = 4 by decide), if_pos (show nI 5 = 5 from rfl), bI_eq, show mI M' d 0 = nI (S 0) from (by rw [hf.mI (fun z => by omega)]; exact J5.1.T)]) with ⟨v5, a6, C6, R6, l5, R_5, f5, g5, J6, b5, o5⟩ | ⟨F, C', R', l', R_', f', g', F1, F2, F3, F4⟩
    rotate_left
    · refine ⟨C', R', fc5.tr f', (c5.trans l'), Or.inr ⟨F, ?_, rg5.x g', F1, F2, F3, F4⟩⟩
      unfold f7_readBus l7_readBus_99 l7_readBus_146
      rw [a1', r1, if_neg ne4, a1', r1, bI_eq, eA, a2', low J0 (by omega) 2 (by omega), R_0, cI_some, if_neg (show ¬ (1 : Int32) = 0 by decide), show nI A + 1 = nI (A + 1) from nx_add A 1, R_1, cI_some, if_neg (show ¬ (1 : Int32) = 0 by decide), aI_in (by omega) (by omega), mid J2 (by omega) 1 (by omega), show nI ((updS (updS (fun _ => 0) 0 v0) 1 v1) 1) = nI v1 from rfl, show nI A + 2 = nI (A + 2) from nx_add A 2, R_2, cI_some, if_neg (show ¬ (1 : Int32) = 0 by decide), aI_in (by omega) (by omega), mid J3 (by omega) 1 (by omega), show nI ((updS (updS (updS (fun _ => 0) 0 v0) 1 v1) 2 v2) 1) = nI v1 from rfl, show nI A + 3 = nI (A + 3) from nx_add A 3, R_3, cI_some, if_neg (show ¬ (1 : Int32) = 0 by decide), a0', low J4 (by omega) 0 (by omega), show nI A + 4 = nI (A + 4) from nx_add A 4, R_4, cI_some, if_neg (show ¬ (1 : Int32) = 0 by decide), aI_in (by omega) (by omega), mid J5 (by omega) 4 (by omega), show nI ((updS (updS (updS (updS (updS (fun _ => 0) 0 v0) 1 v1) 2 v2) 3 v3) 4 v4) 4) = nI v4 from rfl, a0', low J5 (by omega) 0 (by omega), show nI A + 5 = nI (A + 5) from nx_add A 5, R_', cI_some, if_pos rfl]
      rfl
    have c6 := c5.trans l5
    have fc6 := fc5.tr f5
    have rg6 := rg5.tr g5
    have n0 := pnT (S 2) (by omega) o0 b0
    obtain ⟨x1, p11, p12, e11⟩ := okI_t (a := 1) (b := 200) (by omega) (by omega) o1
    have e11 : v1 = x1 := by rw [nx_eq (by omega) (by omega)] at e11; exact e11
    obtain ⟨x2, -, p22, e22⟩ := okI_t (a := 0) (b := v1) (by omega) (by omega) o2
    have e22 : v2 = x2 := by rw [nx_eq (by omega) (by omega)] at e22; exact e22
    obtain ⟨x3, -, p33, e33⟩ := okI_t (a := 0) (b := v1) (by omega) (by omega) o3
    have e33 : v3 = x3 := by rw [nx_eq (by omega) (by omega)] at e33; exact e33
    have n4 := pnT (S 0) (by omega) o4 b4
    obtain ⟨x5, p51, p52, e55⟩ := okI_t (a := v4 + 1) (b := S 0) (by omega) (by omega) (by rw [← nx_add]; exact o5)
    have e55 : v5 = x5 := by rw [nx_eq (by omega) (by omega)] at e55; exact e55
    obtain ⟨M7, k1, k2, k3⟩ := x_add (a := v0) (b := v1) (c := v2) (d := v3) (e := v4) (f := v5) J6.1 hBc hB4 (fun w hw6 => by
      have := J6.2.2.2.1 w hw6
      rcases (show w = 0 ∨ w = 1 ∨ w = 2 ∨ w = 3 ∨ w = 4 ∨ w = 5 by omega) with rfl | rfl | rfl | rfl | rfl | rfl <;> exact this)
    have hq := sQ_bus (q := (S, B, n, 0)) (a := v0) (b := v1) (c := v2) (d := v3) (e := v4) (f := v5) ⟨hw, hS.2, hn, hB, show 0 < 10000 by decide⟩ hBc hB4 n0 (by omega) (by omega) (by omega) (by omega) (show v5 ≤ S 0 by omega)
    have er : rowS S A 6 (updS (updS (updS (updS (updS (updS (fun _ => 0) 0 v0) 1 v1) 2 v2) 3 v3) 4 v4) 5 v5) = rowS S (50 + 6 * Bc) 6 (sbus v0 v1 v2 v3 v4 v5) := by
      rw [hA]
      refine rowS_cg (fun w hw6 => ?_)
      rcases (show w = 0 ∨ w = 1 ∨ w = 2 ∨ w = 3 ∨ w = 4 ∨ w = 5 by omega) with rfl | rfl | rfl | rfl | rfl | rfl <;> rfl
    have hr6 := J6.2.2.2.2.1
    rw [er] at hr6
    have f7 : Fr (fun c => d ≤ c ∧ c ≤ d + 8) C6 M7 := k2.wd (fun c z => by rcases z with z | z <;> omega)
    have hge6 := skge (B := B) (n := n) (a := a6) rfl
    refine ⟨M7, sI R6 48 1 (nI (Bc + 1)), fc6.tr (frd f7), ?_, Or.inl ⟨_, a6, ?_, rg6.tr (RG.s48 _ _ _), J6.2.2.2.2.2.1, by have := J6.2.2.2.2.2.2; omega, ⟨hq.1, hq.2.1⟩, ⟨k3, J6.2.1.mv f7 (fun z => by omega) (fun z => by omega), by rw [f7.mI (fun z => by omega)]; exact J6.2.2.1⟩, cR_upd hr6⟩⟩
    · rw [c6, show l3_readBus_23 (kk + 1) d (nI 6) C6 = b3_readBus_23 (l3_readBus_23 kk) d (nI 6) C6 from rfl]
      unfold b3_readBus_23
      rw [if_pos (show (6 : Int32) ≤ nI 6 by decide), k1, cV_some]
    · unfold f7_readBus
      rw [a1', r1, if_neg ne4, a1', r1, bI_eq, eA, a2', low J0 (by omega) 2 (by omega), R_0, cI_some, if_neg (show ¬ (1 : Int32) = 0 by decide), show nI A + 1 = nI (A + 1) from nx_add A 1, R_1, cI_some, if_neg (show ¬ (1 : Int32) = 0 by decide), aI_in (by omega) (by omega), mid J2 (by omega) 1 (by omega), show nI ((updS (updS (fun _ => 0) 0 v0) 1 v1) 1) = nI v1 from rfl, show nI A + 2 = nI (A + 2) from nx_add A 2, R_2, cI_some, if_neg (show ¬ (1 : Int32) = 0 by decide), aI_in (by omega) (by omega), mid J3 (by omega) 1 (by omega), show nI ((updS (updS (updS (fun _ => 0) 0 v0) 1 v1) 2 v2) 1) = nI v1 from rfl, show nI A + 3 = nI (A + 3) from nx_add A 3, R_3, cI_some, if_neg (show ¬ (1 : Int32) = 0 by decide), a0', low J4 (by omega) 0 (by omega), show nI A + 4 = nI (A + 4) from nx_add A 4, R_4, cI_some, if_neg (show ¬ (1 : Int32) = 0 by decide), aI_in (by omega) (by omega), mid J5 (by omega) 4 (by omega), show nI ((updS (updS (updS (updS (updS (fun _ => 0) 0 v0) 1 v1) 2 v2) 3 v3) 4 v4) 4) = nI v4 from rfl, a0', low J5 (by omega) 0 (by omega), show nI A + 5 = nI (A + 5) from nx_add A 5, R_5, cI_some, if_neg (show ¬ (1 : Int32) = 0 by decide), a1', low J6 (by omega) 1 (by omega), hBc, u1, show nI Bc + 1 = nI (Bc + 1) from nx_add Bc 1]
      rfl
end STM3
