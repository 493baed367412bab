section TELL
def cpR (M : mm_M) (a b m : Nat) : mm_M := sR M b (va_cpy (M.1 a) (M.1 b) 0 0 m)
theorem cpR_eq (M : mm_M) (a b m : Nat) {k : Nat} (h : k < m) : mI (cpR M a b m) b k = mI M a k := by
  unfold cpR
  rw [mI_sR, if_pos rfl]
  unfold va_cpy
  rw [if_pos (by omega), show 0 + (k - 0) = k by omega]
  rfl
theorem cpR_ne (M : mm_M) (a b m : Nat) {c : Nat} (k : Nat) (h : c ≠ b) : mI (cpR M a b m) c k = mI M c k := by
  unfold cpR
  rw [mI_sR, if_neg h]
theorem x_copyFrom {M : mm_M} {d e : Nat} {S : sS} (hd : isD d = true) (hne : e ≠ d) (hv : vD M e S) : ∃ M', f0_copyFrom d e M = some M' ∧ Fr (fun c => d ≤ c ∧ c ≤ d + 8) M M' ∧ vD M' d S := by
  have he : (d = 2 ∧ e = 11) ∨ (d = 11 ∧ e = 2) := by
    rcases isD_or hd with h1 | h1 <;> rcases isD_or hv.ok with h2 | h2 <;> omega
  have c3 : ∀ {a b : Nat} {N : mm_M} {e : mm_M → Option mm_M}, cpy a 3 b 3 0 0 3 N e = e (cpR N a b 3) := fun {a b N e} => cpy_in (sp := 0) (dp := 0) (n := 3) (by omega) (by omega) (by omega) (by omega)
  have c8 : ∀ {a b : Nat} {N : mm_M} {e : mm_M → Option mm_M}, cpy a 8 b 8 0 0 8 N e = e (cpR N a b 8) := fun {a b N e} => cpy_in (sp := 0) (dp := 0) (n := 8) (by omega) (by omega) (by omega) (by omega)
  have c4 : ∀ {a b : Nat} {N : mm_M} {e : mm_M → Option mm_M}, cpy a 4 b 4 0 0 4 N e = e (cpR N a b 4) := fun {a b N e} => cpy_in (sp := 0) (dp := 0) (n := 4) (by omega) (by omega) (by omega) (by omega)
  have c16 : ∀ {a b : Nat} {N : mm_M} {e : mm_M → Option mm_M}, cpy a 16 b 16 0 0 16 N e = e (cpR N a b 16) := fun {a b N e} => cpy_in (sp := 0) (dp := 0) (n := 16) (by omega) (by omega) (by omega) (by omega)
  have c24 : ∀ {a b : Nat} {N : mm_M} {e : mm_M → Option mm_M}, cpy a 24 b 24 0 0 24 N e = e (cpR N a b 24) := fun {a b N e} => cpy_in (sp := 0) (dp := 0) (n := 24) (by omega) (by omega) (by omega) (by omega)
  obtain ⟨M3, h3⟩ : ∃ M3, M3 = sI (sI (sI M d 0 (nI (S 0))) d 1 (nI (S 2))) d 2 (nI (S 1)) := ⟨_, rfl⟩
  obtain ⟨N1, n1⟩ : ∃ N, N = cpR M3 (e + 1) (d + 1) 3 := ⟨_, rfl⟩
  obtain ⟨N2, n2⟩ : ∃ N, N = cpR N1 (e + 2) (d + 2) 8 := ⟨_, rfl⟩
  obtain ⟨N3, n3⟩ : ∃ N, N = cpR N2 (e + 3) (d + 3) 8 := ⟨_, rfl⟩
  obtain ⟨N4, n4⟩ : ∃ N, N = cpR N3 (e + 4) (d + 4) 4 := ⟨_, rfl⟩
  obtain ⟨N5, n5⟩ : ∃ N, N = cpR N4 (e + 5) (d + 5) 16 := ⟨_, rfl⟩
  obtain ⟨N6, n6⟩ : ∃ N, N = cpR N5 (e + 6) (d + 6) 16 := ⟨_, rfl⟩
  obtain ⟨N7, n7⟩ : ∃ N, N = cpR N6 (e + 7) (d + 7) 24 := ⟨_, rfl⟩
  have fr : Fr (fun c => d ≤ c ∧ c ≤ d + 8) M M3 := by
    rw [h3]
    exact ((Fr.sI (P := fun c => d ≤ c ∧ c ≤ d + 8) (by omega)).tr (Fr.sI (by omega))).tr (Fr.sI (by omega))
  have fr1 : Fr (fun c => d ≤ c ∧ c ≤ d + 8) M3 N1 := by
    rw [n1]
    exact Fr.sR (by omega)
  have fr2 : Fr (fun c => d ≤ c ∧ c ≤ d + 8) N1 N2 := by
    rw [n2]
    exact Fr.sR (by omega)
  have fr3 : Fr (fun c => d ≤ c ∧ c ≤ d + 8) N2 N3 := by
    rw [n3]
    exact Fr.sR (by omega)
  have fr4 : Fr (fun c => d ≤ c ∧ c ≤ d + 8) N3 N4 := by
    rw [n4]
    exact Fr.sR (by omega)
  have fr5 : Fr (fun c => d ≤ c ∧ c ≤ d + 8) N4 N5 := by
    rw [n5]
    exact Fr.sR (by omega)
  have fr6 : Fr (fun c => d ≤ c ∧ c ≤ d + 8) N5 N6 := by
    rw [n6]
    exact Fr.sR (by omega)
  have fr7 : Fr (fun c => d ≤ c ∧ c ≤ d + 8) N6 N7 := by
    rw [n7]
    exact Fr.sR (by omega)
  have all : Fr (fun c => d ≤ c ∧ c ≤ d + 8) M N7 := ((((((fr.tr fr1).tr fr2).tr fr3).tr fr4).tr fr5).tr fr6).tr fr7
  have k3 : ∀ i k, i < 9 → mI M3 (e + i) k = mI M (e + i) k := fun i k hi => fr.mI (fun z => by omega) k
  have k4 : ∀ i k, i < 9 → mI N1 (e + i) k = mI M (e + i) k := fun i k hi => (fr.tr fr1).mI (fun z => by omega) k
  have k5 : ∀ i k, i < 9 → mI N2 (e + i) k = mI M (e + i) k := fun i k hi => ((fr.tr fr1).tr fr2).mI (fun z => by omega) k
  have k6 : ∀ i k, i < 9 → mI N3 (e + i) k = mI M (e + i) k := fun i k hi => (((fr.tr fr1).tr fr2).tr fr3).mI (fun z => by omega) k
  have k7 : ∀ i k, i < 9 → mI N4 (e + i) k = mI M (e + i) k := fun i k hi => ((((fr.tr fr1).tr fr2).tr fr3).tr fr4).mI (fun z => by omega) k
  have k8 : ∀ i k, i < 9 → mI N5 (e + i) k = mI M (e + i) k := fun i k hi => (((((fr.tr fr1).tr fr2).tr fr3).tr fr4).tr fr5).mI (fun z => by omega) k
  have k9 : ∀ i k, i < 9 → mI N6 (e + i) k = mI M (e + i) k := fun i k hi => ((((((fr.tr fr1).tr fr2).tr fr3).tr fr4).tr fr5).tr fr6).mI (fun z => by omega) k
  refine ⟨N7, ?_, all, (show vE N7 d S from ⟨hd, fun i k hi hk => ?_⟩).D⟩
  · unfold f0_copyFrom
    rw [if_pos hd, if_pos hv.ok, bI_eq, hv.T, bM_eq, bI_eq, mI_sI_c _ _ _ _ (show e ≠ d from hne), hv.C, bM_eq, bI_eq, mI_sI_c _ _ _ _ (show e ≠ d from hne), mI_sI_c _ _ _ _ (show e ≠ d from hne), hv.B, bM_eq, ← h3, c3, ← n1, c8, ← n2, c8, ← n3, c4, ← n4, c16, ← n5, c16, ← n6, c24, ← n7]
  · have hE := hv.E.2 i k hi hk
    rcases (show i = 0 ∨ i = 1 ∨ i = 2 ∨ i = 3 ∨ i = 4 ∨ i = 5 ∨ i = 6 ∨ i = 7 by omega) with rfl | rfl | rfl | rfl | rfl | rfl | rfl | rfl
    · have hk3 : k < 3 := hk
      rw [n7, cpR_ne _ _ _ _ _ (by omega), n6, cpR_ne _ _ _ _ _ (by omega), n5, cpR_ne _ _ _ _ _ (by omega), n4, cpR_ne _ _ _ _ _ (by omega), n3, cpR_ne _ _ _ _ _ (by omega), n2, cpR_ne _ _ _ _ _ (by omega), n1, cpR_ne _ _ _ _ _ (by omega), h3]
      rcases (show k = 0 ∨ k = 1 ∨ k = 2 by omega) with rfl | rfl | rfl
      · rw [Nat.add_zero, mI_sI_k _ _ _ (by decide), mI_sI_k _ _ _ (by decide), mI_sI_eq]; rfl
      · rw [Nat.add_zero, mI_sI_k _ _ _ (by decide), mI_sI_eq]; rfl
      · rw [Nat.add_zero, mI_sI_eq]; rfl
    · rw [n7, cpR_ne _ _ _ _ _ (by omega), n6, cpR_ne _ _ _ _ _ (by omega), n5, cpR_ne _ _ _ _ _ (by omega), n4, cpR_ne _ _ _ _ _ (by omega), n3, cpR_ne _ _ _ _ _ (by omega), n2, cpR_ne _ _ _ _ _ (by omega), n1, cpR_eq _ _ _ _ (show k < 3 from hk), k3 1 k (by omega), hE]
    · rw [n7, cpR_ne _ _ _ _ _ (by omega), n6, cpR_ne _ _ _ _ _ (by omega), n5, cpR_ne _ _ _ _ _ (by omega), n4, cpR_ne _ _ _ _ _ (by omega), n3, cpR_ne _ _ _ _ _ (by omega), n2, cpR_eq _ _ _ _ (show k < 8 from hk), k4 2 k (by omega), hE]
    · rw [n7, cpR_ne _ _ _ _ _ (by omega), n6, cpR_ne _ _ _ _ _ (by omega), n5, cpR_ne _ _ _ _ _ (by omega), n4, cpR_ne _ _ _ _ _ (by omega), n3, cpR_eq _ _ _ _ (show k < 8 from hk), k5 3 k (by omega), hE]
    · rw [n7, cpR_ne _ _ _ _ _ (by omega), n6, cpR_ne _ _ _ _ _ (by omega), n5, cpR_ne _ _ _ _ _ (by omega), n4, cpR_eq _ _ _ _ (show k < 4 from hk), k6 4 k (by omega), hE]
    · rw [n7, cpR_ne _ _ _ _ _ (by omega), n6, cpR_ne _ _ _ _ _ (by omega), n5, cpR_eq _ _ _ _ (show k < 16 from hk), k7 5 k (by omega), hE]
    · rw [n7, cpR_ne _ _ _ _ _ (by omega), n6, cpR_eq _ _ _ _ (show k < 16 from hk), k8 6 k (by omega), hE]
    · rw [n7, cpR_eq _ _ _ _ (show k < 24 from hk), k9 7 k (by omega), hE]
theorem y_copy0 : ∀ (k j n : Nat) (M : mm_M), j + k = 82 → k < n → ∃ M', l7_copies_2 n 0 (nI j) M = some M' ∧ Fr (fun c => c = 48) M M' ∧ (∀ i, j ≤ i → i < 82 → mI M' 48 i = mI M 47 i) ∧ ∀ i, i < j → mI M' 48 i = mI M 48 i := by
  intro k
  induction k with
  | zero =>
    intro j n M hk hn
    obtain ⟨n, rfl⟩ : ∃ i, n = i + 1 := ⟨n - 1, by omega⟩
    refine ⟨M, ?_, Fr.rf, fun i h1 h2 => by omega, fun i _ => rfl⟩
    unfold l7_copies_2 b7_copies_2
    rw [show (82 : Int32) = nI 82 from rfl, if_pos (by rw [nx_le (by omega) (by omega)]; omega)]
  | succ k ih =>
    intro j n M hk hn
    obtain ⟨n, rfl⟩ : ∃ i, n = i + 1 := ⟨n - 1, by omega⟩
    have f0 : Fr (fun c => c = 48) M (sI M 48 j (mI M 47 j)) := Fr.sI rfl
    obtain ⟨M', e1, e2, e3, e4⟩ := ih (j + 1) n (sI M 48 j (mI M 47 j)) (by omega) (by omega)
    refine ⟨M', ?_, f0.tr e2, fun i h1 h2 => ?_, fun i hi => ?_⟩
    · unfold l7_copies_2 b7_copies_2 l7_copies_39
      rw [show (82 : Int32) = nI 82 from rfl, if_neg (by rw [nx_le (by omega) (by omega)]; omega), if_pos rfl, aI_in (by omega) (by omega), uI_in (by omega) (by omega), show nI j + 1 = nI (j + 1) from nx_add j 1]
      exact e1
    · by_cases hij : i = j
      · subst hij; rw [e4 i (by omega), mI_sI_eq]
      · rw [e3 i (by omega) h2, mI_sI_c _ _ _ _ (by decide)]
    · rw [e4 i (by omega), mI_sI_k _ _ _ (by omega)]
theorem y_copy1 : ∀ (k j n : Nat) (M : mm_M), j + k = 82 → k < n → ∃ M', l7_copies_2 n 1 (nI j) M = some M' ∧ Fr (fun c => c = 47) M M' ∧ (∀ i, j ≤ i → i < 82 → mI M' 47 i = mI M 48 i) ∧ ∀ i, i < j → mI M' 47 i = mI M 47 i := by
  intro k
  induction k with
  | zero =>
    intro j n M hk hn
    obtain ⟨n, rfl⟩ : ∃ i, n = i + 1 := ⟨n - 1, by omega⟩
    refine ⟨M, ?_, Fr.rf, fun i h1 h2 => by omega, fun i _ => rfl⟩
    unfold l7_copies_2 b7_copies_2
    rw [show (82 : Int32) = nI 82 from rfl, if_pos (by rw [nx_le (by omega) (by omega)]; omega)]
  | succ k ih =>
    intro j n M hk hn
    obtain ⟨n, rfl⟩ : ∃ i, n = i + 1 := ⟨n - 1, by omega⟩
    have f0 : Fr (fun c => c = 47) M (sI M 47 j (mI M 48 j)) := Fr.sI rfl
    obtain ⟨M', e1, e2, e3, e4⟩ := ih (j + 1) n (sI M 47 j (mI M 48 j)) (by omega) (by omega)
    refine ⟨M', ?_, f0.tr e2, fun i h1 h2 => ?_, fun i hi => ?_⟩
    · unfold l7_copies_2 b7_copies_2 l7_copies_39
      rw [show (82 : Int32) = nI 82 from rfl, if_neg (by rw [nx_le (by omega) (by omega)]; omega), if_neg (by decide), aI_in (by omega) (by omega), uI_in (by omega) (by omega), show nI j + 1 = nI (j + 1) from nx_add j 1]
      exact e1
    · by_cases hij : i = j
      · subst hij; rw [e4 i (by omega), mI_sI_eq]
      · rw [e3 i (by omega) h2, mI_sI_c _ _ _ _ (by decide)]
    · rw [e4 i (by omega), mI_sI_k _ _ _ (by omega)]
def tellEnd (f : Option (Int32 × mm_M)) : Option (Int32 × mm_M) := cI f (fun r_1 M => bM (sI M 46 4 0) (fun M => bI (mI M 46 7) (fun v_2 => bM (sI M 46 5 v_2) (fun M => if r_1 = 0 then (some ((-1), M)) else (cV (f7_copies 1 M) (fun M => bI (mI M 46 10) (fun v_3 => some (v_3, M))))))))
theorem y_start {Mx : mm_M} {q : sQ} (hv : vN Mx q) : ∃ Mz, f7_tell Mx = tellEnd (l7_readText_15 FU Mz) ∧ Fr cRf Mx Mz ∧ cR Mz q.2.1 q.2.2.1 q.1 0 ∧ mI Mz 46 10 = nI 0 ∧ mI Mz 46 7 = 0 := by
  have hF := FU_big
  obtain ⟨My, e1, e2, e3, -⟩ := y_copy0 82 0 FU (sI Mx 46 0 0) (by omega) (by omega)
  have f0 : Fr cRf Mx My := (Fr.sI (P := cRf) (Or.inl rfl)).tr (e2.wd (fun c z => Or.inr z))
  refine ⟨sI (sI (sI My 46 10 0) 46 6 0) 46 7 0, ?_, f0.tr (((Fr.sI (Or.inl rfl)).tr (Fr.sI (Or.inl rfl))).tr (Fr.sI (Or.inl rfl))), ⟨fun k hk => ?_, ?_, fun j hj => ?_, ?_⟩, ?_, mI_sI_eq _ _ _ _⟩
  · unfold f7_tell f7_copies f7_readText tellEnd
    rw [bM_eq, show l7_copies_2 FU 0 0 (sI Mx 46 0 0) = some My from e1, cV_some, bM_eq, bM_eq, bM_eq]
    rfl
  · rw [mI_sI_c _ _ _ _ (by decide), mI_sI_c _ _ _ _ (by decide), mI_sI_c _ _ _ _ (by decide), e3 k (by omega) hk, mI_sI_c _ _ _ _ (by decide)]
    exact hv.1 k hk
  · rw [mI_sI_k _ _ _ (by decide), mI_sI_k _ _ _ (by decide), mI_sI_k _ _ _ (by decide), e2.mI (by decide), mI_sI_k _ _ _ (by decide)]
    exact hv.2.1
  · rw [mI_sI_c _ _ _ _ (by decide), mI_sI_c _ _ _ _ (by decide), mI_sI_c _ _ _ _ (by decide), e2.mI (by decide), mI_sI_c _ _ _ _ (by decide)]
    exact hv.2.2.2.1 j hj
  · rw [mI_sI_k _ _ _ (by decide), mI_sI_eq]
    rfl
  · rw [mI_sI_k _ _ _ (by decide), mI_sI_k _ _ _ (by decide), mI_sI_eq]
    rfl
theorem t_tell {M : mm_M} {q : sQ} (h : TT M q) : CC (fun M => f6_tell M) (fun M => f7_tell M) M q := by
  obtain ⟨hq, hk, hn⟩ := h
  obtain ⟨q1, q2, q3, q4, q5, q6, q7, q8, q9⟩ := hk
  have hF := FU_big
  have hn4 := hq.2.2.1
  have hB := hq.2.2.2.1
  obtain ⟨d, hd⟩ : ∃ d, mDra M = d := ⟨_, rfl⟩
  obtain ⟨e, he⟩ : ∃ e, mNow M = e := ⟨_, rfl⟩
  rw [hd] at q1 q2
  rw [he] at q2 q3
  have hdl := isD_le q1
  have hel := isD_le q3.ok
  have hde : (d = 2 ∧ e = 11) ∨ (d = 11 ∧ e = 2) := by
    rcases isD_or q1 with h1 | h1 <;> rcases isD_or q3.ok with h2 | h2 <;> omega
  obtain ⟨M1, a1, a2, a3⟩ := x_copyFrom q1 q2 q3
  have f2 : Fr (fun c => c = 20 ∨ c = 22) M1 (sI (sI M1 22 1 0) 20 5 0) := (Fr.sI (P := fun c => c = 20 ∨ c = 22) (Or.inr rfl)).tr (Fr.sI (Or.inl rfl))
  have hT2 : vT (sI (sI M1 22 1 0) 20 5 0) q.2.1 q.2.2.1 (mI M1 20 2) (mI M1 20 3) (mI M1 20 4) (nI 0) := ⟨by rw [mI_sI_k _ _ _ (by decide), mI_sI_c _ _ _ _ (by decide), a2.mI (fun z => by omega)]; exact q4, fun j hj => by rw [f2.mI (by decide), a2.mI (fun z => by omega)]; exact q5 j hj, by rw [mI_sI_k _ _ _ (by decide), mI_sI_c _ _ _ _ (by decide)], by rw [mI_sI_k _ _ _ (by decide), mI_sI_c _ _ _ _ (by decide)], by rw [mI_sI_k _ _ _ (by decide), mI_sI_c _ _ _ _ (by decide)], mI_sI_eq _ _ _ _⟩
  obtain ⟨M4, b1, b2, b3⟩ := x_st0 hB hn4 q.2.2.1 0 FU _ _ _ _ (by omega) (by omega) (by omega) hT2
  have hc4 : cC M4 d q.2.1 q.2.2.1 q.1 (sskip q.2.1 q.2.2.1 0) := ⟨(a3.mv f2 (fun c z => by omega)).mv b2 (fun c z => by omega), b3, by rw [b2.mI (by decide), mI_sI_c _ _ _ _ (by decide), mI_sI_eq]⟩
  have f4 : Fr (cCl d) M M4 := ((frd a2).tr (f2.wd (fun c z => by rcases z with z | z; exact Or.inl z; exact Or.inr (Or.inl z)))).tr (fr20 b2)
  have ein : f3_readInto d M1 = l3_readInto_14 FU d (nI 0) M4 := by
    unfold f3_readInto f5_rewind f5_step
    rw [if_pos q1, bM_eq, bM_eq, b1, cV_some, cV_some]
    rfl
  have J : ∀ {Mr : mm_M}, cR Mr q.2.1 q.2.2.1 q.1 0 → mI Mr 46 10 = nI 0 → mI Mr 46 7 = 0 → _ := fun {Mr} h1 h2 h3 => j_text (d := d) hB hn4 q.2.2.1 0 0 FU FU q.1 M4 Mr (by omega) (by omega) (by omega) (by omega) (by omega) ⟨hq.1, hq.2.1⟩ hc4 h1 h2 h3
  have head : ∀ {r : Int32} {Mc : mm_M}, l3_readInto_14 FU d (nI 0) M4 = some (r, Mc) → Fr (cCl d) M4 Mc → f6_tell M = (if r = (-1) then (some ((-1), sI Mc 20 1 0)) else some (r, sI (sDra (sNow (sI Mc 20 1 0) d) e) 1 8 0)) := by
    intro r Mc h1 h2
    have hm1 : mDra M1 = d := by unfold mDra; rw [a2.2.2]; exact hd
    have hmc : Mc.2.2 = M.2.2 := (f4.tr h2).2.2
    have hm2 : mDra (sI Mc 20 1 0) = d := by show mDra Mc = d; unfold mDra; rw [hmc]; exact hd
    have hm3 : mNow (sI Mc 20 1 0) = e := by show mNow Mc = e; unfold mNow; rw [hmc]; exact he
    unfold f6_tell
    rw [bN_eq, hd, if_pos q1, bN_eq, he, if_pos q3.ok, a1, cV_some, bN_eq, hm1, if_pos q1, ein, h1, cI_some, bM_eq, bN_eq, hm3, if_pos q3.ok, bN_eq, hm2, if_pos q1, bM_eq, bM_eq, bM_eq]
  have hi46 : ∀ {Mc : mm_M}, Fr (cCl d) M4 Mc → ∀ c, 46 ≤ c → Mc.1 c = M.1 c := fun h c hc => (f4.tr h).1 c (fun z => by rcases z with z | z | z <;> omega)
  have lo : ∀ {Mc : mm_M}, Fr (cCl d) M4 Mc → ∀ {c : Nat}, c ≠ 20 → c ≠ 22 → ¬ (d ≤ c ∧ c ≤ d + 8) → ∀ k, mI Mc c k = mI M c k := fun {Mc} h {c} h1 h2 h3 k => (f4.tr h).mI (fun z => by rcases z with z | z | z; exact h1 z; exact h2 z; exact h3 z) k
  obtain ⟨Mz0, -, -, c0, c1, c2⟩ := y_start hn
  obtain ⟨Mc, Mr0, u1, -, u3⟩ := J c0 c1 c2
  rcases u3 with ⟨S0, k0, v1, -, v3, -⟩ | ⟨F0, v1, -⟩
  · have hcl := head v1 u1
    rw [if_neg (by rw [nx_neg1 (by omega)]; exact fun z => z)] at hcl
    obtain ⟨Mf, hMf⟩ : ∃ Mf, Mf = sI (sDra (sNow (sI Mc 20 1 0) d) e) 1 8 0 := ⟨_, rfl⟩
    rw [← hMf] at hcl
    have hf46 : ∀ c, 46 ≤ c → Mf.1 c = M.1 c := fun c hc => by
      rw [hMf, ← hi46 u1 c hc]
      show uR (uR Mc.1 20 _) 1 _ c = Mc.1 c
      rw [uR_ne (by omega), uR_ne (by omega)]
    have hnf : vN Mf q := hn.mvK hf46
    obtain ⟨Mz, y1, y2, y3, y4, y5⟩ := y_start hnf
    obtain ⟨Mc2, Mr, u1', u2, u3⟩ := J y3 y4 y5
    rcases u3 with ⟨S', c', w1, w2, w3, w4, w5, w6, w7, w8, w9⟩ | ⟨F, w1, -⟩
    · rw [v1] at w1
      have w1 := Option.some.inj w1
      have e1 : nI k0 = nI c' := congrArg Prod.fst w1
      have e2 : Mc = Mc2 := congrArg Prod.snd w1
      subst e2
      obtain ⟨Mr5, hMr5⟩ : ∃ Mr5, Mr5 = sI (sI Mr 46 4 0) 46 5 0 := ⟨_, rfl⟩
      obtain ⟨Mg, g1, g2, g3, -⟩ := y_copy1 82 0 FU Mr5 (by omega) (by omega)
      have fr5 : Fr cRf Mf Mr5 := by
        rw [hMr5]
        exact (y2.tr u2).tr ((Fr.sI (Or.inl rfl)).tr (Fr.sI (Or.inl rfl)))
      have frg : Fr (fun c => c = 46 ∨ c = 47 ∨ c = 48) Mf Mg := (fr5.wd (fun c z => by rcases z with z | z <;> omega)).tr (g2.wd (fun c z => by omega))
      have ml : ∀ c, c < 46 → ∀ k, mI Mg c k = mI Mf c k := fun c hc k => frg.mI (fun z => by omega) k
      have mf : ∀ {c : Nat}, c ≠ 1 → c ≠ 20 → ∀ k, mI Mf c k = mI Mc c k := fun {c} h1 h2 k => by
        rw [hMf, mI_sI_c _ _ _ _ h1]
        show mI (sI Mc 20 1 0) c k = _
        rw [mI_sI_c _ _ _ _ h2]
      have hnow : mNow Mg = d := by unfold mNow; rw [frg.2.2, hMf]; rfl
      have hdra : mDra Mg = e := by unfold mDra; rw [frg.2.2, hMf]; rfl
      refine ⟨nI k0, Mf, Mg, hcl, ?_, ⟨(S', q.2.1, 0, 0), ⟨w4.1, w4.2, Nat.zero_le _, hB, show 0 < 10000 by decide⟩, ⟨by rw [hdra]; exact q3.ok, by rw [hnow, hdra]; omega, ?_, ?_, fun j hj => absurd hj (Nat.not_lt_zero _), ?_, ?_, ?_, Or.inl ?_⟩, fun k hk => ?_, ?_, ?_, fun j hj => absurd hj (Nat.not_lt_zero _), fun b hb => ?_⟩, ?_⟩
      · show f7_tell Mf = _
        rw [y1, w2]
        unfold tellEnd f7_copies
        rw [cI_some, bM_eq, bI_eq, mI_sI_k _ _ _ (by decide), w9, bM_eq, ← hMr5, if_neg (by decide), show l7_copies_2 FU 1 0 Mr5 = some Mg from g1, cV_some, bI_eq, g2.mI (by decide), hMr5, mI_sI_k _ _ _ (by decide), mI_sI_k _ _ _ (by decide), w8, e1]
      · rw [hnow]
        refine (show vE Mg d S' from ⟨q1, fun i k hi hk => ?_⟩).D
        rw [ml _ (by omega), mf (by omega) (by omega)]
        exact w5.E.2 i k hi hk
      · rw [ml 20 (by omega), hMf, mI_sI_c _ _ _ _ (by decide)]
        show mI (sI Mc 20 1 0) 20 1 = _
        rw [mI_sI_eq]; rfl
      · rw [ml 22 (by omega), mf (by decide) (by decide), w7]; rfl
      · rw [ml 33 (by omega), mf (by decide) (by decide), lo u1 (by decide) (by decide) (fun z => by omega)]; exact q7
      · rw [ml 40 (by omega), mf (by decide) (by decide), lo u1 (by decide) (by decide) (fun z => by omega)]; exact q8
      · rw [ml 1 (by omega), hMf, mI_sI_eq]
      · rw [g3 k (by omega) hk, hMr5, mI_sI_c _ _ _ _ (by decide), mI_sI_c _ _ _ _ (by decide)]; exact w6 k hk
      · rw [g2.mI (by decide), hMr5, mI_sI_k _ _ _ (by decide), mI_sI_eq]; rfl
      · rw [g2.mI (by decide), hMr5, mI_sI_eq]; rfl
      · rw [frg.mI (by decide)]; exact hnf.2.2.2.2 b hb
      · show Mg.2.2.2 = M.2.2.2
        rw [frg.2.2, hMf]
        show Mc.2.2.2 = M.2.2.2
        rw [(f4.tr u1).2.2]
    · rw [v1] at w1
      have e1 : nI k0 = -1 := congrArg Prod.fst (Option.some.inj w1)
      rw [nx_neg1 (by omega)] at e1
      exact e1.elim
  · have hcl := head v1 u1
    rw [if_pos rfl] at hcl
    obtain ⟨Mf, hMf⟩ : ∃ Mf, Mf = sI Mc 20 1 0 := ⟨_, rfl⟩
    rw [← hMf] at hcl
    have hf46 : ∀ c, 46 ≤ c → Mf.1 c = M.1 c := fun c hc => by
      rw [hMf, ← hi46 u1 c hc]
      show uR Mc.1 20 _ c = Mc.1 c
      rw [uR_ne (by omega)]
    have hnf : vN Mf q := hn.mvK hf46
    obtain ⟨Mz, y1, y2, y3, y4, y5⟩ := y_start hnf
    obtain ⟨Mc2, Mr, u1', u2, u3⟩ := J y3 y4 y5
    rcases u3 with ⟨S', c', w1, -, w3, -⟩ | ⟨F, w1, w2, w3, w4, w5, w6⟩
    · rw [v1] at w1
      have e1 : -1 = nI c' := congrArg Prod.fst (Option.some.inj w1)
      have e1 := e1.symm
      rw [nx_neg1 (by omega)] at e1
      exact e1.elim
    · rw [v1] at w1
      have e2 : Mc = Mc2 := congrArg Prod.snd (Option.some.inj w1)
      subst e2
      have frg : Fr cRf Mf (sI (sI Mr 46 4 0) 46 5 (nI F)) := (y2.tr u2).tr ((Fr.sI (Or.inl rfl)).tr (Fr.sI (Or.inl rfl)))
      obtain ⟨Mg, hMg⟩ : ∃ Mg, Mg = sI (sI Mr 46 4 0) 46 5 (nI F) := ⟨_, rfl⟩
      rw [← hMg] at frg
      have ml : ∀ c, c < 46 → ∀ k, mI Mg c k = mI Mf c k := fun c hc k => frg.mI (fun z => by rcases z with z | z <;> omega) k
      have mf : ∀ {c : Nat}, c ≠ 20 → ∀ k, mI Mf c k = mI Mc c k := fun {c} h2 k => by rw [hMf, mI_sI_c _ _ _ _ h2]
      have hmem : Mg.2.2 = M.2.2 := by
        rw [frg.2.2, hMf]
        show Mc.2.2 = M.2.2
        rw [(f4.tr u1).2.2]
      have hnow : mNow Mg = e := by unfold mNow; rw [hmem]; exact he
      have hdra : mDra Mg = d := by unfold mDra; rw [hmem]; exact hd
      refine ⟨-1, Mf, Mg, hcl, ?_, ⟨(q.1, q.2.1, 0, F), ⟨hq.1, hq.2.1, Nat.zero_le _, hB, w4⟩, ⟨by rw [hdra]; exact q1, by rw [hnow, hdra]; exact q2, ?_, ?_, fun j hj => absurd hj (Nat.not_lt_zero _), ?_, ?_, ?_, ?_⟩, fun k hk => ?_, ?_, ?_, fun j hj => absurd hj (Nat.not_lt_zero _), fun b hb => ?_⟩, ?_⟩
      · show f7_tell Mf = _
        rw [y1, w2]
        unfold tellEnd
        rw [cI_some, bM_eq, bI_eq, mI_sI_k _ _ _ (by decide), w6, bM_eq, ← hMg, if_pos rfl]
      · rw [hnow]
        refine (show vE Mg e q.1 from ⟨q3.ok, fun i k hi hk => ?_⟩).D
        rw [ml _ (by omega), mf (by omega), lo u1 (by omega) (by omega) (fun z => by omega)]
        exact q3.E.2 i k hi hk
      · rw [ml 20 (by omega), hMf, mI_sI_eq]; rfl
      · rw [ml 22 (by omega), mf (by decide), w5]
      · rw [ml 33 (by omega), mf (by decide), lo u1 (by decide) (by decide) (fun z => by omega)]; exact q7
      · rw [ml 40 (by omega), mf (by decide), lo u1 (by decide) (by decide) (fun z => by omega)]; exact q8
      · rw [ml 1 (by omega), mf (by decide), lo u1 (by decide) (by decide) (fun z => by omega)]
        exact q9.imp (fun z => z) (fun z => ⟨z.1, fun s hs => by rw [ml 45 (by omega), mf (by decide), lo u1 (by decide) (by decide) (fun z => by omega)]; exact z.2 s hs⟩)
      · rw [frg.mI (by decide)]; exact hnf.1 k hk
      · rw [hMg, mI_sI_k _ _ _ (by decide), mI_sI_eq]; rfl
      · rw [hMg, mI_sI_eq]
      · rw [frg.mI (by decide)]; exact hnf.2.2.2.2 b hb
      · show Mg.2.2.2 = M.2.2.2
        rw [hmem]
end TELL
