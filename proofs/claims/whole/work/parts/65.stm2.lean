section STM2
variable {B : Nat → Nat} {n d : Nat} {S : sS}
-- charge
theorem bit_or : ∀ s : Fin 16, ∀ b : Fin 4, sbit s.1 b.1 = false → (nI s.1 &&& nI (2 ^ b.1)) = 0 ∧ (nI s.1 ||| nI (2 ^ b.1)) = nI (s.1 + 2 ^ b.1) ∧ spop (s.1 + 2 ^ b.1) = spop s.1 + 1 := by decide +kernel
theorem bit_or2 : ∀ n : Fin 5, ∀ s : Fin 16, ∀ b : Fin 4, s.1 < 2 ^ n.1 → b.1 < n.1 → sbit s.1 b.1 = false → s.1 + 2 ^ b.1 < 2 ^ n.1 := by decide +kernel
theorem x_rc104 {M : mm_M} (hv : vD M d S) {s set : Nat} (hs : s < 8) : ∃ M', l3_readCharge_104 d (nI s) (nI set) M = some M' ∧ Fr (fun c => d ≤ c ∧ c ≤ d + 8) M M' ∧ vD M' d (updS S (74 + s) set) := by
  unfold l3_readCharge_104
  rw [uI_in hs (by omega)]
  exact ⟨_, rfl, Fr.sI (by omega), (vE_upd hv.E (i := 3) (k := s) (by omega) hs set).D⟩
theorem j_rc (hB : ∀ i, B i < 256) (hn : n ≤ 400) (hS : sOK S) {s : Nat} (hs : s < S 0) {p0 : Nat} : ∀ (k i a set kc kr : Nat) (Mc Mr : mm_M), i + k = 5 → k < kc → k < kr → a ≤ n → p0 < a → set < 2 ^ S 1 → spop set = i → vD Mc d S → vTk Mc B n (sskip B n a) → mI Mc 22 1 = 0 → cR Mr B n S a →
    Stm d B n p0 Mc Mr (l3_readCharge_30 kc d (nI s) (nI set) (nI i) Mc) (l7_readCharge_25 kr (nI s) (nI set) Mr) := by
  have hw := hS.1
  have hT := hw.T
  have hBb := hw.B
  have h16 := two_pow_le hBb
  intro k
  induction k with
  | zero =>
    intro i a set kc kr Mc Mr hk hkc hkr ha hpa hset hpop hD hT2 h22 hr
    have : spop set ≤ 4 := spop_le ⟨set, by omega⟩
    omega
  | succ k ih =>
    intro i a set kc kr Mc Mr hk hkc hkr ha hpa hset hpop hD hT2 h22 hr
    obtain ⟨kc, rfl⟩ : ∃ j, kc = j + 1 := ⟨kc - 1, by omega⟩
    obtain ⟨kr, rfl⟩ : ∃ j, kr = j + 1 := ⟨kr - 1, by omega⟩
    have hd := isD_le hD.ok
    have hge := skge (B := B) (n := n) (a := a) rfl
    have hle := skle (B := B) (n := n) ha rfl
    obtain ⟨nu, hT3, hT4⟩ := id hT2
    obtain ⟨Mr1, q1, q2, q3⟩ := y_isNumber hB hn ha rfl hr.2
    have hr1 := cR_rs hr q2 q3
    have htl : tk B n (sskip B n a) < 4 := by unfold tk; split <;> (try split) <;> (try split) <;> omega
    unfold l3_readCharge_30 b3_readCharge_30 l7_readCharge_25 b7_readCharge_25
    rw [if_neg (by rw [nx_l4, nx_lt (by omega) (by omega)]; omega), bI_eq, hT3.2.2.1, q1, cI_some]
    by_cases ht : tk B n (sskip B n a) = 2
    · rw [if_pos (by rw [ht]; rfl), if_pos ht, if_neg (by decide), bI_eq, hD.B, show aI (α := Int32 × mm_M) 48 82 1 Mr1 = aI 48 82 (nI 1) Mr1 from rfl, aI_in (by omega) (by omega), hr1.1 1 (by omega)]
      obtain ⟨x1, x2⟩ := x_within (show sskip B n a ≤ 400 by omega) hT2 h22 0 (nI (S 1) - 1)
      obtain ⟨y1, y2⟩ := y_readNumber hB hn hle (sskip_idem B n a) q3 0 (nI (S 1) - 1)
      cases hv : rdF B n (sskip B n a) 0 (nI (S 1) - 1) with
      | none =>
        obtain ⟨Mr2, b1, b2, b3⟩ := y2 hv
        obtain ⟨l1, l2⟩ := rdE_bd (B := B) (n := n) (show sskip B n a ≤ 400 by omega)
        refine ⟨_, Mr2, fr22 (Fr.sI rfl), ?_, Or.inr ⟨rdE B n (sskip B n a), ?_, q2.g.x b2.x, l1, l2, mI_sI_eq _ _ _ _, b3⟩⟩
        · rw [x2 hv, cI_some, if_pos rfl]
        · rw [b1, cI_some, if_pos rfl]
          rfl
      | some v =>
        obtain ⟨c1, c2⟩ := x1 v hv
        obtain ⟨Mr2, b1, b2, b3, b4, b5⟩ := y1 v hv
        obtain ⟨l1, l2, l3, -⟩ := rdF_lt hv
        have hvB := pnT (S 1) (by omega) l2 l1
        have htb := tb_le (B := B) hle
        have hr2 := cR_rs hr1 b2 b3
        rw [c1, cI_some, if_neg (by decide), bI_eq, c2, shl_pow' (show v ≤ 4 by omega), bI_eq, b1, cI_some, if_neg (show ¬ (1 : Int32) = 0 by decide), bI_eq, bI_eq, b4, y_has (by omega) (by omega), cI_some]
        obtain ⟨t1, -⟩ := chg_tab ⟨set, by omega⟩ ⟨v, by omega⟩
        simp only at t1
        by_cases hbit : sbit set v = true
        · rw [if_neg (by rw [t1, hbit]; decide), if_pos hbit, if_neg (show ¬ (1 : Int32) = 0 by decide), show (3 : Int32) = nI 3 from rfl, x_blame (k := 3) hT3.2.2.2.1 h22, cV_some]
          refine ⟨_, sI Mr2 46 7 (nI (3 + 8 * sskip B n a)), fr22 (Fr.sI rfl), rfl, Or.inr ⟨3 + 8 * sskip B n a, ?_, (q2.g.tr b2.g).x (RE.s7 _ _).x, by omega, by omega, mI_sI_eq _ _ _ _, mI_sI_eq _ _ _ _⟩⟩
          unfold f7_fails
          rw [bI_eq, b5, show nI 3 + 8 * nI (sskip B n a) = nI (3 + 8 * sskip B n a) from by rw [show (8 : Int32) = nI 8 from rfl, nx_mul]; exact nx_add 3 _, bM_eq]
          rfl
        · have hbf := Bool.eq_false_iff.mpr hbit
          obtain ⟨o1, o2, o3⟩ := bit_or ⟨set, by omega⟩ ⟨v, by omega⟩ hbf
          simp only at o1 o2 o3
          have hlt := bit_or2 ⟨S 1, by omega⟩ ⟨set, by omega⟩ ⟨v, by omega⟩ hset hvB hbf
          obtain ⟨M3, e1, e2, e3⟩ := x_step hB hn hle hT2
          have IH := ih (i + 1) (tb B n (sskip B n a)) (set + 2 ^ v) kc kr M3 Mr2 (by omega) (by omega) (by omega) htb.2.1 (by omega) hlt (by rw [o3]; omega) (hD.mv e2 (fun c z => by omega)) e3 (by rw [e2.mI (by decide)]; exact h22) hr2
          rw [if_pos o1, if_neg hbit, if_pos rfl, o2, e1, cV_some, bI_eq, b4, shl_pow' (show v ≤ 4 by omega), o2, bI_eq, show nI i + 1 = nI (i + 1) from nx_add i 1]
          obtain ⟨Mc', Mr', z1, z2, z3⟩ := IH
          refine ⟨Mc', Mr', (fr20 e2).tr z1, z2, z3.imp (fun z => ?_) (fun z => ?_)⟩
          · obtain ⟨S', a', w1, w2, w3⟩ := z
            exact ⟨S', a', w1, (q2.g.tr b2.g).tr w2, w3⟩
          · obtain ⟨F, w1, w2, w3⟩ := z
            exact ⟨F, w1, (q2.g.tr b2.g).x w2, w3⟩
    · rw [if_neg (by rw [show (2 : Int32) = nI 2 from rfl, nx_eq (by omega) (by omega)]; exact ht), if_neg ht, if_pos rfl, nx_l74, nx_add, uI_in (by omega) (by omega)]
      obtain ⟨M3, g1, g2, g3⟩ := x_rc104 (set := set) hD (show s < 8 by omega)
      refine ⟨M3, sI Mr1 48 (74 + s) (nI set), frd g2, g1, Or.inl ⟨updS S (74 + s) set, sskip B n a, rfl, q2.g.tr (RG.s48 _ _ _), hle, by rw [sskip_idem]; omega, ?_, ⟨g3, by rw [sskip_idem]; exact hT2.mv g2 (fun z => by omega) (fun z => by omega), by rw [g2.mI (fun z => by omega)]; exact h22⟩, cR_upd hr1⟩⟩
      refine ⟨sWF_plan hw (fun j hj => updS_ne _ _ (by omega)) (fun s' hs' => ?_) (fun s' h1 h2 => ?_), updz hS.2 (by omega)⟩
      · by_cases hss : s' = s
        · subst hss; rw [updS_eq]; exact hset
        · rw [updS_ne _ _ (by omega)]; exact hw.set s' hs'
      · rw [updS_ne _ _ (by omega)]; exact hw.out s' h1 h2
theorem j_charge (hB : ∀ i, B i < 256) (hn : n ≤ 400) {Mc Mr : mm_M} {p : Nat} (hS : sOK S) (hp : p < n) (hc : cC Mc d B n S p) (hr : cR Mr B n S (tb B n p)) : Stm d B n p Mc Mr (f3_readCharge d Mc) (f7_readCharge Mr) := by
  have hw := hS.1
  have hT := hw.T
  have hd := isD_le hc.1.ok
  have hF := FU_big
  have ht := tb_le (B := B) (show p ≤ n by omega)
  obtain ⟨M1, e1, e2, e3⟩ := x_step hB hn (by omega) hc.2.1
  have h22 : mI M1 22 1 = 0 := by rw [e2.mI (by decide)]; exact hc.2.2
  have hD1 := hc.1.mv e2 (fun c z => by omega)
  have hge := skge (B := B) (n := n) (a := tb B n p) rfl
  have r0 : mI Mr 48 0 = nI (S 0) := hr.1 0 (by omega)
  rcases jnum hB hn ht.2.1 rfl e3 h22 hr.2 0 (nI (S 0) - 1) with ⟨s, Mc1, Mr1, a1, a2, a3, a4, a5, a6, a7, a8, a9, a10, a11, a12, a13⟩ | ⟨F, Mc', Mr', a1, a2, a3, a4, a5, a6, a7, a8⟩
  · have hs := pnT (S 0) (by omega) a10 a9
    have hD2 := hD1.mv a3 (fun c z => by omega)
    have h22' : mI Mc1 22 1 = 0 := by rw [a3.mI (by decide)]; exact h22
    have hr1 := cR_rs hr a4 a6
    have J := j_rc (d := d) hB hn hS hs (p0 := p) 5 0 (tb B n (sskip B n (tb B n p))) 0 FU FU Mc1 Mr1 (by omega) (by omega) (by omega) a12 (by omega) (two_pow_pos _) rfl hD2 a5 h22' hr1
    obtain ⟨Mc', Mr', z1, z2, z3⟩ := J
    refine ⟨Mc', Mr', (fr20 e2).tr ((fr20 a3).tr z1), ?_, ?_⟩
    · unfold f3_readCharge
      rw [if_pos hc.1.ok, e1, cV_some, bI_eq, hD1.T, a1, cI_some, if_neg (by rw [nx_neg1 (by omega)]; exact fun z => z)]
      exact z2
    · have hfr : f7_readCharge Mr = l7_readCharge_25 FU (nI s) (nI 0) Mr1 := by
        unfold f7_readCharge
        rw [aI_z (by omega) (by omega), r0, a2, cI_some, if_neg (by decide), bI_eq, a7]
        rfl
      rw [hfr]
      refine z3.imp (fun z => ?_) (fun z => ?_)
      · obtain ⟨S', a', w1, w2, w3⟩ := z
        exact ⟨S', a', w1, a4.g.tr w2, w3⟩
      · obtain ⟨F, w1, w2, w3⟩ := z
        exact ⟨F, w1, a4.g.x w2, w3⟩
  · refine ⟨Mc', Mr', (fr20 e2).tr (fr22 a3), ?_, Or.inr ⟨F, ?_, a4.x, a5, a6, a7, a8⟩⟩
    · unfold f3_readCharge
      rw [if_pos hc.1.ok, e1, cV_some, bI_eq, hD1.T, a1, cI_some, if_pos rfl]
    · unfold f7_readCharge
      rw [aI_z (by omega) (by omega), r0, a2, cI_some, if_pos rfl]
      rfl
end STM2
