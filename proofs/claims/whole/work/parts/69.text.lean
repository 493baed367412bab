section TEXT
variable {B : Nat → Nat} {n d : Nat} {S : sS}
theorem x_isSemi (hB : ∀ i, B i < 256) (hn : n ≤ 400) {M : mm_M} {p : Nat} (hp : p ≤ n) (h : vTk M B n p) : f5_isSemicolon M = some (if p < n ∧ B p = 59 then 1 else 0, M) := by
  obtain ⟨nu, h1, -⟩ := h
  have t5 := (sb_tab ⟨B p, hB p⟩).2.2.2.2.1
  simp only at t5
  have htl : tk B n p < 4 := by unfold tk; split <;> (try split) <;> (try split) <;> omega
  unfold f5_isSemicolon l5_isSemicolon_37 l5_isSemicolon_38
  rw [bI_eq, h1.2.2.1]
  by_cases ht : tk B n p = 3
  · have hlt : p < n := by
      unfold tk at ht
      by_cases c1 : n ≤ p
      · rw [if_pos c1] at ht; omega
      · omega
    rw [if_pos (by rw [ht]; rfl), bI_eq, bI_eq, h1.2.2.2.1, h1.1, if_neg (by rw [nx_le (by omega) (by omega)]; omega), bI_eq, aI_in (by omega) (by omega), h1.2.1 p hlt]
    by_cases h59 : B p = 59
    · rw [if_pos (t5.mpr h59), if_pos ⟨hlt, h59⟩]; rfl
    · rw [if_neg (fun z => h59 (t5.mp z)), if_neg (fun z => h59 z.2)]; rfl
  · rw [if_neg (by rw [show (3 : Int32) = nI 3 from rfl, nx_eq (by omega) (by omega)]; exact ht), if_neg (fun z => ht ?_)]
    · rfl
    · unfold tk
      rw [if_neg (by omega), if_neg (by rw [z.2]; decide), if_neg (by rw [z.2]; decide)]
theorem tb59 {p : Nat} (hp : p < n) (h : B p = 59) : tb B n p = p + 1 := by
  unfold tb
  rw [if_neg (by omega), if_neg (by rw [h]; decide), if_neg (by rw [h]; decide)]
def tcont (rec : mm_M → Option (Int32 × mm_M)) (fr : Option (Int32 × mm_M)) : Option (Int32 × mm_M) := cI fr (fun r_2 M => if r_2 = 0 then (rZ 0 M) else (cI (f7_here M) (fun r_3 M => if r_3 = 59 then (bI (mI M 46 6) (fun v_4 => bM (sI M 46 6 (v_4 + 1)) (fun M => bI (mI M 46 10) (fun v_5 => bM (sI M 46 10 (v_5 + 1)) (fun M => rec M))))) else (bI (mI M 46 6) (fun v_6 => cI (f7_fails 1 v_6 M) (fun r_7 M => rZ r_7 M))))))
def Sta (d : Nat) (B : Nat → Nat) (n p : Nat) (Mc Mr : mm_M) (fc : Option mm_M) (fr : Option (Int32 × mm_M)) : Prop :=
  ∃ Mc' Mr', Fr (cCl d) Mc Mc' ∧ fc = some Mc' ∧ Fr cRf Mr Mr' ∧
    ((∃ S' a', (∀ rec, tcont rec fr = rec Mr') ∧ a' ≤ n ∧ p < a' ∧ sOK S' ∧ cC Mc' d B n S' (sskip B n a') ∧ cR Mr' B n S' a' ∧ mI Mr' 46 10 = mI Mr 46 10 + 1 ∧ mI Mr' 46 7 = mI Mr 46 7) ∨
     (∃ F, (∀ rec, tcont rec fr = some (0, Mr')) ∧ 0 < F ∧ F < 10000 ∧ mI Mc' 22 1 = nI F ∧ mI Mr' 46 7 = nI F))
theorem j_semi (hB : ∀ i, B i < 256) (hn : n ≤ 400) {p : Nat} {Mc Mr : mm_M} {fc : Option mm_M} {fr : Option (Int32 × mm_M)} (h : Stm d B n p Mc Mr fc fr) : Sta d B n p Mc Mr (cV fc (fun M => l3_readStatement_168 M)) fr := by
  have z10 : ¬ (1 : Int32) = 0 := by decide
  obtain ⟨Mc', Mr', z1, z2, z3⟩ := h
  rw [z2, cV_some]
  rcases z3 with ⟨S', a', w1, w2, w3, w4, w5, w6, w7⟩ | ⟨F, w1, w2, w3, w4, w5, w6⟩
  · obtain ⟨p', hp'⟩ : ∃ p', sskip B n a' = p' := ⟨_, rfl⟩
    have hle := skle (B := B) w3 hp'
    rw [hp'] at w4 w6
    obtain ⟨nu, hT3, -⟩ := id w6.2.1
    obtain ⟨Mr2, g1, g2, g3⟩ := y_here hB hn w3 hp' w7.2
    have hr2 := cR_rs w7 (RSh g2) g3
    have e10 : mI Mr2 46 10 = mI Mr 46 10 := by rw [g2.2 10 (by decide), w2.2 10 (by decide) (by decide) (by decide)]
    have e7 : mI Mr2 46 7 = mI Mr 46 7 := by rw [g2.2 7 (by decide), w2.2 7 (by decide) (by decide) (by decide)]
    have f2 : Fr cRf Mr Mr2 := w2.1.tr (g2.1.wd (fun c z => Or.inl z))
    by_cases hs : p' < n ∧ B p' = 59
    · obtain ⟨M3, e1, e2, e3⟩ := x_step hB hn hle w6.2.1
      rw [tb59 hs.1 hs.2] at e3
      refine ⟨M3, sI (sI Mr2 46 6 (nI (p' + 1))) 46 10 (mI Mr 46 10 + 1), z1.tr (fr20 e2), ?_, f2.tr ((Fr.sI (Or.inl rfl)).tr (Fr.sI (Or.inl rfl))), Or.inl ⟨S', p' + 1, fun rec => ?_, by omega, by omega, w5, ⟨w6.1.mv e2 (fun c z => by omega), e3, by rw [e2.mI (by decide)]; exact w6.2.2⟩, ⟨fun k hk => by rw [mI_sI_c _ _ _ _ (by decide), mI_sI_c _ _ _ _ (by decide)]; exact hr2.1 k hk, (g3.s6 (p' + 1)).sk (k := 10) _ (by decide) (by decide)⟩, mI_sI_eq _ _ _ _, by rw [mI_sI_k _ _ _ (by decide), mI_sI_k _ _ _ (by decide)]; exact e7⟩⟩
      · unfold l3_readStatement_168 f3_readSemicolon l3_readSemicolon_33
        rw [bI_eq, w6.2.2, if_pos rfl, x_isSemi hB hn hle w6.2.1, cI_some, if_pos hs, if_neg z10, e1, cV_some, cV_some]
      · unfold tcont
        rw [w1, cI_some, if_neg z10, g1, cI_some, if_pos hs.1, hs.2, if_pos (show nI 59 = 59 from rfl), bI_eq, g3.2.2, show nI p' + 1 = nI (p' + 1) from nx_add p' 1, bM_eq, bI_eq, mI_sI_k _ _ _ (by decide), e10, bM_eq]
    · have bl : f3_blame 1 Mc' = some (sI Mc' 22 1 (nI (1 + 8 * p'))) := x_blame (k := 1) hT3.2.2.2.1 w6.2.2
      refine ⟨sI Mc' 22 1 (nI (1 + 8 * p')), sI Mr2 46 7 (nI (1 + 8 * p')), z1.tr (fr22 (Fr.sI rfl)), ?_, f2.tr (Fr.sI (Or.inl rfl)), Or.inr ⟨1 + 8 * p', fun rec => ?_, by omega, by omega, mI_sI_eq _ _ _ _, mI_sI_eq _ _ _ _⟩⟩
      · unfold l3_readStatement_168 f3_readSemicolon l3_readSemicolon_33
        rw [bI_eq, w6.2.2, if_pos rfl, x_isSemi hB hn hle w6.2.1, cI_some, if_neg hs, if_pos rfl, bl, cV_some, cV_some]
      · have hb := hB p'
        have hne : ¬ (if p' < n then nI (B p') else -1) = (59 : Int32) := by
          by_cases hlt : p' < n
          · rw [if_pos hlt, show (59 : Int32) = nI 59 from rfl, nx_eq (by omega) (by omega)]
            exact fun z => hs ⟨hlt, z⟩
          · rw [if_neg hlt]; decide
        unfold tcont f7_fails
        rw [w1, cI_some, if_neg z10, g1, cI_some, if_neg hne, bI_eq, g3.2.2, show (1 : Int32) + 8 * nI p' = nI (1 + 8 * p') from by rw [show (8 : Int32) = nI 8 from rfl, nx_mul]; exact nx_add 1 _, bM_eq]
        rfl
  · refine ⟨Mc', Mr', z1, ?_, w2.1, Or.inr ⟨F, fun rec => ?_, w3, w4, w5, w6⟩⟩
    · unfold l3_readStatement_168 f3_readSemicolon
      rw [bI_eq, w5, if_neg (by rw [nx_lit0, nx_eq (by omega) (by omega)]; omega), cV_some]
    · unfold tcont
      rw [w1, cI_some, if_pos rfl]
      rfl
theorem j_text (hB : ∀ i, B i < 256) (hn : n ≤ 400) : ∀ (k a c kc kr : Nat) (S : sS) (Mc Mr : mm_M), n - a ≤ k → k + 1 < kc → k < kr → a ≤ n → c ≤ a → sOK S → cC Mc d B n S (sskip B n a) → cR Mr B n S a → mI Mr 46 10 = nI c → mI Mr 46 7 = 0 →
    ∃ Mc' Mr', Fr (cCl d) Mc Mc' ∧ Fr cRf Mr Mr' ∧
      ((∃ S' c', l3_readInto_14 kc d (nI c) Mc = some (nI c', Mc') ∧ l7_readText_15 kr Mr = some (1, Mr') ∧ c' ≤ 400 ∧ sOK S' ∧ vD Mc' d S' ∧ (∀ k, k < 82 → mI Mr' 48 k = nI (S' k)) ∧ mI Mc' 22 1 = 0 ∧ mI Mr' 46 10 = nI c' ∧ mI Mr' 46 7 = 0) ∨
       (∃ F, l3_readInto_14 kc d (nI c) Mc = some (-1, Mc') ∧ l7_readText_15 kr Mr = some (0, Mr') ∧ 0 < F ∧ F < 10000 ∧ mI Mc' 22 1 = nI F ∧ mI Mr' 46 7 = nI F)) := by
  intro k
  induction k with
  | zero =>
    intro a c kc kr S Mc Mr hk hkc hkr ha hca hS hc hr h10 h7
    obtain ⟨kc, rfl⟩ : ∃ j, kc = j + 1 := ⟨kc - 1, by omega⟩
    obtain ⟨kr, rfl⟩ : ∃ j, kr = j + 1 := ⟨kr - 1, by omega⟩
    obtain ⟨p, hp⟩ : ∃ p, sskip B n a = p := ⟨_, rfl⟩
    have hge := skge hp
    have hle := skle (B := B) ha hp
    rw [hp] at hc
    obtain ⟨nu, hT3, -⟩ := id hc.2.1
    obtain ⟨Mr1, g1, g2, g3⟩ := y_here hB hn ha hp hr.2
    have et : tk B n p = 0 := by unfold tk; rw [if_pos (by omega)]
    have e49 : l3_readInto_49 (nI c) Mc = some (nI c, Mc) := by
      unfold l3_readInto_49 l3_readInto_61
      rw [bI_eq, hc.2.2, if_pos rfl]
    refine ⟨Mc, Mr1, Fr.rf, g2.1.wd (fun c z => Or.inl z), Or.inl ⟨S, c, ?_, ?_, by omega, hS, hc.1, fun k hk => by rw [g2.1.mI (by decide)]; exact hr.1 k hk, hc.2.2, by rw [g2.2 10 (by decide)]; exact h10, by rw [g2.2 7 (by decide)]; exact h7⟩⟩
    · rw [show l3_readInto_14 (kc + 1) d (nI c) Mc = b3_readInto_14 (l3_readInto_14 kc) d (nI c) Mc from rfl]
      unfold b3_readInto_14
      rw [e49, bI_eq, hc.2.2, if_pos rfl, bI_eq, hT3.2.2.1, et, if_pos (show nI 0 = 0 from rfl)]
      split <;> rfl
    · rw [show l7_readText_15 (kr + 1) Mr = b7_readText_15 (l7_readText_15 kr) Mr from rfl]
      unfold b7_readText_15
      rw [g1, cI_some, if_neg (show ¬ p < n by omega), if_pos rfl]
      rfl
  | succ k ih =>
    intro a c kc kr S Mc Mr hk hkc hkr ha hca hS hc hr h10 h7
    obtain ⟨kc, rfl⟩ : ∃ j, kc = j + 1 := ⟨kc - 1, by omega⟩
    obtain ⟨kr, rfl⟩ : ∃ j, kr = j + 1 := ⟨kr - 1, by omega⟩
    obtain ⟨p, hp⟩ : ∃ p, sskip B n a = p := ⟨_, rfl⟩
    have hge := skge hp
    have hle := skle (B := B) ha hp
    have hid : sskip B n p = p := by rw [← hp]; exact sskip_idem B n a
    rw [hp] at hc
    obtain ⟨nu, hT3, -⟩ := id hc.2.1
    obtain ⟨Mr1, g1, g2, g3⟩ := y_here hB hn ha hp hr.2
    by_cases hlt : p < n
    · have hr1 := cR_rs hr (RSh g2) g3
      have hb := hB p
      have htl : tk B n p < 4 := by unfold tk; split <;> (try split) <;> (try split) <;> omega
      have htn : tk B n p ≠ 0 := by
        unfold tk
        rw [if_neg (by omega)]
        split <;> (try split) <;> omega
      obtain ⟨fc, b1, b2⟩ := j_body hB hn hS hlt hid hc hr1
      obtain ⟨Mc', Mr', s1, s2, s3, s4⟩ := j_semi hB hn b2
      have ecl : l3_readInto_14 (kc + 1) d (nI c) Mc = l3_readInto_14 kc d (nI (c + 1)) Mc' := by
        rw [show l3_readInto_14 (kc + 1) d (nI c) Mc = b3_readInto_14 (l3_readInto_14 kc) d (nI c) Mc from rfl]
        unfold b3_readInto_14
        rw [if_neg (by rw [show (400 : Int32) = nI 400 from rfl, nx_le (by omega) (by omega)]; omega), bI_eq, hc.2.2, if_pos rfl, bI_eq, hT3.2.2.1, if_neg (by rw [nx_lit0, nx_eq (by omega) (by omega)]; exact htn), b1, s2, cV_some, show nI c + 1 = nI (c + 1) from nx_add c 1]
      have erf : l7_readText_15 (kr + 1) Mr = tcont (l7_readText_15 kr) (f7_readStatement Mr1) := by
        rw [show l7_readText_15 (kr + 1) Mr = b7_readText_15 (l7_readText_15 kr) Mr from rfl]
        unfold b7_readText_15
        rw [g1, cI_some, if_pos hlt, if_neg (by rw [nx_neg1 (by omega)]; exact fun z => z)]
        rfl
      have f1 : Fr cRf Mr Mr1 := g2.1.wd (fun c z => Or.inl z)
      rcases s4 with ⟨S', a', v1, v2, v3, v4, v5, v6, v7, v8⟩ | ⟨F, v1, v2, v3, v4, v5⟩
      · obtain ⟨Mc2, Mr2, u1, u2, u3⟩ := ih a' (c + 1) kc kr S' Mc' Mr' (by omega) (by omega) (by omega) v2 (by omega) v4 v5 v6 (by rw [v7, g2.2 10 (by decide), h10]; exact nx_add c 1) (by rw [v8, g2.2 7 (by decide)]; exact h7)
        refine ⟨Mc2, Mr2, s1.tr u1, (f1.tr s3).tr u2, ?_⟩
        rw [ecl, erf, v1]
        exact u3
      · obtain ⟨kc, rfl⟩ : ∃ j, kc = j + 1 := ⟨kc - 1, by omega⟩
        have hF0 : ¬ nI F = 0 := by rw [nx_lit0, nx_eq (by omega) (by omega)]; omega
        have e49 : l3_readInto_49 (nI (c + 1)) Mc' = some (-1, Mc') := by
          unfold l3_readInto_49 l3_readInto_61
          rw [bI_eq, v4, if_neg hF0]
        refine ⟨Mc', Mr', s1, f1.tr s3, Or.inr ⟨F, ?_, by rw [erf, v1], v2, v3, v4, v5⟩⟩
        rw [ecl, show l3_readInto_14 (kc + 1) d (nI (c + 1)) Mc' = b3_readInto_14 (l3_readInto_14 kc) d (nI (c + 1)) Mc' from rfl]
        unfold b3_readInto_14
        rw [e49, bI_eq, v4, if_neg hF0]
        split <;> rfl
    · have et : tk B n p = 0 := by unfold tk; rw [if_pos (by omega)]
      have e49 : l3_readInto_49 (nI c) Mc = some (nI c, Mc) := by
        unfold l3_readInto_49 l3_readInto_61
        rw [bI_eq, hc.2.2, if_pos rfl]
      refine ⟨Mc, Mr1, Fr.rf, g2.1.wd (fun c z => Or.inl z), Or.inl ⟨S, c, ?_, ?_, by omega, hS, hc.1, fun k hk => by rw [g2.1.mI (by decide)]; exact hr.1 k hk, hc.2.2, by rw [g2.2 10 (by decide)]; exact h10, by rw [g2.2 7 (by decide)]; exact h7⟩⟩
      · rw [show l3_readInto_14 (kc + 1) d (nI c) Mc = b3_readInto_14 (l3_readInto_14 kc) d (nI c) Mc from rfl]
        unfold b3_readInto_14
        rw [e49, bI_eq, hc.2.2, if_pos rfl, bI_eq, hT3.2.2.1, et, if_pos (show nI 0 = 0 from rfl)]
        split <;> rfl
      · rw [show l7_readText_15 (kr + 1) Mr = b7_readText_15 (l7_readText_15 kr) Mr from rfl]
        unfold b7_readText_15
        rw [g1, cI_some, if_neg hlt, if_pos rfl]
        rfl
end TEXT
