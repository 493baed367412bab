section PLAN6
variable {S : sS} {P : sP}
theorem vS.cg {M : mm_M} {rdy : Bool} {s : Nat} {c c' : Nat → Nat} (h : vS M S P rdy s c) (e : ∀ b, b < 4 → c b = c' b) : vS M S P rdy s c' := by
  refine ⟨fun b hb => ⟨(h.1 b hb).1, (h.1 b hb).2.1, (h.1 b hb).2.2.1, by rw [← e b hb]; exact (h.1 b hb).2.2.2⟩, ?_, ?_, h.2.2.2⟩
  · rw [h.2.1]
    unfold six
    rw [ssum_congr 4 (fun k hk => by rw [e k hk])]
  · rw [h.2.2.1]
    rw [ssum_congr 4 (fun k hk => e k hk)]
abbrev cNs : Nat → Prop := fun c => c = 26 ∨ c = 36
def crs (S : sS) (P : sP) (rdy : Bool) (s : Nat) (c : Nat → Nat) (b : Nat) : Nat → Nat := fun k => if k < b then slo S P rdy s k else c k
theorem x_ns2 {rdy : Bool} {s : Nat} {c : Nat → Nat} (hb : bx S P rdy s c) : ∀ (k b n : Nat) (M : mm_M), b + k = 4 → k < n → vS M S P rdy s (crs S P rdy s c b) → (∀ j, j < b → c j = shi S P s j) → (∀ s', s' < 16 → mI M 33 s' = nI (ssh S P s')) →
    ∃ M', l2_nextState_2 n (nI b) M = some M' ∧ Fr cNs M M' ∧ mI M' 26 2 = mI M 26 2 ∧ ∃ c', vS M' S P rdy s c' ∧ (srk S P rdy s c + 1 < sprod (swd S P rdy s) 4 → bx S P rdy s c' ∧ srk S P rdy s c' = srk S P rdy s c + 1) := by
  intro k
  induction k with
  | zero =>
    intro b n M hk hn hv hl h33
    obtain ⟨n, rfl⟩ : ∃ m, n = m + 1 := ⟨n - 1, by omega⟩
    have hb4 : b = 4 := by omega
    subst hb4
    refine ⟨M, ?_, Fr.rf, rfl, _, hv, fun h => ?_⟩
    · unfold l2_nextState_2 b2_nextState_2
      rw [if_pos (by decide)]
    · have := srk_last (S := S) (P := P) (rdy := rdy) hl
      omega
  | succ k ih =>
    intro b n M hk hn hv hl h33
    obtain ⟨n, rfl⟩ : ∃ m, n = m + 1 := ⟨n - 1, by omega⟩
    have hb4 : b < 4 := by omega
    obtain ⟨v1, v2, v3, v4⟩ := hv.1 b hb4
    have hbb := hb b hb4
    have h8 := (smt_spec S P b).1
    have hhi := shi_le (S := S) (P := P) s b
    have hcb : crs S P rdy s c b b = c b := if_neg (by omega)
    rw [hcb] at v4
    have hpw := pow_lt16 hb4
    have h33b : mI M 33 (2 ^ b) = nI (sstr S P b) := by rw [h33 _ hpw, ssh_pow hb4]
    unfold l2_nextState_2 b2_nextState_2
    rw [nx_l4, if_neg (by rw [nx_le (by omega) (by omega)]; omega), aI_in (by omega) (by omega), v4, aI_in (by omega) (by omega), v2]
    simp only [nx_le (show shi S P s b < 2 ^ 31 by omega) (show c b < 2 ^ 31 by omega)]
    by_cases hc : shi S P s b ≤ c b
    · rw [if_pos hc]
      -- back to low
      have e6 : six S P (crs S P rdy s c b) = six S P (crs S P rdy s c (b + 1)) + (c b - slo S P rdy s b) * sstr S P b := by
        unfold six
        refine ssum_upd 4 hb4 (fun j hj hjb => ?_) ?_
        · unfold crs
          by_cases q : j < b
          · rw [if_pos q, if_pos (by omega)]
          · rw [if_neg q, if_neg (by omega)]
        · rw [hcb, show crs S P rdy s c (b + 1) b = slo S P rdy s b from if_pos (by omega), ← Nat.add_mul]
          congr 1
          omega
      have e7 : ssum (crs S P rdy s c b) 4 = ssum (crs S P rdy s c (b + 1)) 4 + (c b - slo S P rdy s b) := by
        refine ssum_upd 4 hb4 (fun j hj hjb => ?_) ?_
        · unfold crs
          by_cases q : j < b
          · rw [if_pos q, if_pos (by omega)]
          · rw [if_neg q, if_neg (by omega)]
        · rw [hcb, show crs S P rdy s c (b + 1) b = slo S P rdy s b from if_pos (by omega)]
          omega
      let M1 := sI M 26 15 (nI (six S P (crs S P rdy s c (b + 1))))
      let M2 := sI M1 26 16 (nI (ssum (crs S P rdy s c (b + 1)) 4))
      let M3 := sI M2 36 b (nI (slo S P rdy s b))
      have f3 : Fr cNs M M3 := ((Fr.sI (Or.inl rfl)).tr (Fr.sI (Or.inl rfl))).tr (Fr.sI (Or.inr rfl))
      have hv3 : vS M3 S P rdy s (crs S P rdy s c (b + 1)) := by
        refine ⟨fun j hj => ?_, ?_, ?_, ?_⟩
        · obtain ⟨u1, u2, u3, u4⟩ := hv.1 j hj
          refine ⟨?_, ?_, ?_, ?_⟩
          · rw [f3.mI (by decide)]; exact u1
          · rw [f3.mI (by decide)]; exact u2
          · rw [f3.mI (by decide)]; exact u3
          · show mI (sI (sI (sI M 26 15 _) 26 16 _) 36 b _) 36 j = _
            by_cases hjb : j = b
            · subst hjb
              rw [mI_sI_eq, show crs S P rdy s c (j + 1) j = slo S P rdy s j from if_pos (by omega)]
            · rw [mI_sI_k _ _ _ hjb, mI_sI_c _ _ _ _ (by decide), mI_sI_c _ _ _ _ (by decide), u4]
              unfold crs
              by_cases q : j < b
              · rw [if_pos q, if_pos (by omega)]
              · rw [if_neg q, if_neg (by omega)]
        · show mI (sI (sI (sI M 26 15 _) 26 16 _) 36 b _) 26 15 = _
          rw [mI_sI_c _ _ _ _ (by decide), mI_sI_k _ _ _ (by decide), mI_sI_eq]
        · show mI (sI (sI (sI M 26 15 _) 26 16 _) 36 b _) 26 16 = _
          rw [mI_sI_c _ _ _ _ (by decide), mI_sI_eq]
        · show mI (sI (sI (sI M 26 15 _) 26 16 _) 36 b _) 26 17 = _
          rw [mI_sI_c _ _ _ _ (by decide), mI_sI_k _ _ _ (by decide), mI_sI_k _ _ _ (by decide)]
          exact hv.2.2.2
      obtain ⟨M', e1, e2, e3, c', e4, e5⟩ := ih (b + 1) n M3 (by omega) (by omega) hv3 (fun j hj => by
        by_cases hjb : j = b
        · subst hjb; omega
        · exact hl j (by omega)) (fun s' hs' => by rw [f3.mI (by decide)]; exact h33 s' hs')
      refine ⟨M', ?_, f3.tr e2, e3.trans ?_, c', e4, e5⟩
      · rw [bI_eq, aI_in (by omega) (by omega), v4, aI_in (by omega) (by omega), v1, show (1 <<< (nI b &&& 31) : Int32) = nI (2 ^ b) from shl_pow' (by omega), aI_in (by omega) (by omega), h33b, hv.2.1, nx_sub hbb.1, nx_mul, nx_sub (by omega), show six S P (crs S P rdy s c b) - (c b - slo S P rdy s b) * sstr S P b = six S P (crs S P rdy s c (b + 1)) by omega]
        rw [bM_eq, bI_eq, mI_sI_k _ _ _ (by decide), hv.2.2.1, aI_in (by omega) (by omega), mI_sI_c _ _ _ _ (by decide), v4, aI_in (by omega) (by omega), mI_sI_c _ _ _ _ (by decide), v1, nx_sub hbb.1, nx_sub (by omega), show ssum (crs S P rdy s c b) 4 - (c b - slo S P rdy s b) = ssum (crs S P rdy s c (b + 1)) 4 by omega]
        rw [bM_eq, aI_in (by omega) (by omega), mI_sI_c _ _ _ _ (by decide), mI_sI_c _ _ _ _ (by decide), v1, uI_in (by omega) (by omega), nx_l1, nx_add]
        exact e1
      · show mI (sI (sI (sI M 26 15 _) 26 16 _) 36 b _) 26 2 = _
        rw [mI_sI_c _ _ _ _ (by decide), mI_sI_k _ _ _ (by decide), mI_sI_k _ _ _ (by decide)]
    · rw [if_neg hc]
      have hs1 : ∀ j, j < 4 → j ≠ b → snt S P rdy s c b j = crs S P rdy s c b j := fun j hj hjb => by
        unfold snt crs
        by_cases q : j < b
        · rw [if_pos q, if_pos q]
        · rw [if_neg q, if_neg q, if_neg hjb]
      have hs2 : snt S P rdy s c b b = c b + 1 := by unfold snt; rw [if_neg (by omega), if_pos rfl]
      have e6 : six S P (snt S P rdy s c b) = six S P (crs S P rdy s c b) + sstr S P b := by
        unfold six
        refine ssum_upd 4 hb4 (fun j hj hjb => by rw [hs1 j hj hjb]) ?_
        rw [hs2, hcb, Nat.add_mul, Nat.one_mul]
      have e7 : ssum (snt S P rdy s c b) 4 = ssum (crs S P rdy s c b) 4 + 1 := ssum_upd 4 hb4 (fun j hj hjb => hs1 j hj hjb) (by rw [hs2, hcb])
      let M1 := sI M 36 b (nI (c b + 1))
      let M2 := sI M1 26 16 (nI (ssum (crs S P rdy s c b) 4 + 1))
      let M3 := sI M2 26 15 (nI (six S P (crs S P rdy s c b) + sstr S P b))
      have f3 : Fr cNs M M3 := ((Fr.sI (Or.inr rfl)).tr (Fr.sI (Or.inl rfl))).tr (Fr.sI (Or.inl rfl))
      refine ⟨M3, ?_, f3, ?_, snt S P rdy s c b, ⟨fun j hj => ?_, ?_, ?_, ?_⟩, fun _ => ⟨snt_bx hb (by omega), snt_rk hb hb4 hl⟩⟩
      · rw [aI_in (by omega) (by omega), v4, nx_l1, nx_add, uI_in (by omega) (by omega), bI_eq, mI_sI_c _ _ _ _ (by decide), hv.2.2.1, nx_add, bM_eq, bI_eq, mI_sI_k _ _ _ (by decide), mI_sI_c _ _ _ _ (by decide), hv.2.1, show (nI 1 <<< (nI b &&& 31) : Int32) = nI (2 ^ b) from shl_pow' (by omega), aI_in (by omega) (by omega), mI_sI_c _ _ _ _ (by decide), mI_sI_c _ _ _ _ (by decide), h33b, nx_add, bM_eq]
      · show mI (sI (sI (sI M 36 b _) 26 16 _) 26 15 _) 26 2 = _
        rw [mI_sI_k _ _ _ (by decide), mI_sI_k _ _ _ (by decide), mI_sI_c _ _ _ _ (by decide)]
      · obtain ⟨u1, u2, u3, u4⟩ := hv.1 j hj
        refine ⟨?_, ?_, ?_, ?_⟩
        · rw [f3.mI (by decide)]; exact u1
        · rw [f3.mI (by decide)]; exact u2
        · rw [f3.mI (by decide)]; exact u3
        · show mI (sI (sI (sI M 36 b _) 26 16 _) 26 15 _) 36 j = _
          rw [mI_sI_c _ _ _ _ (by decide), mI_sI_c _ _ _ _ (by decide)]
          by_cases hjb : j = b
          · subst hjb
            rw [mI_sI_eq, hs2]
          · rw [mI_sI_k _ _ _ hjb, u4, hs1 j hj hjb]
      · rw [e6]; exact mI_sI_eq _ _ _ _
      · show mI (sI (sI (sI M 36 b _) 26 16 _) 26 15 _) 26 16 = _
        rw [mI_sI_k _ _ _ (by decide), mI_sI_eq, e7]
      · show mI (sI (sI (sI M 36 b _) 26 16 _) 26 15 _) 26 17 = _
        rw [mI_sI_k _ _ _ (by decide), mI_sI_k _ _ _ (by decide), mI_sI_c _ _ _ _ (by decide)]
        exact hv.2.2.2
theorem x_nextState {rdy : Bool} {s : Nat} {c : Nat → Nat} (hb : bx S P rdy s c) {M : mm_M} (hv : vS M S P rdy s c) (h33 : ∀ s', s' < 16 → mI M 33 s' = nI (ssh S P s')) : ∃ M', f2_nextState M = some M' ∧ Fr cNs M M' ∧ mI M' 26 2 = mI M 26 2 ∧ ∃ c', vS M' S P rdy s c' ∧ (srk S P rdy s c + 1 < sprod (swd S P rdy s) 4 → bx S P rdy s c' ∧ srk S P rdy s c' = srk S P rdy s c + 1) :=
  x_ns2 hb 4 0 FU M (by omega) (by have := FU_big; omega) (hv.cg (fun b _ => (if_neg (by omega)).symm)) (fun j hj => by omega) h33
theorem x_lh4 {c : Nat → Nat} {M : mm_M} (hvb : ∀ b, b < 4 → vB M S P b) (h36 : ∀ b, b < 4 → mI M 36 b = nI (c b)) (hc : ∀ b, b < 4 → c b ≤ smt S P b) : ∀ (k b n : Nat), b + k = 4 → k < n → l2_lackHere_4 n (nI (ssum (fun b => slk S P b (c b)) b)) (nI b) M = some (nI (ssum (fun b => slk S P b (c b)) 4), M) := by
  intro k
  induction k with
  | zero =>
    intro b n hk hn
    obtain ⟨n, rfl⟩ : ∃ m, n = m + 1 := ⟨n - 1, by omega⟩
    have hb4 : b = 4 := by omega
    subst hb4
    unfold l2_lackHere_4 b2_lackHere_4
    rw [if_pos (by decide)]
  | succ k ih =>
    intro b n hk hn
    obtain ⟨n, rfl⟩ : ∃ m, n = m + 1 := ⟨n - 1, by omega⟩
    have h8 := (smt_spec S P b).1
    have hcb := hc b (by omega)
    unfold l2_lackHere_4 b2_lackHere_4
    rw [nx_l4, if_neg (by rw [nx_le (by omega) (by omega)]; omega), aI_in (by omega) (by omega), h36 b (by omega), nx_l9, nx_mul, nx_add, aI_in (by omega) (by omega), show b * 9 + c b = 9 * b + c b by omega, (hvb b (by omega)).2.2.2 (c b) hcb, bI_eq, nx_add, nx_l1, nx_add]
    exact ih (b + 1) n (by omega) (by omega)
theorem x_lackHere {c : Nat → Nat} {M : mm_M} (hvb : ∀ b, b < 4 → vB M S P b) (h36 : ∀ b, b < 4 → mI M 36 b = nI (c b)) (hc : ∀ b, b < 4 → c b ≤ smt S P b) : f2_lackHere M = some (nI (ssum (fun b => slk S P b (c b)) 4), M) := x_lh4 hvb h36 hc 4 0 FU (by omega) (by have := FU_big; omega)
-- tables for settle
theorem can_tab : ∀ a : Fin 16, ∀ b : Fin 4, ∀ t : Fin 16, a.1 < 2 ^ b.1 → (nI a.1 ||| (nI (2 ^ b.1) &&& nI t.1)) = nI (a.1 + if sbit t.1 b.1 = true then 2 ^ b.1 else 0) := by decide +kernel
theorem sub_tab : ∀ a b : Fin 16, decide ((nI a.1 &&& (nI b.1 ^^^ (-1))) = 0) = ssub a.1 b.1 ∧ decide ((nI b.1 &&& nI a.1) = nI a.1) = ssub a.1 b.1 ∧ (ssub a.1 b.1 = true → a.1 ≤ b.1) := by decide +kernel
theorem nbest_stop (g : Nat → Nat) (ok : Nat → Bool) {n : Nat} : ∀ k, (∀ j, n ≤ j → j < n + k → ok j = false) → nbest g ok (n + k) = nbest g ok n
  | 0, _ => rfl
  | k + 1, h => by
    show (if ok (n + k) = true ∧ _ then _ else _) = _
    rw [if_neg (by rw [h (n + k) (by omega) (by omega)]; exact fun z => Bool.noConfusion z.1)]
    exact nbest_stop g ok k (fun j h1 h2 => h j h1 (by omega))
theorem aI_z {α : Type} {c n : Nat} {M : mm_M} {e : Int32 → Option α} (h : 0 < n) (hn : n < 2 ^ 31) : aI c n 0 M e = e (mI M c 0) := aI_in (i := 0) h hn
theorem aL_z {α : Type} {c n : Nat} {M : mm_M} {e : Int64 → Option α} (h : 0 < n) (hn : n < 2 ^ 31) : aL c n 0 M e = e (mL M c 0) := aL_in (i := 0) h hn
abbrev cSe : Nat → Prop := fun c => c = 34 ∨ c = 35 ∨ c = 40
/-- settle's loop of sets -/
theorem x_se115 (hw : sWF S) (hP : pOK P) {rdy : Bool} {r : Nat} (hr : r + 1 ≤ S 0) {c : Nat → Nat} (hb : bx S P rdy (S 0 - (r + 1)) c) : ∀ (k set n : Nat) (M : mm_M), set + k = 16 → 1 ≤ set → k < n →
    (∀ b, b < 4 → vB M S P b) → vS M S P rdy (S 0 - (r + 1)) c → (∀ s', s' < 16 → mI M 33 s' = nI (ssh S P s')) → mI M 27 0 = nI P.2.1 → mI M 27 2 = nI P.2.2.2.1 →
    (∀ k, k < 16 → k ≠ 0 → wok S P rdy (S 0 - (r + 1)) c k = true → mL M 34 (six S P (snx c k)) = lN (wv S P rdy r (snx c k))) →
    (∀ k, k < set → ssub k (wcan S P (S 0 - (r + 1)) c) = true → spop k ≤ P.2.1 → mI M 40 k = nI (stk S P.2.2.1 c k 4)) →
    ∃ M', l2_settle_115 n (nI (S 0 - (r + 1))) (nI (wcan S P (S 0 - (r + 1)) c)) (nI (wmust S P rdy (S 0 - (r + 1)) c)) (lN (S (6 + (S 0 - (r + 1))) * 64)) (lN (wg S P rdy (wv S P rdy r) (S 0 - (r + 1)) c (nbest (wg S P rdy (wv S P rdy r) (S 0 - (r + 1)) c) (wok S P rdy (S 0 - (r + 1)) c) set))) (nI (nbest (wg S P rdy (wv S P rdy r) (S 0 - (r + 1)) c) (wok S P rdy (S 0 - (r + 1)) c) set)) (nI set) M = some M' ∧ Fr cSe M M' ∧ mI M' 40 0 = mI M 40 0 ∧
      (∀ j, mL M' 34 j = if j = six S P c then lN (wv S P rdy (r + 1) c) else mL M 34 j) ∧ ∀ j, mI M' 35 j = if j = six S P c then wput (mI M 35 j) (S 0 - (r + 1)) (nI (wa S P rdy r c)) else mI M 35 j := by
  have hT := hw.T
  have hix := six_lt hb.le
  have hcan : wcan S P (S 0 - (r + 1)) c < 16 := sset_lt _ 4
  have hmu : wmust S P rdy (S 0 - (r + 1)) c < 16 := sset_lt _ 4
  have hW : ∀ c', wv S P rdy r c' ≤ 2 ^ 50 + 51200000 := fun c' => by
    have := wv_bd (P := P) hw rdy r (by omega) c'
    omega
  have hpr := hw.price (S 0 - (r + 1)) (by omega)
  have p1 := hP.2.1
  have p4 := hP.2.2.2.1
  intro k
  induction k with
  | zero =>
    intro set n M hk h1 hn hvb hv h33 h270 h272 h34 h40
    obtain ⟨n, rfl⟩ : ∃ m, n = m + 1 := ⟨n - 1, by omega⟩
    obtain rfl : set = 16 := by omega
    have hwa : nbest (wg S P rdy (wv S P rdy r) (S 0 - (r + 1)) c) (wok S P rdy (S 0 - (r + 1)) c) 16 = wa S P rdy r c := rfl
    refine ⟨sI (sL M 34 (six S P c) (lN (wv S P rdy (r + 1) c))) 35 (six S P c) (wput (mI M 35 (six S P c)) (S 0 - (r + 1)) (nI (wa S P rdy r c))), ?_, (Fr.sL (Or.inl rfl)).tr (Fr.sI (Or.inr (Or.inl rfl))), ?_, fun j => ?_, fun j => ?_⟩
    · unfold l2_settle_115 b2_settle_115
      rw [if_pos (by rw [nx_lt (by omega) (by omega)]; omega), bI_eq, hv.2.1, uL_in hix (by omega), bI_eq, bI_eq, mI_sL, hv.2.1, aI_in hix (by omega), mI_sL, hwa, uI_in hix (by omega)]
      rfl
    · rw [mI_sI_c _ _ _ _ (by decide), mI_sL]
    · rw [mL_sI, mL_sL]
      by_cases hj : j = six S P c
      · rw [if_pos ⟨rfl, hj⟩, if_pos hj]
      · rw [if_neg (fun z => hj z.2), if_neg hj]
    · by_cases hj : j = six S P c
      · rw [if_pos hj, hj, mI_sI_eq]
      · rw [if_neg hj, mI_sI_k _ _ _ hj, mI_sL]
  | succ k ih =>
    intro set n M hk h1 hn hvb hv h33 h270 h272 h34 h40
    obtain ⟨n, rfl⟩ : ∃ m, n = m + 1 := ⟨n - 1, by omega⟩
    have hs16 : set < 16 := by omega
    obtain ⟨t1, -, t3⟩ := sub_tab ⟨set, hs16⟩ ⟨_, hcan⟩
    obtain ⟨-, t2, -⟩ := sub_tab ⟨_, hmu⟩ ⟨set, hs16⟩
    simp only at t1 t2 t3
    have t1' : ((nI set &&& (nI (wcan S P (S 0 - (r + 1)) c) ^^^ (-1))) = 0) = (ssub set (wcan S P (S 0 - (r + 1)) c) = true) := by rw [← t1, decide_eq_true_eq]
    have t2' : ((nI set &&& nI (wmust S P rdy (S 0 - (r + 1)) c)) = nI (wmust S P rdy (S 0 - (r + 1)) c)) = (ssub (wmust S P rdy (S 0 - (r + 1)) c) set = true) := by rw [← t2, decide_eq_true_eq]
    have hspop := spop_le ⟨set, hs16⟩
    simp only at hspop
    by_cases hend : wcan S P (S 0 - (r + 1)) c < set
    · -- no more sets
      have hst : nbest (wg S P rdy (wv S P rdy r) (S 0 - (r + 1)) c) (wok S P rdy (S 0 - (r + 1)) c) 16 = nbest (wg S P rdy (wv S P rdy r) (S 0 - (r + 1)) c) (wok S P rdy (S 0 - (r + 1)) c) set := by
        have := nbest_stop (wg S P rdy (wv S P rdy r) (S 0 - (r + 1)) c) (wok S P rdy (S 0 - (r + 1)) c) (n := set) (16 - set) (fun j q1 q2 => by
          cases hq : wok S P rdy (S 0 - (r + 1)) c j with
          | false => rfl
          | true =>
            exfalso
            have hj : j < 16 := by omega
            have := (sub_tab ⟨j, hj⟩ ⟨_, hcan⟩).2.2
            simp only at this
            unfold wok at hq
            rw [Bool.and_eq_true, Bool.and_eq_true, Bool.and_eq_true] at hq
            have := this hq.1.1.1
            omega)
        rw [show set + (16 - set) = 16 by omega] at this
        exact this
      have hwa : nbest (wg S P rdy (wv S P rdy r) (S 0 - (r + 1)) c) (wok S P rdy (S 0 - (r + 1)) c) set = wa S P rdy r c := hst.symm
      rw [hwa]
      refine ⟨sI (sL M 34 (six S P c) (lN (wv S P rdy (r + 1) c))) 35 (six S P c) (wput (mI M 35 (six S P c)) (S 0 - (r + 1)) (nI (wa S P rdy r c))), ?_, (Fr.sL (Or.inl rfl)).tr (Fr.sI (Or.inr (Or.inl rfl))), ?_, fun j => ?_, fun j => ?_⟩
      · unfold l2_settle_115 b2_settle_115
        rw [if_pos (by rw [nx_lt (by omega) (by omega)]; omega), bI_eq, hv.2.1, uL_in hix (by omega), bI_eq, bI_eq, mI_sL, hv.2.1, aI_in hix (by omega), mI_sL, uI_in hix (by omega)]
        rfl
      · rw [mI_sI_c _ _ _ _ (by decide), mI_sL]
      · rw [mL_sI, mL_sL]
        by_cases hj : j = six S P c
        · rw [if_pos ⟨rfl, hj⟩, if_pos hj]
        · rw [if_neg (fun z => hj z.2), if_neg hj]
      · by_cases hj : j = six S P c
        · rw [if_pos hj, hj, mI_sI_eq]
        · rw [if_neg hj, mI_sI_k _ _ _ hj, mI_sL]
    · unfold l2_settle_115 b2_settle_115 l2_settle_270
      rw [if_neg (by rw [nx_lt (by omega) (by omega)]; exact hend)]
      simp only [t1']
      have ns : nbest (wg S P rdy (wv S P rdy r) (S 0 - (r + 1)) c) (wok S P rdy (S 0 - (r + 1)) c) (set + 1) = if wok S P rdy (S 0 - (r + 1)) c set = true ∧ wg S P rdy (wv S P rdy r) (S 0 - (r + 1)) c set < wg S P rdy (wv S P rdy r) (S 0 - (r + 1)) c (nbest (wg S P rdy (wv S P rdy r) (S 0 - (r + 1)) c) (wok S P rdy (S 0 - (r + 1)) c) set) then set else nbest (wg S P rdy (wv S P rdy r) (S 0 - (r + 1)) c) (wok S P rdy (S 0 - (r + 1)) c) set := rfl
      have hwk : wok S P rdy (S 0 - (r + 1)) c set = (ssub set (wcan S P (S 0 - (r + 1)) c) && decide (spop set ≤ P.2.1) && decide (stk S P.2.2.1 c set 4 ≤ P.2.2.2.1) && ssub (wmust S P rdy (S 0 - (r + 1)) c) set) := rfl
      by_cases c1 : ssub set (wcan S P (S 0 - (r + 1)) c) = true
      · rw [if_pos c1, aT_in hs16 (by omega), show mm_ro 1 set = nI (spop set) from size_tab ⟨set, hs16⟩, aI_z (by omega) (by omega), h270]
        simp only [nx_le (show spop set < 2 ^ 31 by omega) (show P.2.1 < 2 ^ 31 by omega)]
        by_cases c2 : spop set ≤ P.2.1
        · rw [if_pos c2]
          obtain ⟨l1, l2, l3, l4, l5, l6, l7⟩ := low_tab ⟨set, hs16⟩ (by show set ≠ 0; omega)
          simp only at l3 l4 l5 l6 l7
          obtain ⟨q1, q2, q3⟩ := bit_sub ⟨set, hs16⟩ ⟨slow set, l3⟩ l5
          simp only at q1 q2 q3
          have hcs := (ssub_iff hs16 hcan).mp c1
          have hcl := (wcan_bit l3).mp (hcs (slow set) l3 l5)
          have hc8 := (smt_spec S P (slow set)).1
          have hsub : ssub (set - 2 ^ slow set) (wcan S P (S 0 - (r + 1)) c) = true := by
            rw [ssub_iff (by omega) hcan]
            intro j hj hbj
            have := q3 ⟨j, hj⟩
            simp only at this
            rw [this, Bool.and_eq_true] at hbj
            exact hcs j hj hbj.1
          have h40s := h40 (set - 2 ^ slow set) (by omega) hsub (by omega)
          have hstk : stk S P.2.2.1 c (set - 2 ^ slow set) 4 + sgn S P.2.2.1 (slow set) (c (slow set)) = stk S P.2.2.1 c set 4 := by
            have := ssum_low (f := fun b => sgn S P.2.2.1 b (c b)) hs16 (by omega) (Nat.le_refl 4)
            rw [if_pos l3] at this
            exact this.symm
          have hset2 : set < 2 ^ S 1 := can_lt hw hs16 (fun b hb4 hbb => (wcan_bit hb4).mp (hcs b hb4 hbb))
          have hkbd : stk S P.2.2.1 c set 4 ≤ 800 := by rw [stk_4 hw hset2]; exact stk_bd hw _ _ _ (Nat.le_refl _)
          have f0 : Fr cSe M (sI M 40 set (nI (stk S P.2.2.1 c set 4))) := Fr.sI (Or.inr (Or.inr rfl))
          have h40n : ∀ k, k < set + 1 → ssub k (wcan S P (S 0 - (r + 1)) c) = true → spop k ≤ P.2.1 → mI (sI M 40 set (nI (stk S P.2.2.1 c set 4))) 40 k = nI (stk S P.2.2.1 c k 4) := fun k hk1 hk2 hk3 => by
            by_cases hks : k = set
            · subst hks; rw [mI_sI_eq]
            · rw [mI_sI_k _ _ _ hks]; exact h40 k (by omega) hk2 hk3
          have hvb' : ∀ b, b < 4 → vB (sI M 40 set (nI (stk S P.2.2.1 c set 4))) S P b := fun b hb' => (hvb b hb').mv (fun x hx => by rcases hx with rfl | rfl <;> exact f0.mI (by decide) _) (fun x hx c hc => by rcases hx with rfl | rfl <;> exact f0.mI (by decide) _)
          have hv' : vS (sI M 40 set (nI (stk S P.2.2.1 c set 4))) S P rdy (S 0 - (r + 1)) c := ⟨fun b hb' => by
            obtain ⟨u1, u2, u3, u4⟩ := hv.1 b hb'
            exact ⟨by rw [f0.mI (by decide)]; exact u1, by rw [f0.mI (by decide)]; exact u2, by rw [f0.mI (by decide)]; exact u3, by rw [f0.mI (by decide)]; exact u4⟩, by rw [f0.mI (by decide)]; exact hv.2.1, by rw [f0.mI (by decide)]; exact hv.2.2.1, by rw [f0.mI (by decide)]; exact hv.2.2.2⟩
          obtain ⟨M', e1, e2, e3, e4, e5⟩ := ih (set + 1) n (sI M 40 set (nI (stk S P.2.2.1 c set 4))) (by omega) (by omega) (by omega) hvb' hv' (fun s' hs' => by rw [f0.mI (by decide)]; exact h33 s' hs') (by rw [f0.mI (by decide)]; exact h270) (by rw [f0.mI (by decide)]; exact h272) h34 h40n
          have fin : ∃ M', l2_settle_115 n (nI (S 0 - (r + 1))) (nI (wcan S P (S 0 - (r + 1)) c)) (nI (wmust S P rdy (S 0 - (r + 1)) c)) (lN (S (6 + (S 0 - (r + 1))) * 64)) (lN (wg S P rdy (wv S P rdy r) (S 0 - (r + 1)) c (nbest (wg S P rdy (wv S P rdy r) (S 0 - (r + 1)) c) (wok S P rdy (S 0 - (r + 1)) c) (set + 1)))) (nI (nbest (wg S P rdy (wv S P rdy r) (S 0 - (r + 1)) c) (wok S P rdy (S 0 - (r + 1)) c) (set + 1))) (nI (set + 1)) (sI M 40 set (nI (stk S P.2.2.1 c set 4))) = some M' ∧ Fr cSe M M' ∧ mI M' 40 0 = mI M 40 0 ∧ (∀ j, mL M' 34 j = if j = six S P c then lN (wv S P rdy (r + 1) c) else mL M 34 j) ∧ ∀ j, mI M' 35 j = if j = six S P c then wput (mI M 35 j) (S 0 - (r + 1)) (nI (wa S P rdy r c)) else mI M 35 j := by
            refine ⟨M', e1, f0.tr e2, e3.trans (mI_sI_k _ _ _ (by omega)), e4, fun j => ?_⟩
            rw [e5 j, mI_sI_c _ _ _ _ (by decide)]
          rw [aT_in hs16 (by omega), show mm_ro 2 set = nI (slow set) from first_tab ⟨set, hs16⟩, l7, aI_in (by omega) (by omega), h40s, aI_in (by omega) (by omega), (hv.1 _ l3).2.2.2, nx_l9, nx_mul, nx_add, aI_in (by omega) (by omega), show slow set * 9 + c (slow set) = 9 * slow set + c (slow set) by omega, (hvb _ l3).2.2.1 _ hcl.1, bI_eq, nx_add, hstk, uI_in hs16 (by omega), nx_l2, aI_in (by omega) (by omega), f0.mI (by decide), h272]
          simp only [nx_lt (show P.2.2.2.1 < 2 ^ 31 by omega) (show stk S P.2.2.1 c set 4 < 2 ^ 31 by omega), t2']
          by_cases c3 : P.2.2.2.1 < stk S P.2.2.1 c set 4
          · rw [if_pos c3, nx_l1, nx_add]
            rw [ns, if_neg (by rw [hwk, decide_eq_false (show ¬ stk S P.2.2.1 c set 4 ≤ P.2.2.2.1 by omega), Bool.and_false, Bool.false_and]; exact fun z => Bool.noConfusion z.1)] at fin
            exact fin
          · rw [if_neg c3]
            by_cases c4 : ssub (wmust S P rdy (S 0 - (r + 1)) c) set = true
            · have hok : wok S P rdy (S 0 - (r + 1)) c set = true := by rw [hwk, c1, decide_eq_true c2, decide_eq_true (show stk S P.2.2.1 c set 4 ≤ P.2.2.2.1 by omega), c4]; rfl
              have hbn := bx_next hb ((wok_iff hs16).mp hok).1 ((wok_iff hs16).mp hok).2.2.2
              have hixn := six_lt hbn.le
              have hgs : wg S P rdy (wv S P rdy r) (S 0 - (r + 1)) c set = wv S P rdy r (snx c set) + stk S P.2.2.1 c set 4 * S (6 + (S 0 - (r + 1))) * 64 + spop set := by
                unfold wg
                rw [if_neg (by omega)]
              have hm1 : stk S P.2.2.1 c set 4 * S (6 + (S 0 - (r + 1))) ≤ 800 * 99 := Nat.mul_le_mul hkbd hpr
              have hWs := hW (snx c set)
              have hgb : wg S P rdy (wv S P rdy r) (S 0 - (r + 1)) c (nbest (wg S P rdy (wv S P rdy r) (S 0 - (r + 1)) c) (wok S P rdy (S 0 - (r + 1)) c) set) ≤ 2 ^ 50 + 51200000 := by
                obtain ⟨m, rfl⟩ : ∃ m, set = m + 1 := ⟨set - 1, by omega⟩
                have := (nbest_iB (wg S P rdy (wv S P rdy r) (S 0 - (r + 1)) c) (wok S P rdy (S 0 - (r + 1)) c) m).2.1 0 (nok_iff.mpr ⟨by omega, Or.inr rfl⟩)
                refine Nat.le_trans this ?_
                unfold wg
                rw [if_pos rfl]
                split
                · exact hW c
                · omega
              rw [if_pos c4, bI_eq, f0.mI (by decide), hv.2.1, aI_in hs16 (by omega), f0.mI (by decide), h33 set hs16, nx_add, ← six_snx, aL_in hixn (by omega), mL_sI, h34 set hs16 (by omega) hok, aT_in hs16 (by omega), show mm_ro 1 set = nI (spop set) from size_tab ⟨set, hs16⟩, bL_eq, nI_l (by omega), nI_l (by omega), lN_mul, lN_add, lN_add, ← Nat.mul_assoc, ← hgs]
              simp only [lx_cmp (show wg S P rdy (wv S P rdy r) (S 0 - (r + 1)) c set < 2 ^ 63 by omega) (show wg S P rdy (wv S P rdy r) (S 0 - (r + 1)) c (nbest (wg S P rdy (wv S P rdy r) (S 0 - (r + 1)) c) (wok S P rdy (S 0 - (r + 1)) c) set) < 2 ^ 63 by omega)]
              by_cases c5 : wg S P rdy (wv S P rdy r) (S 0 - (r + 1)) c (nbest (wg S P rdy (wv S P rdy r) (S 0 - (r + 1)) c) (wok S P rdy (S 0 - (r + 1)) c) set) ≤ wg S P rdy (wv S P rdy r) (S 0 - (r + 1)) c set
              · rw [if_pos c5, nx_l1, nx_add]
                rw [ns, if_neg (fun z => by have := z.2; omega)] at fin
                exact fin
              · rw [if_neg c5, nx_l1, nx_add]
                rw [ns, if_pos ⟨hok, by omega⟩] at fin
                exact fin
            · rw [if_neg c4, nx_l1, nx_add]
              rw [ns, if_neg (by rw [hwk, Bool.eq_false_iff.mpr c4, Bool.and_false]; exact fun z => Bool.noConfusion z.1)] at fin
              exact fin
        · rw [if_neg c2, nx_l1, nx_add]
          have nn : nbest (wg S P rdy (wv S P rdy r) (S 0 - (r + 1)) c) (wok S P rdy (S 0 - (r + 1)) c) (set + 1) = nbest (wg S P rdy (wv S P rdy r) (S 0 - (r + 1)) c) (wok S P rdy (S 0 - (r + 1)) c) set := by
            rw [ns, if_neg (by rw [hwk, decide_eq_false c2, Bool.and_false, Bool.false_and, Bool.false_and]; exact fun z => Bool.noConfusion z.1)]
          obtain ⟨M', e⟩ := ih (set + 1) n M (by omega) (by omega) (by omega) hvb hv h33 h270 h272 h34 (fun k hk1 hk2 hk3 => by
            by_cases hks : k = set
            · subst hks; exact absurd hk3 c2
            · exact h40 k (by omega) hk2 hk3)
          rw [nn] at e
          exact ⟨M', e⟩
      · rw [if_neg c1, nx_l1, nx_add]
        have nn : nbest (wg S P rdy (wv S P rdy r) (S 0 - (r + 1)) c) (wok S P rdy (S 0 - (r + 1)) c) (set + 1) = nbest (wg S P rdy (wv S P rdy r) (S 0 - (r + 1)) c) (wok S P rdy (S 0 - (r + 1)) c) set := by
          rw [ns, if_neg (by rw [hwk, Bool.eq_false_iff.mpr c1, Bool.false_and, Bool.false_and, Bool.false_and]; exact fun z => Bool.noConfusion z.1)]
        obtain ⟨M', e⟩ := ih (set + 1) n M (by omega) (by omega) (by omega) hvb hv h33 h270 h272 h34 (fun k hk1 hk2 hk3 => by
          by_cases hks : k = set
          · subst hks; exact absurd hk2 c1
          · exact h40 k (by omega) hk2 hk3)
        rw [nn] at e
        exact ⟨M', e⟩
end PLAN6
