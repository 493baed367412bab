/-! where the cells lie -/
def st_al (q0 : Nat) (u : List Nat) (q1 : Nat) (v : List Nat) (q2 : Nat) : List Nat := [0, q0, u.getD 0 0, u.getD 1 0, u.getD 2 0, u.getD 3 0, u.getD 4 0, u.getD 5 0, u.getD 6 0, u.getD 7 0, u.getD 8 0, u.getD 9 0, u.getD 10 0, u.getD 11 0, u.getD 12 0, u.getD 13 0, u.getD 14 0, u.getD 15 0, u.getD 16 0, u.getD 17 0, u.getD 18 0, u.getD 19 0, u.getD 20 0, u.getD 21 0, u.getD 22 0, u.getD 23 0, u.getD 24 0, u.getD 25 0, u.getD 26 0, u.getD 27 0, u.getD 28 0, u.getD 29 0, u.getD 30 0, u.getD 31 0, u.getD 32 0, u.getD 33 0, u.getD 34 0, u.getD 35 0, u.getD 36 0, u.getD 37 0, u.getD 38 0, u.getD 39 0, u.getD 40 0, u.getD 41 0, u.getD 42 0, u.getD 43 0, q1, v.getD 0 0, v.getD 1 0, v.getD 2 0, v.getD 3 0, v.getD 4 0, v.getD 5 0, v.getD 6 0, v.getD 7 0, v.getD 8 0, v.getD 9 0, v.getD 10 0, v.getD 11 0, v.getD 12 0, v.getD 13 0, v.getD 14 0, q2]
def st_ad (av : Nat → Nat) (q0 : Nat) (u : List Nat) (q1 : Nat) (v : List Nat) (q2 : Nat) : Nat → Nat := fun i => if i ≤ 62 then (st_al q0 u q1 v q2).getD i 0 else av i
theorem st_hi2 (av : Nat → Nat) (q0 : Nat) (u : List Nat) (q1 : Nat) (v : List Nat) (q2 : Nat) {i : Nat} (h : 62 < i) : st_ad av q0 u q1 v q2 i = av i := if_neg (by omega)
abbrev st_W (cs : mm_K) (q0 : Nat) (u : List Nat) (q1 : Nat) (v : List Nat) (q2 : Nat) : va_W := wkX6 cs q0 u ++ (wkX7 cs q1 v ++ [(q2, .inl (cs.2.2, 1, .inr (.inl (fun _ => 0))))])
set_option maxRecDepth 100000 in
set_option maxHeartbeats 4000000 in
theorem st_ws (cs : mm_K) (av : Nat → Nat) (q0 : Nat) (u : List Nat) (q1 : Nat) (v : List Nat) (q2 : Nat) : mm_ws (st_ad av q0 u q1 v q2) cs st_M = st_W cs q0 u q1 v q2 := rfl
theorem mm_RO_cg {ad av : Nat → Nat} {A : Nat → Prop} {U : State} {H : Heap} (he : ∀ i, 62 < i → ad i = av i) (h : mm_RO av A U H) : mm_RO ad A U H := by
  have e1 : (fun i => ad (200 + i)) = fun i => av (200 + i) := funext fun i => he _ (by omega)
  have e2 : (fun i => ad (300 + i)) = fun i => av (300 + i) := funext fun i => he _ (by omega)
  unfold mm_RO at h ⊢
  rw [e1, e2, he 100 (by omega), he 101 (by omega), he 102 (by omega), he 200 (by omega), he 201 (by omega), he 202 (by omega), he 203 (by omega), he 204 (by omega), he 205 (by omega), he 206 (by omega), he 207 (by omega), he 400 (by omega)]
  exact h
theorem mm_RX_cg {ad av : Nat → Nat} {A : Nat → Prop} {U : State} {H : Heap} (he : ∀ i, 62 < i → ad i = av i) (h : mm_RX av A U H) : mm_RX ad A U H := by
  unfold mm_RX at h ⊢
  rw [he 208 (by omega)]
  exact h
/-! THE CLAIM OUT OF ONE WALK OF THE LAW'S BODY. Your part is whole_start (and what it stands on); all else here is the same for every law, but numbers. -/
def R_law : String := "DepotChargeLaw"
def lw_P (b : Addr) (xs : List Int32) (args : Array Value) (s : State) : Prop := args = #[.ref b] ∧ s.IntsAt b xs ∧ xs.length ≤ 3584 ∧ (Jvm.Cond.and given_1 narrow_1).before args s = true
def lw_Q (_ : Array Value) (s : State) (o : Outcome) (t : State) : Prop := o = .returned (some (.int 1)) ∧ Framed s o t [] 601024 7293034
def lw_Z (below : List Frame) (a : Array Value) (s : State) : State → Prop := fun t => ∃ o, t.status = .running ∧ Ended t below o ∧ lw_Q a s o t
/-- the law's own end, with 1 on the stack, nothing written that was there before, its room as the claim has it -/
theorem lw_ret {p : Program} {l : Launch} {e : Env} {s : State} {m : MethodId} {below : List Frame} {meth : Method} {c : Code} {b : Nat} (hx : p.tables.exec = Jvm.exec) (hb : c.code = code) (hr : meth.sig.returnType = ret) (hlocks : meth.locks = false) {pc : Nat} {H : Heap} {ls : Array Slot} (hdg : decode code pc = .ok (.ireturn, 1)) : W p l e room_1 s m #[Value.ref b] below meth c H [] 601024 7293034 (lw_Z below #[Value.ref b] s) (F0 m pc ls [.int 1]) := by
  intro T hT X
  obtain ⟨fs, hret, hrun, hended, hW, hframe⟩ := X.leave (v := some (.int 1)) (hlocks := hlocks) (fun h => by rw [hr] at h; cases h)
  have hmeth' : T.vm.method? m = some meth := X.method'
  refine ⟨T.setFrames fs, ?_, .returned (some (.int 1)), hrun, hended, rfl, ⟨_, rfl⟩, hW, hframe⟩
  jvm_step X.here [X.here.top, hx, hb, hdg, hmeth', hr, ret, narrow_b1]
  (try refine ⟨rfl, ?_⟩); (try refine ⟨rfl, ?_⟩)
  first | (intro acts; rw [hret _ acts rfl rfl rfl]) | rw [hret _ _ rfl rfl rfl]
  exact Steps.refl _
/-- what holds at the law's entry: the machine, the code, the tables' words (any of lw_tbl by 'hts w (by decide +kernel)'), the script of L ints xs at the cell b, what the Statement gives of the start (any of its parts by flat_of_before) -/
def lw_At (p : Program) (s : State) (m : MethodId) (meth : Method) (c : Code) (b L : Nat) (xs : Nat → Int32) : Prop :=
  p.tables.exec = Jvm.exec ∧ c.code = code ∧ meth.sig.returnType = ret ∧ c.maxLocals = 7 ∧ s.vm.findClass R_law = some m.cls ∧ (∀ w ∈ lw_tbl, w.before #[Value.ref b] s = true) ∧ va_X b L xs s s.heap ∧ b < s.heap.size ∧ meth.locks = false ∧ (Jvm.Cond.and given_1 narrow_1).before #[Value.ref b] s = true
theorem kn_warm {s U : State} (hW : s.WarmedH U.vm) (h : ∀ w ∈ kn_nw, va_Nw w s) : ∀ w ∈ kn_nw, va_Nw w U := by
  intro w hw
  have h1 := h w hw
  simp only [kn_nw, List.mem_cons, List.not_mem_nil, or_false] at hw
  rcases hw with e | e | e <;> (subst e; exact va_Nw.warmM hW h1)
theorem st_T {s : State} {b L : Nat} {xs : Nat → Int32} (h : va_X b L xs s s.heap) (hb : b < s.heap.size) : va_T .int b L (fun j => .int (xs j)) (fun q => s.heap.size ≤ q) s s.heap := by
  obtain ⟨scr, h1, h2, h3, h4, h5⟩ := h
  exact ⟨scr, h1, h2, h3, by omega, by rw [h4], h5, by omega⟩
set_option maxHeartbeats 8000000 in
set_option maxRecDepth 100000 in
theorem whole_start {p : Program} {e : Env} {s : State} {m : MethodId} {below : List Frame} {meth : Method} {c : Code} (l : Launch) (hflags : l.flags = flags0) {b L : Nat} {xs : Nat → Int32} (hL : L ≤ 3584) (C0 : lw_At p s m meth c b L xs) : W p l e room_1 s m #[Value.ref b] below meth c s.heap [] 0 0 (lw_Z below #[Value.ref b] s) (entryFrame m ([Value.ref b] : List Value).toArray 7) := by
  obtain ⟨hx, hb, hr, hml, hown, hts, hX, hbl, hlocks, hgv⟩ := C0
  have htm : ∀ w ∈ mm_tbl, w.before #[Value.ref b] s = true := fun w hw => hts w (List.mem_filter.mp hw).1
  have hst : l.stackTraces = false := by unfold Launch.stackTraces; rw [hflags]; decide +kernel
  obtain ⟨av, hav, hRO, hRX⟩ := st_RO hts hgv
  obtain ⟨D, cs, hK⟩ := st_K htm
  have hN : ∀ w ∈ kn_nw, va_Nw w s := fun w hw => va_Nw.of (kn_tab w hw) (hts w (st_nw w hw))
  have hA : ∀ q : Nat, s.heap.size ≤ q → s.heap.size ≤ q := fun q h => h
  have hS : va_S (fun q : Nat => s.heap.size ≤ q) s.heap s.heap [] := va_S.rf
  have hP : va_P D vwCl [] s.heap := fun k q h => by simp at h
  have hD : va_D (fun q : Nat => s.heap.size ≤ q) [] := ⟨fun i j p q h => by simp at h, fun k q h => by simp at h⟩
  have hl := lv_entry ([.ref b]) (n := 7) (Nat.le_of_ble_eq_true rfl)
  rw [lg_entry_eq]
  generalize (lg_sl ([.ref b]) ++ List.replicate (7 - (lg_sl ([.ref b])).length) Slot.unset).toArray = ls at hl ⊢
  have hl : lv_has ls 7 [(0, .ref b)] := hl
  refine va_new (ci := 6) (fs := [.null, .null, .null, .null, .null, .null, .null, .null, .int 0]) (C := RX6) (T := TX6) (N := 9) hx hb htm iw6 tyX6 tyX6_ok hown (htm _ kl_c8) (htm _ kl_is6) (htm _ kl_in6) hK hP hD hS hA rfl kd6 (Nat.le_of_ble_eq_true rfl) (Nat.le_of_ble_eq_true rfl) dL_law_0 (fun q0 H hP hD hS => ?_)
  have hP : va_P D vwCl [(q0, .inr (6, [.null, .null, .null, .null, .null, .null, .null, .null, .int 0]))] H := hP
  have hD : va_D (fun q : Nat => s.heap.size ≤ q) [(q0, .inr (6, [.null, .null, .null, .null, .null, .null, .null, .null, .int 0]))] := hD
  refine W.widen (k := 1) (n := 9) (Nat.le_of_ble_eq_true rfl) (Nat.le_of_ble_eq_true rfl) ?_
  refine lv_dup hx hb dL_law_3 rfl ?_
  have hFc := va_free (wc := [(q0, .inr (6, [.null, .null, .null, .null, .null, .null, .null, .null, .int 0]))]) hD hS hA [0] rfl
  refine va_callv (va_runI (As := []) (rest := [.ref q0]) (Ts := mm_tbl) ⟨hx, hb, hml, hown, htm⟩ (k_X6_init l D cs q0 H.size) ⟨callB_of 0 htm (mm_goodC kl_cd6) rfl rfl rfl (htm _ kl_in6) (htm _ kl_ml15) (by decide +kernel) ⟨Nat.le_of_ble_eq_true rfl, Nat.le_of_ble_eq_true rfl⟩, rfl, htm _ kl_im6⟩ ⟨fun a U g mk q => by obtain ⟨q0, q1, qP, qK, qD, qN⟩ := q; exact ⟨q0, q1, qP, va_K.moved (u := U) (U := U.calling g mk a) (Vm.Alike.refl U.vm) qK, qD, fun w hw => va_Nw.same (kn_tab w hw) (u := U) (U := U.calling g mk a) rfl (qN w hw)⟩, fun U hU hW => ⟨rfl, by rw [hU], by rw [hU]; exact hP, va_K.moved hW.alike hK, hD.weaken (fun _ _ _ _ => trivial), kn_warm hW hN⟩⟩ rfl rfl hl.1 rfl (lv_room (Nat.le_of_ble_eq_true rfl)) dL_law_4 ⟨Nat.le_of_ble_eq_true rfl, Nat.le_of_ble_eq_true rfl⟩) hS (fun q _ h => hFc q h) hFc (fun u t H1 locs ht hvm _ hB hz1 hk1 hS => ?_)
  obtain ⟨hP1, hK1, hD1⟩ := hB
  rw [ht] at hP1
  obtain ⟨hP, hD⟩ := va_join (wr := []) (w1 := wkX6 cs q0 u) hP hD [0] [] rfl rfl (by decide) (by decide) hk1 hFc hP1 hD1
  generalize H1 = H at hP hS ⊢
  have hP : va_P D vwCl (wkX6 cs q0 u) H := hP
  have hD : va_D (fun q : Nat => s.heap.size ≤ q) (wkX6 cs q0 u) := hD
  refine W.widen (k := 45) (n := 13962) (Nat.le_of_ble_eq_true rfl) (Nat.le_of_ble_eq_true rfl) ?_
  refine lv_astore_n (lv' := [(1, .ref q0), (0, .ref b)]) hx hb dL_law_7 rfl hl (by decide) rfl (fun ls hl => ?_)
  refine va_new (ci := 7) (fs := [.int 0, .null, .null, .null, .int 0, .int 0, .int 0, .int 0, .int 0, .int 0, .int 0, .int 0, .int 0, .int 0, .null, .int 0, .null, .null, .null, .null, .null, .null, .null, .null, .null, .null, .null]) (C := RX7) (T := TX7) (N := 27) hx hb htm iw7 tyX7 tyX7_ok hown (htm _ kl_c16) (htm _ kl_is7) (htm _ kl_in7) hK hP hD hS hA rfl kd7 (Nat.le_of_ble_eq_true rfl) (Nat.le_of_ble_eq_true rfl) dL_law_8 (fun q1 H hP hD hS => ?_)
  refine W.widen (k := 46) (n := 13989) (Nat.le_of_ble_eq_true rfl) (Nat.le_of_ble_eq_true rfl) ?_
  refine lv_dup hx hb dL_law_11 rfl ?_
  have hPc := hP.sub (ws' := [(q1, .inr (7, [.int 0, .null, .null, .null, .int 0, .int 0, .int 0, .int 0, .int 0, .int 0, .int 0, .int 0, .int 0, .int 0, .null, .int 0, .null, .null, .null, .null, .null, .null, .null, .null, .null, .null, .null]))]) [45] rfl
  have hDc := hD.sub (ws' := [(q1, .inr (7, [.int 0, .null, .null, .null, .int 0, .int 0, .int 0, .int 0, .int 0, .int 0, .int 0, .int 0, .int 0, .int 0, .null, .int 0, .null, .null, .null, .null, .null, .null, .null, .null, .null, .null, .null]))]) [45] (by decide) rfl
  have hFc := va_free (wc := [(q1, .inr (7, [.int 0, .null, .null, .null, .int 0, .int 0, .int 0, .int 0, .int 0, .int 0, .int 0, .int 0, .int 0, .int 0, .null, .int 0, .null, .null, .null, .null, .null, .null, .null, .null, .null, .null, .null]))]) hD hS hA [45] rfl
  refine va_callv (va_runI (As := []) (rest := [.ref q1]) (Ts := mm_tbl) ⟨hx, hb, hml, hown, htm⟩ (k_X7_init l D cs q1 H.size) ⟨callB_of 0 htm (mm_goodC kl_cd7) rfl rfl rfl (htm _ kl_in7) (htm _ kl_ml18) (by decide +kernel) ⟨Nat.le_of_ble_eq_true rfl, Nat.le_of_ble_eq_true rfl⟩, rfl, htm _ kl_im7⟩ ⟨fun a U g mk q => by obtain ⟨q0, q1, qP, qK, qD⟩ := q; exact ⟨q0, q1, qP, va_K.moved (u := U) (U := U.calling g mk a) (Vm.Alike.refl U.vm) qK, qD⟩, fun U hU hW => ⟨rfl, by rw [hU], by rw [hU]; exact hPc, va_K.moved hW.alike hK, hDc.weaken (fun _ _ _ _ => trivial)⟩⟩ rfl rfl hl.1 rfl (lv_room (Nat.le_of_ble_eq_true rfl)) dL_law_12 ⟨Nat.le_of_ble_eq_true rfl, Nat.le_of_ble_eq_true rfl⟩) hS (fun q _ h => hFc q h) hFc (fun v t H1 locs ht hvm _ hB hz1 hk1 hS => ?_)
  obtain ⟨hP1, hK1, hD1⟩ := hB
  rw [ht] at hP1
  obtain ⟨hP, hD⟩ := va_join (wr := wkX6 cs q0 u) (w1 := wkX7 cs q1 v) hP hD [45] [0, 1, 2, 3, 4, 5, 6, 7, 8, 9, 10, 11, 12, 13, 14, 15, 16, 17, 18, 19, 20, 21, 22, 23, 24, 25, 26, 27, 28, 29, 30, 31, 32, 33, 34, 35, 36, 37, 38, 39, 40, 41, 42, 43, 44] rfl rfl (by decide) (by decide) hk1 hFc hP1 hD1
  generalize H1 = H at hP hS ⊢
  refine W.widen (k := 61) (n := 250853) (Nat.le_of_ble_eq_true rfl) (Nat.le_of_ble_eq_true rfl) ?_
  refine lv_astore_n (lv' := [(2, .ref q1), (1, .ref q0), (0, .ref b)]) hx hb dL_law_15 rfl hl (by decide) rfl (fun ls hl => ?_)
  refine lv_iconst (v := 1) hx hb dL_law_16 (by decide) ?_
  refine kn_newa (atype := .long) (ty := .long) (a0 := (1, .inr (.inl (fun _ => 0)))) hx hb (htm _ kw_aJ) rfl hK 2 rfl hP hD hS hA (fun _ => rfl) (by decide) (by decide) (Nat.le_of_ble_eq_true rfl) (Nat.le_of_ble_eq_true rfl) (Nat.le_of_ble_eq_true rfl) dL_law_17 (fun q2 H hP hD hS => ?_)
  refine W.widen (k := 62) (n := 250854) (Nat.le_of_ble_eq_true rfl) (Nat.le_of_ble_eq_true rfl) ?_
  refine lv_astore_n (lv' := [(3, .ref q2), (2, .ref q1), (1, .ref q0), (0, .ref b)]) hx hb dL_law_19 rfl hl (by decide) rfl (fun ls hl => ?_)
  refine lv_iconst (v := 0) hx hb dL_law_20 (by decide) ?_
  refine lv_istore (lv' := [(4, .int 0), (3, .ref q2), (2, .ref q1), (1, .ref q0), (0, .ref b)]) hx hb dL_law_21 hl (by decide) rfl (fun ls hl => ?_)
  rw [List.append_assoc] at hP hD
  by_cases hL0 : L = 0
  · subst hL0
    refine lv_iload hx hb dL_law_23 (lv_at hl 0 rfl) ?_
    refine lv_aload_n hx hb dL_law_25 rfl (lv_at hl 4 rfl) ?_
    refine va_slen hx hb hX hbl (fun z => absurd z (by omega)) hS dL_law_26 ?_
    refine lv_bipush (v := 7) hx hb dL_law_27 (by decide) ?_
    refine lv_isub hx hb dL_law_29 ?_
    refine lv_icmp_gt hx hb (tgt := 1144) dL_law_30 rfl (fun _ => ?_) (fun h => absurd (show Int32.ofNat 0 - 7 < 0 by decide) h)
    refine lv_iconst (v := 1) hx hb dL_law_1144 (by decide) ?_
    refine va_forget (fun q hq => hS.2.2 q hq) ?_
    refine W.widen (k := 601024) (n := 7293034) (Nat.le_of_ble_eq_true rfl) (Nat.le_of_ble_eq_true rfl) ?_
    exact lw_ret hx hb hr hlocks dL_law_1145
  · have had : ∀ i, 62 < i → st_ad av q0 u q1 v q2 i = av i := fun i h => st_hi2 av q0 u q1 v q2 h
    obtain ⟨M', hM, hG⟩ := law_pure (X := (L, xs)) (by show L < 2 ^ 30; omega) 513 0 st_M _ st_TT (Nat.zero_le _) (by show L - 0 < 7 * 513; omega)
    have hG : mG M' ≤ 0 + 513 := hG
    obtain ⟨g1, g2⟩ := slL_law_23 (L, xs) hL0 513 (nI 0) st_M (1, M') hM
    have C : mm_C l jL_law (L, xs) p room_1 s m #[Value.ref b] meth c D (fun q => s.heap.size ≤ q) cs (st_ad av q0 u q1 v q2) := ⟨hx, hb, hml, hr, htm, hown, hlocks, hK, hA, mm_RO_cg had hRO, Or.inr ⟨by rw [had 103 (by omega), hav]; exact st_T hX hbl, hst, mm_RX_cg had hRX⟩, Nat.le_refl _, Nat.le_refl _⟩
    have hW : mm_W s D (fun q => s.heap.size ≤ q) cs (st_ad av q0 u q1 v q2) st_M H _ := ⟨by rw [st_ws]; exact hP, by rw [st_ws]; exact hD, hS⟩
    refine g2 p l e room_1 s m #[Value.ref b] below meth c D (fun q => s.heap.size ≤ q) cs (st_ad av q0 u q1 v q2) 0 62 250854 _ C ?_ ?_ ?_ H _ 62 250854 ls hW ⟨hl.1, hl.2.1, ?_⟩ rfl rfl
    · show 62 + mG M' ≤ 601024 + 0
      omega
    · show 250854 + 6 * mG M' ≤ 7293034 + 6 * 0
      omega
    · intro H1 locs1 cells slots pc ls1 st1 hW1 hc1 hs1 hE
      obtain ⟨rfl, hd1, -⟩ := hE
      have hc1 : cells + 0 = 62 + mG M' := hc1
      have hs1 : slots + 6 * 0 = 250854 + 6 * mG M' := hs1
      refine va_forget (fun q hq => hW1.2.2.2.2 q hq) ?_
      refine W.widen (k := 601024) (n := 7293034) (by omega) (by omega) ?_
      exact lw_ret hx hb hr hlocks hd1
    · intro i w hw
      match i, hw with
      | 0, hw => cases hw; rw [show mm_v (st_ad av q0 u q1 v q2) (.ref 103) = .ref b by show Value.ref (st_ad av q0 u q1 v q2 103) = _; rw [had 103 (by omega), hav]]; exact hl.2.2 (0, .ref b) (List.mem_of_getElem? (i := 4) rfl)
      | 1, hw => cases hw; exact hl.2.2 (1, .ref q0) (List.mem_of_getElem? (i := 3) rfl)
      | 2, hw => cases hw; exact hl.2.2 (2, .ref q1) (List.mem_of_getElem? (i := 2) rfl)
      | 3, hw => cases hw; exact hl.2.2 (3, .ref q2) (List.mem_of_getElem? (i := 1) rfl)
      | 4, hw => cases hw; exact hl.2.2 (4, .int 0) (List.mem_of_getElem? (i := 0) rfl)
      | 5, hw => cases hw
      | 6, hw => cases hw
      | n + 7, hw => simp at hw
-- ===== YOUR PART ENDS =====
set_option maxHeartbeats 4000000 in
theorem lw_walk (l : Launch) (hflags : l.flags = flags0) (b : Addr) (xs : List Int32) : MetFree l x (headSpec (Jvm.Cond.code x code maxLocals ret :: tables_1) room_1) (lw_P b xs) (fun _ _ _ _ _ => True) lw_Q := by
  refine MetFree.of_bodyS (code := code) (maxLocals := maxLocals) (ret := ret) (by decide) ?_ ?_
  · intro args s m h hn
    obtain ⟨meth, c, h1, h2, h3, h4, h5, h6, -, -⟩ := Cond.code_spec hn (atoms_spec (ws := Jvm.Cond.code x code maxLocals ret :: tables_1) h _ List.mem_cons_self)
    exact ⟨meth, c, h1, h2, h3, h4, h5, h6⟩
  · intro p e s m args below meth c s₁ B hml0 hP _
    obtain ⟨rfl, hx, hbd, hgv⟩ := hP
    obtain ⟨scr, harrAt, hlist, hof, hsmall⟩ := hx
    obtain ⟨hcb, hkn, -, -⟩ := State.arrayAt?_spec harrAt
    have hown : s.vm.findClass R_law = some m.cls := findClass_of_methodNamed B.named
    have hts0 : ∀ c ∈ (Jvm.Cond.code x code maxLocals ret :: tables_1), c.before #[Value.ref b] s = true := atoms_spec (ws := Jvm.Cond.code x code maxLocals ret :: tables_1) B.pre
    have hts : ∀ w ∈ lw_tbl, w.before #[Value.ref b] s = true := k2_hts_sels lw_privs (fun w hw => hts0 w (List.mem_cons_of_mem _ hw)) lw_privs_ok
    have hml : c.maxLocals = 7 := B.maxLocals_eq (hts0 _ List.mem_cons_self)
    have X₀ : Stand p l e room_1 s m #[Value.ref b] below meth c s₁ [] 0 0 := Stand.of_body B
    have hh0 : s₁.heap = s.heap := by rw [B.state]; rfl
    have hsz : scr.slots.size = xs.length := by rw [← Array.length_toList, hlist, List.length_map]
    have hval : ∀ j : Nat, j < xs.length → scr.slots[j]? = some (.int (xs.getD j 0)) := fun j hj => by
      rw [← Array.getElem?_toList, hlist]
      simp [hj]
    have hbl : b < s.heap.size := (Array.getElem?_eq_some_iff.mp hcb).1
    have hX : va_X b xs.length (fun j => xs.getD j 0) s s.heap := ⟨scr, hcb, hof, hkn, hsz, hval⟩
    have K : W p l e room_1 s m #[Value.ref b] below meth c s₁.heap [] 0 0 (lw_Z below #[Value.ref b] s) (entryFrame m ([Value.ref b] : List Value).toArray 7) := by
      rw [hh0]
      exact whole_start l hflags hbd ⟨B.exec, B.bytes, B.returns, hml, hown, hts, hX, hbl, B.notSynchronized, hgv⟩
    obtain ⟨t, a1, o, b1, b2, b3⟩ := K s₁ rfl X₀
    exact ⟨t, o, a1, b1, b2, b3⟩
theorem lw_pre_spec {args : Array Value} {s : State} (h : (Jvm.Cond.and given_1 narrow_1).before args s = true) (hr : rest_1_c.before args s = true) : ∃ (b : Addr) (xs : List Int32), lw_P b xs args s := by
  have hs := flat_of_before _ h
  have hq := flat_of_before _ hr
  have hc : (Cond.count 1).before args s = true := hs _ (by decide +kernel)
  have harr : (Cond.arrayOf (.arg 0) .int).before args s = true := hs _ (by decide +kernel)
  have hle : (Cond.le (.length (.arg 0)) (.int 3584)).before args s = true := hs _ (by decide +kernel)
  have hlen : (Cond.isInt (.length (.arg 0))).before args s = true := hq _ (by decide +kernel)
  have hall : (Cond.all (.arg 0) (.isInt (.elem (.arg 0) (.index 0)))).before args s = true := hq _ (by decide +kernel)
  obtain ⟨b, xs, hb, hx⟩ := State.ints_of_pre rfl harr hlen hall
  have hsm : xs.length < 2 ^ 31 := hx.choose_spec.2.2.2
  have hev : (Term.length (.arg 0)).eval args s none [] s = some (.int xs.length.toInt32) := hx.length_eval hb
  have hv := Cond.le_ints hev (show (Term.int 3584).eval args s none [] s = some (.int 3584) from rfl)
  have hd : xs.length.toInt32 ≤ 3584 := by
    simpa [Cond.before, Cond.holds, hv] using hle
  have hN : xs.length ≤ 3584 := (Int32.ofNat_le_ofNat hsm (by decide)).mp (show Int32.ofNat xs.length ≤ Int32.ofNat 3584 from hd)
  exact ⟨b, xs, Cond.one_arg hc (show args[0]? = some (.ref b) from hb), hx, hN, h⟩
theorem lw_comes (l : Launch) (hflags : l.flags = flags0) : Comes l x (Jvm.Cond.code x code maxLocals ret :: tables_1) room_1 (fun tb e args s => Calls_1 tb e args s ∧ rest_1 tb e args s ∧ Pre_1 tb e args s)
    (fun _ _ args s o t => lw_Q args s o t) := by
  intro p e ha hc hk s m args below hf hfit hheap happ hpre
  obtain ⟨b, xs, hP⟩ := lw_pre_spec hpre.2.2 hpre.2.1
  obtain ⟨k, o, h1, h2, h3, hQ⟩ := lw_walk l hflags b xs p e ha hc hk s m args below hf ((Spec.applies_iff_loose hf).mp happ).1 hP trivial
  exact ⟨k, o, h1, h2, h3, hQ⟩
theorem lw_frame {s t : State} {o : Outcome} {args : Array Value} (h : Framed s o t [] 601024 7293034) :
    Framed s o t (fieldLocs frame_1_writes args s ++ arrayLocs frame_1_arrays args s ++ staticLocs frame_1_statics s) 601024 7293034 := h
theorem lw_limb (L : Cond) (hL : ∀ (args : Array Value) (s t : State), L.after args s (.returned (some (.int 1))) t = true) :
    ArmFor flags0 classFile x code maxLocals ret World_1 tables_1 room_1 Calls_1 rest_1 Pre_1
      (fun tb e a s o t => postC L tb e a s o t ∧ Framed s o t (fieldLocs frame_1_writes a s ++ arrayLocs frame_1_arrays a s ++ staticLocs frame_1_statics s) 601024 7293034) := by
  intro l hflags _ _ p e ha hc hk s m args below hf hfit hheap happ hpre
  obtain ⟨k, o, h1, h2, h3, rfl, hF⟩ := lw_comes l hflags p e ha hc hk s m args below hf hfit hheap happ hpre
  exact ⟨k, _, h1, h2, h3, hL args s _, lw_frame hF⟩
theorem i_vc : Claimed_1_1 ∧ Claimed_1_2 := ⟨lw_limb limb_1_1 (fun args s t => by simp [limb_1_1, Cond.after, Cond.holds, Cond.value]), lw_limb limb_1_2 (fun args s t => Cond.after_iff.mpr (by
  first | (rw [show limb_1_2 = Cond.eq .result (.int 1) from rfl, Cond.eq_ints (x := 1) (y := 1) rfl rfl]; simp; done) | (simp [limb_1_2, Cond.value, Term.eval]; done)))⟩
