theorem w_ml_L_7 : Cond.methodLink RL 7 yX6_told ∈ mm_tbl := mm_in4 66 rfl rfl
theorem w_im_X6_told : Cond.instanceMethod yX6_told ∈ mm_tbl := mm_in4 67 rfl rfl
theorem w_se_X6_told : Cond.selects yX6_told.cls yX6_told yX6_told ∈ mm_tbl := mm_in4 68 rfl rfl
abbrev j6_told : mm_J := (yX6_told, cX6_told, 3, (some .int), 6)
theorem dX6_told_0 : decode cX6_told 0 = .ok (.aload_n 0, 1) := by decide +kernel
theorem dX6_told_1 : decode cX6_told 1 = .ok (.getfield 12, 3) := by decide +kernel
theorem dX6_told_4 : decode cX6_told 4 = .ok (.iload_n 1, 1) := by decide +kernel
theorem dX6_told_5 : decode cX6_told 5 = .ok (.invokevirtual 107, 3) := by decide +kernel
theorem dX6_told_8 : decode cX6_told 8 = .ok (.ifCond .eq 13, 3) := by decide +kernel
theorem dX6_told_11 : decode cX6_told 11 = .ok (.iload_n 2, 1) := by decide +kernel
theorem dX6_told_12 : decode cX6_told 12 = .ok (.ifCond .lt 9, 3) := by decide +kernel
theorem dX6_told_15 : decode cX6_told 15 = .ok (.iload_n 2, 1) := by decide +kernel
theorem dX6_told_16 : decode cX6_told 16 = .ok (.bipush 6, 2) := by decide +kernel
theorem dX6_told_18 : decode cX6_told 18 = .ok (.if_icmp .lt 13, 3) := by decide +kernel
theorem dX6_told_21 : decode cX6_told 21 = .ok (.new 138, 3) := by decide +kernel
theorem dX6_told_31 : decode cX6_told 31 = .ok (.aload_n 0, 1) := by decide +kernel
theorem dX6_told_32 : decode cX6_told 32 = .ok (.getfield 12, 3) := by decide +kernel
theorem dX6_told_35 : decode cX6_told 35 = .ok (.iload_n 1, 1) := by decide +kernel
theorem dX6_told_36 : decode cX6_told 36 = .ok (.iload_n 2, 1) := by decide +kernel
theorem dX6_told_37 : decode cX6_told 37 = .ok (.invokevirtual 145, 3) := by decide +kernel
theorem dX6_told_40 : decode cX6_told 40 = .ok (.ireturn, 1) := by decide +kernel
def l6_told_21   (M : mm_M) : Option (Int32 × mm_M) :=
  none
set_option maxHeartbeats 2000000 in
theorem sl6_told_21     (M : mm_M) : Snd injI j6_told mm_X0 21 [none, none, none] [] M (l6_told_21   M) := by
  unfold l6_told_21
  exact Snd.none
def f6_told (x1 : Int32) (x2 : Int32) (M : mm_M) : Option (Int32 × mm_M) :=
  bN (mNow M) (fun d_1 => if isD d_1 = true then (cI (f0_hasBus d_1 x1 M) (fun r_2 M => if r_2 = 0 then (l6_told_21 M) else (if x2 < 0 then (l6_told_21 M) else (if x2 < 6 then (bN (mNow M) (fun d_3 => if isD d_3 = true then (cI (f0_fact d_3 x1 x2 M) (fun r_4 M => some (r_4, M))) else none)) else (l6_told_21 M))))) else none)
set_option maxHeartbeats 2000000 in
theorem s6_told (x1 : Int32) (x2 : Int32) (M : mm_M) : Snd injI j6_told mm_X0 0 [some (.ref 1), some (.int x1), some (.int x2)] [] M (f6_told x1 x2 M) := by
  refine Snd.wk (lo' := [some (.ref 1), some (.int x1), some (.int x2)]) ?_ (by simp [mm_le])
  unfold f6_told
  refine sn_aload_n (j := j6_told) (pc := 0) rfl rfl dX6_told_0 ?_
  refine g_X6_12 (j := j6_told) (pc := 1) rfl dX6_told_1 (fun d_1 => ?_)
  refine Snd.ite fun hd_1 => ?_
  refine sn_iload_n (j := j6_told) (pc := 4) rfl rfl dX6_told_4 ?_
  refine sn_callV (j := j6_told) (pc := 5) (jc := j0_hasBus) (As := [.int x1]) (s0_hasBus d_1 x1 M) mm_hvI (by simp [Value.category]) (Nat.le_of_ble_eq_true rfl) q0_hasBus rfl (by decide) rfl (isD_obj hd_1) (isD_pos hd_1) w_ml_X6_107 w_im_X0_hasBus w_se_X0_hasBus rfl (Nat.le_of_ble_eq_true rfl) dX6_told_5 ?_
  rintro ⟨r_2, M⟩
  show Snd injI j6_told mm_X0 8 [some (.ref 1), some (.int x1), some (.int x2)] [.int r_2] M _
  refine sn_if_eq (j := j6_told) (pc := 8) 21 rfl dX6_told_8 ?_ ?_
  · exact Snd.wk (sl6_told_21 M) (by simp [mm_le])
  · refine sn_iload_n (j := j6_told) (pc := 11) rfl rfl dX6_told_11 ?_
    refine sn_if_lt (j := j6_told) (pc := 12) 21 rfl dX6_told_12 ?_ ?_
    · exact Snd.wk (sl6_told_21 M) (by simp [mm_le])
    · refine sn_iload_n (j := j6_told) (pc := 15) rfl rfl dX6_told_15 ?_
      refine sn_bipush (j := j6_told) (pc := 16) 6 rfl dX6_told_16 ?_
      refine sn_icmp_lt (j := j6_told) (pc := 18) 31 rfl dX6_told_18 ?_ ?_
      · refine sn_aload_n (j := j6_told) (pc := 31) rfl rfl dX6_told_31 ?_
        refine g_X6_12 (j := j6_told) (pc := 32) rfl dX6_told_32 (fun d_3 => ?_)
        refine Snd.ite fun hd_3 => ?_
        refine sn_iload_n (j := j6_told) (pc := 35) rfl rfl dX6_told_35 ?_
        refine sn_iload_n (j := j6_told) (pc := 36) rfl rfl dX6_told_36 ?_
        refine sn_callV (j := j6_told) (pc := 37) (jc := j0_fact) (As := [.int x1, .int x2]) (s0_fact d_3 x1 x2 M) mm_hvI (by simp [Value.category]) (Nat.le_of_ble_eq_true rfl) q0_fact rfl (by decide) rfl (isD_obj hd_3) (isD_pos hd_3) w_ml_X6_145 w_im_X0_fact w_se_X0_fact rfl (Nat.le_of_ble_eq_true rfl) dX6_told_37 ?_
        rintro ⟨r_4, M⟩
        show Snd injI j6_told mm_X0 40 [some (.ref 1), some (.int x1), some (.int x2)] [.int r_4] M _
        exact sn_iret (j := j6_told) (pc := 40) rfl dX6_told_40
      · exact Snd.wk (sl6_told_21 M) (by simp [mm_le])
theorem dX6_told_24 : decode cX6_told 24 = .ok (.dup, 1) := by decide +kernel
theorem dX6_told_25 : decode cX6_told 25 = .ok (.ldc 140, 2) := by decide +kernel
theorem dX6_told_27 : decode cX6_told 27 = .ok (.invokespecial 142, 3) := by decide +kernel
theorem dX6_told_30 : decode cX6_told 30 = .ok (.athrow, 1) := by decide +kernel

theorem w_cd_X6_told : Cond.code yX6_told cX6_told 3 (some .int) ∈ mm_tbl := mm_in4 69 rfl rfl
theorem q6_told : mm_cl (yX6_told, cX6_told, 3, (some .int), 6) 2 := ⟨w_cd_X6_told, w_in_X6, by decide +kernel, by decide, by decide⟩
abbrev jL_told : mm_J := (yL_told, cL_told, 5, (some .int), 7)
theorem dL_told_0 : decode cL_told 0 = .ok (.aload_n 3, 1) := by decide +kernel
theorem dL_told_1 : decode cL_told 1 = .ok (.iconst 0, 1) := by decide +kernel
theorem dL_told_2 : decode cL_told 2 = .ok (.aload_n 0, 1) := by decide +kernel
theorem dL_told_3 : decode cL_told 3 = .ok (.iload_n 1, 1) := by decide +kernel
theorem dL_told_4 : decode cL_told 4 = .ok (.iload_n 2, 1) := by decide +kernel
theorem dL_told_5 : decode cL_told 5 = .ok (.invokevirtual 7, 3) := by decide +kernel
theorem dL_told_8 : decode cL_told 8 = .ok (.i2l, 1) := by decide +kernel
theorem dL_told_9 : decode cL_told 9 = .ok (.lastore, 1) := by decide +kernel
theorem dL_told_10 : decode cL_told 10 = .ok (.goto 7, 3) := by decide +kernel
theorem dL_told_17 : decode cL_told 17 = .ok (.iconst 0, 1) := by decide +kernel
theorem dL_told_18 : decode cL_told 18 = .ok (.ireturn, 1) := by decide +kernel
def fL_told (x1 : Int32) (x2 : Int32) (M : mm_M) : Option (Int32 × mm_M) :=
  cI (f6_told x1 x2 M) (fun r_1 M => uL 62 1 0 r_1.toInt64 M (fun M => some (0, M)))
set_option maxHeartbeats 2000000 in
theorem sL_told (x1 : Int32) (x2 : Int32) (M : mm_M) : Snd injI jL_told mm_X0 0 [some (.ref 1), some (.int x1), some (.int x2), some (.ref 62)] [] M (fL_told x1 x2 M) := by
  refine Snd.wk (lo' := [some (.ref 1), some (.int x1), some (.int x2), some (.ref 62), none]) ?_ (by simp [mm_le])
  unfold fL_told
  refine sn_aload_n (j := jL_told) (pc := 0) rfl rfl dL_told_0 ?_
  refine sn_iconst (j := jL_told) (pc := 1) 0 rfl dL_told_1 ?_
  refine sn_aload_n (j := jL_told) (pc := 2) rfl rfl dL_told_2 ?_
  refine sn_iload_n (j := jL_told) (pc := 3) rfl rfl dL_told_3 ?_
  refine sn_iload_n (j := jL_told) (pc := 4) rfl rfl dL_told_4 ?_
  refine sn_callV (j := jL_told) (pc := 5) (jc := j6_told) (As := [.int x1, .int x2]) (s6_told x1 x2 M) mm_hvI (by simp [Value.category]) (Nat.le_of_ble_eq_true rfl) q6_told rfl (by decide) rfl rfl ⟨by decide, by decide⟩ w_ml_L_7 w_im_X6_told w_se_X6_told rfl (Nat.le_of_ble_eq_true rfl) dL_told_5 ?_
  rintro ⟨r_1, M⟩
  show Snd injI jL_told mm_X0 8 [some (.ref 1), some (.int x1), some (.int x2), some (.ref 62), none] [.int r_1, .int 0, .ref 62] M _
  refine sn_i2l (j := jL_told) (pc := 8) dL_told_8 ?_
  refine sn_last (j := jL_told) (pc := 9) rfl ⟨by decide, by decide⟩ dL_told_9 (fun M => ?_)
  refine sn_goto (j := jL_told) (pc := 10) 17 rfl dL_told_10 ?_
  refine sn_iconst (j := jL_told) (pc := 17) 0 rfl dL_told_17 ?_
  exact sn_iret (j := jL_told) (pc := 18) rfl dL_told_18
theorem dL_told_13 : decode cL_told 13 = .ok (.astore 4, 2) := by decide +kernel
theorem dL_told_15 : decode cL_told 15 = .ok (.iconst 1, 1) := by decide +kernel
theorem dL_told_16 : decode cL_told 16 = .ok (.ireturn, 1) := by decide +kernel
section KRUN
variable {p : Program} {l : Launch} {e : Env} {R : Room} {s : State} {m : MethodId} {args : Array Value} {below : List Frame} {meth : Method} {c : Code} {D : va_G} {A : Nat → Prop} {cs : mm_K} {ad : Nat → Nat} {M M1 : mm_M} {H : Heap} {locs : List Loc} {cells slots g : Nat} {Q : State → Prop} {j : mm_J} {X : mm_X} {pc : Nat} {ls : Array Slot}
theorem kw_fr (C : mm_C l j X p R s m args meth c D A cs ad) (hW : mm_W s D A cs ad M H locs) : ∀ q, va_A (mm_ws ad cs M) H.size q → A q := by
  intro q h
  rcases h with ⟨i, e, h⟩ | h
  · exact hW.2.1.2 i (q, e) h
  · exact C.2.2.2.2.2.2.2.2.1 q (Nat.le_trans hW.2.2.1 h)
/-- behind a call, at the level of the machine -/
theorem kw_run (C : mm_C l j X p R s m args meth c D A cs ad) (hW : mm_W s D A cs ad M H locs) {r : Option Value} {st0 st : List Value}
    (hr : va_Run p l e R s m args below meth c H locs cells slots g (6 * g) (F0 m pc ls st0) st (fun st oc t => (oc = .returned r ∧ mm_B D cs ad (va_A (mm_ws ad cs M) H.size) M1 () t) ∧ va_F (va_A (mm_ws ad cs M) H.size) st t) (va_A (mm_ws ad cs M) H.size))
    (k : ∀ (H1 : Heap) (locs1 : List Loc), mm_W s D A cs ad M1 H1 locs1 → W p l e R s m args below meth c H1 locs1 (cells + g) (slots + 6 * g) Q (F0 m (pc + 3) ls (r.toList ++ st))) : W p l e R s m args below meth c H locs cells slots Q (F0 m pc ls st0) := by
  have hFr := kw_fr C hW
  intro T hT Xs
  obtain ⟨v, st₀, t, T', L, h0, X', hLl, e1, e2, ⟨⟨hv1, hB1, hB2, hB3⟩, hz, hk⟩, stp⟩ := hr T hT Xs
  have hv2 : v = r := by injection hv1
  subst hv2
  rw [h0] at hz hk
  have hS' : va_S A s.heap T'.heap (locs ++ L) := ⟨Nat.le_trans hW.2.2.1 (by rw [e1]; exact hz), fun q h1 h2 => by rw [e1, hk q (Nat.lt_of_lt_of_le h1 hW.2.2.1) (fun z => h2 (hFr q z))]; exact hW.2.2.2.1 q h1 h2, fun q hq => by
    rcases List.mem_append.mp hq with h | h
    · exact hW.2.2.2.2 q h
    · exact hFr _ (hLl q h)⟩
  obtain ⟨t2, a1, b3⟩ := k T'.heap (locs ++ L) ⟨by rw [e1]; exact hB1, hB3.weaken (fun _ q _ h => hFr q.1 h), hS'⟩ T' rfl X'
  exact ⟨t2, stp t2 a1, b3⟩
theorem kw_callV {α : Type} {inj : α → Option Value × mm_M} {jc : mm_J} {n b ci N idx : Nat} {T : u_T} {As st0 st : List Value} {x : α} (C : mm_C l j X p R s m args meth c D A cs ad) (hW : mm_W s D A cs ad M H locs) (hls : ls.size = j.2.2.1) (hf : Snd inj jc mm_X0 0 ((.ref b :: As).map some) [] M (some x)) (hv : ∀ r, (inj x).1 = some (.ref r) → False) (hc : ∀ v ∈ Value.ref b :: As, v.category = 1) (hn : (Value.ref b :: As).length ≤ jc.2.2.1) (hcl : mm_cl jc n) (hAs : As.length = n) (hlv : jc.2.2.2.2 + 1 ≤ j.2.2.2.2)
    (hvc : vwCl[ci]? = some (jc.1.cls, T, N)) (hs : mm_sh b = (0, ci, N)) (hb : 0 < b ∧ b ≤ 62) (hl : Cond.methodLink j.1.cls idx jc.1 ∈ mm_tbl) (hin : Cond.instanceMethod jc.1 ∈ mm_tbl) (hse : Cond.selects jc.1.cls jc.1 jc.1 ∈ mm_tbl) (hst : st0 = As.reverse ++ .ref b :: st) (hr : (st.map fun v => v.category).sum ≤ 8) (hd : decode j.2.1 pc = .ok (.invokevirtual idx, 3))
    (h1 : cells + (mG (inj x).2 - mG M) ≤ R.cells) (h2 : slots + 6 * (mG (inj x).2 - mG M) ≤ R.slots)
    (k : ∀ (H1 : Heap) (locs1 : List Loc), mm_W s D A cs ad (inj x).2 H1 locs1 → W p l e R s m args below meth c H1 locs1 (cells + (mG (inj x).2 - mG M)) (slots + 6 * (mG (inj x).2 - mG M)) Q (F0 m (pc + 3) ls ((inj x).1.toList ++ st.map (mm_v ad)))) : W p l e R s m args below meth c H locs cells slots Q (F0 m pc ls (st0.map (mm_v ad))) := by
  have hts := C.2.2.2.2.1
  have hFr := kw_fr C hW
  have hM := mm_met hf hc hn hcl.2.2.2.1 l D cs ad H.size (fun _ st oc t => (oc = .returned (inj x).1 ∧ mm_B D cs ad (va_A (mm_ws ad cs M) H.size) (inj x).2 () t) ∧ va_F (va_A (mm_ws ad cs M) H.size) st t) (fun s1 t H1 a locs1 ht hw hs1 hK1 hW1 => ⟨⟨rfl, by rw [ht]; exact hW1.1, va_K.moved hw.alike hK1, hW1.2.1⟩, hW1.2.2.F ht⟩) hv
  refine kw_run (g := mG (inj x).2 - mG M) (r := (inj x).1) (st := st.map (mm_v ad)) C hW (va_runV (C := jc.1.cls) (As := As.map (mm_v ad)) (rest := st.map (mm_v ad)) (b := ad b) (n := n) (Ts := mm_tbl) (own := j.1.cls) ⟨C.1, C.2.1, C.2.2.1, C.2.2.2.2.2.1, hts⟩ hM ⟨callB_of n hts (mm_goodC hcl.1) rfl rfl rfl (hts _ hcl.2.1) (hts _ hl) hcl.2.2.1 ⟨Nat.le_trans hlv C.2.2.2.2.2.2.2.2.2.2.2.1, ?_⟩, hts _ hin, hts _ hse⟩ ⟨mm_blind D cs ad _ M _, ?_, fun U hU hWm => ⟨rfl, by rw [hU], by rw [hU]; exact hW.1, va_K.moved hWm.alike C.2.2.2.2.2.2.2.1, hW.2.1.weaken (fun _ _ _ _ => trivial), by
      rw [hU]
      exact ((C.2.2.2.2.2.2.2.2.2.1.kept hW.2.2.2.1).narrow hFr).warm hWm⟩⟩ rfl (by rw [List.length_map]; exact hAs) hls ?_ (lv_room (mm_cat8 hr)) hd ⟨h1, h2⟩) k
  · have q1 := C.2.2.2.2.2.2.2.2.2.2.2.2
    have q2 := hcl.2.2.2.2
    show 8 + (jc.2.2.1 + 11) + 36 * jc.2.2.2.2 ≤ R.locals
    omega
  · exact va_recv (q := (jc.1.cls, T, N)) C.2.2.2.2.2.2.2.1 hW.1 hvc (q0 := b - 1) (by rw [mm_get ad cs M hb, mm_e_obj ad cs M hs])
  · rw [hst]
    show List.map (mm_v ad) (As.reverse ++ Value.ref b :: st) = _
    rw [List.map_append, List.map_reverse]
    rfl
end KRUN
/-- a start that may throw: the world, and what a throw needs -/
def mm_Px (D : va_G) (cs : mm_K) (ad : Nat → Nat) (as : List Value) (M : mm_M) (sz : Nat) : Array Value → State → Prop := fun a U => mm_Pc D cs ad as M sz a U ∧ mm_RX ad (va_A (mm_ws ad cs M) sz) U U.heap
theorem mm_blindx (D : va_G) (cs : mm_K) (ad : Nat → Nat) (as : List Value) (M : mm_M) (sz : Nat) : FrameBlind (mm_Px D cs ad as M sz) := fun a U g mk q => ⟨mm_blind D cs ad as M sz a U g mk q.1, mm_RX.same (s := U) (U := U.calling g mk a) rfl q.2⟩
abbrev kl_hh : List (Nat × Nat × Nat × Nat) := [(0, 10, 13, 13)]
abbrev kl_wd : List Cond := .codeWith yL_told cL_told 5 (some .int) kl_hh :: mm_tbl
theorem mm_metW {α : Type} {inj : α → Option Value × mm_M} {j : mm_J} {hh : List (Nat × Nat × Nat × Nat)} {as : List Value} {M : mm_M} {x : α} (h : Snd inj j mm_X0 0 (as.map some) [] M (some x)) (hc : ∀ v ∈ as, v.category = 1) (hn : as.length ≤ j.2.2.1) (hp : plainName j.1.cls = true) (l : Launch) (D : va_G) (cs : mm_K) (ad : Nat → Nat) (sz : Nat) (Qc : Array Value → State → Outcome → State → Prop)
    (hQc : ∀ (s t : State) (H : Heap) (a : Array Value) (locs : List Loc), t.heap = H → s.WarmedH t.vm → s.heap.size = sz → va_K D vwCl (mm_ty cs) s → mm_W s D (va_A (mm_ws ad cs M) sz) cs ad (inj x).2 H locs → Qc a s (.returned (inj x).1) t)
    (hv : ∀ r, (inj x).1 = some (.ref r) → False) :
    Met l j.1 (.codeWith j.1 j.2.1 j.2.2.1 j.2.2.2.1 hh :: mm_tbl) (mm_rm j (mG (inj x).2 - mG M)) (mm_Px D cs ad as M sz) Qc (mG (inj x).2 - mG M) (6 * (mG (inj x).2 - mG M)) (va_A (mm_ws ad cs M) sz) := by
  refine va_MetW (cc := j.2.1) (maxL := j.2.2.1) (ret := j.2.2.2.1) hp rfl ?_
  intro p e s m args below meth c s₁ B hml hpc
  obtain ⟨⟨rfl, hsz, hP, hK, hD, hRO⟩, -⟩ := hpc
  obtain ⟨g1, g2⟩ := h x rfl
  have hts := atoms_spec (ws := .codeWith j.1 j.2.1 j.2.2.1 j.2.2.2.1 hh :: mm_tbl) B.pre
  rw [lg_entry_eq]
  have hl := lv_entry (as.map (mm_v ad)) (n := j.2.2.1) (by rw [mm_sl_len as hc]; exact hn)
  generalize (lg_sl (as.map (mm_v ad)) ++ List.replicate (j.2.2.1 - (lg_sl (as.map (mm_v ad))).length) Slot.unset).toArray = ls at hl ⊢
  subst hsz
  have hD' := hD.self (sz := s.heap.size)
  refine g2 p l e _ s m _ below meth c D (va_A (mm_ws ad cs M) s.heap.size) cs ad (mG M) 0 0 _ ⟨B.exec, B.bytes, hml, B.returns, fun w hw => hts w (List.mem_cons_of_mem _ hw), findClass_of_methodNamed B.named, B.notSynchronized, hK, fun q hq => Or.inr hq, hRO, Or.inl rfl, Nat.le_refl _, Nat.le_refl _⟩ (by show 0 + mG (inj x).2 ≤ (mG (inj x).2 - mG M) + mG M; omega) (by show 0 + 6 * mG (inj x).2 ≤ 6 * (mG (inj x).2 - mG M) + 6 * mG M; omega) ?_ s.heap [] 0 0 ls ⟨hP, hD', va_S.rf⟩ ⟨hl.1, hl.2.1, fun i v hv => ?_⟩ (by omega) (by omega)
  · intro H locs cells slots pc ls st hW hcc hss hE
    have e1 : cells = mG (inj x).2 - mG M := by omega
    have e2 : slots = 6 * (mG (inj x).2 - mG M) := by omega
    subst e1; subst e2
    have hlk : meth.locks = false := B.notSynchronized
    unfold mm_E at hE
    have hq : ∀ t : State, t.heap = H → s.WarmedH t.vm → Qc (as.map (mm_v ad)).toArray s (.returned (inj x).1) t := fun t ht hw => hQc s t H _ locs ht hw rfl hK hW
    generalize (inj x).1 = r at hE hq hv
    match r, hE with
    | none, ⟨hst, hd, hr⟩ =>
      subst hst
      exact W.vret B.exec B.bytes (B.returns.trans hr) hq hW.2.2.2.2 hd (hlocks := hlk)
    | some (.int v), ⟨hst, hd, ty, hr, hnr⟩ =>
      subst hst
      exact W.zret B.exec B.bytes (B.returns.trans hr) hnr hq hW.2.2.2.2 hd (hlocks := hlk)
    | some (.long v), ⟨hst, hd, hr⟩ =>
      subst hst
      exact W.lret B.exec B.bytes (B.returns.trans hr) hq hW.2.2.2.2 hd (hlocks := hlk)
  · rw [List.getElem?_map] at hv
    cases hi : as[i]? with
    | none => rw [hi] at hv; cases hv
    | some w =>
      rw [hi] at hv
      have e : w = v := by simpa using hv
      subst e
      have := mm_args_in (ad := ad) as 0 i w hc hi
      rw [Nat.zero_add] at this
      exact hl.2.2 _ this
theorem hasBus_mem {d : Nat} {x r : Int32} {M M1 : mm_M} (h : f0_hasBus d x M = some (r, M1)) : M1 = M := by
  unfold f0_hasBus l0_hasBus_16 l0_hasBus_17 at h
  by_cases h0 : isD d = true
  · rw [if_pos h0] at h
    by_cases h1 : x < 0
    · rw [if_pos h1] at h
      have := Option.some.inj (h.symm.trans (rZ0 M))
      exact congrArg Prod.snd this
    · rw [if_neg h1, bI_eq] at h
      by_cases h2 : mI M d 2 ≤ x
      · rw [if_pos h2] at h
        have := Option.some.inj (h.symm.trans (rZ0 M))
        exact congrArg Prod.snd this
      · rw [if_neg h2] at h
        have := Option.some.inj (h.symm.trans (rZ1 M))
        exact congrArg Prod.snd this
  · rw [if_neg h0] at h; cases h
-- the words of the throw
abbrev kx_by : ByteArray := prog_24_method_4_code
abbrev kx_L : List Cond := kx_at RX6 142 kx_ns 13 kx_by "java/lang/RuntimeException" ["java/lang/Exception"]
theorem kw_cl_ns : Cond.classLink RX6 138 kx_ns ∈ mm_tbl := mm_in4 70 rfl rfl
theorem kw_in_ns : Cond.initialized kx_ns ∈ mm_tbl := mm_in1 19 rfl rfl
theorem kw_cl_L13 : Cond.classLink RL 13 kx_ns ∈ mm_tbl := mm_in4 65 rfl rfl
theorem kw_cw_L : Cond.codeWith yL_told cL_told 5 (some .int) kl_hh ∈ mm_tbl := mm_in4 64 rfl rfl
theorem kw_in_L : Cond.initialized yL_told.cls ∈ mm_tbl := mm_in1 0 rfl rfl
theorem kw_ml_L66 : Cond.methodLink RL 66 yL_told ∈ mm_tbl := mm_in4 62 rfl rfl
theorem kw_st_L : Cond.static yL_told ∈ mm_tbl := mm_in4 63 rfl rfl
theorem kx_cast : Cond.castable kx_ns kx_ns ∈ kx_bad := List.mem_of_getElem? (i := 3) rfl
theorem kx_e : kx_L.filter goodWord = ([95, 891, 900, 902, 905, 907, 892, 893, 105, 106, 894, 899, 903, 923, 881, 924, 883, 925, 885, 895, 897, 887, 919, 920, 922, 887, 910, 911, 912, 913, 913, 914, 915, 916, 916, 917, 918, 919, 909, 870, 878, 879, 880, 882, 884, 886, 890, 889, 888] : List Nat).filterMap (fun i => lw_tbl[i]?) := by decide +kernel
theorem kx_a : ∀ w ∈ kx_L.filter goodWord, w ∈ mm_tbl := fun w hw => by
  have h1 := (List.mem_filter.mp hw).2
  rw [kx_e] at hw
  obtain ⟨i, -, hi⟩ := List.mem_filterMap.mp hw
  exact List.mem_filter.mpr ⟨List.mem_of_getElem? hi, h1⟩
theorem kx_b : ∀ w ∈ kx_L.filter (fun w => !goodWord w), w ∈ kx_bad := by decide +kernel
theorem kx_ok : ∀ w ∈ Cond.classLink RX6 138 kx_ns :: Cond.initialized kx_ns :: kx_L, vx_ot w = true := by decide +kernel
theorem kx_g0 : decode kx_by 0 = .ok (.aload_n 0, 1) := by decide +kernel
theorem kx_g1 : decode kx_by 1 = .ok (.aload_n 1, 1) := by decide +kernel
theorem kx_g2 : decode kx_by 2 = .ok (.invokespecial 13, 3) := by decide +kernel
theorem kx_g5 : decode kx_by 5 = .ok (.return_, 1) := by decide +kernel
set_option maxHeartbeats 4000000 in
theorem k_told_throw (l : Launch) (hst : l.stackTraces = false) (D : va_G) (cs : mm_K) (ad : Nat → Nat) (sz : Nat) {M M1 : mm_M} {x y r : Int32} (hD : isD (mNow M) = true) (hf : f0_hasBus (mNow M) x M = some (r, M1)) (hc : r = 0 ∨ y < 0 ∨ ¬ y < 6) :
    vx_Met l yX6_told (mm_wd j6_told) (mm_rm j6_told 1) (mm_Px D cs ad [.ref 1, .int x, .int y] M sz) (va_Qi (fun (_ : Int32) (_ : Unit) => False) (fun _ _ => True) (va_A (mm_ws ad cs M) sz)) (vx_X (fun _ : Unit => True) (fun E _ t => E = kx_ns ∧ mm_B D cs ad (va_A (mm_ws ad cs M) sz) M () t) (va_A (mm_ws ad cs M) sz)) 1 6 (va_A (mm_ws ad cs M) sz) := by
  have hmem := hasBus_mem hf
  subst hmem
  refine vx_ofW (cc := cX6_told) (maxL := 3) (ret := some .int) (by decide) rfl ?_
  intro p e s m args below meth c s₁ B hml hnoT hpc
  obtain ⟨⟨rfl, hsz, hP, hK, hD0, hRO⟩, hRX⟩ := hpc
  have hts := atoms_spec (ws := mm_wd j6_told) B.pre
  have htm : ∀ w ∈ mm_tbl, w.before _ s = true := fun w hw => hts w (List.mem_cons_of_mem _ hw)
  have hx := B.exec
  have hb := B.bytes
  have hlocks := B.notSynchronized
  have hown : s.vm.findClass RX6 = some m.cls := findClass_of_methodNamed B.named
  rw [lg_entry_eq]
  have hl := lv_entry ([.ref (ad 1), .int x, .int y]) (n := 3) (Nat.le_of_ble_eq_true rfl)
  show W p l e _ s m _ below meth c s.heap [] 0 0 _ (F0 m 0 (lg_sl ([.ref (ad 1), .int x, .int y]) ++ List.replicate (3 - (lg_sl ([.ref (ad 1), .int x, .int y])).length) Slot.unset).toArray [])
  generalize (lg_sl ([.ref (ad 1), .int x, .int y]) ++ List.replicate (3 - (lg_sl ([.ref (ad 1), .int x, .int y])).length) Slot.unset).toArray = ls at hl ⊢
  have hl : lv_has ls 3 [(0, .ref (ad 1)), (1, .int x), (2, .int y)] := hl
  subst hsz
  have hD' := hD0.self (sz := s.heap.size)
  have C : mm_C l j6_told mm_X0 p (mm_rm j6_told 1) s m _ meth c D (va_A (mm_ws ad cs M1) s.heap.size) cs ad := ⟨B.exec, B.bytes, hml, B.returns, htm, hown, B.notSynchronized, hK, fun q hq => Or.inr hq, hRO, Or.inl rfl, Nat.le_refl _, Nat.le_refl _⟩
  have hW0 : mm_W s D (va_A (mm_ws ad cs M1) s.heap.size) cs ad M1 s.heap [] := ⟨hP, hD', va_S.rf⟩
  have thr : ∀ (H : Heap) (locs : List Loc), mm_W s D (va_A (mm_ws ad cs M1) s.heap.size) cs ad M1 H locs → W p l e (mm_rm j6_told 1) s m [Value.ref (ad 1), Value.int x, Value.int y].toArray below meth c H locs 0 0 (vx_MQ below (va_Qi (fun (_ : Int32) (_ : Unit) => False) (fun _ _ => True) (va_A (mm_ws ad cs M1) s.heap.size)) (vx_X (fun _ : Unit => True) (fun E _ t => E = kx_ns ∧ mm_B D cs ad (va_A (mm_ws ad cs M1) s.heap.size) M1 () t) (va_A (mm_ws ad cs M1) s.heap.size)) [Value.ref (ad 1), Value.int x, Value.int y].toArray s 1 6 (va_A (mm_ws ad cs M1) s.heap.size)) (F0 m 21 ls []) := by
    intro H locs hW
    refine kx_make (own := RX6) (cls := kx_ns) (up := "java/lang/RuntimeException") (r := ["java/lang/Exception"]) (i1 := 13) (b1 := kx_by) (sa := ad 208) (A := va_A (mm_ws ad cs M1) s.heap.size) hx hb hst hown (by decide +kernel) (by decide +kernel) (by decide +kernel) kx_g0 kx_g1 kx_g2 kx_g5 (htm _ kw_cl_ns) (htm _ kw_in_ns) hRX.1 (vx_hat (fun w hw => htm w (kx_a w hw)) kx_b (fun w hw => va_Nw.use (kx_tab w hw) (hRX.2.2.2 w hw))) kx_ok hRX.2.1 hRX.2.2.1 hW.2.2 (by rw [hml]; exact hl.1) dX6_told_21 dX6_told_24 dX6_told_25 dX6_told_27 (Nat.le_of_ble_eq_true rfl) (Nat.le_of_ble_eq_true rfl) (Nat.le_of_ble_eq_true rfl) (Nat.le_of_ble_eq_true rfl) (fun q H1 ce h1 h2 h3 h4 h5 h6 => ?_)
    refine vx_athrow hx hb dX6_told_30 ?_
    refine vx_out (E := kx_ns) (fun x hx => (hnoT x hx).elim) hlocks h1 h2 h3 (fun t ht hal => ?_) h6.2.2 (Nat.le_refl _) (Nat.le_refl _)
    refine ⟨(), trivial, ⟨rfl, ?_, va_K.moved hal hK, hW.2.1⟩, h6.F ht⟩
    rw [ht]
    exact hW.1.kept (fun k z hz => h5 z.1 ((hW.1 k z hz).lt))
  refine lv_aload_n hx hb dX6_told_0 rfl (lv_at hl 0 rfl) ?_
  refine va_get (D := D) (ci := 6) (fs := (List.range 9).map (mm_fv ad M1 1)) (v := .ref (ad (mNow M1))) (C := RX6) (T := TX6) (N := 9) hx hb htm iw6 hown hK hP 0 (by rw [show (0 : Nat) = 1 - 1 from rfl, mm_get ad cs M1 (c := 1) ⟨by decide, by decide⟩, mm_e_obj ad cs M1 (c := 1) rfl]) rfl 0 (by decide) (htm _ w_fl_X6_12) (fun _ h9 => h9) rfl dX6_told_1 ?_
  refine lv_iload_n hx hb dX6_told_4 rfl (lv_at hl 1 rfl) ?_
  refine kw_callV (pc := 5) (j := j6_told) (X := mm_X0) (idx := 107) (jc := j0_hasBus) (b := mNow M1) (As := [.int x]) (st := []) (st0 := [.int x, .ref (mNow M1)]) (inj := injI) (x := (r, M1)) C hW0 hl.1 (by have := s0_hasBus (mNow M1) x M1; rw [hf] at this; exact this) (mm_hvI _) (by simp [Value.category]) (Nat.le_of_ble_eq_true rfl) q0_hasBus rfl (by decide) rfl (isD_obj hD) (isD_pos hD) w_ml_X6_107 w_im_X0_hasBus w_se_X0_hasBus rfl (Nat.le_of_ble_eq_true rfl) dX6_told_5 (by show 0 + (mG M1 - mG M1) ≤ 1; omega) (by show 0 + 6 * (mG M1 - mG M1) ≤ 6 * 1; omega) (fun H1 locs1 hW1 => ?_)
  refine W.widen (k := 0) (n := 0) (by show 0 + (mG M1 - mG M1) ≤ 0; omega) (by show 0 + 6 * (mG M1 - mG M1) ≤ 0; omega) ?_
  show W p l e _ s m _ below meth c H1 locs1 0 0 _ (F0 m 8 ls [.int r])
  refine lv_if_eq hx hb (tgt := 21) dX6_told_8 rfl (fun _ => thr H1 locs1 hW1) (fun hr => ?_)
  refine lv_iload_n hx hb dX6_told_11 rfl (lv_at hl 2 rfl) ?_
  refine lv_if_lt hx hb (tgt := 21) dX6_told_12 rfl (fun _ => thr H1 locs1 hW1) (fun hy => ?_)
  refine lv_iload_n hx hb dX6_told_15 rfl (lv_at hl 2 rfl) ?_
  refine lv_bipush (v := 6) hx hb dX6_told_16 (by decide) ?_
  refine lv_icmp_lt hx hb (tgt := 31) dX6_told_18 rfl (fun h6 => ?_) (fun _ => thr H1 locs1 hW1)
  exfalso
  rcases hc with h | h | h
  · exact hr h
  · exact hy h
  · exact h h6
set_option maxHeartbeats 4000000 in
theorem k_Ltold_throw (l : Launch) (hst : l.stackTraces = false) (D : va_G) (cs : mm_K) (ad : Nat → Nat) (sz : Nat) {M M1 : mm_M} {x y r : Int32} (hD : isD (mNow M) = true) (hf : f0_hasBus (mNow M) x M = some (r, M1)) (hc : r = 0 ∨ y < 0 ∨ ¬ y < 6) :
    Met l yL_told kl_wd (mm_rm jL_told 1) (mm_Px D cs ad [.ref 1, .int x, .int y, .ref 62] M sz) (fun _ st oc t => (oc = .returned (some (.int 1)) ∧ mm_B D cs ad (va_A (mm_ws ad cs M) sz) (sG M (mG M + 1)) () t) ∧ va_F (va_A (mm_ws ad cs M) sz) st t) 1 6 (va_A (mm_ws ad cs M) sz) := by
  refine va_MetW (cc := cL_told) (maxL := 5) (ret := some .int) (by decide) rfl ?_
  intro p e s m args below meth c s₁ B hml hpc
  obtain ⟨⟨rfl, hsz, hP, hK, hD0, hRO⟩, hRX⟩ := hpc
  have hts := atoms_spec (ws := kl_wd) B.pre
  have htm : ∀ w ∈ mm_tbl, w.before _ s = true := fun w hw => hts w (List.mem_cons_of_mem _ hw)
  have htab := vx_table (x := yL_told) B (hts _ List.mem_cons_self)
  have hx := B.exec
  have hb := B.bytes
  have hr := B.returns
  have hlocks := B.notSynchronized
  have hown : s.vm.findClass RL = some m.cls := findClass_of_methodNamed B.named
  rw [lg_entry_eq]
  have hl := lv_entry ([.ref (ad 1), .int x, .int y, .ref (ad 62)]) (n := 5) (Nat.le_of_ble_eq_true rfl)
  show W p l e _ s m _ below meth c s.heap [] 0 0 _ (F0 m 0 (lg_sl ([.ref (ad 1), .int x, .int y, .ref (ad 62)]) ++ List.replicate (5 - (lg_sl ([.ref (ad 1), .int x, .int y, .ref (ad 62)])).length) Slot.unset).toArray [])
  generalize (lg_sl ([.ref (ad 1), .int x, .int y, .ref (ad 62)]) ++ List.replicate (5 - (lg_sl ([.ref (ad 1), .int x, .int y, .ref (ad 62)])).length) Slot.unset).toArray = ls at hl ⊢
  have hl : lv_has ls 5 [(0, .ref (ad 1)), (1, .int x), (2, .int y), (3, .ref (ad 62))] := hl
  subst hsz
  have hD' := hD0.self (sz := s.heap.size)
  have C : mm_C l jL_told mm_X0 p (mm_rm jL_told 1) s m _ meth c D (va_A (mm_ws ad cs M) s.heap.size) cs ad := ⟨B.exec, B.bytes, hml, B.returns, htm, hown, B.notSynchronized, hK, fun q hq => Or.inr hq, hRO, Or.inl rfl, Nat.le_refl _, Nat.le_refl _⟩
  have hW0 : mm_W s D (va_A (mm_ws ad cs M) s.heap.size) cs ad M s.heap [] := ⟨hP, hD', va_S.rf⟩
  refine lv_aload_n hx hb dL_told_0 rfl (lv_at hl 3 rfl) ?_
  refine lv_iconst (v := 0) hx hb dL_told_1 (by decide) ?_
  refine lv_aload_n hx hb dL_told_2 rfl (lv_at hl 0 rfl) ?_
  refine lv_iload_n hx hb dL_told_3 rfl (lv_at hl 1 rfl) ?_
  refine lv_iload_n hx hb dL_told_4 rfl (lv_at hl 2 rfl) ?_
  refine vx_calli (A0 := va_A (mm_ws ad cs M) s.heap.size) (vx_runV (C := RX6) (As := [.int x, .int y]) (rest := [.int 0, .ref (ad 62)]) (b := ad 1) (n := 2) (Ts := mm_tbl) (own := RL) ⟨hx, hb, hml, hown, htm⟩ (k_told_throw l hst D cs ad s.heap.size hD hf hc) ⟨callB_of 2 htm (mm_goodC w_cd_X6_told) rfl rfl rfl (htm _ w_in_X6) (htm _ w_ml_L_7) (by decide +kernel) ⟨Nat.le_of_ble_eq_true rfl, Nat.le_of_ble_eq_true rfl⟩, htm _ w_im_X6_told, htm _ w_se_X6_told⟩ ⟨mm_blindx D cs ad _ M _, va_recv (q := (RX6, TX6, 9)) hK hP rfl (ci := 6) (q0 := 0) (by rw [show (0 : Nat) = 1 - 1 from rfl, mm_get ad cs M (c := 1) ⟨by decide, by decide⟩, mm_e_obj ad cs M (c := 1) rfl]), fun U hU hWm => ⟨⟨rfl, by rw [hU], by rw [hU]; exact hP, va_K.moved hWm.alike hK, hD0, by rw [hU]; exact hRO.warm hWm⟩, by rw [hU]; exact hRX.warm hWm⟩⟩ rfl rfl hl.1 rfl (lv_room (Nat.le_of_ble_eq_true rfl)) dL_told_5 ⟨Nat.le_of_ble_eq_true rfl, Nat.le_of_ble_eq_true rfl⟩) va_S.rf (fun q _ h => h) (fun q h => h) (fun q _ h => h) (fun E ce q9 u t H1 locs1 ht hal _ hBX hz hk hS h1 h2 h3 => ?_) (fun r u t H1 locs1 ht hal hF => hF.elim)
  obtain ⟨rfl, hB1, hB2, hB3⟩ := hBX
  rw [ht] at hB1
  refine vx_catch (own := RL) (name := kx_ns) (E := kx_ns) hown [] ⟨0, 10, 13, 13⟩ [] (by rw [htab]; rfl) (fun z hz => nomatch hz) (by decide) (by decide) (htm _ kw_cl_L13) (va_Nw.use (kx_tab _ kx_cast) (hRX.2.2.2 _ kx_cast)) h1 h2 h3 ?_
  show W p l e _ s m _ below meth c H1 locs1 _ _ _ (F0 m 13 ls [.ref q9])
  refine lv_astore (lv' := [(4, .ref q9), (0, .ref (ad 1)), (1, .int x), (2, .int y), (3, .ref (ad 62))]) hx hb dL_told_13 hl (by decide) rfl (fun ls hl => ?_)
  refine lv_iconst (v := 1) hx hb dL_told_15 (by decide) ?_
  exact W.iret (v := 1) hx hb hr (fun t2 ht2 hWm => ⟨⟨rfl, by rw [ht2]; exact hB1, va_K.moved hWm.alike hK, hB3⟩, hS.F ht2⟩) hS.2.2 dL_told_16
/-- what told comes to: 1 and one exception more, or 0 and the number in the law's row -/
def thT (x y : Int32) (M : mm_M) : Bool := isD (mNow M) && (match f0_hasBus (mNow M) x M with
  | some z => decide (z.1 = 0 ∨ y < 0 ∨ ¬ y < 6)
  | none => false)
def fTold (x y : Int32) (M : mm_M) : Option (Int32 × mm_M) := if thT x y M = true then some (1, sG M (mG M + 1)) else fL_told x y M
theorem k_told_met {x y : Int32} {M : mm_M} {z : Int32 × mm_M} (h : fTold x y M = some z) : mG M ≤ mG z.2 ∧ ∀ (l : Launch), l.stackTraces = false → ∀ (D : va_G) (cs : mm_K) (ad : Nat → Nat) (sz : Nat), Met l yL_told kl_wd (mm_rm jL_told (mG z.2 - mG M)) (mm_Px D cs ad [.ref 1, .int x, .int y, .ref 62] M sz) (fun _ st oc t => (oc = .returned (some (.int z.1)) ∧ mm_B D cs ad (va_A (mm_ws ad cs M) sz) z.2 () t) ∧ va_F (va_A (mm_ws ad cs M) sz) st t) (mG z.2 - mG M) (6 * (mG z.2 - mG M)) (va_A (mm_ws ad cs M) sz) := by
  unfold fTold at h
  by_cases ht : thT x y M = true
  · rw [if_pos ht] at h
    cases h
    unfold thT at ht
    rw [Bool.and_eq_true] at ht
    obtain ⟨hD, ht⟩ := ht
    have e : mG (sG M (mG M + 1)) - mG M = 1 := by show mG M + 1 - mG M = 1; omega
    refine ⟨by show mG M ≤ mG M + 1; omega, fun l hst D cs ad sz => ?_⟩
    show Met l yL_told kl_wd (mm_rm jL_told (mG (sG M (mG M + 1)) - mG M)) _ _ (mG (sG M (mG M + 1)) - mG M) (6 * (mG (sG M (mG M + 1)) - mG M)) _
    rw [e]
    cases hf : f0_hasBus (mNow M) x M with
    | none => rw [hf] at ht; cases ht
    | some w =>
      rw [hf] at ht
      obtain ⟨r, M1⟩ := w
      exact k_Ltold_throw l hst D cs ad sz hD hf (of_decide_eq_true ht)
  · rw [if_neg ht] at h
    have hs := sL_told x y M
    rw [h] at hs
    refine ⟨(hs z rfl).1, fun l hst D cs ad sz => ?_⟩
    exact mm_metW (j := jL_told) (as := [.ref 1, .int x, .int y, .ref 62]) (inj := injI) hs (by simp [Value.category]) (Nat.le_of_ble_eq_true rfl) (by decide) l D cs ad sz _ (fun s1 t H1 a locs1 ht hw hs1 hK1 hW1 => ⟨⟨rfl, by rw [ht]; exact hW1.1, va_K.moved hw.alike hK1, hW1.2.1⟩, hW1.2.2.F ht⟩) (mm_hvI z)
theorem sn_told {β : Type} {jnj : β → Option Value × mm_M} {j : mm_J} {X : mm_X} {pc : Nat} {lo : List (Option Value)} {st : List Value} {M : mm_M} {x y : Int32} {ex : Int32 → mm_M → Option β} (hj : j.1.cls = RL) (hlv : 8 ≤ j.2.2.2.2) (hX : X.1 ≠ 0) (hr : (st.map fun v => v.category).sum ≤ 8) (hd : decode j.2.1 pc = .ok (.invokestatic 66, 3)) (k : ∀ z : Int32 × mm_M, Snd jnj j X (pc + 3) lo (.int z.1 :: st) z.2 (ex z.1 z.2)) : Snd jnj j X pc lo (.ref 62 :: .int y :: .int x :: .ref 1 :: st) M (cI (fTold x y M) ex) := by
  intro y0 hy
  cases hfx : fTold x y M with
  | none => rw [hfx] at hy; cases hy
  | some z =>
    rw [hfx] at hy
    have hy : ex z.1 z.2 = some y0 := hy
    obtain ⟨hm, hM⟩ := k_told_met hfx
    obtain ⟨k1, k2⟩ := k z y0 hy
    refine ⟨Nat.le_trans hm k1, ?_⟩
    intro p l e R s m args below meth c D A cs ad g0 k0 s0 Q C b1 b2 hQ H locs cells slots ls hW hL hcc hss
    rcases C.2.2.2.2.2.2.2.2.2.2.1 with h0 | ⟨-, hst, hRX⟩
    · exact absurd h0 hX
    · have hts := C.2.2.2.2.1
      have hFr := kw_fr C hW
      have q1 := C.2.2.2.2.2.2.2.2.2.2.2.1
      have q2 := C.2.2.2.2.2.2.2.2.2.2.2.2
      show W p l e R s m args below meth c H locs cells slots Q (F0 m pc ls (.ref (ad 62) :: .int y :: .int x :: .ref (ad 1) :: st.map (mm_v ad)))
      refine kw_run (g := mG z.2 - mG M) (M1 := z.2) (r := some (.int z.1)) (st := st.map (mm_v ad)) C hW (vx_runSW (hh := kl_hh) (bytes := cL_told) (maxL := 5) (ret := some .int) (index := 66) (As := [.ref (ad 1), .int x, .int y, .ref (ad 62)]) (rest := st.map (mm_v ad)) (n := 4) (Ts := mm_tbl) (own := j.1.cls) ⟨C.1, C.2.1, C.2.2.1, C.2.2.2.2.2.1, hts⟩ (hM l hst D cs ad H.size) ⟨⟨rfl, rfl, ?_, ?_, pay_in hts (mm_goodC kw_cw_L), List.mem_cons_self⟩, hts _ kw_cw_L, hts _ kw_in_L, ⟨by decide, by decide⟩, ?_, by rw [hj]; exact hts _ kw_ml_L66, hts _ kw_st_L⟩ ⟨mm_blindx D cs ad _ M _, fun U hU hWm => ⟨⟨rfl, by rw [hU], by rw [hU]; exact hW.1, va_K.moved hWm.alike C.2.2.2.2.2.2.2.1, hW.2.1.weaken (fun _ _ _ _ => trivial), by
          rw [hU]
          exact ((C.2.2.2.2.2.2.2.2.2.1.kept hW.2.2.2.1).narrow hFr).warm hWm⟩, by
          rw [hU]
          exact ((hRX.kept hW.2.2.2.1).narrow hFr).warm hWm⟩⟩ rfl rfl hL.1 rfl (lv_room (mm_cat8 hr)) hd ⟨by omega, by omega⟩) (fun H1 locs1 hW1 => ?_)
      · show 7 + 1 ≤ R.frames
        omega
      · show 8 + (5 + 11) + 36 * 7 ≤ R.locals
        omega
      · intro sig h
        have h2 : (parseMethodDescriptor yL_told.desc).map (fun d => d.parameters.length) = some 4 := by decide +kernel
        rw [h] at h2
        exact (Option.some.inj h2).symm
      · exact k2 p l e R s m args below meth c D A cs ad g0 k0 s0 Q C b1 b2 hQ H1 locs1 _ _ ls hW1 hL (by omega) (by omega)
