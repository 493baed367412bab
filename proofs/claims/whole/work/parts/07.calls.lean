section CALLRULES
abbrev mm_X0 : mm_X := (0, fun _ => 0)
theorem mm_args_in {ad : Nat → Nat} : ∀ (as : List Value) (k i : Nat) (v : Value), (∀ v ∈ as, v.category = 1) → as[i]? = some v → (k + i, mm_v ad v) ∈ lv_args k (as.map (mm_v ad))
  | [], k, i, v, _, h => by simp at h
  | a :: as, k, i, v, hc, h => by
    cases i with
    | zero =>
      rw [List.getElem?_cons_zero] at h
      cases h
      exact List.mem_cons_self
    | succ i =>
      rw [List.getElem?_cons_succ] at h
      have e : (mm_v ad a).category = 1 := (mm_v_cat ad a).trans (hc a List.mem_cons_self)
      have := mm_args_in (ad := ad) as (k + 1) i v (fun v hv => hc v (List.mem_cons_of_mem _ hv)) h
      simp only [List.map_cons, lv_args]
      rw [if_neg (by omega)]
      refine List.mem_cons_of_mem _ ?_
      rw [show k + (i + 1) = k + 1 + i by omega]
      exact this
theorem mm_sl_len {ad : Nat → Nat} (as : List Value) (hc : ∀ v ∈ as, v.category = 1) : (lg_sl (as.map (mm_v ad))).length = as.length := by
  induction as with
  | nil => rfl
  | cons a as ih =>
    have e : (mm_v ad a).category = 1 := (mm_v_cat ad a).trans (hc a List.mem_cons_self)
    have h := ih (fun v hv => hc v (List.mem_cons_of_mem _ hv))
    simp only [List.map_cons, lg_sl, List.flatMap_cons] at h ⊢
    rw [if_neg (by omega)]
    simp only [List.length_append, List.length_cons, List.length_nil, h]
    omega
/-- a method's words, its room, its start, its end -/
abbrev mm_wd (j : mm_J) : List Cond := .code j.1 j.2.1 j.2.2.1 j.2.2.2.1 :: mm_tbl
abbrev mm_rm (j : mm_J) (g : Nat) : Room := { frames := j.2.2.2.2, cells := g, slots := 6 * g, locals := 36 * j.2.2.2.2 }
def mm_Pc (D : va_G) (cs : mm_K) (ad : Nat → Nat) (as : List Value) (M : mm_M) (sz : Nat) : Array Value → State → Prop := fun a U => a = (as.map (mm_v ad)).toArray ∧ U.heap.size = sz ∧ va_P D vwCl (mm_ws ad cs M) U.heap ∧ va_K D vwCl (mm_ty cs) U ∧ va_D (fun _ => True) (mm_ws ad cs M) ∧ mm_RO ad (va_A (mm_ws ad cs M) sz) U U.heap
def mm_B (D : va_G) (cs : mm_K) (ad : Nat → Nat) (A : Nat → Prop) (M : mm_M) (_ : Unit) (t : State) : Prop := va_P D vwCl (mm_ws ad cs M) t.heap ∧ va_K D vwCl (mm_ty cs) t ∧ va_D A (mm_ws ad cs M)
theorem mm_blind (D : va_G) (cs : mm_K) (ad : Nat → Nat) (as : List Value) (M : mm_M) (sz : Nat) : FrameBlind (mm_Pc D cs ad as M sz) := by
  intro a U g mk h
  obtain ⟨h1, h2, h3, h4, h5, h6⟩ := h
  exact ⟨h1, h2, h3, va_K.moved (u := U) (U := U.calling g mk a) (Vm.Alike.refl U.vm) h4, h5, mm_RO.same (s := U) (U := U.calling g mk a) rfl h6⟩
variable {α : Type} {inj : α → Option Value × mm_M}
/-- the contract of j out of its 'Snd' -/
theorem mm_met {j : mm_J} {as : List Value} {M : mm_M} {x : α} (h : Snd inj j mm_X0 0 (as.map some) [] M (some x)) (hc : ∀ v ∈ as, v.category = 1) (hn : as.length ≤ j.2.2.1) (hp : plainName j.1.cls = true) (l : Launch) (D : va_G) (cs : mm_K) (ad : Nat → Nat) (sz : Nat) (Qc : Array Value → State → Outcome → State → Prop)
    (hQc : ∀ (s t : State) (H : Heap) (a : Array Value) (locs : List Loc), t.heap = H → s.WarmedH t.vm → s.heap.size = sz → va_K D vwCl (mm_ty cs) s → mm_W s D (va_A (mm_ws ad cs M) sz) cs ad (inj x).2 H locs → Qc a s (.returned (inj x).1) t)
    (hv : ∀ r, (inj x).1 = some (.ref r) → False) :
    Met l j.1 (mm_wd j) (mm_rm j (mG (inj x).2 - mG M)) (mm_Pc D cs ad as M sz) Qc (mG (inj x).2 - mG M) (6 * (mG (inj x).2 - mG M)) (va_A (mm_ws ad cs M) sz) := by
  refine Met.ofW (cc := j.2.1) (maxL := j.2.2.1) (ret := j.2.2.2.1) hp rfl ?_
  intro p e s m args below meth c s₁ B hml hpc
  obtain ⟨rfl, hsz, hP, hK, hD, hRO⟩ := hpc
  obtain ⟨g1, g2⟩ := h x rfl
  have hts := atoms_spec (ws := mm_wd j) B.pre
  rw [lg_entry_eq]
  have hl := lv_entry (as.map (mm_v ad)) (n := j.2.2.1) (by rw [mm_sl_len as hc]; exact hn)
  generalize (lg_sl (as.map (mm_v ad)) ++ List.replicate (j.2.2.1 - (lg_sl (as.map (mm_v ad))).length) Slot.unset).toArray = ls at hl ⊢
  subst hsz
  have hD' := hD.self (sz := s.heap.size)
  refine g2 p l e _ s m _ below meth c D (va_A (mm_ws ad cs M) s.heap.size) cs ad (mG M) 0 0 _ ⟨B.exec, B.bytes, hml, B.returns, fun w hw => hts w (List.mem_cons_of_mem _ hw), findClass_of_methodNamed B.named, B.notSynchronized, hK, fun q hq => Or.inr hq, hRO, Or.inl rfl, Nat.le_refl _, Nat.le_refl _⟩ (by show 0 + mG (inj x).2 ≤ (mG (inj x).2 - mG M) + mG M; omega) (by show 0 + 6 * mG (inj x).2 ≤ 6 * (mG (inj x).2 - mG M) + 6 * mG M; omega) ?_ s.heap [] 0 0 ls ⟨hP, hD', va_S.rf⟩ ⟨hl.1, hl.2.1, fun i v hv => ?_⟩ (by omega) (by omega)
  · intro H locs cells slots pc ls st hW hcc hss hE
    have e1 : cells = mG (inj x).2 - mG M := by omega
    have e2 : slots = 6 * (mG (inj x).2 - mG M) := by omega
    subst e1; subst e2
    have hlk : meth.locks = false := B.notSynchronized
    unfold mm_E at hE
    have hq : ∀ t : State, t.heap = H → s.WarmedH t.vm → Qc (as.map (mm_v ad)).toArray s (.returned (inj x).1) t := fun t ht hw => hQc s t H _ locs ht hw rfl hK hW
    generalize (inj x).1 = r at hE hq hv
    match r, hE with
    | none, ⟨hst, hd, hr⟩ =>
      subst hst
      exact W.vret B.exec B.bytes (B.returns.trans hr) hq hW.2.2.2.2 hd (hlocks := hlk)
    | some (.int v), ⟨hst, hd, ty, hr, hnr⟩ =>
      subst hst
      exact W.zret B.exec B.bytes (B.returns.trans hr) hnr hq hW.2.2.2.2 hd (hlocks := hlk)
    | some (.long v), ⟨hst, hd, hr⟩ =>
      subst hst
      exact W.lret B.exec B.bytes (B.returns.trans hr) hq hW.2.2.2.2 hd (hlocks := hlk)
  · rw [List.getElem?_map] at hv
    cases hi : as[i]? with
    | none => rw [hi] at hv; cases hv
    | some w =>
      rw [hi] at hv
      have e : w = v := by simpa using hv
      subst e
      have := mm_args_in (ad := ad) as 0 i w hc hi
      rw [Nat.zero_add] at this
      exact hl.2.2 _ this
/-- what a callee's name must have -/
def mm_cl (j : mm_J) (n : Nat) : Prop := Cond.code j.1 j.2.1 j.2.2.1 j.2.2.2.1 ∈ mm_tbl ∧ Cond.initialized j.1.cls ∈ mm_tbl ∧ (j.1.cls ≠ "java/lang/invoke/MethodHandle" ∧ j.1.cls ≠ "java/lang/invoke/VarHandle" ∧ (parseMethodDescriptor j.1.desc).map (fun d => d.parameters.length) = some n) ∧ plainName j.1.cls = true ∧ j.2.2.1 ≤ 17
variable {β : Type} {jnj : β → Option Value × mm_M} {j jc : mm_J} {X : mm_X} {pc idx n : Nat} {lo : List (Option Value)} {st0 st : List Value} {M : mm_M}
theorem mm_cat8 {ad : Nat → Nat} (h : (st.map fun v => v.category).sum ≤ 8) : ((st.map (mm_v ad)).map fun v => v.category).sum ≤ 8 := by
  rw [List.map_map]
  have e : st.map ((fun v : Value => v.category) ∘ mm_v ad) = st.map fun v => v.category := List.map_congr_left fun v _ => mm_v_cat ad v
  rw [e]; exact h
/-- how a call goes on: the callee's answer r on the stack -/
def mm_cont (jnj : β → Option Value × mm_M) (j : mm_J) (X : mm_X) (pc : Nat) (lo : List (Option Value)) (st : List Value) (inj : α → Option Value × mm_M) (ex : α → Option β) : Prop := ∀ x : α, Snd jnj j X (pc + 3) lo ((inj x).1.toList ++ st) (inj x).2 (ex x)
theorem mm_ret_v {ad : Nat → Nat} {r : Option Value} (h : ∀ k, r = some (.ref k) → False) : r.toList.map (mm_v ad) = r.toList := by
  cases r with
  | none => rfl
  | some v =>
    cases v with
    | ref k => exact (h k rfl).elim
    | _ => rfl
/-- a call, whatever its kind: 'run' is the kit's row of it -/
theorem mm_call {f : Option α} {ex : α → Option β} {As : List Value} (hf : Snd inj jc mm_X0 0 (As.map some) [] M f) (hv : ∀ (x : α) r, (inj x).1 = some (.ref r) → False) (hc : ∀ v ∈ As, v.category = 1) (hn : As.length ≤ jc.2.2.1) (hcl : mm_cl jc n) (hlv : jc.2.2.2.2 + 1 ≤ j.2.2.2.2) (k : ∀ x : α, f = some x → Snd jnj j X (pc + 3) lo ((inj x).1.toList ++ st) (inj x).2 (ex x))
    (run : ∀ (p : Program) (l : Launch) (e : Env) (R : Room) (s : State) (m : MethodId) (args : Array Value) (below : List Frame) (meth : Method) (c : Code) (D : va_G) (A : Nat → Prop) (cs : mm_K) (ad : Nat → Nat) (H : Heap) (locs : List Loc) (cells slots g : Nat) (ls : Array Slot) (Qc : Array Value → State → Outcome → State → Prop) (free : Nat → Prop),
      mm_C l j X p R s m args meth c D A cs ad → ls.size = j.2.2.1 → mm_W s D A cs ad M H locs → Met l jc.1 (mm_wd jc) (mm_rm jc g) (mm_Pc D cs ad As M H.size) Qc g (6 * g) free → (∀ U : State, U.heap = H → s.WarmedH U.vm → mm_Pc D cs ad As M H.size (As.map (mm_v ad)).toArray U) → cells + g ≤ R.cells → slots + 6 * g ≤ R.slots →
      va_Run p l e R s m args below meth c H locs cells slots g (6 * g) (F0 m pc ls (st0.map (mm_v ad))) (st.map (mm_v ad)) (Qc (As.map (mm_v ad)).toArray) free) : Snd jnj j X pc lo st0 M (f.bind ex) := by
  intro y hy
  cases hfx : f with
  | none => rw [hfx] at hy; cases hy
  | some x =>
    have hkx := k x hfx
    rw [hfx] at hy hf
    have hy : ex x = some y := hy
    obtain ⟨f1, -⟩ := hf x rfl
    obtain ⟨k1, k2⟩ := hkx y hy
    refine ⟨Nat.le_trans f1 k1, ?_⟩
    intro p l e R s m args below meth c D A cs ad g0 k0 s0 Q C b1 b2 hQ H locs cells slots ls hW hL hcc hss
    have hFr : ∀ q, va_A (mm_ws ad cs M) H.size q → A q := by
      intro q h
      rcases h with ⟨i, e, h⟩ | h
      · exact hW.2.1.2 i (q, e) h
      · exact C.2.2.2.2.2.2.2.2.1 q (Nat.le_trans hW.2.2.1 h)
    have hM := mm_met hf hc hn hcl.2.2.2.1 l D cs ad H.size (fun _ st oc t => (oc = .returned (inj x).1 ∧ mm_B D cs ad (va_A (mm_ws ad cs M) H.size) (inj x).2 () t) ∧ va_F (va_A (mm_ws ad cs M) H.size) st t) (fun s1 t H1 a locs1 ht hw hs1 hK1 hW1 => ⟨⟨rfl, by rw [ht]; exact hW1.1, va_K.moved hw.alike hK1, hW1.2.1⟩, hW1.2.2.F ht⟩) (hv x)
    have hr := run p l e R s m args below meth c D A cs ad H locs cells slots (mG (inj x).2 - mG M) ls _ _ C hL.1 hW hM (fun U hU hWm => ⟨rfl, by rw [hU], by rw [hU]; exact hW.1, va_K.moved hWm.alike C.2.2.2.2.2.2.2.1, hW.2.1.weaken (fun _ _ _ _ => trivial), by
      rw [hU]
      exact ((C.2.2.2.2.2.2.2.2.2.1.kept hW.2.2.2.1).narrow hFr).warm hWm⟩) (by omega) (by omega)
    intro T hT Xs
    obtain ⟨v, st₀, t, T', L, h0, X', hLl, e1, e2, ⟨⟨hv1, hB1, hB2, hB3⟩, hz, hk⟩, stp⟩ := hr T hT Xs
    have hv2 : v = (inj x).1 := by injection hv1
    subst hv2
    rw [h0] at hz hk
    have hS' : va_S A s.heap T'.heap (locs ++ L) := ⟨Nat.le_trans hW.2.2.1 (by rw [e1]; exact hz), fun q h1 h2 => by rw [e1, hk q (Nat.lt_of_lt_of_le h1 hW.2.2.1) (fun z => h2 (hFr q z))]; exact hW.2.2.2.1 q h1 h2, fun q hq => by
      rcases List.mem_append.mp hq with h | h
      · exact hW.2.2.2.2 q h
      · exact hFr _ (hLl q h)⟩
    obtain ⟨t2, a1, b3⟩ := k2 p l e R s m args below meth c D A cs ad g0 k0 s0 Q C b1 b2 hQ T'.heap (locs ++ L) (cells + (mG (inj x).2 - mG M)) (slots + 6 * (mG (inj x).2 - mG M)) ls ⟨by rw [e1]; exact hB1, hB3.weaken (fun _ q _ h => hFr q.1 h), hS'⟩ hL (by omega) (by omega) T' rfl X'
    rw [List.map_append, mm_ret_v (hv x)] at a1
    exact ⟨t2, stp t2 a1, b3⟩
theorem sn_callV {f : Option α} {ex : α → Option β} {b ci N : Nat} {T : u_T} {As : List Value} (hf : Snd inj jc mm_X0 0 ((.ref b :: As).map some) [] M f) (hv : ∀ (x : α) r, (inj x).1 = some (.ref r) → False) (hc : ∀ v ∈ Value.ref b :: As, v.category = 1) (hn : (Value.ref b :: As).length ≤ jc.2.2.1) (hcl : mm_cl jc n) (hAs : As.length = n) (hlv : jc.2.2.2.2 + 1 ≤ j.2.2.2.2)
    (hvc : vwCl[ci]? = some (jc.1.cls, T, N)) (hs : mm_sh b = (0, ci, N)) (hb : 0 < b ∧ b ≤ 62) (hl : Cond.methodLink j.1.cls idx jc.1 ∈ mm_tbl) (hin : Cond.instanceMethod jc.1 ∈ mm_tbl) (hse : Cond.selects jc.1.cls jc.1 jc.1 ∈ mm_tbl) (hst : st0 = As.reverse ++ .ref b :: st) (hr : (st.map fun v => v.category).sum ≤ 8) (hd : decode j.2.1 pc = .ok (.invokevirtual idx, 3)) (k : mm_cont jnj j X pc lo st inj ex) : Snd jnj j X pc lo st0 M (f.bind ex) := by
  refine mm_call hf hv hc hn hcl hlv (fun x _ => k x) ?_
  intro p l e R s m args below meth c D A cs ad H locs cells slots g ls Qc free C hls hWW hM hpc h1 h2
  have hts := C.2.2.2.2.1
  refine va_runV (C := jc.1.cls) (As := As.map (mm_v ad)) (rest := st.map (mm_v ad)) (b := ad b) (n := n) (Ts := mm_tbl) (own := j.1.cls) ⟨C.1, C.2.1, C.2.2.1, C.2.2.2.2.2.1, hts⟩ hM ⟨callB_of n hts (mm_goodC hcl.1) rfl rfl rfl (hts _ hcl.2.1) (hts _ hl) hcl.2.2.1 ⟨Nat.le_trans hlv C.2.2.2.2.2.2.2.2.2.2.2.1, ?_⟩, hts _ hin, hts _ hse⟩ ⟨mm_blind D cs ad _ M _, ?_, fun U hU hWm => hpc U hU hWm⟩ rfl (by rw [List.length_map]; exact hAs) hls ?_ (lv_room (mm_cat8 hr)) hd ⟨h1, h2⟩
  · have q1 := C.2.2.2.2.2.2.2.2.2.2.2.2
    have q2 := hcl.2.2.2.2
    show 8 + (jc.2.2.1 + 11) + 36 * jc.2.2.2.2 ≤ R.locals
    omega
  · exact va_recv (q := (jc.1.cls, T, N)) C.2.2.2.2.2.2.2.1 hWW.1 hvc (q0 := b - 1) (by rw [mm_get ad cs M hb, mm_e_obj ad cs M hs])
  · rw [hst]
    show List.map (mm_v ad) (As.reverse ++ Value.ref b :: st) = _
    rw [List.map_append, List.map_reverse]
    rfl
theorem sn_callS {f : Option α} {ex : α → Option β} {As : List Value} (hf : Snd inj jc mm_X0 0 (As.map some) [] M f) (hv : ∀ (x : α) r, (inj x).1 = some (.ref r) → False) (hc : ∀ v ∈ As, v.category = 1) (hn : As.length ≤ jc.2.2.1) (hcl : mm_cl jc n) (hAs : As.length = n) (hlv : jc.2.2.2.2 + 1 ≤ j.2.2.2.2)
    (hl : Cond.methodLink j.1.cls idx jc.1 ∈ mm_tbl) (hin : Cond.static jc.1 ∈ mm_tbl) (hst : st0 = As.reverse ++ st) (hr : (st.map fun v => v.category).sum ≤ 8) (hd : decode j.2.1 pc = .ok (.invokestatic idx, 3)) (k : mm_cont jnj j X pc lo st inj ex) : Snd jnj j X pc lo st0 M (f.bind ex) := by
  refine mm_call hf hv hc hn hcl hlv (fun x _ => k x) ?_
  intro p l e R s m args below meth c D A cs ad H locs cells slots g ls Qc free C hls hWW hM hpc h1 h2
  have hts := C.2.2.2.2.1
  refine va_runS (As := As.map (mm_v ad)) (rest := st.map (mm_v ad)) (n := n) (Ts := mm_tbl) (own := j.1.cls) ⟨C.1, C.2.1, C.2.2.1, C.2.2.2.2.2.1, hts⟩ hM ⟨callB_of n hts (mm_goodC hcl.1) rfl rfl rfl (hts _ hcl.2.1) (hts _ hl) hcl.2.2.1 ⟨Nat.le_trans hlv C.2.2.2.2.2.2.2.2.2.2.2.1, ?_⟩, hts _ hin⟩ ⟨mm_blind D cs ad _ M _, fun U hU hWm => hpc U hU hWm⟩ rfl (by rw [List.length_map]; exact hAs) hls ?_ (lv_room (mm_cat8 hr)) hd ⟨h1, h2⟩
  · have q1 := C.2.2.2.2.2.2.2.2.2.2.2.2
    have q2 := hcl.2.2.2.2
    show 8 + (jc.2.2.1 + 11) + 36 * jc.2.2.2.2 ≤ R.locals
    omega
  · rw [hst]
    show List.map (mm_v ad) (As.reverse ++ st) = _
    rw [List.map_append, List.map_reverse]
theorem mm_hvI : ∀ (x : Int32 × mm_M) r, (injI x).1 = some (.ref r) → False := fun x r h => by cases h
theorem mm_hvL : ∀ (x : Int64 × mm_M) r, (injL x).1 = some (.ref r) → False := fun x r h => by cases h
theorem mm_hvV : ∀ (x : mm_M) r, (injV x).1 = some (.ref r) → False := fun x r h => by cases h
def cI (f : Option (Int32 × mm_M)) (e : Int32 → mm_M → Option β) : Option β := f.bind (fun x => e x.1 x.2)
def cL (f : Option (Int64 × mm_M)) (e : Int64 → mm_M → Option β) : Option β := f.bind (fun x => e x.1 x.2)
def cV (f : Option mm_M) (e : mm_M → Option β) : Option β := f.bind e
end CALLRULES
