/-! what lies outside the cells and never changes: three static tables, the texts, words of nest mates -/
def mm_ro (t j : Nat) : Int32 := (([[4, 50, 200], [0, 1, 1, 2, 1, 2, 2, 3, 1, 2, 2, 3, 2, 3, 3, 4], [0, 0, 1, 0, 2, 0, 1, 0, 3, 0, 1, 0, 2, 0, 1, 0]] : List (List Int32)).getD t []).getD j 0
def mm_txt : List (List Int32) := [[115, 108, 111, 116, 115], [112, 114, 105, 99, 101], [112, 108, 117, 103, 115], [112, 111, 119, 101, 114], [108, 105, 109, 105, 116], [99, 117, 114, 118, 101], [98, 117, 115], [99, 104, 97, 114, 103, 101]]
def mm_txl : List Nat := [5, 5, 5, 5, 5, 5, 3, 6]
def mm_rw : List Cond := [.fieldLinkNest "DepotCharge$Reader" 109 "DepotCharge" "MOST_OF_SETTING" "[I" "DepotCharge", .fieldLinkNest "DepotCharge$Depot" 66 "DepotCharge" "MOST_OF_SETTING" "[I" "DepotCharge", .fieldLinkNest "DepotCharge$Ledger" 55 "DepotCharge" "SIZE_OF_SET" "[I" "DepotCharge", .fieldLinkNest "DepotCharge$Planner" 141 "DepotCharge" "SIZE_OF_SET" "[I" "DepotCharge", .fieldLinkNest "DepotCharge$Planner" 144 "DepotCharge" "FIRST_OF_SET" "[I" "DepotCharge", .fieldLinkNest "DepotCharge$Ruler" 46 "DepotCharge" "SIZE_OF_SET" "[I" "DepotCharge", .fieldLinkNest "DepotCharge$Ruler" 63 "DepotCharge" "FIRST_OF_SET" "[I" "DepotCharge"]
def mm_RO (ad : Nat → Nat) (A : Nat → Prop) (U : State) (H : Heap) : Prop :=
  (va_Z "DepotCharge" "MOST_OF_SETTING" "[I" (.ref (ad 100)) A U H ∧ va_Z "DepotCharge" "SIZE_OF_SET" "[I" (.ref (ad 101)) A U H ∧ va_Z "DepotCharge" "FIRST_OF_SET" "[I" (.ref (ad 102)) A U H) ∧
  (va_T .int (ad 100) 3 (fun j => .int (mm_ro 0 j)) A U H ∧ va_T .int (ad 101) 16 (fun j => .int (mm_ro 1 j)) A U H ∧ va_T .int (ad 102) 16 (fun j => .int (mm_ro 2 j)) A U H) ∧
  (∀ w ∈ mm_rw, va_Nw w U) ∧
  (vk_S 8 mm_txl mm_txt (fun i => ad (200 + i)) (fun i => ad (300 + i)) A U H ∧ vk_R "DepotCharge$Reader" 34 "slots" (ad 200) U ∧ vk_R "DepotCharge$Reader" 43 "price" (ad 201) U ∧ vk_R "DepotCharge$Reader" 48 "plugs" (ad 202) U ∧ vk_R "DepotCharge$Reader" 54 "power" (ad 203) U ∧ vk_R "DepotCharge$Reader" 56 "limit" (ad 204) U ∧ vk_R "DepotCharge$Reader" 58 "curve" (ad 205) U ∧ vk_R "DepotCharge$Reader" 63 "bus" (ad 206) U ∧ vk_R "DepotCharge$Reader" 68 "charge" (ad 207) U) ∧
  (va_Z "java/lang/String" "COMPACT_STRINGS" "Z" (.int 1) A U H ∧ (va_Z "jdk/internal/util/Preconditions" "SIOOBE_FORMATTER" "Ljava/util/function/BiFunction;" .null A U H ∨ va_Z "jdk/internal/util/Preconditions" "SIOOBE_FORMATTER" "Ljava/util/function/BiFunction;" (.ref (ad 400)) A U H))
theorem mm_RO.kept {ad : Nat → Nat} {A : Nat → Prop} {U : State} {H H1 : Heap} (h : mm_RO ad A U H) (hq : ∀ a : Nat, a < H.size → ¬ A a → H1[a]? = H[a]?) : mm_RO ad A U H1 := by
  obtain ⟨⟨a1, a2, a3⟩, ⟨b1, b2, b3⟩, c, ⟨d1, d2⟩, e1, e2⟩ := h
  exact ⟨⟨a1.kept hq, a2.kept hq, a3.kept hq⟩, ⟨b1.kept hq, b2.kept hq, b3.kept hq⟩, c, ⟨d1.kept hq, d2⟩, e1.kept hq, e2.imp (fun h => h.kept hq) (fun h => h.kept hq)⟩
theorem mm_RO.narrow {ad : Nat → Nat} {A B : Nat → Prop} {U : State} {H : Heap} (h : mm_RO ad A U H) (hq : ∀ q, B q → A q) : mm_RO ad B U H := by
  obtain ⟨⟨a1, a2, a3⟩, ⟨b1, b2, b3⟩, c, ⟨d1, d2⟩, e1, e2⟩ := h
  exact ⟨⟨a1.narrow hq, a2.narrow hq, a3.narrow hq⟩, ⟨b1.narrow hq, b2.narrow hq, b3.narrow hq⟩, c, ⟨d1.narrow hq, d2⟩, e1.narrow hq, e2.imp (fun h => h.narrow hq) (fun h => h.narrow hq)⟩
theorem mm_rw_tab : ∀ w ∈ mm_rw, w.onTables = true := by decide +kernel
theorem mm_rw_warm {s U : State} (hW : s.WarmedH U.vm) (h : ∀ w ∈ mm_rw, va_Nw w s) : ∀ w ∈ mm_rw, va_Nw w U := by
  intro w hw
  have h1 := h w hw
  simp only [mm_rw, List.mem_cons, List.not_mem_nil, or_false] at hw
  rcases hw with e | e | e | e | e | e | e <;> (subst e; exact va_Nw.warmF hW h1)
theorem mm_RO.warm {ad : Nat → Nat} {A : Nat → Prop} {s U : State} {H : Heap} (hW : s.WarmedH U.vm) (h : mm_RO ad A s H) : mm_RO ad A U H := by
  have hv := hW.alike
  obtain ⟨⟨a1, a2, a3⟩, ⟨b1, b2, b3⟩, c, ⟨d1, d2, d3, d4, d5, d6, d7, d8, d9⟩, e1, e2⟩ := h
  exact ⟨⟨a1.moved hv, a2.moved hv, a3.moved hv⟩, ⟨b1.moved hv, b2.moved hv, b3.moved hv⟩, mm_rw_warm hW c, ⟨d1.moved hv, d2.warm hW, d3.warm hW, d4.warm hW, d5.warm hW, d6.warm hW, d7.warm hW, d8.warm hW, d9.warm hW⟩, e1.moved hv, e2.imp (fun h => h.moved hv) (fun h => h.moved hv)⟩
theorem mm_RO.same {ad : Nat → Nat} {A : Nat → Prop} {s U : State} {H : Heap} (hW : U.vm = s.vm) (h : mm_RO ad A s H) : mm_RO ad A U H := by
  have hv : s.vm.Alike U.vm := by rw [hW]; exact Vm.Alike.refl _
  obtain ⟨⟨a1, a2, a3⟩, ⟨b1, b2, b3⟩, c, ⟨d1, d2, d3, d4, d5, d6, d7, d8, d9⟩, e1, e2⟩ := h
  exact ⟨⟨a1.moved hv, a2.moved hv, a3.moved hv⟩, ⟨b1.moved hv, b2.moved hv, b3.moved hv⟩, fun w hw => va_Nw.same (mm_rw_tab w hw) hW.symm (c w hw), ⟨d1.moved hv, d2.same hW, d3.same hW, d4.same hW, d5.same hW, d6.same hW, d7.same hW, d8.same hW, d9.same hW⟩, e1.moved hv, e2.imp (fun h => h.moved hv) (fun h => h.moved hv)⟩
-- values: a reference is a cell's id; ad: where the cells lie
def mm_v (ad : Nat → Nat) : Value → Value
  | .ref k => .ref (ad k)
  | v => v
def mm_L (ad : Nat → Nat) (lo : List (Option Value)) (ls : Array Slot) (nL : Nat) : Prop := ls.size = nL ∧ lv_wf ls ∧ ∀ (i : Nat) (v : Value), lo[i]? = some (some v) → ls[i]? = some (.val (mm_v ad v))
-- a method: its name, bytes, locals, answer, and how deep it goes
abbrev mm_J : Type := MethodName × ByteArray × Nat × Option FieldType × Nat
abbrev mm_X : Type := Nat × (Nat → Int32)
-- what a throw needs: the text, two statics of Throwable, words of the tables
def kx_ns : String := "java/util/NoSuchElementException"
def kx_bad : List Cond := [.declares (Bundle.initS "java/lang/RuntimeException"), .declares (Bundle.initS "java/lang/Exception"), .declares (Bundle.initS "java/lang/Throwable"), .castable kx_ns kx_ns]
def mm_RX (ad : Nat → Nat) (A : Nat → Prop) (U : State) (H : Heap) : Prop := vk_R "DepotCharge" 140 "no such bus, or nothing such is told of it" (ad 208) U ∧ vx_Zq Bundle.tN "UNASSIGNED_STACK" Bundle.steD A U H ∧ vx_Zq Bundle.tN "SUPPRESSED_SENTINEL" Bundle.listD A U H ∧ ∀ w ∈ kx_bad, va_Nw w U
theorem mm_RX.kept {ad : Nat → Nat} {A : Nat → Prop} {U : State} {H H1 : Heap} (h : mm_RX ad A U H) (hq : ∀ a : Nat, a < H.size → ¬ A a → H1[a]? = H[a]?) : mm_RX ad A U H1 := ⟨h.1, h.2.1.kept hq, h.2.2.1.kept hq, h.2.2.2⟩
theorem mm_RX.narrow {ad : Nat → Nat} {A B : Nat → Prop} {U : State} {H : Heap} (h : mm_RX ad A U H) (hq : ∀ q, B q → A q) : mm_RX ad B U H := ⟨h.1, h.2.1.narrow hq, h.2.2.1.narrow hq, h.2.2.2⟩
theorem kx_tab : ∀ w ∈ kx_bad, w.onTables = true := by decide +kernel
theorem mm_RX.warm {ad : Nat → Nat} {A : Nat → Prop} {s U : State} {H : Heap} (hW : s.WarmedH U.vm) (h : mm_RX ad A s H) : mm_RX ad A U H := ⟨h.1.warm hW, h.2.1.moved hW.alike, h.2.2.1.moved hW.alike, fun w hw => by
  have h1 := h.2.2.2 w hw
  simp only [kx_bad, List.mem_cons, List.not_mem_nil, or_false] at hw
  rcases hw with e | e | e | e <;> (subst e; first | exact va_Nw.warmD hW h1 | exact va_Nw.warmC hW h1)⟩
theorem mm_RX.same {ad : Nat → Nat} {A : Nat → Prop} {s U : State} {H : Heap} (hv : U.vm = s.vm) (h : mm_RX ad A s H) : mm_RX ad A U H := ⟨h.1.same hv, h.2.1.moved (by rw [hv]; exact Vm.Alike.refl _), h.2.2.1.moved (by rw [hv]; exact Vm.Alike.refl _), fun w hw => va_Nw.same (kx_tab w hw) hv.symm (h.2.2.2 w hw)⟩
/-- what a walk of the method j has, from its entry on -/
def mm_C (l : Launch) (j : mm_J) (X : mm_X) (p : Program) (R : Room) (s : State) (m : MethodId) (args : Array Value) (meth : Method) (c : Code) (D : va_G) (A : Nat → Prop) (cs : mm_K) (ad : Nat → Nat) : Prop :=
  p.tables.exec = Jvm.exec ∧ c.code = j.2.1 ∧ c.maxLocals = j.2.2.1 ∧ meth.sig.returnType = j.2.2.2.1 ∧ (∀ w ∈ mm_tbl, w.before args s = true) ∧ s.vm.findClass j.1.cls = some m.cls ∧ meth.locks = false ∧
  va_K D vwCl (mm_ty cs) s ∧ (∀ q, s.heap.size ≤ q → A q) ∧ mm_RO ad A s s.heap ∧ (X.1 = 0 ∨ (va_T .int (ad 103) X.1 (fun j => .int (X.2 j)) A s s.heap ∧ l.stackTraces = false ∧ mm_RX ad A s s.heap)) ∧ j.2.2.2.2 ≤ R.frames ∧ 36 * j.2.2.2.2 ≤ R.locals
def mm_W (s : State) (D : va_G) (A : Nat → Prop) (cs : mm_K) (ad : Nat → Nat) (M : mm_M) (H : Heap) (locs : List Loc) : Prop :=
  va_P D vwCl (mm_ws ad cs M) H ∧ va_D A (mm_ws ad cs M) ∧ va_S A s.heap H locs
/-- an end of j: the answer r is on the stack at pc -/
def mm_E (j : mm_J) (pc : Nat) (r : Option Value) (st : List Value) : Prop := match r with
  | none => st = [] ∧ decode j.2.1 pc = .ok (.return_, 1) ∧ j.2.2.2.1 = none
  | some (.int v) => st = [.int v] ∧ decode j.2.1 pc = .ok (.ireturn, 1) ∧ ∃ ty, j.2.2.2.1 = some ty ∧ narrow ty (.int v) = .int v
  | some (.long v) => st = [.long v] ∧ decode j.2.1 pc = .ok (.lreturn, 1) ∧ j.2.2.2.1 = some .long
  | _ => False
/-- from pc on, with locals lo, stack st and memory M: if ee comes to x, so does the machine -/
def Snd {α : Type} (inj : α → Option Value × mm_M) (j : mm_J) (X : mm_X) (pc : Nat) (lo : List (Option Value)) (st : List Value) (M : mm_M) (ee : Option α) : Prop :=
  ∀ x, ee = some x → mG M ≤ mG (inj x).2 ∧ ∀ (p : Program) (l : Launch) (e : Env) (R : Room) (s : State) (m : MethodId) (args : Array Value) (below : List Frame) (meth : Method) (c : Code) (D : va_G) (A : Nat → Prop) (cs : mm_K) (ad : Nat → Nat) (g0 k0 s0 : Nat) (Q : State → Prop),
    mm_C l j X p R s m args meth c D A cs ad → k0 + mG (inj x).2 ≤ R.cells + g0 → s0 + 6 * mG (inj x).2 ≤ R.slots + 6 * g0 →
    (∀ (H : Heap) (locs : List Loc) (cells slots : Nat) (pc : Nat) (ls : Array Slot) (st : List Value), mm_W s D A cs ad (inj x).2 H locs → cells + g0 = k0 + mG (inj x).2 → slots + 6 * g0 = s0 + 6 * mG (inj x).2 → mm_E j pc (inj x).1 st → W p l e R s m args below meth c H locs cells slots Q (F0 m pc ls st)) →
    ∀ (H : Heap) (locs : List Loc) (cells slots : Nat) (ls : Array Slot), mm_W s D A cs ad M H locs → mm_L ad lo ls j.2.2.1 → cells + g0 = k0 + mG M → slots + 6 * g0 = s0 + 6 * mG M → W p l e R s m args below meth c H locs cells slots Q (F0 m pc ls (st.map (mm_v ad)))
/-- one step -/
def mStp (j : mm_J) (X : mm_X) (pc : Nat) (lo : List (Option Value)) (st : List Value) (M : mm_M) (pc' : Nat) (lo' : List (Option Value)) (st' : List Value) (M' : mm_M) : Prop :=
  mG M' = mG M ∧ ∀ (p : Program) (l : Launch) (e : Env) (R : Room) (s : State) (m : MethodId) (args : Array Value) (below : List Frame) (meth : Method) (c : Code) (D : va_G) (A : Nat → Prop) (cs : mm_K) (ad : Nat → Nat) (Q : State → Prop),
    mm_C l j X p R s m args meth c D A cs ad → ∀ (H : Heap) (locs : List Loc) (cells slots : Nat) (ls : Array Slot), cells ≤ R.cells → slots ≤ R.slots → mm_W s D A cs ad M H locs → mm_L ad lo ls j.2.2.1 →
    (∀ (H' : Heap) (locs' : List Loc) (ls' : Array Slot), mm_W s D A cs ad M' H' locs' → mm_L ad lo' ls' j.2.2.1 → W p l e R s m args below meth c H' locs' cells slots Q (F0 m pc' ls' (st'.map (mm_v ad)))) →
    W p l e R s m args below meth c H locs cells slots Q (F0 m pc ls (st.map (mm_v ad)))
theorem mStp.go {α : Type} {inj : α → Option Value × mm_M} {j : mm_J} {X : mm_X} {pc pc' : Nat} {lo lo' : List (Option Value)} {st st' : List Value} {M M' : mm_M} {ee : Option α} (h : mStp j X pc lo st M pc' lo' st' M') (k : Snd inj j X pc' lo' st' M' ee) : Snd inj j X pc lo st M ee := by
  intro x hx
  obtain ⟨k1, k2⟩ := k x hx
  refine ⟨by rw [← h.1]; exact k1, ?_⟩
  intro p l e R s m args below meth c D A cs ad g0 k0 s0 Q C b1 b2 hQ H locs cells slots ls hW hL hc hs
  refine h.2 p l e R s m args below meth c D A cs ad Q C H locs cells slots ls (by have := h.1; omega) (by have := h.1; omega) hW hL fun H' locs' ls' hW' hL' => ?_
  exact k2 p l e R s m args below meth c D A cs ad g0 k0 s0 Q C b1 b2 hQ H' locs' cells slots ls' hW' hL' (by rw [h.1]; exact hc) (by rw [h.1]; exact hs)
theorem Snd.none {α : Type} {inj : α → Option Value × mm_M} {j : mm_J} {X : mm_X} {pc : Nat} {lo : List (Option Value)} {st : List Value} {M : mm_M} : Snd inj j X pc lo st M (Option.none : Option α) := fun x hx => by cases hx
theorem Snd.ite {α : Type} {inj : α → Option Value × mm_M} {j : mm_J} {X : mm_X} {pc : Nat} {lo : List (Option Value)} {st : List Value} {M : mm_M} {b : Bool} {ee : Option α} (k : b = true → Snd inj j X pc lo st M ee) : Snd inj j X pc lo st M (if b = true then ee else Option.none) := by
  by_cases h : b = true
  · rw [if_pos h]; exact k h
  · rw [if_neg h]; exact Snd.none
theorem Snd.gd {α : Type} {inj : α → Option Value × mm_M} {j : mm_J} {X : mm_X} {pc : Nat} {lo : List (Option Value)} {st : List Value} {M : mm_M} {P : Prop} [Decidable P] {ee : Option α} (k : P → Snd inj j X pc lo st M ee) : Snd inj j X pc lo st M (if P then ee else Option.none) := by
  by_cases h : P
  · rw [if_pos h]; exact k h
  · rw [if_neg h]; exact Snd.none
-- locals
def mm_kill (lo : List (Option Value)) (i : Nat) : List (Option Value) := match i with
  | 0 => lo
  | k + 1 => match lo[k]? with
    | some (some (.long _)) => lo.set k Option.none
    | some (some (.double _)) => lo.set k Option.none
    | _ => lo
def mm_st1 (lo : List (Option Value)) (i : Nat) (v : Value) : List (Option Value) := (mm_kill lo i).set i (some v)
def mm_st2 (lo : List (Option Value)) (i : Nat) (v : Value) : List (Option Value) := ((mm_kill lo i).set i (some v)).set (i + 1) Option.none
theorem mm_v_cat (ad : Nat → Nat) (v : Value) : (mm_v ad v).category = v.category := by cases v <;> rfl
theorem mm_kill_sub {lo : List (Option Value)} {i k : Nat} {v : Value} (h : (mm_kill lo i)[k]? = some (some v)) : lo[k]? = some (some v) ∧ ¬ (k + 1 = i ∧ v.category = 2) := by
  cases i with
  | zero => exact ⟨h, by omega⟩
  | succ n =>
    unfold mm_kill at h
    dsimp only at h
    split at h
    · next w hw =>
      by_cases hk : k = n
      · subst hk
        have hl : k < lo.length := (List.getElem?_eq_some_iff.mp hw).1
        rw [List.getElem?_set_self hl] at h
        cases h
      · rw [List.getElem?_set_ne (fun e => hk e.symm)] at h
        exact ⟨h, by omega⟩
    · next w hw =>
      by_cases hk : k = n
      · subst hk
        have hl : k < lo.length := (List.getElem?_eq_some_iff.mp hw).1
        rw [List.getElem?_set_self hl] at h
        cases h
      · rw [List.getElem?_set_ne (fun e => hk e.symm)] at h
        exact ⟨h, by omega⟩
    · next h1 h2 =>
      refine ⟨h, fun q => ?_⟩
      obtain ⟨q1, q2⟩ := q
      have hk : k = n := by omega
      subst hk
      cases v with
      | long z => exact h1 z h
      | double z => exact h2 z h
      | _ => simp [Value.category] at q2
theorem mm_st1_mem {lo : List (Option Value)} {i k : Nat} {v w : Value} (h : (mm_st1 lo i v)[k]? = some (some w)) : (k = i ∧ w = v) ∨ (k ≠ i ∧ lo[k]? = some (some w) ∧ ¬ (k + 1 = i ∧ w.category = 2)) := by
  unfold mm_st1 at h
  by_cases hk : k = i
  · subst hk
    rw [List.getElem?_set] at h
    rw [if_pos rfl] at h
    split at h
    · cases h; exact Or.inl ⟨rfl, rfl⟩
    · cases h
  · rw [List.getElem?_set_ne (fun e => hk e.symm)] at h
    exact Or.inr ⟨hk, mm_kill_sub h⟩
theorem mm_st2_mem {lo : List (Option Value)} {i k : Nat} {v w : Value} (h : (mm_st2 lo i v)[k]? = some (some w)) : (k = i ∧ w = v) ∨ (k ≠ i ∧ k ≠ i + 1 ∧ lo[k]? = some (some w) ∧ ¬ (k + 1 = i ∧ w.category = 2)) := by
  unfold mm_st2 at h
  by_cases hk2 : k = i + 1
  · subst hk2
    rw [List.getElem?_set, if_pos rfl] at h
    split at h
    · cases h
    · cases h
  · rw [List.getElem?_set_ne (fun e => hk2 e.symm)] at h
    rcases mm_st1_mem (lo := lo) (i := i) (v := v) h with q | ⟨q1, q2⟩
    · exact Or.inl q
    · exact Or.inr ⟨q1, hk2, q2⟩
/-- the locals' list of the kit, out of ours -/
def mm_lv (ad : Nat → Nat) (ls : Array Slot) (lo : List (Option Value)) : List (Nat × Value) := (List.range lo.length).filterMap (fun i => match lo[i]? with | some (some v) => some (i, mm_v ad v) | _ => Option.none)
theorem mm_lv_mem {ad : Nat → Nat} {ls : Array Slot} {lo : List (Option Value)} {i : Nat} {v : Value} (h : lo[i]? = some (some v)) : (i, mm_v ad v) ∈ mm_lv ad ls lo := by
  unfold mm_lv
  refine List.mem_filterMap.mpr ⟨i, List.mem_range.mpr (List.getElem?_eq_some_iff.mp h).1, ?_⟩
  rw [h]
theorem mm_lv_of {ad : Nat → Nat} {ls : Array Slot} {lo : List (Option Value)} {q : Nat × Value} (h : q ∈ mm_lv ad ls lo) : ∃ v, lo[q.1]? = some (some v) ∧ q.2 = mm_v ad v := by
  unfold mm_lv at h
  obtain ⟨i, -, hi⟩ := List.mem_filterMap.mp h
  split at hi
  · next v hv => cases hi; exact ⟨v, hv, rfl⟩
  · cases hi
theorem mm_L.has {ad : Nat → Nat} {lo : List (Option Value)} {ls : Array Slot} {nL : Nat} (h : mm_L ad lo ls nL) : lv_has ls nL (mm_lv ad ls lo) := ⟨h.1, h.2.1, fun q hq => by
  obtain ⟨v, h1, h2⟩ := mm_lv_of hq
  rw [h2]; exact h.2.2 q.1 v h1⟩
theorem mm_L.store1 {ad : Nat → Nat} {lo lo' : List (Option Value)} {ls ls' : Array Slot} {nL i : Nat} {v : Value} (h : lv_has ls' nL ((i, mm_v ad v) :: (mm_lv ad ls lo).filter (fun q => !(q.1 == i) && !(q.1 + 1 == i && q.2.category == 2)))) (hl : mm_st1 lo i v = lo') : mm_L ad lo' ls' nL := by
  subst hl
  refine ⟨h.1, h.2.1, fun k w hk => ?_⟩
  rcases mm_st1_mem hk with ⟨e1, e2⟩ | ⟨e1, e2, e3⟩
  · subst e1; subst e2
    exact h.2.2 (k, mm_v ad w) List.mem_cons_self
  · refine h.2.2 (k, mm_v ad w) (List.mem_cons_of_mem _ (List.mem_filter.mpr ⟨mm_lv_mem e2, ?_⟩))
    simp only [mm_v_cat, Bool.and_eq_true, Bool.not_eq_true', beq_eq_false_iff_ne, Bool.and_eq_false_iff, beq_iff_eq]
    refine ⟨e1, ?_⟩
    by_cases q : k + 1 = i
    · right; intro z; exact e3 ⟨q, z⟩
    · left; exact q
theorem mm_L.store2 {ad : Nat → Nat} {lo lo' : List (Option Value)} {ls ls' : Array Slot} {nL i : Nat} {v : Value} (h : lv_has ls' nL ((i, mm_v ad v) :: (mm_lv ad ls lo).filter (fun q => !(q.1 == i) && (!(q.1 == i + 1) && !(q.1 + 1 == i && q.2.category == 2))))) (hl : mm_st2 lo i v = lo') : mm_L ad lo' ls' nL := by
  subst hl
  refine ⟨h.1, h.2.1, fun k w hk => ?_⟩
  rcases mm_st2_mem hk with ⟨e1, e2⟩ | ⟨e1, e0, e2, e3⟩
  · subst e1; subst e2
    exact h.2.2 (k, mm_v ad w) List.mem_cons_self
  · refine h.2.2 (k, mm_v ad w) (List.mem_cons_of_mem _ (List.mem_filter.mpr ⟨mm_lv_mem e2, ?_⟩))
    simp only [mm_v_cat, Bool.and_eq_true, Bool.not_eq_true', beq_eq_false_iff_ne, Bool.and_eq_false_iff, beq_iff_eq]
    refine ⟨e1, e0, ?_⟩
    by_cases q : k + 1 = i
    · right; intro z; exact e3 ⟨q, z⟩
    · left; exact q
/-- fewer locals -/
def mm_le : List (Option Value) → List (Option Value) → Prop
  | [], _ => True
  | Option.none :: a, [] => mm_le a []
  | Option.none :: a, _ :: b => mm_le a b
  | some v :: a, b :: bs => b = some v ∧ mm_le a bs
  | some _ :: _, [] => False
theorem mm_le_at : ∀ (a b : List (Option Value)), mm_le a b → ∀ (i : Nat) (v : Value), a[i]? = some (some v) → b[i]? = some (some v)
  | [], b, _, i, v, hv => by simp at hv
  | Option.none :: a, [], h, i, v, hv => by
    cases i with
    | zero => simp at hv
    | succ i =>
      rw [List.getElem?_cons_succ] at hv
      have := mm_le_at a [] h i v hv
      simp at this
  | Option.none :: a, x :: b, h, i, v, hv => by
    cases i with
    | zero => simp at hv
    | succ i =>
      rw [List.getElem?_cons_succ] at hv ⊢
      exact mm_le_at a b h i v hv
  | some w :: a, x :: b, h, i, v, hv => by
    cases i with
    | zero =>
      rw [List.getElem?_cons_zero] at hv ⊢
      rw [h.1]; exact hv
    | succ i =>
      rw [List.getElem?_cons_succ] at hv ⊢
      exact mm_le_at a b h.2 i v hv
  | some w :: a, [], h, i, v, hv => h.elim
theorem Snd.wk {α : Type} {inj : α → Option Value × mm_M} {j : mm_J} {X : mm_X} {pc : Nat} {lo lo' : List (Option Value)} {st : List Value} {M : mm_M} {ee : Option α} (k : Snd inj j X pc lo' st M ee) (h : mm_le lo' lo) : Snd inj j X pc lo st M ee := by
  intro x hx
  obtain ⟨k1, k2⟩ := k x hx
  refine ⟨k1, ?_⟩
  intro p l e R s m args below meth c D A cs ad g0 k0 s0 Q C b1 b2 hQ H locs cells slots ls hW hL hc hs
  exact k2 p l e R s m args below meth c D A cs ad g0 k0 s0 Q C b1 b2 hQ H locs cells slots ls hW ⟨hL.1, hL.2.1, fun i v hv => hL.2.2 i v (mm_le_at _ _ h i v hv)⟩ hc hs
