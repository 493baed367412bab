-- kinds of cells
def isD (d : Nat) : Bool := d == 2 || d == 11
theorem isD_or {d : Nat} (h : isD d = true) : d = 2 ∨ d = 11 := by simpa [isD] using h
theorem isD_obj {d : Nat} (h : isD d = true) : mm_sh d = (0, 0, 11) := by rcases isD_or h with rfl | rfl <;> rfl
theorem isD_pos {d : Nat} (h : isD d = true) : 0 < d ∧ d ≤ 62 := by rcases isD_or h with rfl | rfl <;> decide
theorem isD_k0 {d : Nat} (h : isD d = true) (k : Nat) (hk : k < 3) : mm_fk d k = 0 := by
  have : k = 0 ∨ k = 1 ∨ k = 2 := by omega
  rcases isD_or h with rfl | rfl <;> rcases this with rfl | rfl | rfl <;> rfl
theorem isD_kR {d : Nat} (h : isD d = true) (k o : Nat) (hk : k = o + 2) (ho : 0 < o ∧ o ≤ 8) : mm_fk d k = 10 + (d + o) := by
  subst hk
  have : o = 1 ∨ o = 2 ∨ o = 3 ∨ o = 4 ∨ o = 5 ∨ o = 6 ∨ o = 7 ∨ o = 8 := by omega
  rcases isD_or h with rfl | rfl <;> rcases this with rfl | rfl | rfl | rfl | rfl | rfl | rfl | rfl <;> rfl
theorem isD_a1 {d : Nat} (h : isD d = true) : mm_sh (d + 1) = (1, 3, 0) := by rcases isD_or h with rfl | rfl <;> rfl
theorem isD_p1 {d : Nat} (h : isD d = true) : 0 < d + 1 ∧ d + 1 ≤ 62 := by rcases isD_or h with rfl | rfl <;> decide
theorem isD_a2 {d : Nat} (h : isD d = true) : mm_sh (d + 2) = (1, 8, 0) := by rcases isD_or h with rfl | rfl <;> rfl
theorem isD_p2 {d : Nat} (h : isD d = true) : 0 < d + 2 ∧ d + 2 ≤ 62 := by rcases isD_or h with rfl | rfl <;> decide
theorem isD_a3 {d : Nat} (h : isD d = true) : mm_sh (d + 3) = (1, 8, 0) := by rcases isD_or h with rfl | rfl <;> rfl
theorem isD_p3 {d : Nat} (h : isD d = true) : 0 < d + 3 ∧ d + 3 ≤ 62 := by rcases isD_or h with rfl | rfl <;> decide
theorem isD_a4 {d : Nat} (h : isD d = true) : mm_sh (d + 4) = (1, 4, 0) := by rcases isD_or h with rfl | rfl <;> rfl
theorem isD_p4 {d : Nat} (h : isD d = true) : 0 < d + 4 ∧ d + 4 ≤ 62 := by rcases isD_or h with rfl | rfl <;> decide
theorem isD_a5 {d : Nat} (h : isD d = true) : mm_sh (d + 5) = (1, 16, 0) := by rcases isD_or h with rfl | rfl <;> rfl
theorem isD_p5 {d : Nat} (h : isD d = true) : 0 < d + 5 ∧ d + 5 ≤ 62 := by rcases isD_or h with rfl | rfl <;> decide
theorem isD_a6 {d : Nat} (h : isD d = true) : mm_sh (d + 6) = (1, 16, 0) := by rcases isD_or h with rfl | rfl <;> rfl
theorem isD_p6 {d : Nat} (h : isD d = true) : 0 < d + 6 ∧ d + 6 ≤ 62 := by rcases isD_or h with rfl | rfl <;> decide
theorem isD_a7 {d : Nat} (h : isD d = true) : mm_sh (d + 7) = (1, 24, 0) := by rcases isD_or h with rfl | rfl <;> rfl
theorem isD_p7 {d : Nat} (h : isD d = true) : 0 < d + 7 ∧ d + 7 ≤ 62 := by rcases isD_or h with rfl | rfl <;> decide
theorem isD_a8 {d : Nat} (h : isD d = true) : mm_sh (d + 8) = (1, 6, 0) := by rcases isD_or h with rfl | rfl <;> rfl
theorem isD_p8 {d : Nat} (h : isD d = true) : 0 < d + 8 ∧ d + 8 ≤ 62 := by rcases isD_or h with rfl | rfl <;> decide
def mm_n (a : Nat) : Nat := (mm_sh a).2.1
def isA (a : Nat) : Bool := (mm_sh a).1 == 1 && (mm_sh a).2.2 == 0 && decide (0 < a) && decide (a ≤ 62)
theorem isA_sh {a : Nat} (h : isA a = true) : mm_sh a = (1, mm_n a, 0) := by
  simp only [isA, Bool.and_eq_true, beq_iff_eq, decide_eq_true_eq] at h
  obtain ⟨⟨⟨h1, h2⟩, -⟩, -⟩ := h
  exact Prod.ext h1 (Prod.ext rfl h2)
theorem isA_pos {a : Nat} (h : isA a = true) : 0 < a ∧ a ≤ 62 := by
  simp only [isA, Bool.and_eq_true, decide_eq_true_eq] at h
  exact ⟨h.1.2, h.2⟩
theorem isD_isA {d o : Nat} (h : isD d = true) (ho : 0 < o ∧ o ≤ 8) : isA (d + o) = true := by
  have : o = 1 ∨ o = 2 ∨ o = 3 ∨ o = 4 ∨ o = 5 ∨ o = 6 ∨ o = 7 ∨ o = 8 := by omega
  rcases isD_or h with rfl | rfl <;> rcases this with rfl | rfl | rfl | rfl | rfl | rfl | rfl | rfl <;> rfl
def isS (q : Nat) : Bool := decide (200 ≤ q) && decide (q < 208)
def FU : Nat := 1000000
section MORERULES
variable {α : Type} {inj : α → Option Value × mm_M} {j : mm_J} {X : mm_X} {pc : Nat} {lo : List (Option Value)} {st : List Value} {M : mm_M} {ee ef : Option α}
theorem Snd.bI {v : Int32} {ex : Int32 → Option α} (k : ∀ x, Snd inj j X pc lo (.int x :: st) M (ex x)) : Snd inj j X pc lo (.int v :: st) M (bI v ex) := k v
theorem Snd.ifc {P : Prop} [Decidable P] (k1 : P → Snd inj j X pc lo st M ee) (k2 : ¬ P → Snd inj j X pc lo st M ef) : Snd inj j X pc lo st M (if P then ee else ef) := by
  by_cases h : P
  · rw [if_pos h]; exact k1 h
  · rw [if_neg h]; exact k2 h
theorem sn_tbl {x k : Int32} {kk dflt lo' hi off : Int} {offs : Array Int} {len : Nat} (tgt : Nat) (h : x = k) (hk : k.toInt = kk) (hd : decode j.2.1 pc = .ok (.tableswitch dflt lo' hi offs, len)) (h1 : ¬ kk < lo') (h2 : ¬ hi < kk) (ho : offs[(kk - lo').toNat]? = some off) (ht : (pc : Int) + off = (tgt : Int)) (k1 : Snd inj j X tgt lo st M ee) : Snd inj j X pc lo (.int x :: st) M ee :=
  mStp.go ⟨rfl, fun p l e R s m args below meth c D A cs ad Q C H locs cells slots ls g1 g2 hW hL kx => by
    subst h; subst hk
    exact lv_tableIn C.1 C.2.1 hd h1 h2 ho ht (kx H locs ls hW hL)⟩ k1
theorem sn_tblO {x : Int32} {dflt lo' hi : Int} {offs : Array Int} {len : Nat} (tgt : Nat) (hd : decode j.2.1 pc = .ok (.tableswitch dflt lo' hi offs, len)) (h : x.toInt < lo' ∨ hi < x.toInt) (ht : (pc : Int) + dflt = (tgt : Int)) (k1 : Snd inj j X tgt lo st M ee) : Snd inj j X pc lo (.int x :: st) M ee :=
  mStp.go ⟨rfl, fun p l e R s m args below meth c D A cs ad Q C H locs cells slots ls g1 g2 hW hL kx => lv_tableOut C.1 C.2.1 hd h ht (kx H locs ls hW hL)⟩ k1
theorem sn_lkp {x : Int32} {dflt off : Int} {ps : Array (Int × Int)} {len : Nat} (tgt : Nat) (hd : decode j.2.1 pc = .ok (.lookupswitch dflt ps, len)) (hp : (ps.toList.zip (ps.toList.drop 1)).all (fun (a, next) => a.1 < next.1) = true) (ho : Op.lookupswitch.offset ps.toList dflt x.toInt = off) (ht : (pc : Int) + off = (tgt : Int)) (k1 : Snd inj j X tgt lo st M ee) : Snd inj j X pc lo (.int x :: st) M ee :=
  mStp.go ⟨rfl, fun p l e R s m args below meth c D A cs ad Q C H locs cells slots ls g1 g2 hW hL kx => lv_lookup C.1 C.2.1 hd hp ho ht (kx H locs ls hW hL)⟩ k1
end MORERULES
theorem mm_S0 : ∀ ad A U H, mm_RO ad A U H → vk_R "DepotCharge$Reader" 34 "slots" (ad 200) U := fun _ _ _ _ h => h.2.2.2.1.2.1
theorem mm_S1 : ∀ ad A U H, mm_RO ad A U H → vk_R "DepotCharge$Reader" 43 "price" (ad 201) U := fun _ _ _ _ h => h.2.2.2.1.2.2.1
theorem mm_S2 : ∀ ad A U H, mm_RO ad A U H → vk_R "DepotCharge$Reader" 48 "plugs" (ad 202) U := fun _ _ _ _ h => h.2.2.2.1.2.2.2.1
theorem mm_S3 : ∀ ad A U H, mm_RO ad A U H → vk_R "DepotCharge$Reader" 54 "power" (ad 203) U := fun _ _ _ _ h => h.2.2.2.1.2.2.2.2.1
theorem mm_S4 : ∀ ad A U H, mm_RO ad A U H → vk_R "DepotCharge$Reader" 56 "limit" (ad 204) U := fun _ _ _ _ h => h.2.2.2.1.2.2.2.2.2.1
theorem mm_S5 : ∀ ad A U H, mm_RO ad A U H → vk_R "DepotCharge$Reader" 58 "curve" (ad 205) U := fun _ _ _ _ h => h.2.2.2.1.2.2.2.2.2.2.1
theorem mm_S6 : ∀ ad A U H, mm_RO ad A U H → vk_R "DepotCharge$Reader" 63 "bus" (ad 206) U := fun _ _ _ _ h => h.2.2.2.1.2.2.2.2.2.2.2.1
theorem mm_S7 : ∀ ad A U H, mm_RO ad A U H → vk_R "DepotCharge$Reader" 68 "charge" (ad 207) U := fun _ _ _ _ h => h.2.2.2.1.2.2.2.2.2.2.2.2
theorem mm_rn_X3_109 : Cond.fieldLinkNest RX3 109 "DepotCharge" "MOST_OF_SETTING" "[I" "DepotCharge" ∈ mm_rw := List.mem_of_getElem? (i := 0) rfl
theorem mm_rn_X0_66 : Cond.fieldLinkNest RX0 66 "DepotCharge" "MOST_OF_SETTING" "[I" "DepotCharge" ∈ mm_rw := List.mem_of_getElem? (i := 1) rfl
theorem mm_rn_X1_55 : Cond.fieldLinkNest RX1 55 "DepotCharge" "SIZE_OF_SET" "[I" "DepotCharge" ∈ mm_rw := List.mem_of_getElem? (i := 2) rfl
theorem mm_rn_X2_141 : Cond.fieldLinkNest RX2 141 "DepotCharge" "SIZE_OF_SET" "[I" "DepotCharge" ∈ mm_rw := List.mem_of_getElem? (i := 3) rfl
theorem mm_rn_X2_144 : Cond.fieldLinkNest RX2 144 "DepotCharge" "FIRST_OF_SET" "[I" "DepotCharge" ∈ mm_rw := List.mem_of_getElem? (i := 4) rfl
theorem mm_rn_X4_46 : Cond.fieldLinkNest RX4 46 "DepotCharge" "SIZE_OF_SET" "[I" "DepotCharge" ∈ mm_rw := List.mem_of_getElem? (i := 5) rfl
theorem mm_rn_X4_63 : Cond.fieldLinkNest RX4 63 "DepotCharge" "FIRST_OF_SET" "[I" "DepotCharge" ∈ mm_rw := List.mem_of_getElem? (i := 6) rfl
theorem w_fl_X0_36 : Cond.fieldLink RX0 36 "DepotCharge$Depot" "slotCount" "I" ∈ mm_tbl := mm_in1 37 rfl rfl
theorem w_fl_X0_40 : Cond.fieldLink RX0 40 "DepotCharge$Depot" "curveCount" "I" ∈ mm_tbl := mm_in1 43 rfl rfl
theorem w_fl_X0_43 : Cond.fieldLink RX0 43 "DepotCharge$Depot" "busCount" "I" ∈ mm_tbl := mm_in1 46 rfl rfl
theorem w_fl_X0_9 : Cond.fieldLink RX0 9 "DepotCharge$Depot" "settings" "[I" ∈ mm_tbl := mm_in1 52 rfl rfl
theorem w_ml_X0_52 : Cond.methodLink RX0 52 arraycopyName ∈ mm_tbl := mm_in2 63 rfl rfl
theorem w_fl_X0_15 : Cond.fieldLink RX0 15 "DepotCharge$Depot" "prices" "[I" ∈ mm_tbl := mm_in1 57 rfl rfl
theorem w_fl_X0_18 : Cond.fieldLink RX0 18 "DepotCharge$Depot" "sets" "[I" ∈ mm_tbl := mm_in1 61 rfl rfl
theorem w_fl_X0_21 : Cond.fieldLink RX0 21 "DepotCharge$Depot" "pieceCounts" "[I" ∈ mm_tbl := mm_in1 64 rfl rfl
theorem w_fl_X0_24 : Cond.fieldLink RX0 24 "DepotCharge$Depot" "froms" "[I" ∈ mm_tbl := mm_in1 67 rfl rfl
theorem w_fl_X0_27 : Cond.fieldLink RX0 27 "DepotCharge$Depot" "rates" "[I" ∈ mm_tbl := mm_in1 69 rfl rfl
theorem w_fl_X0_30 : Cond.fieldLink RX0 30 "DepotCharge$Depot" "facts" "[I" ∈ mm_tbl := mm_in1 71 rfl rfl
theorem w_ml_X0_46 : Cond.methodLink RX0 46 yJ7_fill_53178 ∈ mm_tbl := mm_in1 34 rfl rfl
theorem w_st_J7_fill_53178 : Cond.static yJ7_fill_53178 ∈ mm_tbl := mm_in1 35 rfl rfl
theorem w_ml_X0_58 : Cond.methodLink RX0 58 yX0_hasBus ∈ mm_tbl := mm_in3 103 rfl rfl
theorem w_im_X0_hasBus : Cond.instanceMethod yX0_hasBus ∈ mm_tbl := mm_in3 37 rfl rfl
theorem w_se_X0_hasBus : Cond.selects yX0_hasBus.cls yX0_hasBus yX0_hasBus ∈ mm_tbl := mm_in3 38 rfl rfl
theorem w_ml_X0_62 : Cond.methodLink RX0 62 yX0_fact ∈ mm_tbl := mm_in3 64 rfl rfl
theorem w_im_X0_fact : Cond.instanceMethod yX0_fact ∈ mm_tbl := mm_in3 49 rfl rfl
theorem w_se_X0_fact : Cond.selects yX0_fact.cls yX0_fact yX0_fact ∈ mm_tbl := mm_in3 50 rfl rfl
theorem w_ml_X0_69 : Cond.methodLink RX0 69 yX0_settingCanBe ∈ mm_tbl := mm_in2 196 rfl rfl
theorem w_st_X0_settingCanBe : Cond.static yX0_settingCanBe ∈ mm_tbl := mm_in2 197 rfl rfl
theorem w_ml_X0_73 : Cond.methodLink RX0 73 yX0_hasSlot ∈ mm_tbl := mm_in2 181 rfl rfl
theorem w_im_X0_hasSlot : Cond.instanceMethod yX0_hasSlot ∈ mm_tbl := mm_in2 182 rfl rfl
theorem w_se_X0_hasSlot : Cond.selects yX0_hasSlot.cls yX0_hasSlot yX0_hasSlot ∈ mm_tbl := mm_in2 183 rfl rfl
theorem w_fl_X0_33 : Cond.fieldLink RX0 33 "DepotCharge$Depot" "offered" "[I" ∈ mm_tbl := mm_in1 72 rfl rfl
theorem w_ml_X0_76 : Cond.methodLink RX0 76 yX0_leastOffer ∈ mm_tbl := mm_in2 228 rfl rfl
theorem w_im_X0_leastOffer : Cond.instanceMethod yX0_leastOffer ∈ mm_tbl := mm_in2 217 rfl rfl
theorem w_se_X0_leastOffer : Cond.selects yX0_leastOffer.cls yX0_leastOffer yX0_leastOffer ∈ mm_tbl := mm_in2 218 rfl rfl
theorem w_ml_X0_80 : Cond.methodLink RX0 80 yX0_mostOffer ∈ mm_tbl := mm_in2 229 rfl rfl
theorem w_im_X0_mostOffer : Cond.instanceMethod yX0_mostOffer ∈ mm_tbl := mm_in2 221 rfl rfl
theorem w_se_X0_mostOffer : Cond.selects yX0_mostOffer.cls yX0_mostOffer yX0_mostOffer ∈ mm_tbl := mm_in2 222 rfl rfl
theorem w_ml_X0_88 : Cond.methodLink RX0 88 Lib.Math.min.name ∈ mm_tbl := mm_in3 72 rfl rfl
theorem w_ml_X0_83 : Cond.methodLink RX0 83 Lib.Math.max.name ∈ mm_tbl := mm_in3 69 rfl rfl
theorem w_ml_X0_91 : Cond.methodLink RX0 91 yX0_gain ∈ mm_tbl := mm_in3 114 rfl rfl
theorem w_im_X0_gain : Cond.instanceMethod yX0_gain ∈ mm_tbl := mm_in3 66 rfl rfl
theorem w_se_X0_gain : Cond.selects yX0_gain.cls yX0_gain yX0_gain ∈ mm_tbl := mm_in3 67 rfl rfl
theorem w_fl_X1_11 : Cond.fieldLink RX1 11 "DepotCharge$Ledger" "levels" "[I" ∈ mm_tbl := mm_in1 147 rfl rfl
theorem w_fl_X1_31 : Cond.fieldLink RX1 31 "DepotCharge$Depot" "busCount" "I" ∈ mm_tbl := mm_in1 48 rfl rfl
theorem w_ml_X1_62 : Cond.methodLink RX1 62 yX1_levelAt ∈ mm_tbl := mm_in3 56 rfl rfl
theorem w_im_X1_levelAt : Cond.instanceMethod yX1_levelAt ∈ mm_tbl := mm_in3 57 rfl rfl
theorem w_se_X1_levelAt : Cond.selects yX1_levelAt.cls yX1_levelAt yX1_levelAt ∈ mm_tbl := mm_in3 58 rfl rfl
theorem w_ml_X1_65 : Cond.methodLink RX1 65 yX0_isThere ∈ mm_tbl := mm_in3 60 rfl rfl
theorem w_im_X0_isThere : Cond.instanceMethod yX0_isThere ∈ mm_tbl := mm_in3 61 rfl rfl
theorem w_se_X0_isThere : Cond.selects yX0_isThere.cls yX0_isThere yX0_isThere ∈ mm_tbl := mm_in3 62 rfl rfl
theorem w_fl_X1_69 : Cond.fieldLink RX1 69 "DepotCharge$Depot" "settings" "[I" ∈ mm_tbl := mm_in1 54 rfl rfl
theorem w_ml_X1_72 : Cond.methodLink RX1 72 yX0_gain ∈ mm_tbl := mm_in3 65 rfl rfl
theorem w_ml_X1_36 : Cond.methodLink RX1 36 yX0_fact ∈ mm_tbl := mm_in3 48 rfl rfl
theorem w_fl_X1_40 : Cond.fieldLink RX1 40 "DepotCharge$Depot" "slotCount" "I" ∈ mm_tbl := mm_in1 39 rfl rfl
theorem w_ml_X1_50 : Cond.methodLink RX1 50 Lib.Math.max.name ∈ mm_tbl := mm_in3 75 rfl rfl
theorem w_fl_X1_25 : Cond.fieldLink RX1 25 "DepotCharge$Ledger" "allLack" "I" ∈ mm_tbl := mm_in1 154 rfl rfl
theorem w_ml_X1_58 : Cond.methodLink RX1 58 yX1_lackOf ∈ mm_tbl := mm_in3 78 rfl rfl
theorem w_im_X1_lackOf : Cond.instanceMethod yX1_lackOf ∈ mm_tbl := mm_in3 79 rfl rfl
theorem w_se_X1_lackOf : Cond.selects yX1_lackOf.cls yX1_lackOf yX1_lackOf ∈ mm_tbl := mm_in3 80 rfl rfl
theorem w_fl_X1_15 : Cond.fieldLink RX1 15 "DepotCharge$Ledger" "usedBySlot" "[I" ∈ mm_tbl := mm_in1 148 rfl rfl
theorem w_ml_X1_43 : Cond.methodLink RX1 43 yX1_chargeSlot ∈ mm_tbl := mm_in3 52 rfl rfl
theorem w_im_X1_chargeSlot : Cond.instanceMethod yX1_chargeSlot ∈ mm_tbl := mm_in3 54 rfl rfl
theorem w_se_X1_chargeSlot : Cond.selects yX1_chargeSlot.cls yX1_chargeSlot yX1_chargeSlot ∈ mm_tbl := mm_in0 15 rfl rfl
theorem w_fl_X1_18 : Cond.fieldLink RX1 18 "DepotCharge$Ledger" "cost" "I" ∈ mm_tbl := mm_in1 150 rfl rfl
theorem w_fl_X1_47 : Cond.fieldLink RX1 47 "DepotCharge$Depot" "prices" "[I" ∈ mm_tbl := mm_in1 58 rfl rfl
theorem w_fl_X1_28 : Cond.fieldLink RX1 28 "DepotCharge$Ledger" "peak" "I" ∈ mm_tbl := mm_in1 156 rfl rfl
theorem w_fl_X1_22 : Cond.fieldLink RX1 22 "DepotCharge$Ledger" "charges" "I" ∈ mm_tbl := mm_in1 152 rfl rfl
theorem w_ml_X1_80 : Cond.methodLink RX1 80 yX1_holdsAbsent ∈ mm_tbl := mm_in3 140 rfl rfl
theorem w_st_X1_holdsAbsent : Cond.static yX1_holdsAbsent ∈ mm_tbl := mm_in3 141 rfl rfl
theorem w_ml_X1_76 : Cond.methodLink RX1 76 yX1_slotIsWrong ∈ mm_tbl := mm_in3 136 rfl rfl
theorem w_im_X1_slotIsWrong : Cond.instanceMethod yX1_slotIsWrong ∈ mm_tbl := mm_in3 138 rfl rfl
theorem w_se_X1_slotIsWrong : Cond.selects yX1_slotIsWrong.cls yX1_slotIsWrong yX1_slotIsWrong ∈ mm_tbl := mm_in0 16 rfl rfl
theorem w_fl_X2_15 : Cond.fieldLink RX2 15 "DepotCharge$Planner" "comes" "[I" ∈ mm_tbl := mm_in1 178 rfl rfl
theorem w_ml_X2_81 : Cond.methodLink RX2 81 yX0_fact ∈ mm_tbl := mm_in3 165 rfl rfl
theorem w_fl_X2_68 : Cond.fieldLink RX2 68 "DepotCharge$Planner" "depot" "LDepotCharge$Depot;" ∈ mm_tbl := mm_in1 182 rfl rfl
theorem w_fl_X2_18 : Cond.fieldLink RX2 18 "DepotCharge$Planner" "wanted" "I" ∈ mm_tbl := mm_in1 180 rfl rfl
theorem w_fl_X2_72 : Cond.fieldLink RX2 72 "DepotCharge$Depot" "settings" "[I" ∈ mm_tbl := mm_in1 53 rfl rfl
theorem w_fl_X2_11 : Cond.fieldLink RX2 11 "DepotCharge$Planner" "settings" "[I" ∈ mm_tbl := mm_in1 176 rfl rfl
theorem w_ml_X2_75 : Cond.methodLink RX2 75 arraycopyName ∈ mm_tbl := mm_in3 164 rfl rfl
theorem w_fl_X2_25 : Cond.fieldLink RX2 25 "DepotCharge$Planner" "most" "[I" ∈ mm_tbl := mm_in1 184 rfl rfl
theorem w_fl_X2_31 : Cond.fieldLink RX2 31 "DepotCharge$Planner" "lacks" "[I" ∈ mm_tbl := mm_in1 186 rfl rfl
theorem w_ml_X2_110 : Cond.methodLink RX2 110 Lib.Math.max.name ∈ mm_tbl := mm_in3 178 rfl rfl
theorem w_fl_X2_22 : Cond.fieldLink RX2 22 "DepotCharge$Planner" "stay" "[I" ∈ mm_tbl := mm_in1 183 rfl rfl
theorem w_ml_X2_115 : Cond.methodLink RX2 115 yX0_gain ∈ mm_tbl := mm_in3 179 rfl rfl
theorem w_fl_X2_28 : Cond.fieldLink RX2 28 "DepotCharge$Planner" "gains" "[I" ∈ mm_tbl := mm_in1 185 rfl rfl
theorem w_fl_X2_34 : Cond.fieldLink RX2 34 "DepotCharge$Planner" "shift" "[I" ∈ mm_tbl := mm_in1 187 rfl rfl
theorem w_fl_X2_103 : Cond.fieldLink RX2 103 "DepotCharge$Depot" "busCount" "I" ∈ mm_tbl := mm_in1 49 rfl rfl
theorem w_ml_X2_106 : Cond.methodLink RX2 106 yX2_trace ∈ mm_tbl := mm_in3 174 rfl rfl
theorem w_im_X2_trace : Cond.instanceMethod yX2_trace ∈ mm_tbl := mm_in3 176 rfl rfl
theorem w_se_X2_trace : Cond.selects yX2_trace.cls yX2_trace yX2_trace ∈ mm_tbl := mm_in0 19 rfl rfl
theorem w_fl_X2_100 : Cond.fieldLink RX2 100 "DepotCharge$Depot" "slotCount" "I" ∈ mm_tbl := mm_in1 40 rfl rfl
theorem w_fl_X2_44 : Cond.fieldLink RX2 44 "DepotCharge$Planner" "at" "[I" ∈ mm_tbl := mm_in1 190 rfl rfl
theorem w_fl_X2_47 : Cond.fieldLink RX2 47 "DepotCharge$Planner" "low" "[I" ∈ mm_tbl := mm_in1 191 rfl rfl
theorem w_fl_X2_59 : Cond.fieldLink RX2 59 "DepotCharge$Planner" "charged" "I" ∈ mm_tbl := mm_in1 195 rfl rfl
theorem w_fl_X2_56 : Cond.fieldLink RX2 56 "DepotCharge$Planner" "state" "I" ∈ mm_tbl := mm_in1 194 rfl rfl
theorem w_fl_X2_50 : Cond.fieldLink RX2 50 "DepotCharge$Planner" "high" "[I" ∈ mm_tbl := mm_in1 192 rfl rfl
theorem w_fl_X2_62 : Cond.fieldLink RX2 62 "DepotCharge$Planner" "there" "I" ∈ mm_tbl := mm_in1 196 rfl rfl
theorem w_fl_X2_53 : Cond.fieldLink RX2 53 "DepotCharge$Planner" "due" "[I" ∈ mm_tbl := mm_in1 193 rfl rfl
theorem w_ml_X2_135 : Cond.methodLink RX2 135 Lib.Math.min.name ∈ mm_tbl := mm_in3 192 rfl rfl
theorem w_fl_X2_37 : Cond.fieldLink RX2 37 "DepotCharge$Planner" "worth" "[J" ∈ mm_tbl := mm_in1 188 rfl rfl
theorem w_fl_X2_41 : Cond.fieldLink RX2 41 "DepotCharge$Planner" "choices" "[I" ∈ mm_tbl := mm_in1 189 rfl rfl
theorem w_fl_X2_65 : Cond.fieldLink RX2 65 "DepotCharge$Planner" "usedBySet" "[I" ∈ mm_tbl := mm_in1 197 rfl rfl
theorem w_fl_X2_138 : Cond.fieldLink RX2 138 "DepotCharge$Depot" "prices" "[I" ∈ mm_tbl := mm_in1 60 rfl rfl
theorem w_cl_X2_96 : Cond.constantLong RX2 96 64 ∈ mm_tbl := mm_in3 198 rfl rfl
theorem w_cl_X2_133 : Cond.constantLong RX2 133 1125899906842624 ∈ mm_tbl := mm_in3 207 rfl rfl
theorem w_ml_X2_127 : Cond.methodLink RX2 127 yX2_nextState ∈ mm_tbl := mm_in3 199 rfl rfl
theorem w_im_X2_nextState : Cond.instanceMethod yX2_nextState ∈ mm_tbl := mm_in3 201 rfl rfl
theorem w_se_X2_nextState : Cond.selects yX2_nextState.cls yX2_nextState yX2_nextState ∈ mm_tbl := mm_in0 24 rfl rfl
theorem w_ml_X2_130 : Cond.methodLink RX2 130 yX2_settle ∈ mm_tbl := mm_in3 203 rfl rfl
theorem w_im_X2_settle : Cond.instanceMethod yX2_settle ∈ mm_tbl := mm_in3 205 rfl rfl
theorem w_se_X2_settle : Cond.selects yX2_settle.cls yX2_settle yX2_settle ∈ mm_tbl := mm_in0 25 rfl rfl
theorem w_ml_X2_119 : Cond.methodLink RX2 119 yX2_spread ∈ mm_tbl := mm_in3 188 rfl rfl
theorem w_im_X2_spread : Cond.instanceMethod yX2_spread ∈ mm_tbl := mm_in3 190 rfl rfl
theorem w_se_X2_spread : Cond.selects yX2_spread.cls yX2_spread yX2_spread ∈ mm_tbl := mm_in0 22 rfl rfl
theorem w_ml_X2_123 : Cond.methodLink RX2 123 yX2_lackHere ∈ mm_tbl := mm_in3 193 rfl rfl
theorem w_im_X2_lackHere : Cond.instanceMethod yX2_lackHere ∈ mm_tbl := mm_in3 195 rfl rfl
theorem w_se_X2_lackHere : Cond.selects yX2_lackHere.cls yX2_lackHere yX2_lackHere ∈ mm_tbl := mm_in0 23 rfl rfl
theorem w_cl_X2_98 : Cond.constantLong RX2 98 100000 ∈ mm_tbl := mm_in3 197 rfl rfl
theorem w_ml_X2_85 : Cond.methodLink RX2 85 yX2_traceAll ∈ mm_tbl := mm_in3 170 rfl rfl
theorem w_im_X2_traceAll : Cond.instanceMethod yX2_traceAll ∈ mm_tbl := mm_in3 172 rfl rfl
theorem w_se_X2_traceAll : Cond.selects yX2_traceAll.cls yX2_traceAll yX2_traceAll ∈ mm_tbl := mm_in0 18 rfl rfl
theorem w_ml_X2_88 : Cond.methodLink RX2 88 yX2_mayBeReady ∈ mm_tbl := mm_in3 180 rfl rfl
theorem w_im_X2_mayBeReady : Cond.instanceMethod yX2_mayBeReady ∈ mm_tbl := mm_in3 182 rfl rfl
theorem w_se_X2_mayBeReady : Cond.selects yX2_mayBeReady.cls yX2_mayBeReady yX2_mayBeReady ∈ mm_tbl := mm_in0 20 rfl rfl
theorem w_ml_X2_92 : Cond.methodLink RX2 92 yX2_weighStates ∈ mm_tbl := mm_in3 184 rfl rfl
theorem w_im_X2_weighStates : Cond.instanceMethod yX2_weighStates ∈ mm_tbl := mm_in3 186 rfl rfl
theorem w_se_X2_weighStates : Cond.selects yX2_weighStates.cls yX2_weighStates yX2_weighStates ∈ mm_tbl := mm_in0 21 rfl rfl
theorem w_fl_X5_9 : Cond.fieldLink RX5 9 "DepotCharge$Tape" "bytes" "[B" ∈ mm_tbl := mm_in1 103 rfl rfl
theorem w_fl_X5_28 : Cond.fieldLink RX5 28 "DepotCharge$Tape" "behind" "I" ∈ mm_tbl := mm_in1 112 rfl rfl
theorem w_fl_X5_22 : Cond.fieldLink RX5 22 "DepotCharge$Tape" "place" "I" ∈ mm_tbl := mm_in1 108 rfl rfl
theorem w_fl_X5_25 : Cond.fieldLink RX5 25 "DepotCharge$Tape" "number" "I" ∈ mm_tbl := mm_in1 110 rfl rfl
theorem w_fl_X5_15 : Cond.fieldLink RX5 15 "DepotCharge$Tape" "length" "I" ∈ mm_tbl := mm_in1 104 rfl rfl
theorem w_ml_X5_34 : Cond.methodLink RX5 34 yX5_isDigit ∈ mm_tbl := mm_in2 78 rfl rfl
theorem w_im_X5_isDigit : Cond.instanceMethod yX5_isDigit ∈ mm_tbl := mm_in2 80 rfl rfl
theorem w_se_X5_isDigit : Cond.selects yX5_isDigit.cls yX5_isDigit yX5_isDigit ∈ mm_tbl := mm_in0 0 rfl rfl
theorem w_fl_X5_19 : Cond.fieldLink RX5 19 "DepotCharge$Tape" "kind" "I" ∈ mm_tbl := mm_in1 106 rfl rfl
theorem w_ml_X5_41 : Cond.methodLink RX5 41 yX5_isLetter ∈ mm_tbl := mm_in2 86 rfl rfl
theorem w_im_X5_isLetter : Cond.instanceMethod yX5_isLetter ∈ mm_tbl := mm_in2 88 rfl rfl
theorem w_se_X5_isLetter : Cond.selects yX5_isLetter.cls yX5_isLetter yX5_isLetter ∈ mm_tbl := mm_in0 2 rfl rfl
theorem w_ml_X5_44 : Cond.methodLink RX5 44 yX5_readWord ∈ mm_tbl := mm_in2 90 rfl rfl
theorem w_im_X5_readWord : Cond.instanceMethod yX5_readWord ∈ mm_tbl := mm_in2 92 rfl rfl
theorem w_se_X5_readWord : Cond.selects yX5_readWord.cls yX5_readWord yX5_readWord ∈ mm_tbl := mm_in0 3 rfl rfl
theorem w_ml_X5_38 : Cond.methodLink RX5 38 yX5_readNumber ∈ mm_tbl := mm_in2 82 rfl rfl
theorem w_im_X5_readNumber : Cond.instanceMethod yX5_readNumber ∈ mm_tbl := mm_in2 84 rfl rfl
theorem w_se_X5_readNumber : Cond.selects yX5_readNumber.cls yX5_readNumber yX5_readNumber ∈ mm_tbl := mm_in0 1 rfl rfl
theorem w_ml_X5_31 : Cond.methodLink RX5 31 yX5_step ∈ mm_tbl := mm_in2 74 rfl rfl
theorem w_im_X5_step : Cond.instanceMethod yX5_step ∈ mm_tbl := mm_in2 75 rfl rfl
theorem w_se_X5_step : Cond.selects yX5_step.cls yX5_step yX5_step ∈ mm_tbl := mm_in2 76 rfl rfl
theorem w_ml_X5_47 : Cond.methodLink RX5 47 yJ0_length_8abf5 ∈ mm_tbl := mm_in2 103 rfl rfl
theorem w_ml_X5_52 : Cond.methodLink RX5 52 yJ0_charAt_5068e ∈ mm_tbl := mm_in2 113 rfl rfl
theorem w_fl_X3_9 : Cond.fieldLink RX3 9 "DepotCharge$Reader" "fault" "I" ∈ mm_tbl := mm_in1 134 rfl rfl
theorem w_fl_X3_15 : Cond.fieldLink RX3 15 "DepotCharge$Reader" "tape" "LDepotCharge$Tape;" ∈ mm_tbl := mm_in1 133 rfl rfl
theorem w_fl_X3_31 : Cond.fieldLink RX3 31 "DepotCharge$Tape" "place" "I" ∈ mm_tbl := mm_in1 109 rfl rfl
theorem w_ml_X3_73 : Cond.methodLink RX3 73 yX3_blame ∈ mm_tbl := mm_in2 164 rfl rfl
theorem w_im_X3_blame : Cond.instanceMethod yX3_blame ∈ mm_tbl := mm_in2 166 rfl rfl
theorem w_se_X3_blame : Cond.selects yX3_blame.cls yX3_blame yX3_blame ∈ mm_tbl := mm_in0 8 rfl rfl
theorem w_fl_X3_24 : Cond.fieldLink RX3 24 "DepotCharge$Tape" "kind" "I" ∈ mm_tbl := mm_in1 107 rfl rfl
theorem w_fl_X3_87 : Cond.fieldLink RX3 87 "DepotCharge$Tape" "number" "I" ∈ mm_tbl := mm_in1 111 rfl rfl
theorem w_ml_X3_90 : Cond.methodLink RX3 90 yX3_numberIsWithin ∈ mm_tbl := mm_in2 160 rfl rfl
theorem w_im_X3_numberIsWithin : Cond.instanceMethod yX3_numberIsWithin ∈ mm_tbl := mm_in2 162 rfl rfl
theorem w_se_X3_numberIsWithin : Cond.selects yX3_numberIsWithin.cls yX3_numberIsWithin yX3_numberIsWithin ∈ mm_tbl := mm_in0 7 rfl rfl
theorem w_ml_X3_84 : Cond.methodLink RX3 84 yX5_step ∈ mm_tbl := mm_in2 155 rfl rfl
theorem w_ml_X3_94 : Cond.methodLink RX3 94 yX3_readNumber ∈ mm_tbl := mm_in2 156 rfl rfl
theorem w_im_X3_readNumber : Cond.instanceMethod yX3_readNumber ∈ mm_tbl := mm_in2 158 rfl rfl
theorem w_se_X3_readNumber : Cond.selects yX3_readNumber.cls yX3_readNumber yX3_readNumber ∈ mm_tbl := mm_in0 6 rfl rfl
theorem w_ml_X3_98 : Cond.methodLink RX3 98 yX0_beginAnew ∈ mm_tbl := mm_in2 168 rfl rfl
theorem w_im_X0_beginAnew : Cond.instanceMethod yX0_beginAnew ∈ mm_tbl := mm_in2 169 rfl rfl
theorem w_se_X0_beginAnew : Cond.selects yX0_beginAnew.cls yX0_beginAnew yX0_beginAnew ∈ mm_tbl := mm_in2 170 rfl rfl
theorem w_fl_X3_103 : Cond.fieldLink RX3 103 "DepotCharge$Depot" "slotCount" "I" ∈ mm_tbl := mm_in1 41 rfl rfl
theorem w_ml_X3_106 : Cond.methodLink RX3 106 yX0_changePrice ∈ mm_tbl := mm_in2 177 rfl rfl
theorem w_im_X0_changePrice : Cond.instanceMethod yX0_changePrice ∈ mm_tbl := mm_in2 178 rfl rfl
theorem w_se_X0_changePrice : Cond.selects yX0_changePrice.cls yX0_changePrice yX0_changePrice ∈ mm_tbl := mm_in2 179 rfl rfl
theorem w_ml_X3_113 : Cond.methodLink RX3 113 yX0_changeSetting ∈ mm_tbl := mm_in2 192 rfl rfl
theorem w_im_X0_changeSetting : Cond.instanceMethod yX0_changeSetting ∈ mm_tbl := mm_in2 193 rfl rfl
theorem w_se_X0_changeSetting : Cond.selects yX0_changeSetting.cls yX0_changeSetting yX0_changeSetting ∈ mm_tbl := mm_in2 194 rfl rfl
theorem w_fl_X3_116 : Cond.fieldLink RX3 116 "DepotCharge$Depot" "curveCount" "I" ∈ mm_tbl := mm_in1 44 rfl rfl
theorem w_ml_X3_122 : Cond.methodLink RX3 122 yX0_addPiece ∈ mm_tbl := mm_in2 207 rfl rfl
theorem w_im_X0_addPiece : Cond.instanceMethod yX0_addPiece ∈ mm_tbl := mm_in2 208 rfl rfl
theorem w_se_X0_addPiece : Cond.selects yX0_addPiece.cls yX0_addPiece yX0_addPiece ∈ mm_tbl := mm_in2 209 rfl rfl
theorem w_fl_X3_119 : Cond.fieldLink RX3 119 "DepotCharge$Depot" "pieceCounts" "[I" ∈ mm_tbl := mm_in1 65 rfl rfl
theorem w_ml_X3_139 : Cond.methodLink RX3 139 yX0_addOffered ∈ mm_tbl := mm_in2 230 rfl rfl
theorem w_im_X0_addOffered : Cond.instanceMethod yX0_addOffered ∈ mm_tbl := mm_in2 231 rfl rfl
theorem w_se_X0_addOffered : Cond.selects yX0_addOffered.cls yX0_addOffered yX0_addOffered ∈ mm_tbl := mm_in2 232 rfl rfl
theorem w_ml_X3_129 : Cond.methodLink RX3 129 yX0_leastOffer ∈ mm_tbl := mm_in2 216 rfl rfl
theorem w_ml_X3_133 : Cond.methodLink RX3 133 yX0_mostOffer ∈ mm_tbl := mm_in2 220 rfl rfl
theorem w_ml_X3_136 : Cond.methodLink RX3 136 yX0_offer ∈ mm_tbl := mm_in2 224 rfl rfl
theorem w_im_X0_offer : Cond.instanceMethod yX0_offer ∈ mm_tbl := mm_in2 225 rfl rfl
theorem w_se_X0_offer : Cond.selects yX0_offer.cls yX0_offer yX0_offer ∈ mm_tbl := mm_in2 226 rfl rfl
theorem w_fl_X3_126 : Cond.fieldLink RX3 126 "DepotCharge$Depot" "busCount" "I" ∈ mm_tbl := mm_in1 51 rfl rfl
theorem w_fl_X3_142 : Cond.fieldLink RX3 142 "DepotCharge$Depot" "sets" "[I" ∈ mm_tbl := mm_in1 63 rfl rfl
theorem w_ml_X3_80 : Cond.methodLink RX3 80 yX5_isSemicolon ∈ mm_tbl := mm_in3 3 rfl rfl
theorem w_im_X5_isSemicolon : Cond.instanceMethod yX5_isSemicolon ∈ mm_tbl := mm_in3 4 rfl rfl
theorem w_se_X5_isSemicolon : Cond.selects yX5_isSemicolon.cls yX5_isSemicolon yX5_isSemicolon ∈ mm_tbl := mm_in3 5 rfl rfl
theorem w_ml_X3_77 : Cond.methodLink RX3 77 yX3_readSemicolon ∈ mm_tbl := mm_in2 239 rfl rfl
theorem w_im_X3_readSemicolon : Cond.instanceMethod yX3_readSemicolon ∈ mm_tbl := mm_in3 1 rfl rfl
theorem w_se_X3_readSemicolon : Cond.selects yX3_readSemicolon.cls yX3_readSemicolon yX3_readSemicolon ∈ mm_tbl := mm_in0 14 rfl rfl
theorem w_ml_X3_36 : Cond.methodLink RX3 36 yX5_isWord ∈ mm_tbl := mm_in2 99 rfl rfl
theorem w_im_X5_isWord : Cond.instanceMethod yX5_isWord ∈ mm_tbl := mm_in2 100 rfl rfl
theorem w_se_X5_isWord : Cond.selects yX5_isWord.cls yX5_isWord yX5_isWord ∈ mm_tbl := mm_in2 101 rfl rfl
theorem w_ml_X3_70 : Cond.methodLink RX3 70 yX3_readCharge ∈ mm_tbl := mm_in2 235 rfl rfl
theorem w_im_X3_readCharge : Cond.instanceMethod yX3_readCharge ∈ mm_tbl := mm_in2 237 rfl rfl
theorem w_se_X3_readCharge : Cond.selects yX3_readCharge.cls yX3_readCharge yX3_readCharge ∈ mm_tbl := mm_in0 13 rfl rfl
theorem w_ml_X3_65 : Cond.methodLink RX3 65 yX3_readBus ∈ mm_tbl := mm_in2 212 rfl rfl
theorem w_im_X3_readBus : Cond.instanceMethod yX3_readBus ∈ mm_tbl := mm_in2 214 rfl rfl
theorem w_se_X3_readBus : Cond.selects yX3_readBus.cls yX3_readBus yX3_readBus ∈ mm_tbl := mm_in0 12 rfl rfl
theorem w_ml_X3_60 : Cond.methodLink RX3 60 yX3_readCurve ∈ mm_tbl := mm_in2 203 rfl rfl
theorem w_im_X3_readCurve : Cond.instanceMethod yX3_readCurve ∈ mm_tbl := mm_in2 205 rfl rfl
theorem w_se_X3_readCurve : Cond.selects yX3_readCurve.cls yX3_readCurve yX3_readCurve ∈ mm_tbl := mm_in0 11 rfl rfl
theorem w_ml_X3_50 : Cond.methodLink RX3 50 yX3_readSetting ∈ mm_tbl := mm_in2 186 rfl rfl
theorem w_im_X3_readSetting : Cond.instanceMethod yX3_readSetting ∈ mm_tbl := mm_in2 188 rfl rfl
theorem w_se_X3_readSetting : Cond.selects yX3_readSetting.cls yX3_readSetting yX3_readSetting ∈ mm_tbl := mm_in0 10 rfl rfl
theorem w_ml_X3_45 : Cond.methodLink RX3 45 yX3_readPrice ∈ mm_tbl := mm_in2 173 rfl rfl
theorem w_im_X3_readPrice : Cond.instanceMethod yX3_readPrice ∈ mm_tbl := mm_in2 175 rfl rfl
theorem w_se_X3_readPrice : Cond.selects yX3_readPrice.cls yX3_readPrice yX3_readPrice ∈ mm_tbl := mm_in0 9 rfl rfl
theorem w_ml_X3_40 : Cond.methodLink RX3 40 yX3_readSlots ∈ mm_tbl := mm_in2 151 rfl rfl
theorem w_im_X3_readSlots : Cond.instanceMethod yX3_readSlots ∈ mm_tbl := mm_in2 153 rfl rfl
theorem w_se_X3_readSlots : Cond.selects yX3_readSlots.cls yX3_readSlots yX3_readSlots ∈ mm_tbl := mm_in0 5 rfl rfl
theorem w_ml_X3_27 : Cond.methodLink RX3 27 yX3_readStatement ∈ mm_tbl := mm_in2 94 rfl rfl
theorem w_im_X3_readStatement : Cond.instanceMethod yX3_readStatement ∈ mm_tbl := mm_in2 96 rfl rfl
theorem w_se_X3_readStatement : Cond.selects yX3_readStatement.cls yX3_readStatement yX3_readStatement ∈ mm_tbl := mm_in0 4 rfl rfl
theorem w_ml_X3_19 : Cond.methodLink RX3 19 yX5_rewind ∈ mm_tbl := mm_in2 70 rfl rfl
theorem w_im_X5_rewind : Cond.instanceMethod yX5_rewind ∈ mm_tbl := mm_in2 71 rfl rfl
theorem w_se_X5_rewind : Cond.selects yX5_rewind.cls yX5_rewind yX5_rewind ∈ mm_tbl := mm_in2 72 rfl rfl
theorem w_ml_X4_27 : Cond.methodLink RX4 27 yX0_fact ∈ mm_tbl := mm_in4 36 rfl rfl
theorem w_fl_X4_15 : Cond.fieldLink RX4 15 "DepotCharge$Ruler" "levels" "[I" ∈ mm_tbl := mm_in2 6 rfl rfl
theorem w_ml_X4_60 : Cond.methodLink RX4 60 yX0_fewestCharges ∈ mm_tbl := mm_in4 46 rfl rfl
theorem w_im_X0_fewestCharges : Cond.instanceMethod yX0_fewestCharges ∈ mm_tbl := mm_in3 111 rfl rfl
theorem w_se_X0_fewestCharges : Cond.selects yX0_fewestCharges.cls yX0_fewestCharges yX0_fewestCharges ∈ mm_tbl := mm_in3 112 rfl rfl
theorem w_fl_X4_18 : Cond.fieldLink RX4 18 "DepotCharge$Ruler" "ranks" "[I" ∈ mm_tbl := mm_in2 7 rfl rfl
theorem w_fl_X4_49 : Cond.fieldLink RX4 49 "DepotCharge$Depot" "settings" "[I" ∈ mm_tbl := mm_in1 55 rfl rfl
theorem w_ml_X4_52 : Cond.methodLink RX4 52 yX4_firstOf ∈ mm_tbl := mm_in4 48 rfl rfl
theorem w_im_X4_firstOf : Cond.instanceMethod yX4_firstOf ∈ mm_tbl := mm_in4 50 rfl rfl
theorem w_se_X4_firstOf : Cond.selects yX4_firstOf.cls yX4_firstOf yX4_firstOf ∈ mm_tbl := mm_in0 33 rfl rfl
theorem w_ml_X4_56 : Cond.methodLink RX4 56 yX0_gain ∈ mm_tbl := mm_in4 53 rfl rfl
theorem w_fl_X4_21 : Cond.fieldLink RX4 21 "DepotCharge$Depot" "busCount" "I" ∈ mm_tbl := mm_in1 47 rfl rfl
theorem w_ml_X4_38 : Cond.methodLink RX4 38 yX0_isThere ∈ mm_tbl := mm_in4 41 rfl rfl
theorem w_ml_X4_42 : Cond.methodLink RX4 42 yX4_rankOf ∈ mm_tbl := mm_in4 42 rfl rfl
theorem w_im_X4_rankOf : Cond.instanceMethod yX4_rankOf ∈ mm_tbl := mm_in4 44 rfl rfl
theorem w_se_X4_rankOf : Cond.selects yX4_rankOf.cls yX4_rankOf yX4_rankOf ∈ mm_tbl := mm_in0 32 rfl rfl
theorem w_fl_X4_9 : Cond.fieldLink RX4 9 "DepotCharge$Ruler" "sets" "[I" ∈ mm_tbl := mm_in2 4 rfl rfl
theorem w_fl_X4_31 : Cond.fieldLink RX4 31 "DepotCharge$Depot" "slotCount" "I" ∈ mm_tbl := mm_in1 38 rfl rfl
theorem w_ml_X4_34 : Cond.methodLink RX4 34 yX4_chargeSlot ∈ mm_tbl := mm_in4 37 rfl rfl
theorem w_im_X4_chargeSlot : Cond.instanceMethod yX4_chargeSlot ∈ mm_tbl := mm_in4 39 rfl rfl
theorem w_se_X4_chargeSlot : Cond.selects yX4_chargeSlot.cls yX4_chargeSlot yX4_chargeSlot ∈ mm_tbl := mm_in0 31 rfl rfl
theorem w_fl_X6_22 : Cond.fieldLink RX6 22 "DepotCharge" "tape" "LDepotCharge$Tape;" ∈ mm_tbl := mm_in2 17 rfl rfl
theorem w_fl_X6_66 : Cond.fieldLink RX6 66 "DepotCharge$Tape" "length" "I" ∈ mm_tbl := mm_in1 105 rfl rfl
theorem w_ml_X6_70 : Cond.methodLink RX6 70 yX5_append ∈ mm_tbl := mm_in2 47 rfl rfl
theorem w_im_X5_append : Cond.instanceMethod yX5_append ∈ mm_tbl := mm_in2 48 rfl rfl
theorem w_se_X5_append : Cond.selects yX5_append.cls yX5_append yX5_append ∈ mm_tbl := mm_in2 49 rfl rfl
theorem w_fl_X6_16 : Cond.fieldLink RX6 16 "DepotCharge" "draft" "LDepotCharge$Depot;" ∈ mm_tbl := mm_in2 16 rfl rfl
theorem w_fl_X6_12 : Cond.fieldLink RX6 12 "DepotCharge" "now" "LDepotCharge$Depot;" ∈ mm_tbl := mm_in2 15 rfl rfl
theorem w_ml_X6_74 : Cond.methodLink RX6 74 yX0_copyFrom ∈ mm_tbl := mm_in2 59 rfl rfl
theorem w_im_X0_copyFrom : Cond.instanceMethod yX0_copyFrom ∈ mm_tbl := mm_in2 60 rfl rfl
theorem w_se_X0_copyFrom : Cond.selects yX0_copyFrom.cls yX0_copyFrom yX0_copyFrom ∈ mm_tbl := mm_in2 61 rfl rfl
theorem w_fl_X6_31 : Cond.fieldLink RX6 31 "DepotCharge" "reader" "LDepotCharge$Reader;" ∈ mm_tbl := mm_in2 18 rfl rfl
theorem w_ml_X6_77 : Cond.methodLink RX6 77 yX3_readInto ∈ mm_tbl := mm_in2 66 rfl rfl
theorem w_im_X3_readInto : Cond.instanceMethod yX3_readInto ∈ mm_tbl := mm_in2 67 rfl rfl
theorem w_se_X3_readInto : Cond.selects yX3_readInto.cls yX3_readInto yX3_readInto ∈ mm_tbl := mm_in2 68 rfl rfl
theorem w_fl_X6_62 : Cond.fieldLink RX6 62 "DepotCharge" "bestIsKnown" "Z" ∈ mm_tbl := mm_in2 23 rfl rfl
theorem w_fl_X6_81 : Cond.fieldLink RX6 81 "DepotCharge$Reader" "fault" "I" ∈ mm_tbl := mm_in1 135 rfl rfl
theorem w_ml_X6_88 : Cond.methodLink RX6 88 yX0_changePrice ∈ mm_tbl := mm_in3 16 rfl rfl
theorem w_ml_X6_84 : Cond.methodLink RX6 84 yX0_changeSetting ∈ mm_tbl := mm_in3 15 rfl rfl
theorem w_fl_X6_94 : Cond.fieldLink RX6 94 "DepotCharge$Depot" "busCount" "I" ∈ mm_tbl := mm_in1 50 rfl rfl
theorem w_ml_X6_97 : Cond.methodLink RX6 97 yX0_addOffered ∈ mm_tbl := mm_in3 22 rfl rfl
theorem w_ml_X6_91 : Cond.methodLink RX6 91 yX0_offer ∈ mm_tbl := mm_in3 21 rfl rfl
theorem w_ml_X6_100 : Cond.methodLink RX6 100 yX0_removeLast ∈ mm_tbl := mm_in3 27 rfl rfl
theorem w_im_X0_removeLast : Cond.instanceMethod yX0_removeLast ∈ mm_tbl := mm_in3 28 rfl rfl
theorem w_se_X0_removeLast : Cond.selects yX0_removeLast.cls yX0_removeLast yX0_removeLast ∈ mm_tbl := mm_in3 29 rfl rfl
theorem w_fl_X6_110 : Cond.fieldLink RX6 110 "DepotCharge$Depot" "sets" "[I" ∈ mm_tbl := mm_in1 62 rfl rfl
theorem w_ml_X6_103 : Cond.methodLink RX6 103 yX0_hasSlot ∈ mm_tbl := mm_in3 35 rfl rfl
theorem w_ml_X6_107 : Cond.methodLink RX6 107 yX0_hasBus ∈ mm_tbl := mm_in3 36 rfl rfl
theorem w_fl_X6_38 : Cond.fieldLink RX6 38 "DepotCharge" "ledger" "LDepotCharge$Ledger;" ∈ mm_tbl := mm_in2 19 rfl rfl
theorem w_ml_X6_113 : Cond.methodLink RX6 113 yX1_weigh ∈ mm_tbl := mm_in3 44 rfl rfl
theorem w_im_X1_weigh : Cond.instanceMethod yX1_weigh ∈ mm_tbl := mm_in3 45 rfl rfl
theorem w_se_X1_weigh : Cond.selects yX1_weigh.cls yX1_weigh yX1_weigh ∈ mm_tbl := mm_in3 46 rfl rfl
theorem w_ml_X6_117 : Cond.methodLink RX6 117 yJ7_fill_53178 ∈ mm_tbl := mm_in3 82 rfl rfl
theorem w_fl_X6_123 : Cond.fieldLink RX6 123 "DepotCharge$Ledger" "charges" "I" ∈ mm_tbl := mm_in1 153 rfl rfl
theorem w_fl_X6_126 : Cond.fieldLink RX6 126 "DepotCharge$Depot" "slotCount" "I" ∈ mm_tbl := mm_in1 42 rfl rfl
theorem w_fl_X6_129 : Cond.fieldLink RX6 129 "DepotCharge$Depot" "curveCount" "I" ∈ mm_tbl := mm_in1 45 rfl rfl
theorem w_fl_X6_132 : Cond.fieldLink RX6 132 "DepotCharge$Depot" "settings" "[I" ∈ mm_tbl := mm_in1 56 rfl rfl
theorem w_fl_X6_135 : Cond.fieldLink RX6 135 "DepotCharge$Depot" "prices" "[I" ∈ mm_tbl := mm_in1 59 rfl rfl
theorem w_ml_X6_149 : Cond.methodLink RX6 149 yX0_hasCurve ∈ mm_tbl := mm_in3 91 rfl rfl
theorem w_im_X0_hasCurve : Cond.instanceMethod yX0_hasCurve ∈ mm_tbl := mm_in3 92 rfl rfl
theorem w_se_X0_hasCurve : Cond.selects yX0_hasCurve.cls yX0_hasCurve yX0_hasCurve ∈ mm_tbl := mm_in3 93 rfl rfl
theorem w_fl_X6_152 : Cond.fieldLink RX6 152 "DepotCharge$Depot" "pieceCounts" "[I" ∈ mm_tbl := mm_in1 66 rfl rfl
theorem w_fl_X6_155 : Cond.fieldLink RX6 155 "DepotCharge$Depot" "froms" "[I" ∈ mm_tbl := mm_in1 68 rfl rfl
theorem w_fl_X6_158 : Cond.fieldLink RX6 158 "DepotCharge$Depot" "rates" "[I" ∈ mm_tbl := mm_in1 70 rfl rfl
theorem w_ml_X6_161 : Cond.methodLink RX6 161 yX0_hasLevel ∈ mm_tbl := mm_in3 99 rfl rfl
theorem w_im_X0_hasLevel : Cond.instanceMethod yX0_hasLevel ∈ mm_tbl := mm_in3 100 rfl rfl
theorem w_se_X0_hasLevel : Cond.selects yX0_hasLevel.cls yX0_hasLevel yX0_hasLevel ∈ mm_tbl := mm_in3 101 rfl rfl
theorem w_ml_X6_164 : Cond.methodLink RX6 164 yX0_gain ∈ mm_tbl := mm_in3 104 rfl rfl
theorem w_ml_X6_145 : Cond.methodLink RX6 145 yX0_fact ∈ mm_tbl := mm_in3 109 rfl rfl
theorem w_ml_X6_168 : Cond.methodLink RX6 168 yX0_fewestCharges ∈ mm_tbl := mm_in3 110 rfl rfl
theorem w_ml_X6_171 : Cond.methodLink RX6 171 yX1_levelAt ∈ mm_tbl := mm_in3 123 rfl rfl
theorem w_fl_X6_174 : Cond.fieldLink RX6 174 "DepotCharge$Ledger" "usedBySlot" "[I" ∈ mm_tbl := mm_in1 149 rfl rfl
theorem w_ml_X6_181 : Cond.methodLink RX6 181 yX1_figure ∈ mm_tbl := mm_in3 143 rfl rfl
theorem w_im_X1_figure : Cond.instanceMethod yX1_figure ∈ mm_tbl := mm_in3 144 rfl rfl
theorem w_se_X1_figure : Cond.selects yX1_figure.cls yX1_figure yX1_figure ∈ mm_tbl := mm_in3 145 rfl rfl
theorem w_ml_X6_177 : Cond.methodLink RX6 177 yX1_wrongness ∈ mm_tbl := mm_in3 132 rfl rfl
theorem w_im_X1_wrongness : Cond.instanceMethod yX1_wrongness ∈ mm_tbl := mm_in3 133 rfl rfl
theorem w_se_X1_wrongness : Cond.selects yX1_wrongness.cls yX1_wrongness yX1_wrongness ∈ mm_tbl := mm_in3 134 rfl rfl
theorem w_ml_X6_185 : Cond.methodLink RX6 185 yX1_lackOf ∈ mm_tbl := mm_in3 151 rfl rfl
theorem w_fl_X6_47 : Cond.fieldLink RX6 47 "DepotCharge" "planner" "LDepotCharge$Planner;" ∈ mm_tbl := mm_in2 20 rfl rfl
theorem w_ml_X6_218 : Cond.methodLink RX6 218 yX2_lookAt ∈ mm_tbl := mm_in3 160 rfl rfl
theorem w_im_X2_lookAt : Cond.instanceMethod yX2_lookAt ∈ mm_tbl := mm_in3 161 rfl rfl
theorem w_se_X2_lookAt : Cond.selects yX2_lookAt.cls yX2_lookAt yX2_lookAt ∈ mm_tbl := mm_in3 162 rfl rfl
theorem w_fl_X6_58 : Cond.fieldLink RX6 58 "DepotCharge" "bestSets" "[I" ∈ mm_tbl := mm_in2 22 rfl rfl
theorem w_ml_X6_241 : Cond.methodLink RX6 241 yX2_findPlan ∈ mm_tbl := mm_in3 166 rfl rfl
theorem w_im_X2_findPlan : Cond.instanceMethod yX2_findPlan ∈ mm_tbl := mm_in3 167 rfl rfl
theorem w_se_X2_findPlan : Cond.selects yX2_findPlan.cls yX2_findPlan yX2_findPlan ∈ mm_tbl := mm_in3 168 rfl rfl
theorem w_ml_X6_189 : Cond.methodLink RX6 189 yX6_findBest ∈ mm_tbl := mm_in3 156 rfl rfl
theorem w_im_X6_findBest : Cond.instanceMethod yX6_findBest ∈ mm_tbl := mm_in3 158 rfl rfl
theorem w_se_X6_findBest : Cond.selects yX6_findBest.cls yX6_findBest yX6_findBest ∈ mm_tbl := mm_in0 17 rfl rfl
theorem w_ml_X6_192 : Cond.methodLink RX6 192 yX6_adopt ∈ mm_tbl := mm_in3 215 rfl rfl
theorem w_im_X6_adopt : Cond.instanceMethod yX6_adopt ∈ mm_tbl := mm_in3 217 rfl rfl
theorem w_se_X6_adopt : Cond.selects yX6_adopt.cls yX6_adopt yX6_adopt ∈ mm_tbl := mm_in0 26 rfl rfl
theorem w_fl_X6_245 : Cond.fieldLink RX6 245 "DepotCharge$Planner" "comes" "[I" ∈ mm_tbl := mm_in1 179 rfl rfl
theorem w_ml_X6_224 : Cond.methodLink RX6 224 yX2_costIfReady ∈ mm_tbl := mm_in3 227 rfl rfl
theorem w_im_X2_costIfReady : Cond.instanceMethod yX2_costIfReady ∈ mm_tbl := mm_in3 228 rfl rfl
theorem w_se_X2_costIfReady : Cond.selects yX2_costIfReady.cls yX2_costIfReady yX2_costIfReady ∈ mm_tbl := mm_in3 229 rfl rfl
theorem w_ml_X6_196 : Cond.methodLink RX6 196 yX6_costIfLate ∈ mm_tbl := mm_in3 223 rfl rfl
theorem w_im_X6_costIfLate : Cond.instanceMethod yX6_costIfLate ∈ mm_tbl := mm_in3 225 rfl rfl
theorem w_se_X6_costIfLate : Cond.selects yX6_costIfLate.cls yX6_costIfLate yX6_costIfLate ∈ mm_tbl := mm_in0 27 rfl rfl
theorem w_fl_X6_248 : Cond.fieldLink RX6 248 "DepotCharge$Planner" "settings" "[I" ∈ mm_tbl := mm_in1 177 rfl rfl
theorem w_ml_X6_199 : Cond.methodLink RX6 199 yX0_settingCanBe ∈ mm_tbl := mm_in3 239 rfl rfl
theorem w_ml_X6_202 : Cond.methodLink RX6 202 yX6_costIfSet ∈ mm_tbl := mm_in4 0 rfl rfl
theorem w_im_X6_costIfSet : Cond.instanceMethod yX6_costIfSet ∈ mm_tbl := mm_in4 2 rfl rfl
theorem w_se_X6_costIfSet : Cond.selects yX6_costIfSet.cls yX6_costIfSet yX6_costIfSet ∈ mm_tbl := mm_in0 28 rfl rfl
theorem w_fl_X6_205 : Cond.fieldLink "DepotCharge" 205 "DepotCharge" "MOST_OF_SETTING" "[I" ∈ mm_tbl := mm_in4 8 rfl rfl
theorem w_ml_X6_208 : Cond.methodLink RX6 208 yX6_firstReady ∈ mm_tbl := mm_in4 9 rfl rfl
theorem w_im_X6_firstReady : Cond.instanceMethod yX6_firstReady ∈ mm_tbl := mm_in4 11 rfl rfl
theorem w_se_X6_firstReady : Cond.selects yX6_firstReady.cls yX6_firstReady yX6_firstReady ∈ mm_tbl := mm_in0 29 rfl rfl
theorem w_ml_X6_211 : Cond.methodLink RX6 211 yX0_topRate ∈ mm_tbl := mm_in4 13 rfl rfl
theorem w_im_X0_topRate : Cond.instanceMethod yX0_topRate ∈ mm_tbl := mm_in4 14 rfl rfl
theorem w_se_X0_topRate : Cond.selects yX0_topRate.cls yX0_topRate yX0_topRate ∈ mm_tbl := mm_in4 15 rfl rfl
theorem w_ml_X6_215 : Cond.methodLink RX6 215 yX6_leastLimit ∈ mm_tbl := mm_in4 17 rfl rfl
theorem w_im_X6_leastLimit : Cond.instanceMethod yX6_leastLimit ∈ mm_tbl := mm_in4 19 rfl rfl
theorem w_se_X6_leastLimit : Cond.selects yX6_leastLimit.cls yX6_leastLimit yX6_leastLimit ∈ mm_tbl := mm_in0 30 rfl rfl
theorem w_fl_X6_221 : Cond.fieldLink RX6 221 "DepotCharge$Planner" "wanted" "I" ∈ mm_tbl := mm_in1 181 rfl rfl
theorem w_ml_X6_227 : Cond.methodLink RX6 227 yX6_isRule ∈ mm_tbl := mm_in4 29 rfl rfl
theorem w_st_X6_isRule : Cond.static yX6_isRule ∈ mm_tbl := mm_in4 30 rfl rfl
theorem w_fl_X6_54 : Cond.fieldLink RX6 54 "DepotCharge" "ruler" "LDepotCharge$Ruler;" ∈ mm_tbl := mm_in2 21 rfl rfl
theorem w_ml_X6_230 : Cond.methodLink RX6 230 yX4_make ∈ mm_tbl := mm_in4 32 rfl rfl
theorem w_im_X4_make : Cond.instanceMethod yX4_make ∈ mm_tbl := mm_in4 33 rfl rfl
theorem w_se_X4_make : Cond.selects yX4_make.cls yX4_make yX4_make ∈ mm_tbl := mm_in4 34 rfl rfl
theorem w_fl_X6_234 : Cond.fieldLink RX6 234 "DepotCharge$Ruler" "sets" "[I" ∈ mm_tbl := mm_in2 5 rfl rfl
theorem w_fl_X6_235 : Cond.fieldLink RX6 235 "DepotCharge$Ledger" "allLack" "I" ∈ mm_tbl := mm_in1 155 rfl rfl
theorem w_fl_X6_238 : Cond.fieldLink RX6 238 "DepotCharge$Ledger" "cost" "I" ∈ mm_tbl := mm_in1 151 rfl rfl
theorem w_fl_X7_56 : Cond.fieldLink RX7 56 "DepotChargeModel" "raised" "I" ∈ mm_tbl := mm_in4 142 rfl rfl
theorem w_fl_X7_7 : Cond.fieldLink RX7 7 "DepotChargeModel" "told" "[I" ∈ mm_tbl := mm_in4 143 rfl rfl
theorem w_ml_X7_60 : Cond.methodLink RX7 60 yX7_in ∈ mm_tbl := mm_in5 0 rfl rfl
theorem w_st_X7_in : Cond.static yX7_in ∈ mm_tbl := mm_in5 1 rfl rfl
theorem w_fl_X7_16 : Cond.fieldLink RX7 16 "DepotChargeModel" "tape" "[I" ∈ mm_tbl := mm_in4 145 rfl rfl
theorem w_fl_X7_64 : Cond.fieldLink RX7 64 "DepotChargeModel" "taped" "I" ∈ mm_tbl := mm_in4 146 rfl rfl
theorem w_ml_X7_67 : Cond.methodLink RX7 67 yX7_four ∈ mm_tbl := mm_in4 232 rfl rfl
theorem w_im_X7_four : Cond.instanceMethod yX7_four ∈ mm_tbl := mm_in4 234 rfl rfl
theorem w_se_X7_four : Cond.selects yX7_four.cls yX7_four yX7_four ∈ mm_tbl := mm_in0 35 rfl rfl
theorem w_fl_X7_71 : Cond.fieldLink RX7 71 "DepotChargeModel" "at" "I" ∈ mm_tbl := mm_in4 148 rfl rfl
theorem w_fl_X7_74 : Cond.fieldLink RX7 74 "DepotChargeModel" "wrong" "I" ∈ mm_tbl := mm_in4 149 rfl rfl
theorem w_ml_X7_77 : Cond.methodLink RX7 77 yX7_here ∈ mm_tbl := mm_in5 15 rfl rfl
theorem w_im_X7_here : Cond.instanceMethod yX7_here ∈ mm_tbl := mm_in5 17 rfl rfl
theorem w_se_X7_here : Cond.selects yX7_here.cls yX7_here yX7_here ∈ mm_tbl := mm_in0 38 rfl rfl
theorem w_fl_X7_89 : Cond.fieldLink RX7 89 "DepotChargeModel" "place" "I" ∈ mm_tbl := mm_in4 151 rfl rfl
theorem w_ml_X7_85 : Cond.methodLink RX7 85 yX7_fails ∈ mm_tbl := mm_in5 23 rfl rfl
theorem w_im_X7_fails : Cond.instanceMethod yX7_fails ∈ mm_tbl := mm_in5 25 rfl rfl
theorem w_se_X7_fails : Cond.selects yX7_fails.cls yX7_fails yX7_fails ∈ mm_tbl := mm_in0 40 rfl rfl
theorem w_fl_X7_92 : Cond.fieldLink RX7 92 "DepotChargeModel" "value" "I" ∈ mm_tbl := mm_in4 150 rfl rfl
theorem w_ml_X7_81 : Cond.methodLink RX7 81 yX7_isNumber ∈ mm_tbl := mm_in5 47 rfl rfl
theorem w_im_X7_isNumber : Cond.instanceMethod yX7_isNumber ∈ mm_tbl := mm_in5 49 rfl rfl
theorem w_se_X7_isNumber : Cond.selects yX7_isNumber.cls yX7_isNumber yX7_isNumber ∈ mm_tbl := mm_in0 45 rfl rfl
theorem w_ml_X7_95 : Cond.methodLink RX7 95 yX7_readPlain ∈ mm_tbl := mm_in5 43 rfl rfl
theorem w_im_X7_readPlain : Cond.instanceMethod yX7_readPlain ∈ mm_tbl := mm_in5 45 rfl rfl
theorem w_se_X7_readPlain : Cond.selects yX7_readPlain.cls yX7_readPlain yX7_readPlain ∈ mm_tbl := mm_in0 44 rfl rfl
theorem w_ml_X7_98 : Cond.methodLink RX7 98 yX7_readNumber ∈ mm_tbl := mm_in5 39 rfl rfl
theorem w_im_X7_readNumber : Cond.instanceMethod yX7_readNumber ∈ mm_tbl := mm_in5 41 rfl rfl
theorem w_se_X7_readNumber : Cond.selects yX7_readNumber.cls yX7_readNumber yX7_readNumber ∈ mm_tbl := mm_in0 43 rfl rfl
theorem w_fl_X7_13 : Cond.fieldLink RX7 13 "DepotChargeModel" "draft" "[I" ∈ mm_tbl := mm_in4 144 rfl rfl
theorem w_cl_X7_105 : Cond.constantLong RX7 105 (-1) ∈ mm_tbl := mm_in5 33 rfl rfl
theorem w_cl_X7_101 : Cond.constantLong RX7 101 27 ∈ mm_tbl := mm_in5 31 rfl rfl
theorem w_cl_X7_103 : Cond.constantLong RX7 103 96 ∈ mm_tbl := mm_in5 32 rfl rfl
theorem w_ml_X7_107 : Cond.methodLink RX7 107 yX7_reads ∈ mm_tbl := mm_in5 56 rfl rfl
theorem w_im_X7_reads : Cond.instanceMethod yX7_reads ∈ mm_tbl := mm_in5 58 rfl rfl
theorem w_se_X7_reads : Cond.selects yX7_reads.cls yX7_reads yX7_reads ∈ mm_tbl := mm_in0 47 rfl rfl
theorem w_ml_X7_110 : Cond.methodLink RX7 110 yX7_has ∈ mm_tbl := mm_in5 78 rfl rfl
theorem w_st_X7_has : Cond.static yX7_has ∈ mm_tbl := mm_in5 79 rfl rfl
theorem w_ml_X7_113 : Cond.methodLink RX7 113 yX7_readWord ∈ mm_tbl := mm_in5 27 rfl rfl
theorem w_im_X7_readWord : Cond.instanceMethod yX7_readWord ∈ mm_tbl := mm_in5 29 rfl rfl
theorem w_se_X7_readWord : Cond.selects yX7_readWord.cls yX7_readWord yX7_readWord ∈ mm_tbl := mm_in0 41 rfl rfl
theorem w_cl_X7_117 : Cond.constantLong RX7 117 10345069 ∈ mm_tbl := mm_in5 34 rfl rfl
theorem w_cl_X7_122 : Cond.constantLong RX7 122 8863997 ∈ mm_tbl := mm_in5 51 rfl rfl
theorem w_cl_X7_127 : Cond.constantLong RX7 127 8754769 ∈ mm_tbl := mm_in5 60 rfl rfl
theorem w_cl_X7_129 : Cond.constantLong RX7 129 8815221 ∈ mm_tbl := mm_in5 61 rfl rfl
theorem w_cl_X7_131 : Cond.constantLong RX7 131 6564179 ∈ mm_tbl := mm_in5 62 rfl rfl
theorem w_cl_X7_133 : Cond.constantLong RX7 133 2021387 ∈ mm_tbl := mm_in5 63 rfl rfl
theorem w_cl_X7_139 : Cond.constantLong RX7 139 2044 ∈ mm_tbl := mm_in5 68 rfl rfl
theorem w_cl_X7_144 : Cond.constantLong RX7 144 47331248 ∈ mm_tbl := mm_in5 73 rfl rfl
theorem w_ml_X7_146 : Cond.methodLink RX7 146 yX7_readCharge ∈ mm_tbl := mm_in5 74 rfl rfl
theorem w_im_X7_readCharge : Cond.instanceMethod yX7_readCharge ∈ mm_tbl := mm_in5 76 rfl rfl
theorem w_se_X7_readCharge : Cond.selects yX7_readCharge.cls yX7_readCharge yX7_readCharge ∈ mm_tbl := mm_in0 50 rfl rfl
theorem w_ml_X7_141 : Cond.methodLink RX7 141 yX7_readBus ∈ mm_tbl := mm_in5 69 rfl rfl
theorem w_im_X7_readBus : Cond.instanceMethod yX7_readBus ∈ mm_tbl := mm_in5 71 rfl rfl
theorem w_se_X7_readBus : Cond.selects yX7_readBus.cls yX7_readBus yX7_readBus ∈ mm_tbl := mm_in0 49 rfl rfl
theorem w_ml_X7_135 : Cond.methodLink RX7 135 yX7_readCurve ∈ mm_tbl := mm_in5 64 rfl rfl
theorem w_im_X7_readCurve : Cond.instanceMethod yX7_readCurve ∈ mm_tbl := mm_in5 66 rfl rfl
theorem w_se_X7_readCurve : Cond.selects yX7_readCurve.cls yX7_readCurve yX7_readCurve ∈ mm_tbl := mm_in0 48 rfl rfl
theorem w_ml_X7_124 : Cond.methodLink RX7 124 yX7_readPrice ∈ mm_tbl := mm_in5 52 rfl rfl
theorem w_im_X7_readPrice : Cond.instanceMethod yX7_readPrice ∈ mm_tbl := mm_in5 54 rfl rfl
theorem w_se_X7_readPrice : Cond.selects yX7_readPrice.cls yX7_readPrice yX7_readPrice ∈ mm_tbl := mm_in0 46 rfl rfl
theorem w_ml_X7_119 : Cond.methodLink RX7 119 yX7_readSlots ∈ mm_tbl := mm_in5 35 rfl rfl
theorem w_im_X7_readSlots : Cond.instanceMethod yX7_readSlots ∈ mm_tbl := mm_in5 37 rfl rfl
theorem w_se_X7_readSlots : Cond.selects yX7_readSlots.cls yX7_readSlots yX7_readSlots ∈ mm_tbl := mm_in0 42 rfl rfl
theorem w_ml_X7_152 : Cond.methodLink RX7 152 yX7_readStatement ∈ mm_tbl := mm_in5 19 rfl rfl
theorem w_im_X7_readStatement : Cond.instanceMethod yX7_readStatement ∈ mm_tbl := mm_in5 21 rfl rfl
theorem w_se_X7_readStatement : Cond.selects yX7_readStatement.cls yX7_readStatement yX7_readStatement ∈ mm_tbl := mm_in0 39 rfl rfl
theorem w_fl_X7_149 : Cond.fieldLink RX7 149 "DepotChargeModel" "statements" "I" ∈ mm_tbl := mm_in4 152 rfl rfl
theorem w_ml_X7_155 : Cond.methodLink RX7 155 yX7_copies ∈ mm_tbl := mm_in5 7 rfl rfl
theorem w_im_X7_copies : Cond.instanceMethod yX7_copies ∈ mm_tbl := mm_in5 9 rfl rfl
theorem w_se_X7_copies : Cond.selects yX7_copies.cls yX7_copies yX7_copies ∈ mm_tbl := mm_in0 36 rfl rfl
theorem w_ml_X7_159 : Cond.methodLink RX7 159 yX7_readText ∈ mm_tbl := mm_in5 11 rfl rfl
theorem w_im_X7_readText : Cond.instanceMethod yX7_readText ∈ mm_tbl := mm_in5 13 rfl rfl
theorem w_se_X7_readText : Cond.selects yX7_readText.cls yX7_readText yX7_readText ∈ mm_tbl := mm_in0 37 rfl rfl
theorem w_fl_X7_162 : Cond.fieldLink RX7 162 "DepotChargeModel" "fault" "I" ∈ mm_tbl := mm_in4 147 rfl rfl
theorem w_ml_X7_165 : Cond.methodLink RX7 165 yX7_mostOf ∈ mm_tbl := mm_in5 89 rfl rfl
theorem w_st_X7_mostOf : Cond.static yX7_mostOf ∈ mm_tbl := mm_in5 90 rfl rfl
theorem w_ml_X7_169 : Cond.methodLink RX7 169 yX7_isSlot ∈ mm_tbl := mm_in5 104 rfl rfl
theorem w_im_X7_isSlot : Cond.instanceMethod yX7_isSlot ∈ mm_tbl := mm_in5 106 rfl rfl
theorem w_se_X7_isSlot : Cond.selects yX7_isSlot.cls yX7_isSlot yX7_isSlot ∈ mm_tbl := mm_in0 51 rfl rfl
theorem w_ml_X7_172 : Cond.methodLink RX7 172 yX7_isBus ∈ mm_tbl := mm_in5 108 rfl rfl
theorem w_im_X7_isBus : Cond.instanceMethod yX7_isBus ∈ mm_tbl := mm_in5 110 rfl rfl
theorem w_se_X7_isBus : Cond.selects yX7_isBus.cls yX7_isBus yX7_isBus ∈ mm_tbl := mm_in0 52 rfl rfl
theorem w_ml_X7_175 : Cond.methodLink RX7 175 yX7_bits ∈ mm_tbl := mm_in5 120 rfl rfl
theorem w_st_X7_bits : Cond.static yX7_bits ∈ mm_tbl := mm_in5 121 rfl rfl
theorem w_ml_X7_178 : Cond.methodLink RX7 178 yX7_chargesOf ∈ mm_tbl := mm_in5 116 rfl rfl
theorem w_im_X7_chargesOf : Cond.instanceMethod yX7_chargesOf ∈ mm_tbl := mm_in5 118 rfl rfl
theorem w_se_X7_chargesOf : Cond.selects yX7_chargesOf.cls yX7_chargesOf yX7_chargesOf ∈ mm_tbl := mm_in0 53 rfl rfl
theorem w_ml_X7_181 : Cond.methodLink RX7 181 yX7_of ∈ mm_tbl := mm_in5 131 rfl rfl
theorem w_im_X7_of : Cond.instanceMethod yX7_of ∈ mm_tbl := mm_in5 133 rfl rfl
theorem w_se_X7_of : Cond.selects yX7_of.cls yX7_of yX7_of ∈ mm_tbl := mm_in0 54 rfl rfl
theorem w_fl_X7_185 : Cond.fieldLink RX7 185 "DepotChargeModel" "power" "I" ∈ mm_tbl := mm_in4 154 rfl rfl
theorem w_ml_X7_188 : Cond.methodLink RX7 188 yX7_less ∈ mm_tbl := mm_in5 151 rfl rfl
theorem w_st_X7_less : Cond.static yX7_less ∈ mm_tbl := mm_in5 152 rfl rfl
theorem w_ml_X7_191 : Cond.methodLink RX7 191 yX7_takesOf ∈ mm_tbl := mm_in5 147 rfl rfl
theorem w_im_X7_takesOf : Cond.instanceMethod yX7_takesOf ∈ mm_tbl := mm_in5 149 rfl rfl
theorem w_se_X7_takesOf : Cond.selects yX7_takesOf.cls yX7_takesOf yX7_takesOf ∈ mm_tbl := mm_in0 56 rfl rfl
theorem w_fl_X7_19 : Cond.fieldLink RX7 19 "DepotChargeModel" "comes" "[I" ∈ mm_tbl := mm_in4 156 rfl rfl
theorem w_fl_X7_201 : Cond.fieldLink RX7 201 "DepotChargeModel" "plugs" "I" ∈ mm_tbl := mm_in4 153 rfl rfl
theorem w_fl_X7_204 : Cond.fieldLink RX7 204 "DepotChargeModel" "limit" "I" ∈ mm_tbl := mm_in4 155 rfl rfl
theorem w_fl_X7_207 : Cond.fieldLink RX7 207 "DepotChargeModel" "some" "I" ∈ mm_tbl := mm_in4 157 rfl rfl
theorem w_ml_X7_194 : Cond.methodLink RX7 194 yX7_asTold ∈ mm_tbl := mm_in5 143 rfl rfl
theorem w_im_X7_asTold : Cond.instanceMethod yX7_asTold ∈ mm_tbl := mm_in5 145 rfl rfl
theorem w_se_X7_asTold : Cond.selects yX7_asTold.cls yX7_asTold yX7_asTold ∈ mm_tbl := mm_in0 55 rfl rfl
theorem w_ml_X7_197 : Cond.methodLink RX7 197 yX7_slotsOf ∈ mm_tbl := mm_in5 158 rfl rfl
theorem w_im_X7_slotsOf : Cond.instanceMethod yX7_slotsOf ∈ mm_tbl := mm_in5 160 rfl rfl
theorem w_se_X7_slotsOf : Cond.selects yX7_slotsOf.cls yX7_slotsOf yX7_slotsOf ∈ mm_tbl := mm_in0 57 rfl rfl
theorem w_fl_X7_25 : Cond.fieldLink RX7 25 "DepotChargeModel" "level" "[I" ∈ mm_tbl := mm_in4 159 rfl rfl
theorem w_fl_X7_28 : Cond.fieldLink RX7 28 "DepotChargeModel" "used" "[I" ∈ mm_tbl := mm_in4 160 rfl rfl
theorem w_fl_X7_22 : Cond.fieldLink RX7 22 "DepotChargeModel" "plan" "[I" ∈ mm_tbl := mm_in4 158 rfl rfl
theorem w_ml_X7_210 : Cond.methodLink RX7 210 yX7_isThere ∈ mm_tbl := mm_in5 178 rfl rfl
theorem w_im_X7_isThere : Cond.instanceMethod yX7_isThere ∈ mm_tbl := mm_in5 180 rfl rfl
theorem w_se_X7_isThere : Cond.selects yX7_isThere.cls yX7_isThere yX7_isThere ∈ mm_tbl := mm_in0 60 rfl rfl
theorem w_ml_X7_213 : Cond.methodLink RX7 213 yX7_goes ∈ mm_tbl := mm_in5 174 rfl rfl
theorem w_im_X7_goes : Cond.instanceMethod yX7_goes ∈ mm_tbl := mm_in5 176 rfl rfl
theorem w_se_X7_goes : Cond.selects yX7_goes.cls yX7_goes yX7_goes ∈ mm_tbl := mm_in0 59 rfl rfl
theorem w_ml_X7_216 : Cond.methodLink RX7 216 yX7_lackOf ∈ mm_tbl := mm_in5 198 rfl rfl
theorem w_im_X7_lackOf : Cond.instanceMethod yX7_lackOf ∈ mm_tbl := mm_in5 200 rfl rfl
theorem w_se_X7_lackOf : Cond.selects yX7_lackOf.cls yX7_lackOf yX7_lackOf ∈ mm_tbl := mm_in0 63 rfl rfl
theorem w_ml_X7_219 : Cond.methodLink RX7 219 yX7_isAllThere ∈ mm_tbl := mm_in5 194 rfl rfl
theorem w_im_X7_isAllThere : Cond.instanceMethod yX7_isAllThere ∈ mm_tbl := mm_in5 196 rfl rfl
theorem w_se_X7_isAllThere : Cond.selects yX7_isAllThere.cls yX7_isAllThere yX7_isAllThere ∈ mm_tbl := mm_in0 62 rfl rfl
theorem w_ml_X7_222 : Cond.methodLink RX7 222 yX7_goesByTold ∈ mm_tbl := mm_in5 170 rfl rfl
theorem w_im_X7_goesByTold : Cond.instanceMethod yX7_goesByTold ∈ mm_tbl := mm_in5 172 rfl rfl
theorem w_se_X7_goesByTold : Cond.selects yX7_goesByTold.cls yX7_goesByTold yX7_goesByTold ∈ mm_tbl := mm_in0 58 rfl rfl
theorem w_ml_X7_228 : Cond.methodLink RX7 228 yX7_sumOf ∈ mm_tbl := mm_in5 202 rfl rfl
theorem w_im_X7_sumOf : Cond.instanceMethod yX7_sumOf ∈ mm_tbl := mm_in5 204 rfl rfl
theorem w_se_X7_sumOf : Cond.selects yX7_sumOf.cls yX7_sumOf yX7_sumOf ∈ mm_tbl := mm_in0 64 rfl rfl
theorem w_ml_X7_225 : Cond.methodLink RX7 225 yX7_wrongOf ∈ mm_tbl := mm_in5 190 rfl rfl
theorem w_im_X7_wrongOf : Cond.instanceMethod yX7_wrongOf ∈ mm_tbl := mm_in5 192 rfl rfl
theorem w_se_X7_wrongOf : Cond.selects yX7_wrongOf.cls yX7_wrongOf yX7_wrongOf ∈ mm_tbl := mm_in0 61 rfl rfl
theorem w_fl_X7_44 : Cond.fieldLink RX7 44 "DepotChargeModel" "full" "[I" ∈ mm_tbl := mm_in4 165 rfl rfl
theorem w_ml_X7_231 : Cond.methodLink RX7 231 yX7_countOf ∈ mm_tbl := mm_in5 226 rfl rfl
theorem w_st_X7_countOf : Cond.static yX7_countOf ∈ mm_tbl := mm_in5 227 rfl rfl
theorem w_fl_X7_32 : Cond.fieldLink RX7 32 "DepotChargeModel" "lacks" "[I" ∈ mm_tbl := mm_in4 161 rfl rfl
theorem w_fl_X7_35 : Cond.fieldLink RX7 35 "DepotChargeModel" "costs" "[I" ∈ mm_tbl := mm_in4 162 rfl rfl
theorem w_fl_X7_38 : Cond.fieldLink RX7 38 "DepotChargeModel" "charges" "[I" ∈ mm_tbl := mm_in4 163 rfl rfl
theorem w_fl_X7_47 : Cond.fieldLink RX7 47 "DepotChargeModel" "step" "[I" ∈ mm_tbl := mm_in4 166 rfl rfl
theorem w_fl_X7_41 : Cond.fieldLink RX7 41 "DepotChargeModel" "sets" "[I" ∈ mm_tbl := mm_in4 164 rfl rfl
theorem w_ml_X7_234 : Cond.methodLink RX7 234 yX7_taken ∈ mm_tbl := mm_in5 237 rfl rfl
theorem w_im_X7_taken : Cond.instanceMethod yX7_taken ∈ mm_tbl := mm_in5 239 rfl rfl
theorem w_se_X7_taken : Cond.selects yX7_taken.cls yX7_taken yX7_taken ∈ mm_tbl := mm_in0 70 rfl rfl
theorem w_ml_X7_237 : Cond.methodLink RX7 237 yX7_behind ∈ mm_tbl := mm_in6 1 rfl rfl
theorem w_im_X7_behind : Cond.instanceMethod yX7_behind ∈ mm_tbl := mm_in6 3 rfl rfl
theorem w_se_X7_behind : Cond.selects yX7_behind.cls yX7_behind yX7_behind ∈ mm_tbl := mm_in0 71 rfl rfl
theorem w_ml_X7_243 : Cond.methodLink RX7 243 yX7_mayBe ∈ mm_tbl := mm_in5 222 rfl rfl
theorem w_im_X7_mayBe : Cond.instanceMethod yX7_mayBe ∈ mm_tbl := mm_in5 224 rfl rfl
theorem w_se_X7_mayBe : Cond.selects yX7_mayBe.cls yX7_mayBe yX7_mayBe ∈ mm_tbl := mm_in0 67 rfl rfl
theorem w_ml_X7_249 : Cond.methodLink RX7 249 yX7_laysSlot ∈ mm_tbl := mm_in5 233 rfl rfl
theorem w_im_X7_laysSlot : Cond.instanceMethod yX7_laysSlot ∈ mm_tbl := mm_in5 235 rfl rfl
theorem w_se_X7_laysSlot : Cond.selects yX7_laysSlot.cls yX7_laysSlot yX7_laysSlot ∈ mm_tbl := mm_in0 69 rfl rfl
theorem w_ml_X7_246 : Cond.methodLink RX7 246 yX7_laysEnd ∈ mm_tbl := mm_in5 229 rfl rfl
theorem w_im_X7_laysEnd : Cond.instanceMethod yX7_laysEnd ∈ mm_tbl := mm_in5 231 rfl rfl
theorem w_se_X7_laysEnd : Cond.selects yX7_laysEnd.cls yX7_laysEnd yX7_laysEnd ∈ mm_tbl := mm_in0 68 rfl rfl
theorem w_ml_X7_240 : Cond.methodLink RX7 240 yX7_laysFull ∈ mm_tbl := mm_in5 218 rfl rfl
theorem w_im_X7_laysFull : Cond.instanceMethod yX7_laysFull ∈ mm_tbl := mm_in5 220 rfl rfl
theorem w_se_X7_laysFull : Cond.selects yX7_laysFull.cls yX7_laysFull yX7_laysFull ∈ mm_tbl := mm_in0 66 rfl rfl
theorem w_ml_X7_253 : Cond.methodLink RX7 253 yX7_finds ∈ mm_tbl := mm_in5 214 rfl rfl
theorem w_im_X7_finds : Cond.instanceMethod yX7_finds ∈ mm_tbl := mm_in5 216 rfl rfl
theorem w_se_X7_finds : Cond.selects yX7_finds.cls yX7_finds yX7_finds ∈ mm_tbl := mm_in0 65 rfl rfl
theorem w_ml_X7_256 : Cond.methodLink RX7 256 yX7_laysBest ∈ mm_tbl := mm_in6 5 rfl rfl
theorem w_im_X7_laysBest : Cond.instanceMethod yX7_laysBest ∈ mm_tbl := mm_in6 7 rfl rfl
theorem w_se_X7_laysBest : Cond.selects yX7_laysBest.cls yX7_laysBest yX7_laysBest ∈ mm_tbl := mm_in0 72 rfl rfl
theorem w_ml_X7_259 : Cond.methodLink RX7 259 yX7_stands ∈ mm_tbl := mm_in6 13 rfl rfl
theorem w_im_X7_stands : Cond.instanceMethod yX7_stands ∈ mm_tbl := mm_in6 15 rfl rfl
theorem w_se_X7_stands : Cond.selects yX7_stands.cls yX7_stands yX7_stands ∈ mm_tbl := mm_in0 73 rfl rfl
theorem w_ml_X7_262 : Cond.methodLink RX7 262 yX7_costNow ∈ mm_tbl := mm_in6 21 rfl rfl
theorem w_im_X7_costNow : Cond.instanceMethod yX7_costNow ∈ mm_tbl := mm_in6 23 rfl rfl
theorem w_se_X7_costNow : Cond.selects yX7_costNow.cls yX7_costNow yX7_costNow ∈ mm_tbl := mm_in0 74 rfl rfl
theorem w_ml_X7_265 : Cond.methodLink RX7 265 yX7_lays ∈ mm_tbl := mm_in6 33 rfl rfl
theorem w_im_X7_lays : Cond.instanceMethod yX7_lays ∈ mm_tbl := mm_in6 35 rfl rfl
theorem w_se_X7_lays : Cond.selects yX7_lays.cls yX7_lays yX7_lays ∈ mm_tbl := mm_in0 75 rfl rfl
theorem w_fl_X7_50 : Cond.fieldLink RX7 50 "DepotChargeModel" "row" "[I" ∈ mm_tbl := mm_in4 167 rfl rfl
theorem w_fl_X7_53 : Cond.fieldLink RX7 53 "DepotChargeModel" "rank" "[I" ∈ mm_tbl := mm_in4 168 rfl rfl
theorem w_ml_X7_268 : Cond.methodLink RX7 268 yX7_rankOf ∈ mm_tbl := mm_in6 57 rfl rfl
theorem w_im_X7_rankOf : Cond.instanceMethod yX7_rankOf ∈ mm_tbl := mm_in6 59 rfl rfl
theorem w_se_X7_rankOf : Cond.selects yX7_rankOf.cls yX7_rankOf yX7_rankOf ∈ mm_tbl := mm_in0 78 rfl rfl
theorem w_ml_X7_271 : Cond.methodLink RX7 271 yX7_setBy ∈ mm_tbl := mm_in6 53 rfl rfl
theorem w_im_X7_setBy : Cond.instanceMethod yX7_setBy ∈ mm_tbl := mm_in6 55 rfl rfl
theorem w_se_X7_setBy : Cond.selects yX7_setBy.cls yX7_setBy yX7_setBy ∈ mm_tbl := mm_in0 77 rfl rfl
theorem w_ml_X7_274 : Cond.methodLink RX7 274 yX7_rules ∈ mm_tbl := mm_in6 49 rfl rfl
theorem w_im_X7_rules : Cond.instanceMethod yX7_rules ∈ mm_tbl := mm_in6 51 rfl rfl
theorem w_se_X7_rules : Cond.selects yX7_rules.cls yX7_rules yX7_rules ∈ mm_tbl := mm_in0 76 rfl rfl
theorem w_ly_X0_0 : u_lay RX0 TX0 0 ∈ mm_tbl := mm_in1 73 rfl rfl
theorem w_ly_X0_1 : u_lay RX0 TX0 1 ∈ mm_tbl := mm_in1 75 rfl rfl
theorem w_ly_X0_2 : u_lay RX0 TX0 2 ∈ mm_tbl := mm_in1 77 rfl rfl
theorem w_ly_X0_3 : u_lay RX0 TX0 3 ∈ mm_tbl := mm_in1 79 rfl rfl
theorem w_ly_X0_4 : u_lay RX0 TX0 4 ∈ mm_tbl := mm_in1 81 rfl rfl
theorem w_ly_X0_5 : u_lay RX0 TX0 5 ∈ mm_tbl := mm_in1 83 rfl rfl
theorem w_ly_X0_6 : u_lay RX0 TX0 6 ∈ mm_tbl := mm_in1 85 rfl rfl
theorem w_ly_X0_7 : u_lay RX0 TX0 7 ∈ mm_tbl := mm_in1 87 rfl rfl
theorem w_ly_X0_8 : u_lay RX0 TX0 8 ∈ mm_tbl := mm_in1 89 rfl rfl
theorem w_ly_X0_9 : u_lay RX0 TX0 9 ∈ mm_tbl := mm_in1 91 rfl rfl
theorem w_ly_X0_10 : u_lay RX0 TX0 10 ∈ mm_tbl := mm_in1 93 rfl rfl
theorem iw0 : ∀ w ∈ u_ws RX0 TX0 11, w ∈ mm_tbl := by
  intro w hw
  obtain ⟨k, hk, rfl⟩ := List.mem_map.mp hw
  have hk := List.mem_range.mp hk
  match k, hk with
  | 0, _ => exact w_ly_X0_0
  | 1, _ => exact w_ly_X0_1
  | 2, _ => exact w_ly_X0_2
  | 3, _ => exact w_ly_X0_3
  | 4, _ => exact w_ly_X0_4
  | 5, _ => exact w_ly_X0_5
  | 6, _ => exact w_ly_X0_6
  | 7, _ => exact w_ly_X0_7
  | 8, _ => exact w_ly_X0_8
  | 9, _ => exact w_ly_X0_9
  | 10, _ => exact w_ly_X0_10
  | k + 11, h => omega
theorem w_ly_X1_0 : u_lay RX1 TX1 0 ∈ mm_tbl := mm_in1 157 rfl rfl
theorem w_ly_X1_1 : u_lay RX1 TX1 1 ∈ mm_tbl := mm_in1 159 rfl rfl
theorem w_ly_X1_2 : u_lay RX1 TX1 2 ∈ mm_tbl := mm_in1 161 rfl rfl
theorem w_ly_X1_3 : u_lay RX1 TX1 3 ∈ mm_tbl := mm_in1 163 rfl rfl
theorem w_ly_X1_4 : u_lay RX1 TX1 4 ∈ mm_tbl := mm_in1 165 rfl rfl
theorem w_ly_X1_5 : u_lay RX1 TX1 5 ∈ mm_tbl := mm_in1 167 rfl rfl
theorem iw1 : ∀ w ∈ u_ws RX1 TX1 6, w ∈ mm_tbl := by
  intro w hw
  obtain ⟨k, hk, rfl⟩ := List.mem_map.mp hw
  have hk := List.mem_range.mp hk
  match k, hk with
  | 0, _ => exact w_ly_X1_0
  | 1, _ => exact w_ly_X1_1
  | 2, _ => exact w_ly_X1_2
  | 3, _ => exact w_ly_X1_3
  | 4, _ => exact w_ly_X1_4
  | 5, _ => exact w_ly_X1_5
  | k + 6, h => omega
theorem w_ly_X2_0 : u_lay RX2 TX2 0 ∈ mm_tbl := mm_in1 198 rfl rfl
theorem w_ly_X2_1 : u_lay RX2 TX2 1 ∈ mm_tbl := mm_in1 200 rfl rfl
theorem w_ly_X2_2 : u_lay RX2 TX2 2 ∈ mm_tbl := mm_in1 202 rfl rfl
theorem w_ly_X2_3 : u_lay RX2 TX2 3 ∈ mm_tbl := mm_in1 204 rfl rfl
theorem w_ly_X2_4 : u_lay RX2 TX2 4 ∈ mm_tbl := mm_in1 206 rfl rfl
theorem w_ly_X2_5 : u_lay RX2 TX2 5 ∈ mm_tbl := mm_in1 208 rfl rfl
theorem w_ly_X2_6 : u_lay RX2 TX2 6 ∈ mm_tbl := mm_in1 210 rfl rfl
theorem w_ly_X2_7 : u_lay RX2 TX2 7 ∈ mm_tbl := mm_in1 212 rfl rfl
theorem w_ly_X2_8 : u_lay RX2 TX2 8 ∈ mm_tbl := mm_in1 214 rfl rfl
theorem w_ly_X2_9 : u_lay RX2 TX2 9 ∈ mm_tbl := mm_in1 216 rfl rfl
theorem w_ly_X2_10 : u_lay RX2 TX2 10 ∈ mm_tbl := mm_in1 218 rfl rfl
theorem w_ly_X2_11 : u_lay RX2 TX2 11 ∈ mm_tbl := mm_in1 220 rfl rfl
theorem w_ly_X2_12 : u_lay RX2 TX2 12 ∈ mm_tbl := mm_in1 222 rfl rfl
theorem w_ly_X2_13 : u_lay RX2 TX2 13 ∈ mm_tbl := mm_in1 224 rfl rfl
theorem w_ly_X2_14 : u_lay RX2 TX2 14 ∈ mm_tbl := mm_in1 226 rfl rfl
theorem w_ly_X2_15 : u_lay RX2 TX2 15 ∈ mm_tbl := mm_in1 228 rfl rfl
theorem w_ly_X2_16 : u_lay RX2 TX2 16 ∈ mm_tbl := mm_in1 230 rfl rfl
theorem w_ly_X2_17 : u_lay RX2 TX2 17 ∈ mm_tbl := mm_in1 232 rfl rfl
theorem w_ly_X2_18 : u_lay RX2 TX2 18 ∈ mm_tbl := mm_in1 234 rfl rfl
theorem iw2 : ∀ w ∈ u_ws RX2 TX2 19, w ∈ mm_tbl := by
  intro w hw
  obtain ⟨k, hk, rfl⟩ := List.mem_map.mp hw
  have hk := List.mem_range.mp hk
  match k, hk with
  | 0, _ => exact w_ly_X2_0
  | 1, _ => exact w_ly_X2_1
  | 2, _ => exact w_ly_X2_2
  | 3, _ => exact w_ly_X2_3
  | 4, _ => exact w_ly_X2_4
  | 5, _ => exact w_ly_X2_5
  | 6, _ => exact w_ly_X2_6
  | 7, _ => exact w_ly_X2_7
  | 8, _ => exact w_ly_X2_8
  | 9, _ => exact w_ly_X2_9
  | 10, _ => exact w_ly_X2_10
  | 11, _ => exact w_ly_X2_11
  | 12, _ => exact w_ly_X2_12
  | 13, _ => exact w_ly_X2_13
  | 14, _ => exact w_ly_X2_14
  | 15, _ => exact w_ly_X2_15
  | 16, _ => exact w_ly_X2_16
  | 17, _ => exact w_ly_X2_17
  | 18, _ => exact w_ly_X2_18
  | k + 19, h => omega
theorem w_ly_X3_0 : u_lay RX3 TX3 0 ∈ mm_tbl := mm_in1 136 rfl rfl
theorem w_ly_X3_1 : u_lay RX3 TX3 1 ∈ mm_tbl := mm_in1 138 rfl rfl
theorem iw3 : ∀ w ∈ u_ws RX3 TX3 2, w ∈ mm_tbl := by
  intro w hw
  obtain ⟨k, hk, rfl⟩ := List.mem_map.mp hw
  have hk := List.mem_range.mp hk
  match k, hk with
  | 0, _ => exact w_ly_X3_0
  | 1, _ => exact w_ly_X3_1
  | k + 2, h => omega
theorem w_ly_X4_0 : u_lay RX4 TX4 0 ∈ mm_tbl := mm_in2 8 rfl rfl
theorem w_ly_X4_1 : u_lay RX4 TX4 1 ∈ mm_tbl := mm_in2 10 rfl rfl
theorem w_ly_X4_2 : u_lay RX4 TX4 2 ∈ mm_tbl := mm_in2 12 rfl rfl
theorem iw4 : ∀ w ∈ u_ws RX4 TX4 3, w ∈ mm_tbl := by
  intro w hw
  obtain ⟨k, hk, rfl⟩ := List.mem_map.mp hw
  have hk := List.mem_range.mp hk
  match k, hk with
  | 0, _ => exact w_ly_X4_0
  | 1, _ => exact w_ly_X4_1
  | 2, _ => exact w_ly_X4_2
  | k + 3, h => omega
theorem w_ly_X5_0 : u_lay RX5 TX5 0 ∈ mm_tbl := mm_in1 113 rfl rfl
theorem w_ly_X5_1 : u_lay RX5 TX5 1 ∈ mm_tbl := mm_in1 115 rfl rfl
theorem w_ly_X5_2 : u_lay RX5 TX5 2 ∈ mm_tbl := mm_in1 117 rfl rfl
theorem w_ly_X5_3 : u_lay RX5 TX5 3 ∈ mm_tbl := mm_in1 119 rfl rfl
theorem w_ly_X5_4 : u_lay RX5 TX5 4 ∈ mm_tbl := mm_in1 121 rfl rfl
theorem w_ly_X5_5 : u_lay RX5 TX5 5 ∈ mm_tbl := mm_in1 123 rfl rfl
theorem iw5 : ∀ w ∈ u_ws RX5 TX5 6, w ∈ mm_tbl := by
  intro w hw
  obtain ⟨k, hk, rfl⟩ := List.mem_map.mp hw
  have hk := List.mem_range.mp hk
  match k, hk with
  | 0, _ => exact w_ly_X5_0
  | 1, _ => exact w_ly_X5_1
  | 2, _ => exact w_ly_X5_2
  | 3, _ => exact w_ly_X5_3
  | 4, _ => exact w_ly_X5_4
  | 5, _ => exact w_ly_X5_5
  | k + 6, h => omega
theorem w_ly_X6_0 : u_lay RX6 TX6 0 ∈ mm_tbl := mm_in2 24 rfl rfl
theorem w_ly_X6_1 : u_lay RX6 TX6 1 ∈ mm_tbl := mm_in2 26 rfl rfl
theorem w_ly_X6_2 : u_lay RX6 TX6 2 ∈ mm_tbl := mm_in2 28 rfl rfl
theorem w_ly_X6_3 : u_lay RX6 TX6 3 ∈ mm_tbl := mm_in2 30 rfl rfl
theorem w_ly_X6_4 : u_lay RX6 TX6 4 ∈ mm_tbl := mm_in2 32 rfl rfl
theorem w_ly_X6_5 : u_lay RX6 TX6 5 ∈ mm_tbl := mm_in2 34 rfl rfl
theorem w_ly_X6_6 : u_lay RX6 TX6 6 ∈ mm_tbl := mm_in2 36 rfl rfl
theorem w_ly_X6_7 : u_lay RX6 TX6 7 ∈ mm_tbl := mm_in2 38 rfl rfl
theorem w_ly_X6_8 : u_lay RX6 TX6 8 ∈ mm_tbl := mm_in2 40 rfl rfl
theorem iw6 : ∀ w ∈ u_ws RX6 TX6 9, w ∈ mm_tbl := by
  intro w hw
  obtain ⟨k, hk, rfl⟩ := List.mem_map.mp hw
  have hk := List.mem_range.mp hk
  match k, hk with
  | 0, _ => exact w_ly_X6_0
  | 1, _ => exact w_ly_X6_1
  | 2, _ => exact w_ly_X6_2
  | 3, _ => exact w_ly_X6_3
  | 4, _ => exact w_ly_X6_4
  | 5, _ => exact w_ly_X6_5
  | 6, _ => exact w_ly_X6_6
  | 7, _ => exact w_ly_X6_7
  | 8, _ => exact w_ly_X6_8
  | k + 9, h => omega
theorem w_ly_X7_0 : u_lay RX7 TX7 0 ∈ mm_tbl := mm_in4 169 rfl rfl
theorem w_ly_X7_1 : u_lay RX7 TX7 1 ∈ mm_tbl := mm_in4 171 rfl rfl
theorem w_ly_X7_2 : u_lay RX7 TX7 2 ∈ mm_tbl := mm_in4 173 rfl rfl
theorem w_ly_X7_3 : u_lay RX7 TX7 3 ∈ mm_tbl := mm_in4 175 rfl rfl
theorem w_ly_X7_4 : u_lay RX7 TX7 4 ∈ mm_tbl := mm_in4 177 rfl rfl
theorem w_ly_X7_5 : u_lay RX7 TX7 5 ∈ mm_tbl := mm_in4 179 rfl rfl
theorem w_ly_X7_6 : u_lay RX7 TX7 6 ∈ mm_tbl := mm_in4 181 rfl rfl
theorem w_ly_X7_7 : u_lay RX7 TX7 7 ∈ mm_tbl := mm_in4 183 rfl rfl
theorem w_ly_X7_8 : u_lay RX7 TX7 8 ∈ mm_tbl := mm_in4 185 rfl rfl
theorem w_ly_X7_9 : u_lay RX7 TX7 9 ∈ mm_tbl := mm_in4 187 rfl rfl
theorem w_ly_X7_10 : u_lay RX7 TX7 10 ∈ mm_tbl := mm_in4 189 rfl rfl
theorem w_ly_X7_11 : u_lay RX7 TX7 11 ∈ mm_tbl := mm_in4 191 rfl rfl
theorem w_ly_X7_12 : u_lay RX7 TX7 12 ∈ mm_tbl := mm_in4 193 rfl rfl
theorem w_ly_X7_13 : u_lay RX7 TX7 13 ∈ mm_tbl := mm_in4 195 rfl rfl
theorem w_ly_X7_14 : u_lay RX7 TX7 14 ∈ mm_tbl := mm_in4 197 rfl rfl
theorem w_ly_X7_15 : u_lay RX7 TX7 15 ∈ mm_tbl := mm_in4 199 rfl rfl
theorem w_ly_X7_16 : u_lay RX7 TX7 16 ∈ mm_tbl := mm_in4 201 rfl rfl
theorem w_ly_X7_17 : u_lay RX7 TX7 17 ∈ mm_tbl := mm_in4 203 rfl rfl
theorem w_ly_X7_18 : u_lay RX7 TX7 18 ∈ mm_tbl := mm_in4 205 rfl rfl
theorem w_ly_X7_19 : u_lay RX7 TX7 19 ∈ mm_tbl := mm_in4 207 rfl rfl
theorem w_ly_X7_20 : u_lay RX7 TX7 20 ∈ mm_tbl := mm_in4 209 rfl rfl
theorem w_ly_X7_21 : u_lay RX7 TX7 21 ∈ mm_tbl := mm_in4 211 rfl rfl
theorem w_ly_X7_22 : u_lay RX7 TX7 22 ∈ mm_tbl := mm_in4 213 rfl rfl
theorem w_ly_X7_23 : u_lay RX7 TX7 23 ∈ mm_tbl := mm_in4 215 rfl rfl
theorem w_ly_X7_24 : u_lay RX7 TX7 24 ∈ mm_tbl := mm_in4 217 rfl rfl
theorem w_ly_X7_25 : u_lay RX7 TX7 25 ∈ mm_tbl := mm_in4 219 rfl rfl
theorem w_ly_X7_26 : u_lay RX7 TX7 26 ∈ mm_tbl := mm_in4 221 rfl rfl
theorem iw7 : ∀ w ∈ u_ws RX7 TX7 27, w ∈ mm_tbl := by
  intro w hw
  obtain ⟨k, hk, rfl⟩ := List.mem_map.mp hw
  have hk := List.mem_range.mp hk
  match k, hk with
  | 0, _ => exact w_ly_X7_0
  | 1, _ => exact w_ly_X7_1
  | 2, _ => exact w_ly_X7_2
  | 3, _ => exact w_ly_X7_3
  | 4, _ => exact w_ly_X7_4
  | 5, _ => exact w_ly_X7_5
  | 6, _ => exact w_ly_X7_6
  | 7, _ => exact w_ly_X7_7
  | 8, _ => exact w_ly_X7_8
  | 9, _ => exact w_ly_X7_9
  | 10, _ => exact w_ly_X7_10
  | 11, _ => exact w_ly_X7_11
  | 12, _ => exact w_ly_X7_12
  | 13, _ => exact w_ly_X7_13
  | 14, _ => exact w_ly_X7_14
  | 15, _ => exact w_ly_X7_15
  | 16, _ => exact w_ly_X7_16
  | 17, _ => exact w_ly_X7_17
  | 18, _ => exact w_ly_X7_18
  | 19, _ => exact w_ly_X7_19
  | 20, _ => exact w_ly_X7_20
  | 21, _ => exact w_ly_X7_21
  | 22, _ => exact w_ly_X7_22
  | 23, _ => exact w_ly_X7_23
  | 24, _ => exact w_ly_X7_24
  | 25, _ => exact w_ly_X7_25
  | 26, _ => exact w_ly_X7_26
  | k + 27, h => omega
theorem w_max1 : Cond.static Lib.Math.max.name ∈ mm_tbl := mm_in3 70 rfl rfl
theorem w_max2 : Cond.code Lib.Math.max.name Lib.Math.max.code 2 (some .int) ∈ mm_tbl := mm_in3 71 rfl rfl
theorem w_min1 : Cond.static Lib.Math.min.name ∈ mm_tbl := mm_in3 73 rfl rfl
theorem w_min2 : Cond.code Lib.Math.min.name Lib.Math.min.code 2 (some .int) ∈ mm_tbl := mm_in3 74 rfl rfl
theorem w_math : Cond.initialized "java/lang/Math" ∈ mm_tbl := mm_in1 15 rfl rfl
theorem w_ac1 : Cond.native arraycopyName ∈ mm_tbl := mm_in2 65 rfl rfl
theorem w_ac2 : Cond.static arraycopyName ∈ mm_tbl := mm_in2 64 rfl rfl
theorem w_sys : Cond.initialized "java/lang/System" ∈ mm_tbl := mm_in1 10 rfl rfl
theorem w_cd_X0_copyFrom : Cond.code yX0_copyFrom cX0_copyFrom 2 none ∈ mm_tbl := mm_in2 62 rfl rfl
theorem w_in_X0 : Cond.initialized RX0 ∈ mm_tbl := mm_in1 2 rfl rfl
theorem w_cd_J7_fill_53178 : Cond.code yJ7_fill_53178 cJ7_fill_53178 4 none ∈ mm_tbl := mm_in1 36 rfl rfl
theorem w_in_J7 : Cond.initialized RJ7 ∈ mm_tbl := mm_in1 3 rfl rfl
theorem w_cd_X0_beginAnew : Cond.code yX0_beginAnew cX0_beginAnew 2 none ∈ mm_tbl := mm_in2 171 rfl rfl
theorem w_cd_X0_hasSlot : Cond.code yX0_hasSlot cX0_hasSlot 2 (some .boolean) ∈ mm_tbl := mm_in2 184 rfl rfl
theorem w_cd_X0_hasBus : Cond.code yX0_hasBus cX0_hasBus 2 (some .boolean) ∈ mm_tbl := mm_in3 39 rfl rfl
theorem w_cd_X0_hasCurve : Cond.code yX0_hasCurve cX0_hasCurve 2 (some .boolean) ∈ mm_tbl := mm_in3 94 rfl rfl
theorem w_cd_X0_fact : Cond.code yX0_fact cX0_fact 3 (some .int) ∈ mm_tbl := mm_in3 51 rfl rfl
theorem w_cd_X0_hasLevel : Cond.code yX0_hasLevel cX0_hasLevel 3 (some .boolean) ∈ mm_tbl := mm_in3 102 rfl rfl
theorem w_cd_X0_isThere : Cond.code yX0_isThere cX0_isThere 3 (some .boolean) ∈ mm_tbl := mm_in3 63 rfl rfl
theorem w_cd_X0_settingCanBe : Cond.code yX0_settingCanBe cX0_settingCanBe 2 (some .boolean) ∈ mm_tbl := mm_in2 198 rfl rfl
theorem w_cd_X0_changeSetting : Cond.code yX0_changeSetting cX0_changeSetting 3 (some .boolean) ∈ mm_tbl := mm_in2 195 rfl rfl
theorem w_cd_X0_changePrice : Cond.code yX0_changePrice cX0_changePrice 3 (some .boolean) ∈ mm_tbl := mm_in2 180 rfl rfl
theorem w_cd_X0_leastOffer : Cond.code yX0_leastOffer cX0_leastOffer 2 (some .int) ∈ mm_tbl := mm_in2 219 rfl rfl
theorem w_cd_X0_mostOffer : Cond.code yX0_mostOffer cX0_mostOffer 2 (some .int) ∈ mm_tbl := mm_in2 223 rfl rfl
theorem w_cd_X0_offer : Cond.code yX0_offer cX0_offer 3 (some .boolean) ∈ mm_tbl := mm_in2 227 rfl rfl
theorem w_cd_X0_addOffered : Cond.code yX0_addOffered cX0_addOffered 1 none ∈ mm_tbl := mm_in2 233 rfl rfl
theorem w_cd_X0_removeLast : Cond.code yX0_removeLast cX0_removeLast 2 none ∈ mm_tbl := mm_in3 30 rfl rfl
theorem w_cd_X0_addPiece : Cond.code yX0_addPiece cX0_addPiece 5 none ∈ mm_tbl := mm_in2 210 rfl rfl
theorem w_cd_X0_gain : Cond.code yX0_gain cX0_gain 8 (some .int) ∈ mm_tbl := mm_in3 68 rfl rfl
theorem w_cd_X0_fewestCharges : Cond.code yX0_fewestCharges cX0_fewestCharges 6 (some .int) ∈ mm_tbl := mm_in3 113 rfl rfl
theorem w_cd_X0_topRate : Cond.code yX0_topRate cX0_topRate 4 (some .int) ∈ mm_tbl := mm_in4 16 rfl rfl
theorem w_cd_X1_levelAt : Cond.code yX1_levelAt cX1_levelAt 3 (some .int) ∈ mm_tbl := mm_in3 59 rfl rfl
theorem w_in_X1 : Cond.initialized RX1 ∈ mm_tbl := mm_in1 6 rfl rfl
theorem w_cd_X1_chargeSlot : Cond.code yX1_chargeSlot cX1_chargeSlot 8 (some .int) ∈ mm_tbl := mm_in3 55 rfl rfl
theorem w_cd_X1_lackOf : Cond.code yX1_lackOf cX1_lackOf 3 (some .int) ∈ mm_tbl := mm_in3 81 rfl rfl
theorem w_cd_X1_weigh : Cond.code yX1_weigh cX1_weigh 4 none ∈ mm_tbl := mm_in3 47 rfl rfl
theorem w_cd_X1_figure : Cond.code yX1_figure cX1_figure 2 (some .int) ∈ mm_tbl := mm_in3 146 rfl rfl
theorem w_cd_X1_holdsAbsent : Cond.code yX1_holdsAbsent cX1_holdsAbsent 4 (some .boolean) ∈ mm_tbl := mm_in3 142 rfl rfl
theorem w_cd_X1_slotIsWrong : Cond.code yX1_slotIsWrong cX1_slotIsWrong 5 (some .boolean) ∈ mm_tbl := mm_in3 139 rfl rfl
theorem w_cd_X1_wrongness : Cond.code yX1_wrongness cX1_wrongness 5 (some .int) ∈ mm_tbl := mm_in3 135 rfl rfl
theorem w_cd_X2_lookAt : Cond.code yX2_lookAt cX2_lookAt 3 none ∈ mm_tbl := mm_in3 163 rfl rfl
theorem w_in_X2 : Cond.initialized RX2 ∈ mm_tbl := mm_in1 7 rfl rfl
theorem w_cd_X2_trace : Cond.code yX2_trace cX2_trace 6 none ∈ mm_tbl := mm_in3 177 rfl rfl
theorem w_cd_X2_traceAll : Cond.code yX2_traceAll cX2_traceAll 4 none ∈ mm_tbl := mm_in3 173 rfl rfl
theorem w_cd_X2_mayBeReady : Cond.code yX2_mayBeReady cX2_mayBeReady 5 (some .boolean) ∈ mm_tbl := mm_in3 183 rfl rfl
theorem w_cd_X2_spread : Cond.code yX2_spread cX2_spread 8 (some .int) ∈ mm_tbl := mm_in3 191 rfl rfl
theorem w_cd_X2_lackHere : Cond.code yX2_lackHere cX2_lackHere 3 (some .int) ∈ mm_tbl := mm_in3 196 rfl rfl
theorem w_cd_X2_nextState : Cond.code yX2_nextState cX2_nextState 2 none ∈ mm_tbl := mm_in3 202 rfl rfl
theorem w_cd_X2_settle : Cond.code yX2_settle cX2_settle 14 none ∈ mm_tbl := mm_in3 206 rfl rfl
theorem w_cd_X2_weighStates : Cond.code yX2_weighStates cX2_weighStates 6 (some .boolean) ∈ mm_tbl := mm_in3 187 rfl rfl
theorem w_cd_X2_costIfReady : Cond.code yX2_costIfReady cX2_costIfReady 1 (some .int) ∈ mm_tbl := mm_in3 230 rfl rfl
theorem w_cd_X2_findPlan : Cond.code yX2_findPlan cX2_findPlan 4 none ∈ mm_tbl := mm_in3 169 rfl rfl
theorem w_cd_X5_isDigit : Cond.code yX5_isDigit cX5_isDigit 2 (some .boolean) ∈ mm_tbl := mm_in2 81 rfl rfl
theorem w_in_X5 : Cond.initialized RX5 ∈ mm_tbl := mm_in1 4 rfl rfl
theorem w_cd_X5_readNumber : Cond.code yX5_readNumber cX5_readNumber 1 none ∈ mm_tbl := mm_in2 85 rfl rfl
theorem w_cd_X5_isLetter : Cond.code yX5_isLetter cX5_isLetter 2 (some .boolean) ∈ mm_tbl := mm_in2 89 rfl rfl
theorem w_cd_X5_readWord : Cond.code yX5_readWord cX5_readWord 1 none ∈ mm_tbl := mm_in2 93 rfl rfl
theorem w_cd_X5_step : Cond.code yX5_step cX5_step 1 none ∈ mm_tbl := mm_in2 77 rfl rfl
theorem w_cd_X5_rewind : Cond.code yX5_rewind cX5_rewind 1 none ∈ mm_tbl := mm_in2 73 rfl rfl
theorem w_cd_X5_isWord : Cond.code yX5_isWord cX5_isWord 3 (some .boolean) ∈ mm_tbl := mm_in2 102 rfl rfl
theorem w_cd_X3_blame : Cond.code yX3_blame cX3_blame 2 none ∈ mm_tbl := mm_in2 167 rfl rfl
theorem w_in_X3 : Cond.initialized RX3 ∈ mm_tbl := mm_in1 5 rfl rfl
theorem w_cd_X3_numberIsWithin : Cond.code yX3_numberIsWithin cX3_numberIsWithin 3 (some .boolean) ∈ mm_tbl := mm_in2 163 rfl rfl
theorem w_cd_X3_readNumber : Cond.code yX3_readNumber cX3_readNumber 4 (some .int) ∈ mm_tbl := mm_in2 159 rfl rfl
theorem w_cd_X3_readSlots : Cond.code yX3_readSlots cX3_readSlots 3 none ∈ mm_tbl := mm_in2 154 rfl rfl
theorem w_cd_X3_readPrice : Cond.code yX3_readPrice cX3_readPrice 4 none ∈ mm_tbl := mm_in2 176 rfl rfl
theorem w_cd_X3_readSetting : Cond.code yX3_readSetting cX3_readSetting 4 none ∈ mm_tbl := mm_in2 189 rfl rfl
theorem w_cd_X3_readCurve : Cond.code yX3_readCurve cX3_readCurve 8 none ∈ mm_tbl := mm_in2 206 rfl rfl
theorem w_cd_X3_readBus : Cond.code yX3_readBus cX3_readBus 4 none ∈ mm_tbl := mm_in2 215 rfl rfl
theorem w_cd_X3_readCharge : Cond.code yX3_readCharge cX3_readCharge 6 none ∈ mm_tbl := mm_in2 238 rfl rfl
theorem w_cd_X5_isSemicolon : Cond.code yX5_isSemicolon cX5_isSemicolon 1 (some .boolean) ∈ mm_tbl := mm_in3 6 rfl rfl
theorem w_cd_X3_readSemicolon : Cond.code yX3_readSemicolon cX3_readSemicolon 1 none ∈ mm_tbl := mm_in3 2 rfl rfl
theorem w_cd_X3_readStatement : Cond.code yX3_readStatement cX3_readStatement 2 none ∈ mm_tbl := mm_in2 97 rfl rfl
theorem w_cd_X3_readInto : Cond.code yX3_readInto cX3_readInto 3 (some .int) ∈ mm_tbl := mm_in2 69 rfl rfl
theorem w_cd_X4_rankOf : Cond.code yX4_rankOf cX4_rankOf 6 (some .int) ∈ mm_tbl := mm_in4 45 rfl rfl
theorem w_in_X4 : Cond.initialized RX4 ∈ mm_tbl := mm_in1 8 rfl rfl
theorem w_cd_X4_firstOf : Cond.code yX4_firstOf cX4_firstOf 4 (some .int) ∈ mm_tbl := mm_in4 51 rfl rfl
theorem w_cd_X4_chargeSlot : Cond.code yX4_chargeSlot cX4_chargeSlot 10 (some .int) ∈ mm_tbl := mm_in4 40 rfl rfl
theorem w_cd_X4_make : Cond.code yX4_make cX4_make 4 none ∈ mm_tbl := mm_in4 35 rfl rfl
theorem w_cd_X5_append : Cond.code yX5_append cX5_append 3 none ∈ mm_tbl := mm_in2 50 rfl rfl
theorem w_cd_X6_feed : Cond.code yX6_feed cX6_feed 6 (some .int) ∈ mm_tbl := mm_in2 46 rfl rfl
theorem w_in_X6 : Cond.initialized RX6 ∈ mm_tbl := mm_in1 1 rfl rfl
theorem w_cd_X6_end : Cond.code yX6_end cX6_end 2 (some .boolean) ∈ mm_tbl := mm_in2 54 rfl rfl
theorem w_cd_X6_tell : Cond.code yX6_tell cX6_tell 3 (some .int) ∈ mm_tbl := mm_in2 58 rfl rfl
theorem w_cd_X6_fault : Cond.code yX6_fault cX6_fault 1 (some .int) ∈ mm_tbl := mm_in3 10 rfl rfl
theorem w_cd_X6_set : Cond.code yX6_set cX6_set 4 (some .boolean) ∈ mm_tbl := mm_in3 14 rfl rfl
theorem w_cd_X6_bus : Cond.code yX6_bus cX6_bus 8 (some .int) ∈ mm_tbl := mm_in3 20 rfl rfl
theorem w_cd_X6_drop : Cond.code yX6_drop cX6_drop 1 (some .int) ∈ mm_tbl := mm_in3 26 rfl rfl
theorem w_cd_X6_charge : Cond.code yX6_charge cX6_charge 5 (some .boolean) ∈ mm_tbl := mm_in3 34 rfl rfl
theorem w_cd_X6_clear : Cond.code yX6_clear cX6_clear 1 (some .int) ∈ mm_tbl := mm_in3 43 rfl rfl
theorem w_cd_X6_count : Cond.code yX6_count cX6_count 2 (some .int) ∈ mm_tbl := mm_in3 86 rfl rfl
theorem w_cd_X6_curve : Cond.code yX6_curve cX6_curve 4 (some .int) ∈ mm_tbl := mm_in3 90 rfl rfl
theorem w_cd_X6_takes : Cond.code yX6_takes cX6_takes 3 (some .int) ∈ mm_tbl := mm_in3 98 rfl rfl
theorem w_cd_X6_slots : Cond.code yX6_slots cX6_slots 4 (some .int) ∈ mm_tbl := mm_in3 108 rfl rfl
theorem w_cd_X6_plan : Cond.code yX6_plan cX6_plan 2 (some .int) ∈ mm_tbl := mm_in3 118 rfl rfl
theorem w_cd_X6_level : Cond.code yX6_level cX6_level 3 (some .int) ∈ mm_tbl := mm_in3 122 rfl rfl
theorem w_cd_X6_used : Cond.code yX6_used cX6_used 2 (some .int) ∈ mm_tbl := mm_in3 127 rfl rfl
theorem w_cd_X6_sum : Cond.code yX6_sum cX6_sum 2 (some .int) ∈ mm_tbl := mm_in3 131 rfl rfl
theorem w_cd_X6_lack : Cond.code yX6_lack cX6_lack 2 (some .int) ∈ mm_tbl := mm_in3 150 rfl rfl
theorem w_cd_X6_findBest : Cond.code yX6_findBest cX6_findBest 1 none ∈ mm_tbl := mm_in3 159 rfl rfl
theorem w_cd_X6_best : Cond.code yX6_best cX6_best 2 (some .int) ∈ mm_tbl := mm_in3 155 rfl rfl
theorem w_cd_X6_adopt : Cond.code yX6_adopt cX6_adopt 3 (some .int) ∈ mm_tbl := mm_in3 218 rfl rfl
theorem w_cd_X6_take : Cond.code yX6_take cX6_take 1 (some .int) ∈ mm_tbl := mm_in3 214 rfl rfl
theorem w_cd_X6_costIfLate : Cond.code yX6_costIfLate cX6_costIfLate 3 (some .int) ∈ mm_tbl := mm_in3 226 rfl rfl
theorem w_cd_X6_late : Cond.code yX6_late cX6_late 3 (some .int) ∈ mm_tbl := mm_in3 222 rfl rfl
theorem w_cd_X6_latest : Cond.code yX6_latest cX6_latest 3 (some .int) ∈ mm_tbl := mm_in3 234 rfl rfl
theorem w_cd_X6_costIfSet : Cond.code yX6_costIfSet cX6_costIfSet 3 (some .int) ∈ mm_tbl := mm_in4 3 rfl rfl
theorem w_cd_X6_were : Cond.code yX6_were cX6_were 3 (some .int) ∈ mm_tbl := mm_in3 238 rfl rfl
theorem w_cd_X6_firstReady : Cond.code yX6_firstReady cX6_firstReady 4 (some .int) ∈ mm_tbl := mm_in4 12 rfl rfl
theorem w_cd_X6_leastLimit : Cond.code yX6_leastLimit cX6_leastLimit 5 (some .int) ∈ mm_tbl := mm_in4 20 rfl rfl
theorem w_cd_X6_least : Cond.code yX6_least cX6_least 2 (some .int) ∈ mm_tbl := mm_in4 7 rfl rfl
theorem w_cd_X6_without : Cond.code yX6_without cX6_without 2 (some .int) ∈ mm_tbl := mm_in4 24 rfl rfl
theorem w_cd_X6_isRule : Cond.code yX6_isRule cX6_isRule 1 (some .boolean) ∈ mm_tbl := mm_in4 31 rfl rfl
theorem w_cd_X6_rule : Cond.code yX6_rule cX6_rule 3 (some .int) ∈ mm_tbl := mm_in4 28 rfl rfl
theorem w_cd_X6_takeRule : Cond.code yX6_takeRule cX6_takeRule 2 (some .int) ∈ mm_tbl := mm_in4 57 rfl rfl
theorem w_cd_X6_bestRule : Cond.code yX6_bestRule cX6_bestRule 6 (some .int) ∈ mm_tbl := mm_in4 61 rfl rfl
theorem w_cd_X7_thrown : Cond.code yX7_thrown cX7_thrown 1 (some .int) ∈ mm_tbl := mm_in4 227 rfl rfl
theorem w_in_X7 : Cond.initialized RX7 ∈ mm_tbl := mm_in1 9 rfl rfl
theorem w_cd_X7_in : Cond.code yX7_in cX7_in 3 (some .boolean) ∈ mm_tbl := mm_in5 2 rfl rfl
theorem w_cd_X7_has : Cond.code yX7_has cX7_has 2 (some .boolean) ∈ mm_tbl := mm_in5 80 rfl rfl
theorem w_cd_X7_bits : Cond.code yX7_bits cX7_bits 3 (some .int) ∈ mm_tbl := mm_in5 122 rfl rfl
theorem w_cd_X7_of : Cond.code yX7_of cX7_of 3 (some .int) ∈ mm_tbl := mm_in5 134 rfl rfl
theorem w_cd_X7_isBus : Cond.code yX7_isBus cX7_isBus 2 (some .boolean) ∈ mm_tbl := mm_in5 111 rfl rfl
theorem w_cd_X7_isSlot : Cond.code yX7_isSlot cX7_isSlot 2 (some .boolean) ∈ mm_tbl := mm_in5 107 rfl rfl
theorem w_cd_X7_four : Cond.code yX7_four cX7_four 3 none ∈ mm_tbl := mm_in4 235 rfl rfl
theorem w_cd_X7_feed : Cond.code yX7_feed cX7_feed 6 (some .int) ∈ mm_tbl := mm_in4 231 rfl rfl
theorem w_cd_X7_end : Cond.code yX7_end cX7_end 2 (some .boolean) ∈ mm_tbl := mm_in4 239 rfl rfl
theorem w_cd_X7_here : Cond.code yX7_here cX7_here 1 (some .int) ∈ mm_tbl := mm_in5 18 rfl rfl
theorem w_cd_X7_fails : Cond.code yX7_fails cX7_fails 3 (some .boolean) ∈ mm_tbl := mm_in5 26 rfl rfl
theorem w_cd_X7_isNumber : Cond.code yX7_isNumber cX7_isNumber 1 (some .boolean) ∈ mm_tbl := mm_in5 50 rfl rfl
theorem w_cd_X7_readPlain : Cond.code yX7_readPlain cX7_readPlain 1 (some .boolean) ∈ mm_tbl := mm_in5 46 rfl rfl
theorem w_cd_X7_readNumber : Cond.code yX7_readNumber cX7_readNumber 3 (some .boolean) ∈ mm_tbl := mm_in5 42 rfl rfl
theorem w_cd_X7_reads : Cond.code yX7_reads cX7_reads 4 (some .boolean) ∈ mm_tbl := mm_in5 59 rfl rfl
theorem w_cd_X7_readWord : Cond.code yX7_readWord cX7_readWord 4 (some .long) ∈ mm_tbl := mm_in5 30 rfl rfl
theorem w_cd_X7_readSlots : Cond.code yX7_readSlots cX7_readSlots 2 (some .boolean) ∈ mm_tbl := mm_in5 38 rfl rfl
theorem w_cd_X7_readPrice : Cond.code yX7_readPrice cX7_readPrice 1 (some .boolean) ∈ mm_tbl := mm_in5 55 rfl rfl
theorem w_cd_X7_readCurve : Cond.code yX7_readCurve cX7_readCurve 6 (some .boolean) ∈ mm_tbl := mm_in5 67 rfl rfl
theorem w_cd_X7_readBus : Cond.code yX7_readBus cX7_readBus 3 (some .boolean) ∈ mm_tbl := mm_in5 72 rfl rfl
theorem w_cd_X7_readCharge : Cond.code yX7_readCharge cX7_readCharge 3 (some .boolean) ∈ mm_tbl := mm_in5 77 rfl rfl
theorem w_cd_X7_readStatement : Cond.code yX7_readStatement cX7_readStatement 4 (some .boolean) ∈ mm_tbl := mm_in5 22 rfl rfl
theorem w_cd_X7_readText : Cond.code yX7_readText cX7_readText 1 (some .boolean) ∈ mm_tbl := mm_in5 14 rfl rfl
theorem w_cd_X7_copies : Cond.code yX7_copies cX7_copies 3 none ∈ mm_tbl := mm_in5 10 rfl rfl
theorem w_cd_X7_tell : Cond.code yX7_tell cX7_tell 2 (some .int) ∈ mm_tbl := mm_in5 6 rfl rfl
theorem w_cd_X7_fault : Cond.code yX7_fault cX7_fault 1 (some .int) ∈ mm_tbl := mm_in5 84 rfl rfl
theorem w_cd_X7_mostOf : Cond.code yX7_mostOf cX7_mostOf 1 (some .int) ∈ mm_tbl := mm_in5 91 rfl rfl
theorem w_cd_X7_set : Cond.code yX7_set cX7_set 5 (some .boolean) ∈ mm_tbl := mm_in5 88 rfl rfl
theorem w_cd_X7_bus : Cond.code yX7_bus cX7_bus 8 (some .int) ∈ mm_tbl := mm_in5 95 rfl rfl
theorem w_cd_X7_drop : Cond.code yX7_drop cX7_drop 2 (some .int) ∈ mm_tbl := mm_in5 99 rfl rfl
theorem w_cd_X7_charge : Cond.code yX7_charge cX7_charge 4 (some .boolean) ∈ mm_tbl := mm_in5 103 rfl rfl
theorem w_cd_X7_chargesOf : Cond.code yX7_chargesOf cX7_chargesOf 3 (some .int) ∈ mm_tbl := mm_in5 119 rfl rfl
theorem w_cd_X7_clear : Cond.code yX7_clear cX7_clear 3 (some .int) ∈ mm_tbl := mm_in5 115 rfl rfl
theorem w_cd_X7_count : Cond.code yX7_count cX7_count 2 (some .int) ∈ mm_tbl := mm_in5 126 rfl rfl
theorem w_cd_X7_told : Cond.code yX7_told cX7_told 3 (some .int) ∈ mm_tbl := mm_in5 130 rfl rfl
theorem w_cd_X7_curve : Cond.code yX7_curve cX7_curve 5 (some .int) ∈ mm_tbl := mm_in5 138 rfl rfl
theorem w_cd_X7_less : Cond.code yX7_less cX7_less 2 (some .int) ∈ mm_tbl := mm_in5 153 rfl rfl
theorem w_cd_X7_takesOf : Cond.code yX7_takesOf cX7_takesOf 5 (some .int) ∈ mm_tbl := mm_in5 150 rfl rfl
theorem w_cd_X7_slotsOf : Cond.code yX7_slotsOf cX7_slotsOf 6 (some .int) ∈ mm_tbl := mm_in5 161 rfl rfl
theorem w_cd_X7_asTold : Cond.code yX7_asTold cX7_asTold 2 none ∈ mm_tbl := mm_in5 146 rfl rfl
theorem w_cd_X7_takes : Cond.code yX7_takes cX7_takes 3 (some .int) ∈ mm_tbl := mm_in5 142 rfl rfl
theorem w_cd_X7_slots : Cond.code yX7_slots cX7_slots 4 (some .int) ∈ mm_tbl := mm_in5 157 rfl rfl
theorem w_cd_X7_isThere : Cond.code yX7_isThere cX7_isThere 3 (some .boolean) ∈ mm_tbl := mm_in5 181 rfl rfl
theorem w_cd_X7_goes : Cond.code yX7_goes cX7_goes 4 none ∈ mm_tbl := mm_in5 177 rfl rfl
theorem w_cd_X7_goesByTold : Cond.code yX7_goesByTold cX7_goesByTold 2 none ∈ mm_tbl := mm_in5 173 rfl rfl
theorem w_cd_X7_lackOf : Cond.code yX7_lackOf cX7_lackOf 3 (some .int) ∈ mm_tbl := mm_in5 201 rfl rfl
theorem w_cd_X7_sumOf : Cond.code yX7_sumOf cX7_sumOf 4 (some .int) ∈ mm_tbl := mm_in5 205 rfl rfl
theorem w_cd_X7_isAllThere : Cond.code yX7_isAllThere cX7_isAllThere 3 (some .boolean) ∈ mm_tbl := mm_in5 197 rfl rfl
theorem w_cd_X7_wrongOf : Cond.code yX7_wrongOf cX7_wrongOf 4 (some .int) ∈ mm_tbl := mm_in5 193 rfl rfl
theorem w_cd_X7_plan : Cond.code yX7_plan cX7_plan 2 (some .int) ∈ mm_tbl := mm_in5 165 rfl rfl
theorem w_cd_X7_level : Cond.code yX7_level cX7_level 3 (some .int) ∈ mm_tbl := mm_in5 169 rfl rfl
theorem w_cd_X7_used : Cond.code yX7_used cX7_used 2 (some .int) ∈ mm_tbl := mm_in5 185 rfl rfl
theorem w_cd_X7_sum : Cond.code yX7_sum cX7_sum 2 (some .int) ∈ mm_tbl := mm_in5 189 rfl rfl
theorem w_cd_X7_lack : Cond.code yX7_lack cX7_lack 2 (some .int) ∈ mm_tbl := mm_in5 209 rfl rfl
theorem w_cd_X7_countOf : Cond.code yX7_countOf cX7_countOf 2 (some .int) ∈ mm_tbl := mm_in5 228 rfl rfl
theorem w_cd_X7_laysFull : Cond.code yX7_laysFull cX7_laysFull 3 none ∈ mm_tbl := mm_in5 221 rfl rfl
theorem w_cd_X7_mayBe : Cond.code yX7_mayBe cX7_mayBe 5 (some .boolean) ∈ mm_tbl := mm_in5 225 rfl rfl
theorem w_cd_X7_laysEnd : Cond.code yX7_laysEnd cX7_laysEnd 5 none ∈ mm_tbl := mm_in5 232 rfl rfl
theorem w_cd_X7_taken : Cond.code yX7_taken cX7_taken 7 (some .int) ∈ mm_tbl := mm_in6 0 rfl rfl
theorem w_cd_X7_behind : Cond.code yX7_behind cX7_behind 5 (some .int) ∈ mm_tbl := mm_in6 4 rfl rfl
theorem w_cd_X7_laysSlot : Cond.code yX7_laysSlot cX7_laysSlot 11 none ∈ mm_tbl := mm_in5 236 rfl rfl
theorem w_cd_X7_finds : Cond.code yX7_finds cX7_finds 3 none ∈ mm_tbl := mm_in5 217 rfl rfl
theorem w_cd_X7_laysBest : Cond.code yX7_laysBest cX7_laysBest 3 none ∈ mm_tbl := mm_in6 8 rfl rfl
theorem w_cd_X7_costNow : Cond.code yX7_costNow cX7_costNow 1 (some .int) ∈ mm_tbl := mm_in6 24 rfl rfl
theorem w_cd_X7_best : Cond.code yX7_best cX7_best 2 (some .int) ∈ mm_tbl := mm_in5 213 rfl rfl
theorem w_cd_X7_stands : Cond.code yX7_stands cX7_stands 2 (some .int) ∈ mm_tbl := mm_in6 16 rfl rfl
theorem w_cd_X7_take : Cond.code yX7_take cX7_take 1 (some .int) ∈ mm_tbl := mm_in6 12 rfl rfl
theorem w_cd_X7_late : Cond.code yX7_late cX7_late 3 (some .int) ∈ mm_tbl := mm_in6 20 rfl rfl
theorem w_cd_X7_latest : Cond.code yX7_latest cX7_latest 3 (some .int) ∈ mm_tbl := mm_in6 28 rfl rfl
theorem w_cd_X7_lays : Cond.code yX7_lays cX7_lays 3 none ∈ mm_tbl := mm_in6 36 rfl rfl
theorem w_cd_X7_were : Cond.code yX7_were cX7_were 3 (some .int) ∈ mm_tbl := mm_in6 32 rfl rfl
theorem w_cd_X7_least : Cond.code yX7_least cX7_least 3 (some .int) ∈ mm_tbl := mm_in6 40 rfl rfl
theorem w_cd_X7_without : Cond.code yX7_without cX7_without 2 (some .int) ∈ mm_tbl := mm_in6 44 rfl rfl
theorem w_cd_X7_rankOf : Cond.code yX7_rankOf cX7_rankOf 5 (some .int) ∈ mm_tbl := mm_in6 60 rfl rfl
theorem w_cd_X7_setBy : Cond.code yX7_setBy cX7_setBy 8 (some .int) ∈ mm_tbl := mm_in6 56 rfl rfl
theorem w_cd_X7_rules : Cond.code yX7_rules cX7_rules 3 none ∈ mm_tbl := mm_in6 52 rfl rfl
theorem w_cd_X7_rule : Cond.code yX7_rule cX7_rule 3 (some .int) ∈ mm_tbl := mm_in6 48 rfl rfl
theorem w_cd_X7_takeRule : Cond.code yX7_takeRule cX7_takeRule 2 (some .int) ∈ mm_tbl := mm_in6 64 rfl rfl
theorem w_cd_X7_bestRule : Cond.code yX7_bestRule cX7_bestRule 5 (some .int) ∈ mm_tbl := mm_in6 68 rfl rfl
theorem q0_copyFrom : mm_cl (yX0_copyFrom, cX0_copyFrom, 2, none, 1) 1 := ⟨w_cd_X0_copyFrom, w_in_X0, by decide +kernel, by decide, by decide⟩
theorem qJ_fill_53178 : mm_cl (yJ7_fill_53178, cJ7_fill_53178, 4, none, 0) 2 := ⟨w_cd_J7_fill_53178, w_in_J7, by decide +kernel, by decide, by decide⟩
theorem q0_beginAnew : mm_cl (yX0_beginAnew, cX0_beginAnew, 2, none, 1) 1 := ⟨w_cd_X0_beginAnew, w_in_X0, by decide +kernel, by decide, by decide⟩
theorem q0_hasSlot : mm_cl (yX0_hasSlot, cX0_hasSlot, 2, (some .boolean), 0) 1 := ⟨w_cd_X0_hasSlot, w_in_X0, by decide +kernel, by decide, by decide⟩
theorem q0_hasBus : mm_cl (yX0_hasBus, cX0_hasBus, 2, (some .boolean), 0) 1 := ⟨w_cd_X0_hasBus, w_in_X0, by decide +kernel, by decide, by decide⟩
theorem q0_hasCurve : mm_cl (yX0_hasCurve, cX0_hasCurve, 2, (some .boolean), 0) 1 := ⟨w_cd_X0_hasCurve, w_in_X0, by decide +kernel, by decide, by decide⟩
theorem q0_fact : mm_cl (yX0_fact, cX0_fact, 3, (some .int), 0) 2 := ⟨w_cd_X0_fact, w_in_X0, by decide +kernel, by decide, by decide⟩
theorem q0_hasLevel : mm_cl (yX0_hasLevel, cX0_hasLevel, 3, (some .boolean), 1) 2 := ⟨w_cd_X0_hasLevel, w_in_X0, by decide +kernel, by decide, by decide⟩
theorem q0_isThere : mm_cl (yX0_isThere, cX0_isThere, 3, (some .boolean), 1) 2 := ⟨w_cd_X0_isThere, w_in_X0, by decide +kernel, by decide, by decide⟩
theorem q0_settingCanBe : mm_cl (yX0_settingCanBe, cX0_settingCanBe, 2, (some .boolean), 0) 2 := ⟨w_cd_X0_settingCanBe, w_in_X0, by decide +kernel, by decide, by decide⟩
theorem q0_changeSetting : mm_cl (yX0_changeSetting, cX0_changeSetting, 3, (some .boolean), 1) 2 := ⟨w_cd_X0_changeSetting, w_in_X0, by decide +kernel, by decide, by decide⟩
theorem q0_changePrice : mm_cl (yX0_changePrice, cX0_changePrice, 3, (some .boolean), 1) 2 := ⟨w_cd_X0_changePrice, w_in_X0, by decide +kernel, by decide, by decide⟩
theorem q0_leastOffer : mm_cl (yX0_leastOffer, cX0_leastOffer, 2, (some .int), 0) 1 := ⟨w_cd_X0_leastOffer, w_in_X0, by decide +kernel, by decide, by decide⟩
theorem q0_mostOffer : mm_cl (yX0_mostOffer, cX0_mostOffer, 2, (some .int), 0) 1 := ⟨w_cd_X0_mostOffer, w_in_X0, by decide +kernel, by decide, by decide⟩
theorem q0_offer : mm_cl (yX0_offer, cX0_offer, 3, (some .boolean), 1) 2 := ⟨w_cd_X0_offer, w_in_X0, by decide +kernel, by decide, by decide⟩
theorem q0_addOffered : mm_cl (yX0_addOffered, cX0_addOffered, 1, none, 1) 0 := ⟨w_cd_X0_addOffered, w_in_X0, by decide +kernel, by decide, by decide⟩
theorem q0_removeLast : mm_cl (yX0_removeLast, cX0_removeLast, 2, none, 0) 0 := ⟨w_cd_X0_removeLast, w_in_X0, by decide +kernel, by decide, by decide⟩
theorem q0_addPiece : mm_cl (yX0_addPiece, cX0_addPiece, 5, none, 0) 3 := ⟨w_cd_X0_addPiece, w_in_X0, by decide +kernel, by decide, by decide⟩
theorem q0_gain : mm_cl (yX0_gain, cX0_gain, 8, (some .int), 1) 3 := ⟨w_cd_X0_gain, w_in_X0, by decide +kernel, by decide, by decide⟩
theorem q0_fewestCharges : mm_cl (yX0_fewestCharges, cX0_fewestCharges, 6, (some .int), 2) 3 := ⟨w_cd_X0_fewestCharges, w_in_X0, by decide +kernel, by decide, by decide⟩
theorem q0_topRate : mm_cl (yX0_topRate, cX0_topRate, 4, (some .int), 1) 0 := ⟨w_cd_X0_topRate, w_in_X0, by decide +kernel, by decide, by decide⟩
theorem q1_levelAt : mm_cl (yX1_levelAt, cX1_levelAt, 3, (some .int), 0) 2 := ⟨w_cd_X1_levelAt, w_in_X1, by decide +kernel, by decide, by decide⟩
theorem q1_chargeSlot : mm_cl (yX1_chargeSlot, cX1_chargeSlot, 8, (some .int), 2) 3 := ⟨w_cd_X1_chargeSlot, w_in_X1, by decide +kernel, by decide, by decide⟩
theorem q1_lackOf : mm_cl (yX1_lackOf, cX1_lackOf, 3, (some .int), 1) 2 := ⟨w_cd_X1_lackOf, w_in_X1, by decide +kernel, by decide, by decide⟩
theorem q1_weigh : mm_cl (yX1_weigh, cX1_weigh, 4, none, 3) 2 := ⟨w_cd_X1_weigh, w_in_X1, by decide +kernel, by decide, by decide⟩
theorem q1_figure : mm_cl (yX1_figure, cX1_figure, 2, (some .int), 0) 1 := ⟨w_cd_X1_figure, w_in_X1, by decide +kernel, by decide, by decide⟩
theorem q1_holdsAbsent : mm_cl (yX1_holdsAbsent, cX1_holdsAbsent, 4, (some .boolean), 2) 3 := ⟨w_cd_X1_holdsAbsent, w_in_X1, by decide +kernel, by decide, by decide⟩
theorem q1_slotIsWrong : mm_cl (yX1_slotIsWrong, cX1_slotIsWrong, 5, (some .boolean), 3) 4 := ⟨w_cd_X1_slotIsWrong, w_in_X1, by decide +kernel, by decide, by decide⟩
theorem q1_wrongness : mm_cl (yX1_wrongness, cX1_wrongness, 5, (some .int), 4) 2 := ⟨w_cd_X1_wrongness, w_in_X1, by decide +kernel, by decide, by decide⟩
theorem q2_lookAt : mm_cl (yX2_lookAt, cX2_lookAt, 3, none, 1) 1 := ⟨w_cd_X2_lookAt, w_in_X2, by decide +kernel, by decide, by decide⟩
theorem q2_trace : mm_cl (yX2_trace, cX2_trace, 6, none, 2) 1 := ⟨w_cd_X2_trace, w_in_X2, by decide +kernel, by decide, by decide⟩
theorem q2_traceAll : mm_cl (yX2_traceAll, cX2_traceAll, 4, none, 3) 0 := ⟨w_cd_X2_traceAll, w_in_X2, by decide +kernel, by decide, by decide⟩
theorem q2_mayBeReady : mm_cl (yX2_mayBeReady, cX2_mayBeReady, 5, (some .boolean), 0) 0 := ⟨w_cd_X2_mayBeReady, w_in_X2, by decide +kernel, by decide, by decide⟩
theorem q2_spread : mm_cl (yX2_spread, cX2_spread, 8, (some .int), 1) 2 := ⟨w_cd_X2_spread, w_in_X2, by decide +kernel, by decide, by decide⟩
theorem q2_lackHere : mm_cl (yX2_lackHere, cX2_lackHere, 3, (some .int), 0) 0 := ⟨w_cd_X2_lackHere, w_in_X2, by decide +kernel, by decide, by decide⟩
theorem q2_nextState : mm_cl (yX2_nextState, cX2_nextState, 2, none, 0) 0 := ⟨w_cd_X2_nextState, w_in_X2, by decide +kernel, by decide, by decide⟩
theorem q2_settle : mm_cl (yX2_settle, cX2_settle, 14, none, 0) 1 := ⟨w_cd_X2_settle, w_in_X2, by decide +kernel, by decide, by decide⟩
theorem q2_weighStates : mm_cl (yX2_weighStates, cX2_weighStates, 6, (some .boolean), 2) 1 := ⟨w_cd_X2_weighStates, w_in_X2, by decide +kernel, by decide, by decide⟩
theorem q2_costIfReady : mm_cl (yX2_costIfReady, cX2_costIfReady, 1, (some .int), 4) 0 := ⟨w_cd_X2_costIfReady, w_in_X2, by decide +kernel, by decide, by decide⟩
theorem q2_findPlan : mm_cl (yX2_findPlan, cX2_findPlan, 4, none, 4) 1 := ⟨w_cd_X2_findPlan, w_in_X2, by decide +kernel, by decide, by decide⟩
theorem q5_isDigit : mm_cl (yX5_isDigit, cX5_isDigit, 2, (some .boolean), 0) 1 := ⟨w_cd_X5_isDigit, w_in_X5, by decide +kernel, by decide, by decide⟩
theorem q5_readNumber : mm_cl (yX5_readNumber, cX5_readNumber, 1, none, 1) 0 := ⟨w_cd_X5_readNumber, w_in_X5, by decide +kernel, by decide, by decide⟩
theorem q5_isLetter : mm_cl (yX5_isLetter, cX5_isLetter, 2, (some .boolean), 0) 1 := ⟨w_cd_X5_isLetter, w_in_X5, by decide +kernel, by decide, by decide⟩
theorem q5_readWord : mm_cl (yX5_readWord, cX5_readWord, 1, none, 1) 0 := ⟨w_cd_X5_readWord, w_in_X5, by decide +kernel, by decide, by decide⟩
theorem q5_step : mm_cl (yX5_step, cX5_step, 1, none, 2) 0 := ⟨w_cd_X5_step, w_in_X5, by decide +kernel, by decide, by decide⟩
theorem q5_rewind : mm_cl (yX5_rewind, cX5_rewind, 1, none, 3) 0 := ⟨w_cd_X5_rewind, w_in_X5, by decide +kernel, by decide, by decide⟩
theorem q5_isWord : mm_cl (yX5_isWord, cX5_isWord, 3, (some .boolean), 4) 1 := ⟨w_cd_X5_isWord, w_in_X5, by decide +kernel, by decide, by decide⟩
theorem q3_blame : mm_cl (yX3_blame, cX3_blame, 2, none, 0) 1 := ⟨w_cd_X3_blame, w_in_X3, by decide +kernel, by decide, by decide⟩
theorem q3_numberIsWithin : mm_cl (yX3_numberIsWithin, cX3_numberIsWithin, 3, (some .boolean), 1) 2 := ⟨w_cd_X3_numberIsWithin, w_in_X3, by decide +kernel, by decide, by decide⟩
theorem q3_readNumber : mm_cl (yX3_readNumber, cX3_readNumber, 4, (some .int), 3) 2 := ⟨w_cd_X3_readNumber, w_in_X3, by decide +kernel, by decide, by decide⟩
theorem q3_readSlots : mm_cl (yX3_readSlots, cX3_readSlots, 3, none, 4) 1 := ⟨w_cd_X3_readSlots, w_in_X3, by decide +kernel, by decide, by decide⟩
theorem q3_readPrice : mm_cl (yX3_readPrice, cX3_readPrice, 4, none, 4) 1 := ⟨w_cd_X3_readPrice, w_in_X3, by decide +kernel, by decide, by decide⟩
theorem q3_readSetting : mm_cl (yX3_readSetting, cX3_readSetting, 4, none, 4) 2 := ⟨w_cd_X3_readSetting, w_in_X3, by decide +kernel, by decide, by decide⟩
theorem q3_readCurve : mm_cl (yX3_readCurve, cX3_readCurve, 8, none, 4) 1 := ⟨w_cd_X3_readCurve, w_in_X3, by decide +kernel, by decide, by decide⟩
theorem q3_readBus : mm_cl (yX3_readBus, cX3_readBus, 4, none, 4) 1 := ⟨w_cd_X3_readBus, w_in_X3, by decide +kernel, by decide, by decide⟩
theorem q3_readCharge : mm_cl (yX3_readCharge, cX3_readCharge, 6, none, 4) 1 := ⟨w_cd_X3_readCharge, w_in_X3, by decide +kernel, by decide, by decide⟩
theorem q5_isSemicolon : mm_cl (yX5_isSemicolon, cX5_isSemicolon, 1, (some .boolean), 0) 0 := ⟨w_cd_X5_isSemicolon, w_in_X5, by decide +kernel, by decide, by decide⟩
theorem q3_readSemicolon : mm_cl (yX3_readSemicolon, cX3_readSemicolon, 1, none, 3) 0 := ⟨w_cd_X3_readSemicolon, w_in_X3, by decide +kernel, by decide, by decide⟩
theorem q3_readStatement : mm_cl (yX3_readStatement, cX3_readStatement, 2, none, 5) 1 := ⟨w_cd_X3_readStatement, w_in_X3, by decide +kernel, by decide, by decide⟩
theorem q3_readInto : mm_cl (yX3_readInto, cX3_readInto, 3, (some .int), 6) 1 := ⟨w_cd_X3_readInto, w_in_X3, by decide +kernel, by decide, by decide⟩
theorem q4_rankOf : mm_cl (yX4_rankOf, cX4_rankOf, 6, (some .int), 3) 4 := ⟨w_cd_X4_rankOf, w_in_X4, by decide +kernel, by decide, by decide⟩
theorem q4_firstOf : mm_cl (yX4_firstOf, cX4_firstOf, 4, (some .int), 0) 1 := ⟨w_cd_X4_firstOf, w_in_X4, by decide +kernel, by decide, by decide⟩
theorem q4_chargeSlot : mm_cl (yX4_chargeSlot, cX4_chargeSlot, 10, (some .int), 4) 3 := ⟨w_cd_X4_chargeSlot, w_in_X4, by decide +kernel, by decide, by decide⟩
theorem q4_make : mm_cl (yX4_make, cX4_make, 4, none, 5) 2 := ⟨w_cd_X4_make, w_in_X4, by decide +kernel, by decide, by decide⟩
theorem q5_append : mm_cl (yX5_append, cX5_append, 3, none, 0) 1 := ⟨w_cd_X5_append, w_in_X5, by decide +kernel, by decide, by decide⟩
theorem q6_feed : mm_cl (yX6_feed, cX6_feed, 6, (some .int), 1) 5 := ⟨w_cd_X6_feed, w_in_X6, by decide +kernel, by decide, by decide⟩
theorem q6_end : mm_cl (yX6_end, cX6_end, 2, (some .boolean), 0) 1 := ⟨w_cd_X6_end, w_in_X6, by decide +kernel, by decide, by decide⟩
theorem q6_tell : mm_cl (yX6_tell, cX6_tell, 3, (some .int), 7) 0 := ⟨w_cd_X6_tell, w_in_X6, by decide +kernel, by decide, by decide⟩
theorem q6_fault : mm_cl (yX6_fault, cX6_fault, 1, (some .int), 0) 0 := ⟨w_cd_X6_fault, w_in_X6, by decide +kernel, by decide, by decide⟩
theorem q6_set : mm_cl (yX6_set, cX6_set, 4, (some .boolean), 2) 2 := ⟨w_cd_X6_set, w_in_X6, by decide +kernel, by decide, by decide⟩
theorem q6_bus : mm_cl (yX6_bus, cX6_bus, 8, (some .int), 2) 6 := ⟨w_cd_X6_bus, w_in_X6, by decide +kernel, by decide, by decide⟩
theorem q6_drop : mm_cl (yX6_drop, cX6_drop, 1, (some .int), 1) 0 := ⟨w_cd_X6_drop, w_in_X6, by decide +kernel, by decide, by decide⟩
theorem q6_charge : mm_cl (yX6_charge, cX6_charge, 5, (some .boolean), 1) 3 := ⟨w_cd_X6_charge, w_in_X6, by decide +kernel, by decide, by decide⟩
theorem q6_clear : mm_cl (yX6_clear, cX6_clear, 1, (some .int), 4) 0 := ⟨w_cd_X6_clear, w_in_X6, by decide +kernel, by decide, by decide⟩
theorem q6_count : mm_cl (yX6_count, cX6_count, 2, (some .int), 1) 1 := ⟨w_cd_X6_count, w_in_X6, by decide +kernel, by decide, by decide⟩
theorem q6_curve : mm_cl (yX6_curve, cX6_curve, 4, (some .int), 1) 3 := ⟨w_cd_X6_curve, w_in_X6, by decide +kernel, by decide, by decide⟩
theorem q6_takes : mm_cl (yX6_takes, cX6_takes, 3, (some .int), 2) 2 := ⟨w_cd_X6_takes, w_in_X6, by decide +kernel, by decide, by decide⟩
theorem q6_slots : mm_cl (yX6_slots, cX6_slots, 4, (some .int), 3) 3 := ⟨w_cd_X6_slots, w_in_X6, by decide +kernel, by decide, by decide⟩
theorem q6_plan : mm_cl (yX6_plan, cX6_plan, 2, (some .int), 1) 1 := ⟨w_cd_X6_plan, w_in_X6, by decide +kernel, by decide, by decide⟩
theorem q6_level : mm_cl (yX6_level, cX6_level, 3, (some .int), 4) 2 := ⟨w_cd_X6_level, w_in_X6, by decide +kernel, by decide, by decide⟩
theorem q6_used : mm_cl (yX6_used, cX6_used, 2, (some .int), 4) 1 := ⟨w_cd_X6_used, w_in_X6, by decide +kernel, by decide, by decide⟩
theorem q6_sum : mm_cl (yX6_sum, cX6_sum, 2, (some .int), 5) 1 := ⟨w_cd_X6_sum, w_in_X6, by decide +kernel, by decide, by decide⟩
theorem q6_lack : mm_cl (yX6_lack, cX6_lack, 2, (some .int), 4) 1 := ⟨w_cd_X6_lack, w_in_X6, by decide +kernel, by decide, by decide⟩
theorem q6_findBest : mm_cl (yX6_findBest, cX6_findBest, 1, none, 5) 0 := ⟨w_cd_X6_findBest, w_in_X6, by decide +kernel, by decide, by decide⟩
theorem q6_best : mm_cl (yX6_best, cX6_best, 2, (some .int), 6) 1 := ⟨w_cd_X6_best, w_in_X6, by decide +kernel, by decide, by decide⟩
theorem q6_adopt : mm_cl (yX6_adopt, cX6_adopt, 3, (some .int), 4) 1 := ⟨w_cd_X6_adopt, w_in_X6, by decide +kernel, by decide, by decide⟩
theorem q6_take : mm_cl (yX6_take, cX6_take, 1, (some .int), 6) 0 := ⟨w_cd_X6_take, w_in_X6, by decide +kernel, by decide, by decide⟩
theorem q6_costIfLate : mm_cl (yX6_costIfLate, cX6_costIfLate, 3, (some .int), 5) 2 := ⟨w_cd_X6_costIfLate, w_in_X6, by decide +kernel, by decide, by decide⟩
theorem q6_late : mm_cl (yX6_late, cX6_late, 3, (some .int), 6) 2 := ⟨w_cd_X6_late, w_in_X6, by decide +kernel, by decide, by decide⟩
theorem q6_latest : mm_cl (yX6_latest, cX6_latest, 3, (some .int), 6) 1 := ⟨w_cd_X6_latest, w_in_X6, by decide +kernel, by decide, by decide⟩
theorem q6_costIfSet : mm_cl (yX6_costIfSet, cX6_costIfSet, 3, (some .int), 5) 2 := ⟨w_cd_X6_costIfSet, w_in_X6, by decide +kernel, by decide, by decide⟩
theorem q6_were : mm_cl (yX6_were, cX6_were, 3, (some .int), 6) 2 := ⟨w_cd_X6_were, w_in_X6, by decide +kernel, by decide, by decide⟩
theorem q6_firstReady : mm_cl (yX6_firstReady, cX6_firstReady, 4, (some .int), 6) 2 := ⟨w_cd_X6_firstReady, w_in_X6, by decide +kernel, by decide, by decide⟩
theorem q6_leastLimit : mm_cl (yX6_leastLimit, cX6_leastLimit, 5, (some .int), 6) 0 := ⟨w_cd_X6_leastLimit, w_in_X6, by decide +kernel, by decide, by decide⟩
theorem q6_least : mm_cl (yX6_least, cX6_least, 2, (some .int), 7) 1 := ⟨w_cd_X6_least, w_in_X6, by decide +kernel, by decide, by decide⟩
theorem q6_without : mm_cl (yX6_without, cX6_without, 2, (some .int), 5) 1 := ⟨w_cd_X6_without, w_in_X6, by decide +kernel, by decide, by decide⟩
theorem q6_isRule : mm_cl (yX6_isRule, cX6_isRule, 1, (some .boolean), 0) 1 := ⟨w_cd_X6_isRule, w_in_X6, by decide +kernel, by decide, by decide⟩
theorem q6_rule : mm_cl (yX6_rule, cX6_rule, 3, (some .int), 6) 2 := ⟨w_cd_X6_rule, w_in_X6, by decide +kernel, by decide, by decide⟩
theorem q6_takeRule : mm_cl (yX6_takeRule, cX6_takeRule, 2, (some .int), 6) 1 := ⟨w_cd_X6_takeRule, w_in_X6, by decide +kernel, by decide, by decide⟩
theorem q6_bestRule : mm_cl (yX6_bestRule, cX6_bestRule, 6, (some .int), 6) 0 := ⟨w_cd_X6_bestRule, w_in_X6, by decide +kernel, by decide, by decide⟩
theorem q7_thrown : mm_cl (yX7_thrown, cX7_thrown, 1, (some .int), 0) 0 := ⟨w_cd_X7_thrown, w_in_X7, by decide +kernel, by decide, by decide⟩
theorem q7_in : mm_cl (yX7_in, cX7_in, 3, (some .boolean), 0) 3 := ⟨w_cd_X7_in, w_in_X7, by decide +kernel, by decide, by decide⟩
theorem q7_has : mm_cl (yX7_has, cX7_has, 2, (some .boolean), 0) 2 := ⟨w_cd_X7_has, w_in_X7, by decide +kernel, by decide, by decide⟩
theorem q7_bits : mm_cl (yX7_bits, cX7_bits, 3, (some .int), 0) 1 := ⟨w_cd_X7_bits, w_in_X7, by decide +kernel, by decide, by decide⟩
theorem q7_of : mm_cl (yX7_of, cX7_of, 3, (some .int), 0) 2 := ⟨w_cd_X7_of, w_in_X7, by decide +kernel, by decide, by decide⟩
theorem q7_isBus : mm_cl (yX7_isBus, cX7_isBus, 2, (some .boolean), 1) 1 := ⟨w_cd_X7_isBus, w_in_X7, by decide +kernel, by decide, by decide⟩
theorem q7_isSlot : mm_cl (yX7_isSlot, cX7_isSlot, 2, (some .boolean), 1) 1 := ⟨w_cd_X7_isSlot, w_in_X7, by decide +kernel, by decide, by decide⟩
theorem q7_four : mm_cl (yX7_four, cX7_four, 3, none, 0) 1 := ⟨w_cd_X7_four, w_in_X7, by decide +kernel, by decide, by decide⟩
theorem q7_feed : mm_cl (yX7_feed, cX7_feed, 6, (some .int), 1) 5 := ⟨w_cd_X7_feed, w_in_X7, by decide +kernel, by decide, by decide⟩
theorem q7_end : mm_cl (yX7_end, cX7_end, 2, (some .boolean), 1) 1 := ⟨w_cd_X7_end, w_in_X7, by decide +kernel, by decide, by decide⟩
theorem q7_here : mm_cl (yX7_here, cX7_here, 1, (some .int), 0) 0 := ⟨w_cd_X7_here, w_in_X7, by decide +kernel, by decide, by decide⟩
theorem q7_fails : mm_cl (yX7_fails, cX7_fails, 3, (some .boolean), 0) 2 := ⟨w_cd_X7_fails, w_in_X7, by decide +kernel, by decide, by decide⟩
theorem q7_isNumber : mm_cl (yX7_isNumber, cX7_isNumber, 1, (some .boolean), 1) 0 := ⟨w_cd_X7_isNumber, w_in_X7, by decide +kernel, by decide, by decide⟩
theorem q7_readPlain : mm_cl (yX7_readPlain, cX7_readPlain, 1, (some .boolean), 2) 0 := ⟨w_cd_X7_readPlain, w_in_X7, by decide +kernel, by decide, by decide⟩
theorem q7_readNumber : mm_cl (yX7_readNumber, cX7_readNumber, 3, (some .boolean), 3) 2 := ⟨w_cd_X7_readNumber, w_in_X7, by decide +kernel, by decide, by decide⟩
theorem q7_reads : mm_cl (yX7_reads, cX7_reads, 4, (some .boolean), 4) 3 := ⟨w_cd_X7_reads, w_in_X7, by decide +kernel, by decide, by decide⟩
theorem q7_readWord : mm_cl (yX7_readWord, cX7_readWord, 4, (some .long), 1) 0 := ⟨w_cd_X7_readWord, w_in_X7, by decide +kernel, by decide, by decide⟩
theorem q7_readSlots : mm_cl (yX7_readSlots, cX7_readSlots, 2, (some .boolean), 4) 0 := ⟨w_cd_X7_readSlots, w_in_X7, by decide +kernel, by decide, by decide⟩
theorem q7_readPrice : mm_cl (yX7_readPrice, cX7_readPrice, 1, (some .boolean), 5) 0 := ⟨w_cd_X7_readPrice, w_in_X7, by decide +kernel, by decide, by decide⟩
theorem q7_readCurve : mm_cl (yX7_readCurve, cX7_readCurve, 6, (some .boolean), 5) 1 := ⟨w_cd_X7_readCurve, w_in_X7, by decide +kernel, by decide, by decide⟩
theorem q7_readBus : mm_cl (yX7_readBus, cX7_readBus, 3, (some .boolean), 5) 1 := ⟨w_cd_X7_readBus, w_in_X7, by decide +kernel, by decide, by decide⟩
theorem q7_readCharge : mm_cl (yX7_readCharge, cX7_readCharge, 3, (some .boolean), 4) 0 := ⟨w_cd_X7_readCharge, w_in_X7, by decide +kernel, by decide, by decide⟩
theorem q7_readStatement : mm_cl (yX7_readStatement, cX7_readStatement, 4, (some .boolean), 6) 0 := ⟨w_cd_X7_readStatement, w_in_X7, by decide +kernel, by decide, by decide⟩
theorem q7_readText : mm_cl (yX7_readText, cX7_readText, 1, (some .boolean), 7) 0 := ⟨w_cd_X7_readText, w_in_X7, by decide +kernel, by decide, by decide⟩
theorem q7_copies : mm_cl (yX7_copies, cX7_copies, 3, none, 0) 1 := ⟨w_cd_X7_copies, w_in_X7, by decide +kernel, by decide, by decide⟩
theorem q7_tell : mm_cl (yX7_tell, cX7_tell, 2, (some .int), 8) 0 := ⟨w_cd_X7_tell, w_in_X7, by decide +kernel, by decide, by decide⟩
theorem q7_fault : mm_cl (yX7_fault, cX7_fault, 1, (some .int), 0) 0 := ⟨w_cd_X7_fault, w_in_X7, by decide +kernel, by decide, by decide⟩
theorem q7_mostOf : mm_cl (yX7_mostOf, cX7_mostOf, 1, (some .int), 0) 1 := ⟨w_cd_X7_mostOf, w_in_X7, by decide +kernel, by decide, by decide⟩
theorem q7_set : mm_cl (yX7_set, cX7_set, 5, (some .boolean), 1) 2 := ⟨w_cd_X7_set, w_in_X7, by decide +kernel, by decide, by decide⟩
theorem q7_bus : mm_cl (yX7_bus, cX7_bus, 8, (some .int), 1) 6 := ⟨w_cd_X7_bus, w_in_X7, by decide +kernel, by decide, by decide⟩
theorem q7_drop : mm_cl (yX7_drop, cX7_drop, 2, (some .int), 0) 0 := ⟨w_cd_X7_drop, w_in_X7, by decide +kernel, by decide, by decide⟩
theorem q7_charge : mm_cl (yX7_charge, cX7_charge, 4, (some .boolean), 2) 3 := ⟨w_cd_X7_charge, w_in_X7, by decide +kernel, by decide, by decide⟩
theorem q7_chargesOf : mm_cl (yX7_chargesOf, cX7_chargesOf, 3, (some .int), 1) 0 := ⟨w_cd_X7_chargesOf, w_in_X7, by decide +kernel, by decide, by decide⟩
theorem q7_clear : mm_cl (yX7_clear, cX7_clear, 3, (some .int), 2) 0 := ⟨w_cd_X7_clear, w_in_X7, by decide +kernel, by decide, by decide⟩
theorem q7_count : mm_cl (yX7_count, cX7_count, 2, (some .int), 1) 1 := ⟨w_cd_X7_count, w_in_X7, by decide +kernel, by decide, by decide⟩
theorem q7_told : mm_cl (yX7_told, cX7_told, 3, (some .int), 2) 2 := ⟨w_cd_X7_told, w_in_X7, by decide +kernel, by decide, by decide⟩
theorem q7_curve : mm_cl (yX7_curve, cX7_curve, 5, (some .int), 1) 3 := ⟨w_cd_X7_curve, w_in_X7, by decide +kernel, by decide, by decide⟩
theorem q7_less : mm_cl (yX7_less, cX7_less, 2, (some .int), 0) 2 := ⟨w_cd_X7_less, w_in_X7, by decide +kernel, by decide, by decide⟩
theorem q7_takesOf : mm_cl (yX7_takesOf, cX7_takesOf, 5, (some .int), 1) 2 := ⟨w_cd_X7_takesOf, w_in_X7, by decide +kernel, by decide, by decide⟩
theorem q7_slotsOf : mm_cl (yX7_slotsOf, cX7_slotsOf, 6, (some .int), 2) 3 := ⟨w_cd_X7_slotsOf, w_in_X7, by decide +kernel, by decide, by decide⟩
theorem q7_asTold : mm_cl (yX7_asTold, cX7_asTold, 2, none, 1) 0 := ⟨w_cd_X7_asTold, w_in_X7, by decide +kernel, by decide, by decide⟩
theorem q7_takes : mm_cl (yX7_takes, cX7_takes, 3, (some .int), 2) 2 := ⟨w_cd_X7_takes, w_in_X7, by decide +kernel, by decide, by decide⟩
theorem q7_slots : mm_cl (yX7_slots, cX7_slots, 4, (some .int), 3) 3 := ⟨w_cd_X7_slots, w_in_X7, by decide +kernel, by decide, by decide⟩
theorem q7_isThere : mm_cl (yX7_isThere, cX7_isThere, 3, (some .boolean), 1) 2 := ⟨w_cd_X7_isThere, w_in_X7, by decide +kernel, by decide, by decide⟩
theorem q7_goes : mm_cl (yX7_goes, cX7_goes, 4, none, 2) 0 := ⟨w_cd_X7_goes, w_in_X7, by decide +kernel, by decide, by decide⟩
theorem q7_goesByTold : mm_cl (yX7_goesByTold, cX7_goesByTold, 2, none, 3) 0 := ⟨w_cd_X7_goesByTold, w_in_X7, by decide +kernel, by decide, by decide⟩
theorem q7_lackOf : mm_cl (yX7_lackOf, cX7_lackOf, 3, (some .int), 1) 1 := ⟨w_cd_X7_lackOf, w_in_X7, by decide +kernel, by decide, by decide⟩
theorem q7_sumOf : mm_cl (yX7_sumOf, cX7_sumOf, 4, (some .int), 2) 1 := ⟨w_cd_X7_sumOf, w_in_X7, by decide +kernel, by decide, by decide⟩
theorem q7_isAllThere : mm_cl (yX7_isAllThere, cX7_isAllThere, 3, (some .boolean), 2) 1 := ⟨w_cd_X7_isAllThere, w_in_X7, by decide +kernel, by decide, by decide⟩
theorem q7_wrongOf : mm_cl (yX7_wrongOf, cX7_wrongOf, 4, (some .int), 3) 0 := ⟨w_cd_X7_wrongOf, w_in_X7, by decide +kernel, by decide, by decide⟩
theorem q7_plan : mm_cl (yX7_plan, cX7_plan, 2, (some .int), 2) 1 := ⟨w_cd_X7_plan, w_in_X7, by decide +kernel, by decide, by decide⟩
theorem q7_level : mm_cl (yX7_level, cX7_level, 3, (some .int), 4) 2 := ⟨w_cd_X7_level, w_in_X7, by decide +kernel, by decide, by decide⟩
theorem q7_used : mm_cl (yX7_used, cX7_used, 2, (some .int), 4) 1 := ⟨w_cd_X7_used, w_in_X7, by decide +kernel, by decide, by decide⟩
theorem q7_sum : mm_cl (yX7_sum, cX7_sum, 2, (some .int), 4) 1 := ⟨w_cd_X7_sum, w_in_X7, by decide +kernel, by decide, by decide⟩
theorem q7_lack : mm_cl (yX7_lack, cX7_lack, 2, (some .int), 4) 1 := ⟨w_cd_X7_lack, w_in_X7, by decide +kernel, by decide, by decide⟩
theorem q7_countOf : mm_cl (yX7_countOf, cX7_countOf, 2, (some .int), 0) 2 := ⟨w_cd_X7_countOf, w_in_X7, by decide +kernel, by decide, by decide⟩
theorem q7_laysFull : mm_cl (yX7_laysFull, cX7_laysFull, 3, none, 2) 0 := ⟨w_cd_X7_laysFull, w_in_X7, by decide +kernel, by decide, by decide⟩
theorem q7_mayBe : mm_cl (yX7_mayBe, cX7_mayBe, 5, (some .boolean), 1) 2 := ⟨w_cd_X7_mayBe, w_in_X7, by decide +kernel, by decide, by decide⟩
theorem q7_laysEnd : mm_cl (yX7_laysEnd, cX7_laysEnd, 5, none, 1) 1 := ⟨w_cd_X7_laysEnd, w_in_X7, by decide +kernel, by decide, by decide⟩
theorem q7_taken : mm_cl (yX7_taken, cX7_taken, 7, (some .int), 2) 3 := ⟨w_cd_X7_taken, w_in_X7, by decide +kernel, by decide, by decide⟩
theorem q7_behind : mm_cl (yX7_behind, cX7_behind, 5, (some .int), 1) 2 := ⟨w_cd_X7_behind, w_in_X7, by decide +kernel, by decide, by decide⟩
theorem q7_laysSlot : mm_cl (yX7_laysSlot, cX7_laysSlot, 11, none, 3) 2 := ⟨w_cd_X7_laysSlot, w_in_X7, by decide +kernel, by decide, by decide⟩
theorem q7_finds : mm_cl (yX7_finds, cX7_finds, 3, none, 4) 0 := ⟨w_cd_X7_finds, w_in_X7, by decide +kernel, by decide, by decide⟩
theorem q7_laysBest : mm_cl (yX7_laysBest, cX7_laysBest, 3, none, 3) 0 := ⟨w_cd_X7_laysBest, w_in_X7, by decide +kernel, by decide, by decide⟩
theorem q7_costNow : mm_cl (yX7_costNow, cX7_costNow, 1, (some .int), 5) 0 := ⟨w_cd_X7_costNow, w_in_X7, by decide +kernel, by decide, by decide⟩
theorem q7_best : mm_cl (yX7_best, cX7_best, 2, (some .int), 5) 1 := ⟨w_cd_X7_best, w_in_X7, by decide +kernel, by decide, by decide⟩
theorem q7_stands : mm_cl (yX7_stands, cX7_stands, 2, (some .int), 2) 0 := ⟨w_cd_X7_stands, w_in_X7, by decide +kernel, by decide, by decide⟩
theorem q7_take : mm_cl (yX7_take, cX7_take, 1, (some .int), 5) 0 := ⟨w_cd_X7_take, w_in_X7, by decide +kernel, by decide, by decide⟩
theorem q7_late : mm_cl (yX7_late, cX7_late, 3, (some .int), 6) 2 := ⟨w_cd_X7_late, w_in_X7, by decide +kernel, by decide, by decide⟩
theorem q7_latest : mm_cl (yX7_latest, cX7_latest, 3, (some .int), 6) 1 := ⟨w_cd_X7_latest, w_in_X7, by decide +kernel, by decide, by decide⟩
theorem q7_lays : mm_cl (yX7_lays, cX7_lays, 3, none, 2) 2 := ⟨w_cd_X7_lays, w_in_X7, by decide +kernel, by decide, by decide⟩
theorem q7_were : mm_cl (yX7_were, cX7_were, 3, (some .int), 6) 2 := ⟨w_cd_X7_were, w_in_X7, by decide +kernel, by decide, by decide⟩
theorem q7_least : mm_cl (yX7_least, cX7_least, 3, (some .int), 6) 1 := ⟨w_cd_X7_least, w_in_X7, by decide +kernel, by decide, by decide⟩
theorem q7_without : mm_cl (yX7_without, cX7_without, 2, (some .int), 6) 1 := ⟨w_cd_X7_without, w_in_X7, by decide +kernel, by decide, by decide⟩
theorem q7_rankOf : mm_cl (yX7_rankOf, cX7_rankOf, 5, (some .int), 3) 3 := ⟨w_cd_X7_rankOf, w_in_X7, by decide +kernel, by decide, by decide⟩
theorem q7_setBy : mm_cl (yX7_setBy, cX7_setBy, 8, (some .int), 4) 2 := ⟨w_cd_X7_setBy, w_in_X7, by decide +kernel, by decide, by decide⟩
theorem q7_rules : mm_cl (yX7_rules, cX7_rules, 3, none, 5) 1 := ⟨w_cd_X7_rules, w_in_X7, by decide +kernel, by decide, by decide⟩
theorem q7_rule : mm_cl (yX7_rule, cX7_rule, 3, (some .int), 6) 2 := ⟨w_cd_X7_rule, w_in_X7, by decide +kernel, by decide, by decide⟩
theorem q7_takeRule : mm_cl (yX7_takeRule, cX7_takeRule, 2, (some .int), 6) 1 := ⟨w_cd_X7_takeRule, w_in_X7, by decide +kernel, by decide, by decide⟩
theorem q7_bestRule : mm_cl (yX7_bestRule, cX7_bestRule, 5, (some .int), 6) 0 := ⟨w_cd_X7_bestRule, w_in_X7, by decide +kernel, by decide, by decide⟩
theorem g_X0_36 {α : Type} {inj : α → Option Value × mm_M} {j : mm_J} {X : mm_X} {pc : Nat} {lo : List (Option Value)} {st : List Value} {M : mm_M} {ee : Option α} {d : Nat} (hD : isD d = true) (hj : j.1.cls = RX0) (hd : decode j.2.1 pc = .ok (.getfield 36, 3)) (k1 : Snd inj j X (pc + 3) lo (.int (mI M d 0) :: st) M ee) : Snd inj j X pc lo (.ref d :: st) M ee := sn_gI (k := 0) (T := TX0) rfl iw0 (isD_obj hD) (isD_pos hD) (by decide) (isD_k0 hD 0 (by decide)) (by rw [hj]; exact w_fl_X0_36) hd k1
theorem p_X0_36 {α : Type} {inj : α → Option Value × mm_M} {j : mm_J} {X : mm_X} {pc : Nat} {lo : List (Option Value)} {st : List Value} {M : mm_M} {d : Nat} {v : Int32} {ex : mm_M → Option α} (hD : isD d = true) (hj : j.1.cls = RX0) (hd : decode j.2.1 pc = .ok (.putfield 36, 3)) (k1 : ∀ M, Snd inj j X (pc + 3) lo st M (ex M)) : Snd inj j X pc lo (.int v :: .ref d :: st) M (bM (sI M d 0 v) ex) := sn_pI (k := 0) (T := TX0) tyX0 tyX0_ok nmX0 rfl iw0 (isD_obj hD) (isD_pos hD) (by decide) rfl (isD_k0 hD 0 (by decide)) (tyX0_ok 0 (by decide)) (by rw [hj]; exact w_fl_X0_36) hd k1
theorem g_X0_40 {α : Type} {inj : α → Option Value × mm_M} {j : mm_J} {X : mm_X} {pc : Nat} {lo : List (Option Value)} {st : List Value} {M : mm_M} {ee : Option α} {d : Nat} (hD : isD d = true) (hj : j.1.cls = RX0) (hd : decode j.2.1 pc = .ok (.getfield 40, 3)) (k1 : Snd inj j X (pc + 3) lo (.int (mI M d 1) :: st) M ee) : Snd inj j X pc lo (.ref d :: st) M ee := sn_gI (k := 1) (T := TX0) rfl iw0 (isD_obj hD) (isD_pos hD) (by decide) (isD_k0 hD 1 (by decide)) (by rw [hj]; exact w_fl_X0_40) hd k1
theorem p_X0_40 {α : Type} {inj : α → Option Value × mm_M} {j : mm_J} {X : mm_X} {pc : Nat} {lo : List (Option Value)} {st : List Value} {M : mm_M} {d : Nat} {v : Int32} {ex : mm_M → Option α} (hD : isD d = true) (hj : j.1.cls = RX0) (hd : decode j.2.1 pc = .ok (.putfield 40, 3)) (k1 : ∀ M, Snd inj j X (pc + 3) lo st M (ex M)) : Snd inj j X pc lo (.int v :: .ref d :: st) M (bM (sI M d 1 v) ex) := sn_pI (k := 1) (T := TX0) tyX0 tyX0_ok nmX0 rfl iw0 (isD_obj hD) (isD_pos hD) (by decide) rfl (isD_k0 hD 1 (by decide)) (tyX0_ok 1 (by decide)) (by rw [hj]; exact w_fl_X0_40) hd k1
theorem g_X0_43 {α : Type} {inj : α → Option Value × mm_M} {j : mm_J} {X : mm_X} {pc : Nat} {lo : List (Option Value)} {st : List Value} {M : mm_M} {ee : Option α} {d : Nat} (hD : isD d = true) (hj : j.1.cls = RX0) (hd : decode j.2.1 pc = .ok (.getfield 43, 3)) (k1 : Snd inj j X (pc + 3) lo (.int (mI M d 2) :: st) M ee) : Snd inj j X pc lo (.ref d :: st) M ee := sn_gI (k := 2) (T := TX0) rfl iw0 (isD_obj hD) (isD_pos hD) (by decide) (isD_k0 hD 2 (by decide)) (by rw [hj]; exact w_fl_X0_43) hd k1
theorem p_X0_43 {α : Type} {inj : α → Option Value × mm_M} {j : mm_J} {X : mm_X} {pc : Nat} {lo : List (Option Value)} {st : List Value} {M : mm_M} {d : Nat} {v : Int32} {ex : mm_M → Option α} (hD : isD d = true) (hj : j.1.cls = RX0) (hd : decode j.2.1 pc = .ok (.putfield 43, 3)) (k1 : ∀ M, Snd inj j X (pc + 3) lo st M (ex M)) : Snd inj j X pc lo (.int v :: .ref d :: st) M (bM (sI M d 2 v) ex) := sn_pI (k := 2) (T := TX0) tyX0 tyX0_ok nmX0 rfl iw0 (isD_obj hD) (isD_pos hD) (by decide) rfl (isD_k0 hD 2 (by decide)) (tyX0_ok 2 (by decide)) (by rw [hj]; exact w_fl_X0_43) hd k1
theorem g_X0_9 {α : Type} {inj : α → Option Value × mm_M} {j : mm_J} {X : mm_X} {pc : Nat} {lo : List (Option Value)} {st : List Value} {M : mm_M} {ee : Option α} {d : Nat} (hD : isD d = true) (hj : j.1.cls = RX0) (hd : decode j.2.1 pc = .ok (.getfield 9, 3)) (k1 : Snd inj j X (pc + 3) lo (.ref (d + 1) :: st) M ee) : Snd inj j X pc lo (.ref d :: st) M ee := sn_gR (d + 1) (k := 3) (T := TX0) rfl iw0 (isD_obj hD) (isD_pos hD) (by decide) (isD_kR hD 3 1 rfl (by decide)) (by rw [hj]; exact w_fl_X0_9) hd k1
theorem g_X0_15 {α : Type} {inj : α → Option Value × mm_M} {j : mm_J} {X : mm_X} {pc : Nat} {lo : List (Option Value)} {st : List Value} {M : mm_M} {ee : Option α} {d : Nat} (hD : isD d = true) (hj : j.1.cls = RX0) (hd : decode j.2.1 pc = .ok (.getfield 15, 3)) (k1 : Snd inj j X (pc + 3) lo (.ref (d + 2) :: st) M ee) : Snd inj j X pc lo (.ref d :: st) M ee := sn_gR (d + 2) (k := 4) (T := TX0) rfl iw0 (isD_obj hD) (isD_pos hD) (by decide) (isD_kR hD 4 2 rfl (by decide)) (by rw [hj]; exact w_fl_X0_15) hd k1
theorem g_X0_18 {α : Type} {inj : α → Option Value × mm_M} {j : mm_J} {X : mm_X} {pc : Nat} {lo : List (Option Value)} {st : List Value} {M : mm_M} {ee : Option α} {d : Nat} (hD : isD d = true) (hj : j.1.cls = RX0) (hd : decode j.2.1 pc = .ok (.getfield 18, 3)) (k1 : Snd inj j X (pc + 3) lo (.ref (d + 3) :: st) M ee) : Snd inj j X pc lo (.ref d :: st) M ee := sn_gR (d + 3) (k := 5) (T := TX0) rfl iw0 (isD_obj hD) (isD_pos hD) (by decide) (isD_kR hD 5 3 rfl (by decide)) (by rw [hj]; exact w_fl_X0_18) hd k1
theorem g_X0_21 {α : Type} {inj : α → Option Value × mm_M} {j : mm_J} {X : mm_X} {pc : Nat} {lo : List (Option Value)} {st : List Value} {M : mm_M} {ee : Option α} {d : Nat} (hD : isD d = true) (hj : j.1.cls = RX0) (hd : decode j.2.1 pc = .ok (.getfield 21, 3)) (k1 : Snd inj j X (pc + 3) lo (.ref (d + 4) :: st) M ee) : Snd inj j X pc lo (.ref d :: st) M ee := sn_gR (d + 4) (k := 6) (T := TX0) rfl iw0 (isD_obj hD) (isD_pos hD) (by decide) (isD_kR hD 6 4 rfl (by decide)) (by rw [hj]; exact w_fl_X0_21) hd k1
theorem g_X0_24 {α : Type} {inj : α → Option Value × mm_M} {j : mm_J} {X : mm_X} {pc : Nat} {lo : List (Option Value)} {st : List Value} {M : mm_M} {ee : Option α} {d : Nat} (hD : isD d = true) (hj : j.1.cls = RX0) (hd : decode j.2.1 pc = .ok (.getfield 24, 3)) (k1 : Snd inj j X (pc + 3) lo (.ref (d + 5) :: st) M ee) : Snd inj j X pc lo (.ref d :: st) M ee := sn_gR (d + 5) (k := 7) (T := TX0) rfl iw0 (isD_obj hD) (isD_pos hD) (by decide) (isD_kR hD 7 5 rfl (by decide)) (by rw [hj]; exact w_fl_X0_24) hd k1
theorem g_X0_27 {α : Type} {inj : α → Option Value × mm_M} {j : mm_J} {X : mm_X} {pc : Nat} {lo : List (Option Value)} {st : List Value} {M : mm_M} {ee : Option α} {d : Nat} (hD : isD d = true) (hj : j.1.cls = RX0) (hd : decode j.2.1 pc = .ok (.getfield 27, 3)) (k1 : Snd inj j X (pc + 3) lo (.ref (d + 6) :: st) M ee) : Snd inj j X pc lo (.ref d :: st) M ee := sn_gR (d + 6) (k := 8) (T := TX0) rfl iw0 (isD_obj hD) (isD_pos hD) (by decide) (isD_kR hD 8 6 rfl (by decide)) (by rw [hj]; exact w_fl_X0_27) hd k1
theorem g_X0_30 {α : Type} {inj : α → Option Value × mm_M} {j : mm_J} {X : mm_X} {pc : Nat} {lo : List (Option Value)} {st : List Value} {M : mm_M} {ee : Option α} {d : Nat} (hD : isD d = true) (hj : j.1.cls = RX0) (hd : decode j.2.1 pc = .ok (.getfield 30, 3)) (k1 : Snd inj j X (pc + 3) lo (.ref (d + 7) :: st) M ee) : Snd inj j X pc lo (.ref d :: st) M ee := sn_gR (d + 7) (k := 9) (T := TX0) rfl iw0 (isD_obj hD) (isD_pos hD) (by decide) (isD_kR hD 9 7 rfl (by decide)) (by rw [hj]; exact w_fl_X0_30) hd k1
theorem g_X0_33 {α : Type} {inj : α → Option Value × mm_M} {j : mm_J} {X : mm_X} {pc : Nat} {lo : List (Option Value)} {st : List Value} {M : mm_M} {ee : Option α} {d : Nat} (hD : isD d = true) (hj : j.1.cls = RX0) (hd : decode j.2.1 pc = .ok (.getfield 33, 3)) (k1 : Snd inj j X (pc + 3) lo (.ref (d + 8) :: st) M ee) : Snd inj j X pc lo (.ref d :: st) M ee := sn_gR (d + 8) (k := 10) (T := TX0) rfl iw0 (isD_obj hD) (isD_pos hD) (by decide) (isD_kR hD 10 8 rfl (by decide)) (by rw [hj]; exact w_fl_X0_33) hd k1
theorem g_X1_11 {α : Type} {inj : α → Option Value × mm_M} {j : mm_J} {X : mm_X} {pc : Nat} {lo : List (Option Value)} {st : List Value} {M : mm_M} {ee : Option α} (hj : j.1.cls = RX1) (hd : decode j.2.1 pc = .ok (.getfield 11, 3)) (k1 : Snd inj j X (pc + 3) lo (.ref 24 :: st) M ee) : Snd inj j X pc lo (.ref 23 :: st) M ee := sn_gR 24 (k := 0) (T := TX1) rfl iw1 rfl ⟨by decide, by decide⟩ (by decide) rfl (by rw [hj]; exact w_fl_X1_11) hd k1
theorem g_X1_31 {α : Type} {inj : α → Option Value × mm_M} {j : mm_J} {X : mm_X} {pc : Nat} {lo : List (Option Value)} {st : List Value} {M : mm_M} {ee : Option α} {d : Nat} (hD : isD d = true) (hj : j.1.cls = RX1) (hd : decode j.2.1 pc = .ok (.getfield 31, 3)) (k1 : Snd inj j X (pc + 3) lo (.int (mI M d 2) :: st) M ee) : Snd inj j X pc lo (.ref d :: st) M ee := sn_gI (k := 2) (T := TX0) rfl iw0 (isD_obj hD) (isD_pos hD) (by decide) (isD_k0 hD 2 (by decide)) (by rw [hj]; exact w_fl_X1_31) hd k1
theorem g_X1_69 {α : Type} {inj : α → Option Value × mm_M} {j : mm_J} {X : mm_X} {pc : Nat} {lo : List (Option Value)} {st : List Value} {M : mm_M} {ee : Option α} {d : Nat} (hD : isD d = true) (hj : j.1.cls = RX1) (hd : decode j.2.1 pc = .ok (.getfield 69, 3)) (k1 : Snd inj j X (pc + 3) lo (.ref (d + 1) :: st) M ee) : Snd inj j X pc lo (.ref d :: st) M ee := sn_gR (d + 1) (k := 3) (T := TX0) rfl iw0 (isD_obj hD) (isD_pos hD) (by decide) (isD_kR hD 3 1 rfl (by decide)) (by rw [hj]; exact w_fl_X1_69) hd k1
theorem g_X1_40 {α : Type} {inj : α → Option Value × mm_M} {j : mm_J} {X : mm_X} {pc : Nat} {lo : List (Option Value)} {st : List Value} {M : mm_M} {ee : Option α} {d : Nat} (hD : isD d = true) (hj : j.1.cls = RX1) (hd : decode j.2.1 pc = .ok (.getfield 40, 3)) (k1 : Snd inj j X (pc + 3) lo (.int (mI M d 0) :: st) M ee) : Snd inj j X pc lo (.ref d :: st) M ee := sn_gI (k := 0) (T := TX0) rfl iw0 (isD_obj hD) (isD_pos hD) (by decide) (isD_k0 hD 0 (by decide)) (by rw [hj]; exact w_fl_X1_40) hd k1
theorem g_X1_25 {α : Type} {inj : α → Option Value × mm_M} {j : mm_J} {X : mm_X} {pc : Nat} {lo : List (Option Value)} {st : List Value} {M : mm_M} {ee : Option α} (hj : j.1.cls = RX1) (hd : decode j.2.1 pc = .ok (.getfield 25, 3)) (k1 : Snd inj j X (pc + 3) lo (.int (mI M 23 4) :: st) M ee) : Snd inj j X pc lo (.ref 23 :: st) M ee := sn_gI (k := 4) (T := TX1) rfl iw1 rfl ⟨by decide, by decide⟩ (by decide) rfl (by rw [hj]; exact w_fl_X1_25) hd k1
theorem p_X1_25 {α : Type} {inj : α → Option Value × mm_M} {j : mm_J} {X : mm_X} {pc : Nat} {lo : List (Option Value)} {st : List Value} {M : mm_M} {ex : mm_M → Option α} {v : Int32} (hj : j.1.cls = RX1) (hd : decode j.2.1 pc = .ok (.putfield 25, 3)) (k1 : ∀ M, Snd inj j X (pc + 3) lo st M (ex M)) : Snd inj j X pc lo (.int v :: .ref 23 :: st) M (bM (sI M 23 4 v) ex) := sn_pI (k := 4) (T := TX1) tyX1 tyX1_ok nmX1 rfl iw1 rfl ⟨by decide, by decide⟩ (by decide) rfl rfl (tyX1_ok 4 (by decide)) (by rw [hj]; exact w_fl_X1_25) hd k1
theorem g_X1_15 {α : Type} {inj : α → Option Value × mm_M} {j : mm_J} {X : mm_X} {pc : Nat} {lo : List (Option Value)} {st : List Value} {M : mm_M} {ee : Option α} (hj : j.1.cls = RX1) (hd : decode j.2.1 pc = .ok (.getfield 15, 3)) (k1 : Snd inj j X (pc + 3) lo (.ref 25 :: st) M ee) : Snd inj j X pc lo (.ref 23 :: st) M ee := sn_gR 25 (k := 1) (T := TX1) rfl iw1 rfl ⟨by decide, by decide⟩ (by decide) rfl (by rw [hj]; exact w_fl_X1_15) hd k1
theorem g_X1_18 {α : Type} {inj : α → Option Value × mm_M} {j : mm_J} {X : mm_X} {pc : Nat} {lo : List (Option Value)} {st : List Value} {M : mm_M} {ee : Option α} (hj : j.1.cls = RX1) (hd : decode j.2.1 pc = .ok (.getfield 18, 3)) (k1 : Snd inj j X (pc + 3) lo (.int (mI M 23 2) :: st) M ee) : Snd inj j X pc lo (.ref 23 :: st) M ee := sn_gI (k := 2) (T := TX1) rfl iw1 rfl ⟨by decide, by decide⟩ (by decide) rfl (by rw [hj]; exact w_fl_X1_18) hd k1
theorem g_X1_47 {α : Type} {inj : α → Option Value × mm_M} {j : mm_J} {X : mm_X} {pc : Nat} {lo : List (Option Value)} {st : List Value} {M : mm_M} {ee : Option α} {d : Nat} (hD : isD d = true) (hj : j.1.cls = RX1) (hd : decode j.2.1 pc = .ok (.getfield 47, 3)) (k1 : Snd inj j X (pc + 3) lo (.ref (d + 2) :: st) M ee) : Snd inj j X pc lo (.ref d :: st) M ee := sn_gR (d + 2) (k := 4) (T := TX0) rfl iw0 (isD_obj hD) (isD_pos hD) (by decide) (isD_kR hD 4 2 rfl (by decide)) (by rw [hj]; exact w_fl_X1_47) hd k1
theorem p_X1_18 {α : Type} {inj : α → Option Value × mm_M} {j : mm_J} {X : mm_X} {pc : Nat} {lo : List (Option Value)} {st : List Value} {M : mm_M} {ex : mm_M → Option α} {v : Int32} (hj : j.1.cls = RX1) (hd : decode j.2.1 pc = .ok (.putfield 18, 3)) (k1 : ∀ M, Snd inj j X (pc + 3) lo st M (ex M)) : Snd inj j X pc lo (.int v :: .ref 23 :: st) M (bM (sI M 23 2 v) ex) := sn_pI (k := 2) (T := TX1) tyX1 tyX1_ok nmX1 rfl iw1 rfl ⟨by decide, by decide⟩ (by decide) rfl rfl (tyX1_ok 2 (by decide)) (by rw [hj]; exact w_fl_X1_18) hd k1
theorem g_X1_28 {α : Type} {inj : α → Option Value × mm_M} {j : mm_J} {X : mm_X} {pc : Nat} {lo : List (Option Value)} {st : List Value} {M : mm_M} {ee : Option α} (hj : j.1.cls = RX1) (hd : decode j.2.1 pc = .ok (.getfield 28, 3)) (k1 : Snd inj j X (pc + 3) lo (.int (mI M 23 5) :: st) M ee) : Snd inj j X pc lo (.ref 23 :: st) M ee := sn_gI (k := 5) (T := TX1) rfl iw1 rfl ⟨by decide, by decide⟩ (by decide) rfl (by rw [hj]; exact w_fl_X1_28) hd k1
theorem p_X1_28 {α : Type} {inj : α → Option Value × mm_M} {j : mm_J} {X : mm_X} {pc : Nat} {lo : List (Option Value)} {st : List Value} {M : mm_M} {ex : mm_M → Option α} {v : Int32} (hj : j.1.cls = RX1) (hd : decode j.2.1 pc = .ok (.putfield 28, 3)) (k1 : ∀ M, Snd inj j X (pc + 3) lo st M (ex M)) : Snd inj j X pc lo (.int v :: .ref 23 :: st) M (bM (sI M 23 5 v) ex) := sn_pI (k := 5) (T := TX1) tyX1 tyX1_ok nmX1 rfl iw1 rfl ⟨by decide, by decide⟩ (by decide) rfl rfl (tyX1_ok 5 (by decide)) (by rw [hj]; exact w_fl_X1_28) hd k1
theorem g_X1_22 {α : Type} {inj : α → Option Value × mm_M} {j : mm_J} {X : mm_X} {pc : Nat} {lo : List (Option Value)} {st : List Value} {M : mm_M} {ee : Option α} (hj : j.1.cls = RX1) (hd : decode j.2.1 pc = .ok (.getfield 22, 3)) (k1 : Snd inj j X (pc + 3) lo (.int (mI M 23 3) :: st) M ee) : Snd inj j X pc lo (.ref 23 :: st) M ee := sn_gI (k := 3) (T := TX1) rfl iw1 rfl ⟨by decide, by decide⟩ (by decide) rfl (by rw [hj]; exact w_fl_X1_22) hd k1
theorem p_X1_22 {α : Type} {inj : α → Option Value × mm_M} {j : mm_J} {X : mm_X} {pc : Nat} {lo : List (Option Value)} {st : List Value} {M : mm_M} {ex : mm_M → Option α} {v : Int32} (hj : j.1.cls = RX1) (hd : decode j.2.1 pc = .ok (.putfield 22, 3)) (k1 : ∀ M, Snd inj j X (pc + 3) lo st M (ex M)) : Snd inj j X pc lo (.int v :: .ref 23 :: st) M (bM (sI M 23 3 v) ex) := sn_pI (k := 3) (T := TX1) tyX1 tyX1_ok nmX1 rfl iw1 rfl ⟨by decide, by decide⟩ (by decide) rfl rfl (tyX1_ok 3 (by decide)) (by rw [hj]; exact w_fl_X1_22) hd k1
theorem g_X2_15 {α : Type} {inj : α → Option Value × mm_M} {j : mm_J} {X : mm_X} {pc : Nat} {lo : List (Option Value)} {st : List Value} {M : mm_M} {ee : Option α} (hj : j.1.cls = RX2) (hd : decode j.2.1 pc = .ok (.getfield 15, 3)) (k1 : Snd inj j X (pc + 3) lo (.ref 28 :: st) M ee) : Snd inj j X pc lo (.ref 26 :: st) M ee := sn_gR 28 (k := 1) (T := TX2) rfl iw2 rfl ⟨by decide, by decide⟩ (by decide) rfl (by rw [hj]; exact w_fl_X2_15) hd k1
theorem p_X2_68 {α : Type} {inj : α → Option Value × mm_M} {j : mm_J} {X : mm_X} {pc : Nat} {lo : List (Option Value)} {st : List Value} {M : mm_M} {ex : mm_M → Option α} {d : Nat} (hj : j.1.cls = RX2) (hd : decode j.2.1 pc = .ok (.putfield 68, 3)) (k1 : ∀ M, Snd inj j X (pc + 3) lo st M (ex M)) : Snd inj j X pc lo (.ref d :: .ref 26 :: st) M (bM (sDep M d) ex) := sn_pDep iw2 (by rw [hj]; exact w_fl_X2_68) hd k1
theorem p_X2_18 {α : Type} {inj : α → Option Value × mm_M} {j : mm_J} {X : mm_X} {pc : Nat} {lo : List (Option Value)} {st : List Value} {M : mm_M} {ex : mm_M → Option α} {v : Int32} (hj : j.1.cls = RX2) (hd : decode j.2.1 pc = .ok (.putfield 18, 3)) (k1 : ∀ M, Snd inj j X (pc + 3) lo st M (ex M)) : Snd inj j X pc lo (.int v :: .ref 26 :: st) M (bM (sI M 26 2 v) ex) := sn_pI (k := 2) (T := TX2) tyX2 tyX2_ok nmX2 rfl iw2 rfl ⟨by decide, by decide⟩ (by decide) rfl rfl (tyX2_ok 2 (by decide)) (by rw [hj]; exact w_fl_X2_18) hd k1
theorem g_X2_72 {α : Type} {inj : α → Option Value × mm_M} {j : mm_J} {X : mm_X} {pc : Nat} {lo : List (Option Value)} {st : List Value} {M : mm_M} {ee : Option α} {d : Nat} (hD : isD d = true) (hj : j.1.cls = RX2) (hd : decode j.2.1 pc = .ok (.getfield 72, 3)) (k1 : Snd inj j X (pc + 3) lo (.ref (d + 1) :: st) M ee) : Snd inj j X pc lo (.ref d :: st) M ee := sn_gR (d + 1) (k := 3) (T := TX0) rfl iw0 (isD_obj hD) (isD_pos hD) (by decide) (isD_kR hD 3 1 rfl (by decide)) (by rw [hj]; exact w_fl_X2_72) hd k1
theorem g_X2_11 {α : Type} {inj : α → Option Value × mm_M} {j : mm_J} {X : mm_X} {pc : Nat} {lo : List (Option Value)} {st : List Value} {M : mm_M} {ee : Option α} (hj : j.1.cls = RX2) (hd : decode j.2.1 pc = .ok (.getfield 11, 3)) (k1 : Snd inj j X (pc + 3) lo (.ref 27 :: st) M ee) : Snd inj j X pc lo (.ref 26 :: st) M ee := sn_gR 27 (k := 0) (T := TX2) rfl iw2 rfl ⟨by decide, by decide⟩ (by decide) rfl (by rw [hj]; exact w_fl_X2_11) hd k1
theorem g_X2_25 {α : Type} {inj : α → Option Value × mm_M} {j : mm_J} {X : mm_X} {pc : Nat} {lo : List (Option Value)} {st : List Value} {M : mm_M} {ee : Option α} (hj : j.1.cls = RX2) (hd : decode j.2.1 pc = .ok (.getfield 25, 3)) (k1 : Snd inj j X (pc + 3) lo (.ref 30 :: st) M ee) : Snd inj j X pc lo (.ref 26 :: st) M ee := sn_gR 30 (k := 5) (T := TX2) rfl iw2 rfl ⟨by decide, by decide⟩ (by decide) rfl (by rw [hj]; exact w_fl_X2_25) hd k1
theorem g_X2_31 {α : Type} {inj : α → Option Value × mm_M} {j : mm_J} {X : mm_X} {pc : Nat} {lo : List (Option Value)} {st : List Value} {M : mm_M} {ee : Option α} (hj : j.1.cls = RX2) (hd : decode j.2.1 pc = .ok (.getfield 31, 3)) (k1 : Snd inj j X (pc + 3) lo (.ref 32 :: st) M ee) : Snd inj j X pc lo (.ref 26 :: st) M ee := sn_gR 32 (k := 7) (T := TX2) rfl iw2 rfl ⟨by decide, by decide⟩ (by decide) rfl (by rw [hj]; exact w_fl_X2_31) hd k1
theorem g_X2_22 {α : Type} {inj : α → Option Value × mm_M} {j : mm_J} {X : mm_X} {pc : Nat} {lo : List (Option Value)} {st : List Value} {M : mm_M} {ee : Option α} (hj : j.1.cls = RX2) (hd : decode j.2.1 pc = .ok (.getfield 22, 3)) (k1 : Snd inj j X (pc + 3) lo (.ref 29 :: st) M ee) : Snd inj j X pc lo (.ref 26 :: st) M ee := sn_gR 29 (k := 4) (T := TX2) rfl iw2 rfl ⟨by decide, by decide⟩ (by decide) rfl (by rw [hj]; exact w_fl_X2_22) hd k1
theorem g_X2_68 {α : Type} {inj : α → Option Value × mm_M} {j : mm_J} {X : mm_X} {pc : Nat} {lo : List (Option Value)} {st : List Value} {M : mm_M} {ex : Nat → Option α} (hj : j.1.cls = RX2) (hd : decode j.2.1 pc = .ok (.getfield 68, 3)) (k1 : ∀ d, Snd inj j X (pc + 3) lo (.ref d :: st) M (ex d)) : Snd inj j X pc lo (.ref 26 :: st) M (bN (mDep M) ex) := sn_gDep iw2 (by rw [hj]; exact w_fl_X2_68) hd k1
theorem g_X2_28 {α : Type} {inj : α → Option Value × mm_M} {j : mm_J} {X : mm_X} {pc : Nat} {lo : List (Option Value)} {st : List Value} {M : mm_M} {ee : Option α} (hj : j.1.cls = RX2) (hd : decode j.2.1 pc = .ok (.getfield 28, 3)) (k1 : Snd inj j X (pc + 3) lo (.ref 31 :: st) M ee) : Snd inj j X pc lo (.ref 26 :: st) M ee := sn_gR 31 (k := 6) (T := TX2) rfl iw2 rfl ⟨by decide, by decide⟩ (by decide) rfl (by rw [hj]; exact w_fl_X2_28) hd k1
theorem g_X2_34 {α : Type} {inj : α → Option Value × mm_M} {j : mm_J} {X : mm_X} {pc : Nat} {lo : List (Option Value)} {st : List Value} {M : mm_M} {ee : Option α} (hj : j.1.cls = RX2) (hd : decode j.2.1 pc = .ok (.getfield 34, 3)) (k1 : Snd inj j X (pc + 3) lo (.ref 33 :: st) M ee) : Snd inj j X pc lo (.ref 26 :: st) M ee := sn_gR 33 (k := 8) (T := TX2) rfl iw2 rfl ⟨by decide, by decide⟩ (by decide) rfl (by rw [hj]; exact w_fl_X2_34) hd k1
theorem g_X2_103 {α : Type} {inj : α → Option Value × mm_M} {j : mm_J} {X : mm_X} {pc : Nat} {lo : List (Option Value)} {st : List Value} {M : mm_M} {ee : Option α} {d : Nat} (hD : isD d = true) (hj : j.1.cls = RX2) (hd : decode j.2.1 pc = .ok (.getfield 103, 3)) (k1 : Snd inj j X (pc + 3) lo (.int (mI M d 2) :: st) M ee) : Snd inj j X pc lo (.ref d :: st) M ee := sn_gI (k := 2) (T := TX0) rfl iw0 (isD_obj hD) (isD_pos hD) (by decide) (isD_k0 hD 2 (by decide)) (by rw [hj]; exact w_fl_X2_103) hd k1
theorem g_X2_18 {α : Type} {inj : α → Option Value × mm_M} {j : mm_J} {X : mm_X} {pc : Nat} {lo : List (Option Value)} {st : List Value} {M : mm_M} {ee : Option α} (hj : j.1.cls = RX2) (hd : decode j.2.1 pc = .ok (.getfield 18, 3)) (k1 : Snd inj j X (pc + 3) lo (.int (mI M 26 2) :: st) M ee) : Snd inj j X pc lo (.ref 26 :: st) M ee := sn_gI (k := 2) (T := TX2) rfl iw2 rfl ⟨by decide, by decide⟩ (by decide) rfl (by rw [hj]; exact w_fl_X2_18) hd k1
theorem g_X2_100 {α : Type} {inj : α → Option Value × mm_M} {j : mm_J} {X : mm_X} {pc : Nat} {lo : List (Option Value)} {st : List Value} {M : mm_M} {ee : Option α} {d : Nat} (hD : isD d = true) (hj : j.1.cls = RX2) (hd : decode j.2.1 pc = .ok (.getfield 100, 3)) (k1 : Snd inj j X (pc + 3) lo (.int (mI M d 0) :: st) M ee) : Snd inj j X pc lo (.ref d :: st) M ee := sn_gI (k := 0) (T := TX0) rfl iw0 (isD_obj hD) (isD_pos hD) (by decide) (isD_k0 hD 0 (by decide)) (by rw [hj]; exact w_fl_X2_100) hd k1
theorem g_X2_44 {α : Type} {inj : α → Option Value × mm_M} {j : mm_J} {X : mm_X} {pc : Nat} {lo : List (Option Value)} {st : List Value} {M : mm_M} {ee : Option α} (hj : j.1.cls = RX2) (hd : decode j.2.1 pc = .ok (.getfield 44, 3)) (k1 : Snd inj j X (pc + 3) lo (.ref 36 :: st) M ee) : Snd inj j X pc lo (.ref 26 :: st) M ee := sn_gR 36 (k := 11) (T := TX2) rfl iw2 rfl ⟨by decide, by decide⟩ (by decide) rfl (by rw [hj]; exact w_fl_X2_44) hd k1
theorem g_X2_47 {α : Type} {inj : α → Option Value × mm_M} {j : mm_J} {X : mm_X} {pc : Nat} {lo : List (Option Value)} {st : List Value} {M : mm_M} {ee : Option α} (hj : j.1.cls = RX2) (hd : decode j.2.1 pc = .ok (.getfield 47, 3)) (k1 : Snd inj j X (pc + 3) lo (.ref 37 :: st) M ee) : Snd inj j X pc lo (.ref 26 :: st) M ee := sn_gR 37 (k := 12) (T := TX2) rfl iw2 rfl ⟨by decide, by decide⟩ (by decide) rfl (by rw [hj]; exact w_fl_X2_47) hd k1
theorem g_X2_59 {α : Type} {inj : α → Option Value × mm_M} {j : mm_J} {X : mm_X} {pc : Nat} {lo : List (Option Value)} {st : List Value} {M : mm_M} {ee : Option α} (hj : j.1.cls = RX2) (hd : decode j.2.1 pc = .ok (.getfield 59, 3)) (k1 : Snd inj j X (pc + 3) lo (.int (mI M 26 16) :: st) M ee) : Snd inj j X pc lo (.ref 26 :: st) M ee := sn_gI (k := 16) (T := TX2) rfl iw2 rfl ⟨by decide, by decide⟩ (by decide) rfl (by rw [hj]; exact w_fl_X2_59) hd k1
theorem p_X2_59 {α : Type} {inj : α → Option Value × mm_M} {j : mm_J} {X : mm_X} {pc : Nat} {lo : List (Option Value)} {st : List Value} {M : mm_M} {ex : mm_M → Option α} {v : Int32} (hj : j.1.cls = RX2) (hd : decode j.2.1 pc = .ok (.putfield 59, 3)) (k1 : ∀ M, Snd inj j X (pc + 3) lo st M (ex M)) : Snd inj j X pc lo (.int v :: .ref 26 :: st) M (bM (sI M 26 16 v) ex) := sn_pI (k := 16) (T := TX2) tyX2 tyX2_ok nmX2 rfl iw2 rfl ⟨by decide, by decide⟩ (by decide) rfl rfl (tyX2_ok 16 (by decide)) (by rw [hj]; exact w_fl_X2_59) hd k1
theorem g_X2_56 {α : Type} {inj : α → Option Value × mm_M} {j : mm_J} {X : mm_X} {pc : Nat} {lo : List (Option Value)} {st : List Value} {M : mm_M} {ee : Option α} (hj : j.1.cls = RX2) (hd : decode j.2.1 pc = .ok (.getfield 56, 3)) (k1 : Snd inj j X (pc + 3) lo (.int (mI M 26 15) :: st) M ee) : Snd inj j X pc lo (.ref 26 :: st) M ee := sn_gI (k := 15) (T := TX2) rfl iw2 rfl ⟨by decide, by decide⟩ (by decide) rfl (by rw [hj]; exact w_fl_X2_56) hd k1
theorem p_X2_56 {α : Type} {inj : α → Option Value × mm_M} {j : mm_J} {X : mm_X} {pc : Nat} {lo : List (Option Value)} {st : List Value} {M : mm_M} {ex : mm_M → Option α} {v : Int32} (hj : j.1.cls = RX2) (hd : decode j.2.1 pc = .ok (.putfield 56, 3)) (k1 : ∀ M, Snd inj j X (pc + 3) lo st M (ex M)) : Snd inj j X pc lo (.int v :: .ref 26 :: st) M (bM (sI M 26 15 v) ex) := sn_pI (k := 15) (T := TX2) tyX2 tyX2_ok nmX2 rfl iw2 rfl ⟨by decide, by decide⟩ (by decide) rfl rfl (tyX2_ok 15 (by decide)) (by rw [hj]; exact w_fl_X2_56) hd k1
theorem g_X2_50 {α : Type} {inj : α → Option Value × mm_M} {j : mm_J} {X : mm_X} {pc : Nat} {lo : List (Option Value)} {st : List Value} {M : mm_M} {ee : Option α} (hj : j.1.cls = RX2) (hd : decode j.2.1 pc = .ok (.getfield 50, 3)) (k1 : Snd inj j X (pc + 3) lo (.ref 38 :: st) M ee) : Snd inj j X pc lo (.ref 26 :: st) M ee := sn_gR 38 (k := 13) (T := TX2) rfl iw2 rfl ⟨by decide, by decide⟩ (by decide) rfl (by rw [hj]; exact w_fl_X2_50) hd k1
theorem p_X2_62 {α : Type} {inj : α → Option Value × mm_M} {j : mm_J} {X : mm_X} {pc : Nat} {lo : List (Option Value)} {st : List Value} {M : mm_M} {ex : mm_M → Option α} {v : Int32} (hj : j.1.cls = RX2) (hd : decode j.2.1 pc = .ok (.putfield 62, 3)) (k1 : ∀ M, Snd inj j X (pc + 3) lo st M (ex M)) : Snd inj j X pc lo (.int v :: .ref 26 :: st) M (bM (sI M 26 17 v) ex) := sn_pI (k := 17) (T := TX2) tyX2 tyX2_ok nmX2 rfl iw2 rfl ⟨by decide, by decide⟩ (by decide) rfl rfl (tyX2_ok 17 (by decide)) (by rw [hj]; exact w_fl_X2_62) hd k1
theorem g_X2_53 {α : Type} {inj : α → Option Value × mm_M} {j : mm_J} {X : mm_X} {pc : Nat} {lo : List (Option Value)} {st : List Value} {M : mm_M} {ee : Option α} (hj : j.1.cls = RX2) (hd : decode j.2.1 pc = .ok (.getfield 53, 3)) (k1 : Snd inj j X (pc + 3) lo (.ref 39 :: st) M ee) : Snd inj j X pc lo (.ref 26 :: st) M ee := sn_gR 39 (k := 14) (T := TX2) rfl iw2 rfl ⟨by decide, by decide⟩ (by decide) rfl (by rw [hj]; exact w_fl_X2_53) hd k1
theorem g_X2_62 {α : Type} {inj : α → Option Value × mm_M} {j : mm_J} {X : mm_X} {pc : Nat} {lo : List (Option Value)} {st : List Value} {M : mm_M} {ee : Option α} (hj : j.1.cls = RX2) (hd : decode j.2.1 pc = .ok (.getfield 62, 3)) (k1 : Snd inj j X (pc + 3) lo (.int (mI M 26 17) :: st) M ee) : Snd inj j X pc lo (.ref 26 :: st) M ee := sn_gI (k := 17) (T := TX2) rfl iw2 rfl ⟨by decide, by decide⟩ (by decide) rfl (by rw [hj]; exact w_fl_X2_62) hd k1
theorem g_X2_37 {α : Type} {inj : α → Option Value × mm_M} {j : mm_J} {X : mm_X} {pc : Nat} {lo : List (Option Value)} {st : List Value} {M : mm_M} {ee : Option α} (hj : j.1.cls = RX2) (hd : decode j.2.1 pc = .ok (.getfield 37, 3)) (k1 : Snd inj j X (pc + 3) lo (.ref 34 :: st) M ee) : Snd inj j X pc lo (.ref 26 :: st) M ee := sn_gR 34 (k := 9) (T := TX2) rfl iw2 rfl ⟨by decide, by decide⟩ (by decide) rfl (by rw [hj]; exact w_fl_X2_37) hd k1
theorem g_X2_41 {α : Type} {inj : α → Option Value × mm_M} {j : mm_J} {X : mm_X} {pc : Nat} {lo : List (Option Value)} {st : List Value} {M : mm_M} {ee : Option α} (hj : j.1.cls = RX2) (hd : decode j.2.1 pc = .ok (.getfield 41, 3)) (k1 : Snd inj j X (pc + 3) lo (.ref 35 :: st) M ee) : Snd inj j X pc lo (.ref 26 :: st) M ee := sn_gR 35 (k := 10) (T := TX2) rfl iw2 rfl ⟨by decide, by decide⟩ (by decide) rfl (by rw [hj]; exact w_fl_X2_41) hd k1
theorem g_X2_65 {α : Type} {inj : α → Option Value × mm_M} {j : mm_J} {X : mm_X} {pc : Nat} {lo : List (Option Value)} {st : List Value} {M : mm_M} {ee : Option α} (hj : j.1.cls = RX2) (hd : decode j.2.1 pc = .ok (.getfield 65, 3)) (k1 : Snd inj j X (pc + 3) lo (.ref 40 :: st) M ee) : Snd inj j X pc lo (.ref 26 :: st) M ee := sn_gR 40 (k := 18) (T := TX2) rfl iw2 rfl ⟨by decide, by decide⟩ (by decide) rfl (by rw [hj]; exact w_fl_X2_65) hd k1
theorem g_X2_138 {α : Type} {inj : α → Option Value × mm_M} {j : mm_J} {X : mm_X} {pc : Nat} {lo : List (Option Value)} {st : List Value} {M : mm_M} {ee : Option α} {d : Nat} (hD : isD d = true) (hj : j.1.cls = RX2) (hd : decode j.2.1 pc = .ok (.getfield 138, 3)) (k1 : Snd inj j X (pc + 3) lo (.ref (d + 2) :: st) M ee) : Snd inj j X pc lo (.ref d :: st) M ee := sn_gR (d + 2) (k := 4) (T := TX0) rfl iw0 (isD_obj hD) (isD_pos hD) (by decide) (isD_kR hD 4 2 rfl (by decide)) (by rw [hj]; exact w_fl_X2_138) hd k1
theorem g_X5_9 {α : Type} {inj : α → Option Value × mm_M} {j : mm_J} {X : mm_X} {pc : Nat} {lo : List (Option Value)} {st : List Value} {M : mm_M} {ee : Option α} (hj : j.1.cls = RX5) (hd : decode j.2.1 pc = .ok (.getfield 9, 3)) (k1 : Snd inj j X (pc + 3) lo (.ref 21 :: st) M ee) : Snd inj j X pc lo (.ref 20 :: st) M ee := sn_gR 21 (k := 0) (T := TX5) rfl iw5 rfl ⟨by decide, by decide⟩ (by decide) rfl (by rw [hj]; exact w_fl_X5_9) hd k1
theorem g_X5_28 {α : Type} {inj : α → Option Value × mm_M} {j : mm_J} {X : mm_X} {pc : Nat} {lo : List (Option Value)} {st : List Value} {M : mm_M} {ee : Option α} (hj : j.1.cls = RX5) (hd : decode j.2.1 pc = .ok (.getfield 28, 3)) (k1 : Snd inj j X (pc + 3) lo (.int (mI M 20 5) :: st) M ee) : Snd inj j X pc lo (.ref 20 :: st) M ee := sn_gI (k := 5) (T := TX5) rfl iw5 rfl ⟨by decide, by decide⟩ (by decide) rfl (by rw [hj]; exact w_fl_X5_28) hd k1
theorem g_X5_22 {α : Type} {inj : α → Option Value × mm_M} {j : mm_J} {X : mm_X} {pc : Nat} {lo : List (Option Value)} {st : List Value} {M : mm_M} {ee : Option α} (hj : j.1.cls = RX5) (hd : decode j.2.1 pc = .ok (.getfield 22, 3)) (k1 : Snd inj j X (pc + 3) lo (.int (mI M 20 3) :: st) M ee) : Snd inj j X pc lo (.ref 20 :: st) M ee := sn_gI (k := 3) (T := TX5) rfl iw5 rfl ⟨by decide, by decide⟩ (by decide) rfl (by rw [hj]; exact w_fl_X5_22) hd k1
theorem p_X5_25 {α : Type} {inj : α → Option Value × mm_M} {j : mm_J} {X : mm_X} {pc : Nat} {lo : List (Option Value)} {st : List Value} {M : mm_M} {ex : mm_M → Option α} {v : Int32} (hj : j.1.cls = RX5) (hd : decode j.2.1 pc = .ok (.putfield 25, 3)) (k1 : ∀ M, Snd inj j X (pc + 3) lo st M (ex M)) : Snd inj j X pc lo (.int v :: .ref 20 :: st) M (bM (sI M 20 4 v) ex) := sn_pI (k := 4) (T := TX5) tyX5 tyX5_ok nmX5 rfl iw5 rfl ⟨by decide, by decide⟩ (by decide) rfl rfl (tyX5_ok 4 (by decide)) (by rw [hj]; exact w_fl_X5_25) hd k1
theorem p_X5_28 {α : Type} {inj : α → Option Value × mm_M} {j : mm_J} {X : mm_X} {pc : Nat} {lo : List (Option Value)} {st : List Value} {M : mm_M} {ex : mm_M → Option α} {v : Int32} (hj : j.1.cls = RX5) (hd : decode j.2.1 pc = .ok (.putfield 28, 3)) (k1 : ∀ M, Snd inj j X (pc + 3) lo st M (ex M)) : Snd inj j X pc lo (.int v :: .ref 20 :: st) M (bM (sI M 20 5 v) ex) := sn_pI (k := 5) (T := TX5) tyX5 tyX5_ok nmX5 rfl iw5 rfl ⟨by decide, by decide⟩ (by decide) rfl rfl (tyX5_ok 5 (by decide)) (by rw [hj]; exact w_fl_X5_28) hd k1
theorem g_X5_15 {α : Type} {inj : α → Option Value × mm_M} {j : mm_J} {X : mm_X} {pc : Nat} {lo : List (Option Value)} {st : List Value} {M : mm_M} {ee : Option α} (hj : j.1.cls = RX5) (hd : decode j.2.1 pc = .ok (.getfield 15, 3)) (k1 : Snd inj j X (pc + 3) lo (.int (mI M 20 1) :: st) M ee) : Snd inj j X pc lo (.ref 20 :: st) M ee := sn_gI (k := 1) (T := TX5) rfl iw5 rfl ⟨by decide, by decide⟩ (by decide) rfl (by rw [hj]; exact w_fl_X5_15) hd k1
theorem g_X5_25 {α : Type} {inj : α → Option Value × mm_M} {j : mm_J} {X : mm_X} {pc : Nat} {lo : List (Option Value)} {st : List Value} {M : mm_M} {ee : Option α} (hj : j.1.cls = RX5) (hd : decode j.2.1 pc = .ok (.getfield 25, 3)) (k1 : Snd inj j X (pc + 3) lo (.int (mI M 20 4) :: st) M ee) : Snd inj j X pc lo (.ref 20 :: st) M ee := sn_gI (k := 4) (T := TX5) rfl iw5 rfl ⟨by decide, by decide⟩ (by decide) rfl (by rw [hj]; exact w_fl_X5_25) hd k1
theorem p_X5_19 {α : Type} {inj : α → Option Value × mm_M} {j : mm_J} {X : mm_X} {pc : Nat} {lo : List (Option Value)} {st : List Value} {M : mm_M} {ex : mm_M → Option α} {v : Int32} (hj : j.1.cls = RX5) (hd : decode j.2.1 pc = .ok (.putfield 19, 3)) (k1 : ∀ M, Snd inj j X (pc + 3) lo st M (ex M)) : Snd inj j X pc lo (.int v :: .ref 20 :: st) M (bM (sI M 20 2 v) ex) := sn_pI (k := 2) (T := TX5) tyX5 tyX5_ok nmX5 rfl iw5 rfl ⟨by decide, by decide⟩ (by decide) rfl rfl (tyX5_ok 2 (by decide)) (by rw [hj]; exact w_fl_X5_19) hd k1
theorem p_X5_22 {α : Type} {inj : α → Option Value × mm_M} {j : mm_J} {X : mm_X} {pc : Nat} {lo : List (Option Value)} {st : List Value} {M : mm_M} {ex : mm_M → Option α} {v : Int32} (hj : j.1.cls = RX5) (hd : decode j.2.1 pc = .ok (.putfield 22, 3)) (k1 : ∀ M, Snd inj j X (pc + 3) lo st M (ex M)) : Snd inj j X pc lo (.int v :: .ref 20 :: st) M (bM (sI M 20 3 v) ex) := sn_pI (k := 3) (T := TX5) tyX5 tyX5_ok nmX5 rfl iw5 rfl ⟨by decide, by decide⟩ (by decide) rfl rfl (tyX5_ok 3 (by decide)) (by rw [hj]; exact w_fl_X5_22) hd k1
theorem g_X5_19 {α : Type} {inj : α → Option Value × mm_M} {j : mm_J} {X : mm_X} {pc : Nat} {lo : List (Option Value)} {st : List Value} {M : mm_M} {ee : Option α} (hj : j.1.cls = RX5) (hd : decode j.2.1 pc = .ok (.getfield 19, 3)) (k1 : Snd inj j X (pc + 3) lo (.int (mI M 20 2) :: st) M ee) : Snd inj j X pc lo (.ref 20 :: st) M ee := sn_gI (k := 2) (T := TX5) rfl iw5 rfl ⟨by decide, by decide⟩ (by decide) rfl (by rw [hj]; exact w_fl_X5_19) hd k1
theorem g_X3_9 {α : Type} {inj : α → Option Value × mm_M} {j : mm_J} {X : mm_X} {pc : Nat} {lo : List (Option Value)} {st : List Value} {M : mm_M} {ee : Option α} (hj : j.1.cls = RX3) (hd : decode j.2.1 pc = .ok (.getfield 9, 3)) (k1 : Snd inj j X (pc + 3) lo (.int (mI M 22 1) :: st) M ee) : Snd inj j X pc lo (.ref 22 :: st) M ee := sn_gI (k := 1) (T := TX3) rfl iw3 rfl ⟨by decide, by decide⟩ (by decide) rfl (by rw [hj]; exact w_fl_X3_9) hd k1
theorem g_X3_15 {α : Type} {inj : α → Option Value × mm_M} {j : mm_J} {X : mm_X} {pc : Nat} {lo : List (Option Value)} {st : List Value} {M : mm_M} {ee : Option α} (hj : j.1.cls = RX3) (hd : decode j.2.1 pc = .ok (.getfield 15, 3)) (k1 : Snd inj j X (pc + 3) lo (.ref 20 :: st) M ee) : Snd inj j X pc lo (.ref 22 :: st) M ee := sn_gR 20 (k := 0) (T := TX3) rfl iw3 rfl ⟨by decide, by decide⟩ (by decide) rfl (by rw [hj]; exact w_fl_X3_15) hd k1
theorem g_X3_31 {α : Type} {inj : α → Option Value × mm_M} {j : mm_J} {X : mm_X} {pc : Nat} {lo : List (Option Value)} {st : List Value} {M : mm_M} {ee : Option α} (hj : j.1.cls = RX3) (hd : decode j.2.1 pc = .ok (.getfield 31, 3)) (k1 : Snd inj j X (pc + 3) lo (.int (mI M 20 3) :: st) M ee) : Snd inj j X pc lo (.ref 20 :: st) M ee := sn_gI (k := 3) (T := TX5) rfl iw5 rfl ⟨by decide, by decide⟩ (by decide) rfl (by rw [hj]; exact w_fl_X3_31) hd k1
theorem p_X3_9 {α : Type} {inj : α → Option Value × mm_M} {j : mm_J} {X : mm_X} {pc : Nat} {lo : List (Option Value)} {st : List Value} {M : mm_M} {ex : mm_M → Option α} {v : Int32} (hj : j.1.cls = RX3) (hd : decode j.2.1 pc = .ok (.putfield 9, 3)) (k1 : ∀ M, Snd inj j X (pc + 3) lo st M (ex M)) : Snd inj j X pc lo (.int v :: .ref 22 :: st) M (bM (sI M 22 1 v) ex) := sn_pI (k := 1) (T := TX3) tyX3 tyX3_ok nmX3 rfl iw3 rfl ⟨by decide, by decide⟩ (by decide) rfl rfl (tyX3_ok 1 (by decide)) (by rw [hj]; exact w_fl_X3_9) hd k1
theorem g_X3_24 {α : Type} {inj : α → Option Value × mm_M} {j : mm_J} {X : mm_X} {pc : Nat} {lo : List (Option Value)} {st : List Value} {M : mm_M} {ee : Option α} (hj : j.1.cls = RX3) (hd : decode j.2.1 pc = .ok (.getfield 24, 3)) (k1 : Snd inj j X (pc + 3) lo (.int (mI M 20 2) :: st) M ee) : Snd inj j X pc lo (.ref 20 :: st) M ee := sn_gI (k := 2) (T := TX5) rfl iw5 rfl ⟨by decide, by decide⟩ (by decide) rfl (by rw [hj]; exact w_fl_X3_24) hd k1
theorem g_X3_87 {α : Type} {inj : α → Option Value × mm_M} {j : mm_J} {X : mm_X} {pc : Nat} {lo : List (Option Value)} {st : List Value} {M : mm_M} {ee : Option α} (hj : j.1.cls = RX3) (hd : decode j.2.1 pc = .ok (.getfield 87, 3)) (k1 : Snd inj j X (pc + 3) lo (.int (mI M 20 4) :: st) M ee) : Snd inj j X pc lo (.ref 20 :: st) M ee := sn_gI (k := 4) (T := TX5) rfl iw5 rfl ⟨by decide, by decide⟩ (by decide) rfl (by rw [hj]; exact w_fl_X3_87) hd k1
theorem g_X3_103 {α : Type} {inj : α → Option Value × mm_M} {j : mm_J} {X : mm_X} {pc : Nat} {lo : List (Option Value)} {st : List Value} {M : mm_M} {ee : Option α} {d : Nat} (hD : isD d = true) (hj : j.1.cls = RX3) (hd : decode j.2.1 pc = .ok (.getfield 103, 3)) (k1 : Snd inj j X (pc + 3) lo (.int (mI M d 0) :: st) M ee) : Snd inj j X pc lo (.ref d :: st) M ee := sn_gI (k := 0) (T := TX0) rfl iw0 (isD_obj hD) (isD_pos hD) (by decide) (isD_k0 hD 0 (by decide)) (by rw [hj]; exact w_fl_X3_103) hd k1
theorem g_X3_116 {α : Type} {inj : α → Option Value × mm_M} {j : mm_J} {X : mm_X} {pc : Nat} {lo : List (Option Value)} {st : List Value} {M : mm_M} {ee : Option α} {d : Nat} (hD : isD d = true) (hj : j.1.cls = RX3) (hd : decode j.2.1 pc = .ok (.getfield 116, 3)) (k1 : Snd inj j X (pc + 3) lo (.int (mI M d 1) :: st) M ee) : Snd inj j X pc lo (.ref d :: st) M ee := sn_gI (k := 1) (T := TX0) rfl iw0 (isD_obj hD) (isD_pos hD) (by decide) (isD_k0 hD 1 (by decide)) (by rw [hj]; exact w_fl_X3_116) hd k1
theorem p_X3_116 {α : Type} {inj : α → Option Value × mm_M} {j : mm_J} {X : mm_X} {pc : Nat} {lo : List (Option Value)} {st : List Value} {M : mm_M} {d : Nat} {v : Int32} {ex : mm_M → Option α} (hD : isD d = true) (hj : j.1.cls = RX3) (hd : decode j.2.1 pc = .ok (.putfield 116, 3)) (k1 : ∀ M, Snd inj j X (pc + 3) lo st M (ex M)) : Snd inj j X pc lo (.int v :: .ref d :: st) M (bM (sI M d 1 v) ex) := sn_pI (k := 1) (T := TX0) tyX0 tyX0_ok nmX0 rfl iw0 (isD_obj hD) (isD_pos hD) (by decide) rfl (isD_k0 hD 1 (by decide)) (tyX0_ok 1 (by decide)) (by rw [hj]; exact w_fl_X3_116) hd k1
theorem g_X3_119 {α : Type} {inj : α → Option Value × mm_M} {j : mm_J} {X : mm_X} {pc : Nat} {lo : List (Option Value)} {st : List Value} {M : mm_M} {ee : Option α} {d : Nat} (hD : isD d = true) (hj : j.1.cls = RX3) (hd : decode j.2.1 pc = .ok (.getfield 119, 3)) (k1 : Snd inj j X (pc + 3) lo (.ref (d + 4) :: st) M ee) : Snd inj j X pc lo (.ref d :: st) M ee := sn_gR (d + 4) (k := 6) (T := TX0) rfl iw0 (isD_obj hD) (isD_pos hD) (by decide) (isD_kR hD 6 4 rfl (by decide)) (by rw [hj]; exact w_fl_X3_119) hd k1
theorem g_X3_126 {α : Type} {inj : α → Option Value × mm_M} {j : mm_J} {X : mm_X} {pc : Nat} {lo : List (Option Value)} {st : List Value} {M : mm_M} {ee : Option α} {d : Nat} (hD : isD d = true) (hj : j.1.cls = RX3) (hd : decode j.2.1 pc = .ok (.getfield 126, 3)) (k1 : Snd inj j X (pc + 3) lo (.int (mI M d 2) :: st) M ee) : Snd inj j X pc lo (.ref d :: st) M ee := sn_gI (k := 2) (T := TX0) rfl iw0 (isD_obj hD) (isD_pos hD) (by decide) (isD_k0 hD 2 (by decide)) (by rw [hj]; exact w_fl_X3_126) hd k1
theorem g_X3_142 {α : Type} {inj : α → Option Value × mm_M} {j : mm_J} {X : mm_X} {pc : Nat} {lo : List (Option Value)} {st : List Value} {M : mm_M} {ee : Option α} {d : Nat} (hD : isD d = true) (hj : j.1.cls = RX3) (hd : decode j.2.1 pc = .ok (.getfield 142, 3)) (k1 : Snd inj j X (pc + 3) lo (.ref (d + 3) :: st) M ee) : Snd inj j X pc lo (.ref d :: st) M ee := sn_gR (d + 3) (k := 5) (T := TX0) rfl iw0 (isD_obj hD) (isD_pos hD) (by decide) (isD_kR hD 5 3 rfl (by decide)) (by rw [hj]; exact w_fl_X3_142) hd k1
theorem g_X4_15 {α : Type} {inj : α → Option Value × mm_M} {j : mm_J} {X : mm_X} {pc : Nat} {lo : List (Option Value)} {st : List Value} {M : mm_M} {ee : Option α} (hj : j.1.cls = RX4) (hd : decode j.2.1 pc = .ok (.getfield 15, 3)) (k1 : Snd inj j X (pc + 3) lo (.ref 43 :: st) M ee) : Snd inj j X pc lo (.ref 41 :: st) M ee := sn_gR 43 (k := 1) (T := TX4) rfl iw4 rfl ⟨by decide, by decide⟩ (by decide) rfl (by rw [hj]; exact w_fl_X4_15) hd k1
theorem g_X4_18 {α : Type} {inj : α → Option Value × mm_M} {j : mm_J} {X : mm_X} {pc : Nat} {lo : List (Option Value)} {st : List Value} {M : mm_M} {ee : Option α} (hj : j.1.cls = RX4) (hd : decode j.2.1 pc = .ok (.getfield 18, 3)) (k1 : Snd inj j X (pc + 3) lo (.ref 44 :: st) M ee) : Snd inj j X pc lo (.ref 41 :: st) M ee := sn_gR 44 (k := 2) (T := TX4) rfl iw4 rfl ⟨by decide, by decide⟩ (by decide) rfl (by rw [hj]; exact w_fl_X4_18) hd k1
theorem g_X4_49 {α : Type} {inj : α → Option Value × mm_M} {j : mm_J} {X : mm_X} {pc : Nat} {lo : List (Option Value)} {st : List Value} {M : mm_M} {ee : Option α} {d : Nat} (hD : isD d = true) (hj : j.1.cls = RX4) (hd : decode j.2.1 pc = .ok (.getfield 49, 3)) (k1 : Snd inj j X (pc + 3) lo (.ref (d + 1) :: st) M ee) : Snd inj j X pc lo (.ref d :: st) M ee := sn_gR (d + 1) (k := 3) (T := TX0) rfl iw0 (isD_obj hD) (isD_pos hD) (by decide) (isD_kR hD 3 1 rfl (by decide)) (by rw [hj]; exact w_fl_X4_49) hd k1
theorem g_X4_21 {α : Type} {inj : α → Option Value × mm_M} {j : mm_J} {X : mm_X} {pc : Nat} {lo : List (Option Value)} {st : List Value} {M : mm_M} {ee : Option α} {d : Nat} (hD : isD d = true) (hj : j.1.cls = RX4) (hd : decode j.2.1 pc = .ok (.getfield 21, 3)) (k1 : Snd inj j X (pc + 3) lo (.int (mI M d 2) :: st) M ee) : Snd inj j X pc lo (.ref d :: st) M ee := sn_gI (k := 2) (T := TX0) rfl iw0 (isD_obj hD) (isD_pos hD) (by decide) (isD_k0 hD 2 (by decide)) (by rw [hj]; exact w_fl_X4_21) hd k1
theorem g_X4_9 {α : Type} {inj : α → Option Value × mm_M} {j : mm_J} {X : mm_X} {pc : Nat} {lo : List (Option Value)} {st : List Value} {M : mm_M} {ee : Option α} (hj : j.1.cls = RX4) (hd : decode j.2.1 pc = .ok (.getfield 9, 3)) (k1 : Snd inj j X (pc + 3) lo (.ref 42 :: st) M ee) : Snd inj j X pc lo (.ref 41 :: st) M ee := sn_gR 42 (k := 0) (T := TX4) rfl iw4 rfl ⟨by decide, by decide⟩ (by decide) rfl (by rw [hj]; exact w_fl_X4_9) hd k1
theorem g_X4_31 {α : Type} {inj : α → Option Value × mm_M} {j : mm_J} {X : mm_X} {pc : Nat} {lo : List (Option Value)} {st : List Value} {M : mm_M} {ee : Option α} {d : Nat} (hD : isD d = true) (hj : j.1.cls = RX4) (hd : decode j.2.1 pc = .ok (.getfield 31, 3)) (k1 : Snd inj j X (pc + 3) lo (.int (mI M d 0) :: st) M ee) : Snd inj j X pc lo (.ref d :: st) M ee := sn_gI (k := 0) (T := TX0) rfl iw0 (isD_obj hD) (isD_pos hD) (by decide) (isD_k0 hD 0 (by decide)) (by rw [hj]; exact w_fl_X4_31) hd k1
theorem p_X5_15 {α : Type} {inj : α → Option Value × mm_M} {j : mm_J} {X : mm_X} {pc : Nat} {lo : List (Option Value)} {st : List Value} {M : mm_M} {ex : mm_M → Option α} {v : Int32} (hj : j.1.cls = RX5) (hd : decode j.2.1 pc = .ok (.putfield 15, 3)) (k1 : ∀ M, Snd inj j X (pc + 3) lo st M (ex M)) : Snd inj j X pc lo (.int v :: .ref 20 :: st) M (bM (sI M 20 1 v) ex) := sn_pI (k := 1) (T := TX5) tyX5 tyX5_ok nmX5 rfl iw5 rfl ⟨by decide, by decide⟩ (by decide) rfl rfl (tyX5_ok 1 (by decide)) (by rw [hj]; exact w_fl_X5_15) hd k1
theorem g_X6_22 {α : Type} {inj : α → Option Value × mm_M} {j : mm_J} {X : mm_X} {pc : Nat} {lo : List (Option Value)} {st : List Value} {M : mm_M} {ee : Option α} (hj : j.1.cls = RX6) (hd : decode j.2.1 pc = .ok (.getfield 22, 3)) (k1 : Snd inj j X (pc + 3) lo (.ref 20 :: st) M ee) : Snd inj j X pc lo (.ref 1 :: st) M ee := sn_gR 20 (k := 2) (T := TX6) rfl iw6 rfl ⟨by decide, by decide⟩ (by decide) rfl (by rw [hj]; exact w_fl_X6_22) hd k1
theorem g_X6_66 {α : Type} {inj : α → Option Value × mm_M} {j : mm_J} {X : mm_X} {pc : Nat} {lo : List (Option Value)} {st : List Value} {M : mm_M} {ee : Option α} (hj : j.1.cls = RX6) (hd : decode j.2.1 pc = .ok (.getfield 66, 3)) (k1 : Snd inj j X (pc + 3) lo (.int (mI M 20 1) :: st) M ee) : Snd inj j X pc lo (.ref 20 :: st) M ee := sn_gI (k := 1) (T := TX5) rfl iw5 rfl ⟨by decide, by decide⟩ (by decide) rfl (by rw [hj]; exact w_fl_X6_66) hd k1
theorem p_X6_66 {α : Type} {inj : α → Option Value × mm_M} {j : mm_J} {X : mm_X} {pc : Nat} {lo : List (Option Value)} {st : List Value} {M : mm_M} {ex : mm_M → Option α} {v : Int32} (hj : j.1.cls = RX6) (hd : decode j.2.1 pc = .ok (.putfield 66, 3)) (k1 : ∀ M, Snd inj j X (pc + 3) lo st M (ex M)) : Snd inj j X pc lo (.int v :: .ref 20 :: st) M (bM (sI M 20 1 v) ex) := sn_pI (k := 1) (T := TX5) tyX5 tyX5_ok nmX5 rfl iw5 rfl ⟨by decide, by decide⟩ (by decide) rfl rfl (tyX5_ok 1 (by decide)) (by rw [hj]; exact w_fl_X6_66) hd k1
theorem g_X6_16 {α : Type} {inj : α → Option Value × mm_M} {j : mm_J} {X : mm_X} {pc : Nat} {lo : List (Option Value)} {st : List Value} {M : mm_M} {ex : Nat → Option α} (hj : j.1.cls = RX6) (hd : decode j.2.1 pc = .ok (.getfield 16, 3)) (k1 : ∀ d, Snd inj j X (pc + 3) lo (.ref d :: st) M (ex d)) : Snd inj j X pc lo (.ref 1 :: st) M (bN (mDra M) ex) := sn_gDra iw6 (by rw [hj]; exact w_fl_X6_16) hd k1
theorem g_X6_12 {α : Type} {inj : α → Option Value × mm_M} {j : mm_J} {X : mm_X} {pc : Nat} {lo : List (Option Value)} {st : List Value} {M : mm_M} {ex : Nat → Option α} (hj : j.1.cls = RX6) (hd : decode j.2.1 pc = .ok (.getfield 12, 3)) (k1 : ∀ d, Snd inj j X (pc + 3) lo (.ref d :: st) M (ex d)) : Snd inj j X pc lo (.ref 1 :: st) M (bN (mNow M) ex) := sn_gNow iw6 (by rw [hj]; exact w_fl_X6_12) hd k1
theorem g_X6_31 {α : Type} {inj : α → Option Value × mm_M} {j : mm_J} {X : mm_X} {pc : Nat} {lo : List (Option Value)} {st : List Value} {M : mm_M} {ee : Option α} (hj : j.1.cls = RX6) (hd : decode j.2.1 pc = .ok (.getfield 31, 3)) (k1 : Snd inj j X (pc + 3) lo (.ref 22 :: st) M ee) : Snd inj j X pc lo (.ref 1 :: st) M ee := sn_gR 22 (k := 3) (T := TX6) rfl iw6 rfl ⟨by decide, by decide⟩ (by decide) rfl (by rw [hj]; exact w_fl_X6_31) hd k1
theorem p_X6_12 {α : Type} {inj : α → Option Value × mm_M} {j : mm_J} {X : mm_X} {pc : Nat} {lo : List (Option Value)} {st : List Value} {M : mm_M} {ex : mm_M → Option α} {d : Nat} (hj : j.1.cls = RX6) (hd : decode j.2.1 pc = .ok (.putfield 12, 3)) (k1 : ∀ M, Snd inj j X (pc + 3) lo st M (ex M)) : Snd inj j X pc lo (.ref d :: .ref 1 :: st) M (bM (sNow M d) ex) := sn_pNow iw6 (by rw [hj]; exact w_fl_X6_12) hd k1
theorem p_X6_16 {α : Type} {inj : α → Option Value × mm_M} {j : mm_J} {X : mm_X} {pc : Nat} {lo : List (Option Value)} {st : List Value} {M : mm_M} {ex : mm_M → Option α} {d : Nat} (hj : j.1.cls = RX6) (hd : decode j.2.1 pc = .ok (.putfield 16, 3)) (k1 : ∀ M, Snd inj j X (pc + 3) lo st M (ex M)) : Snd inj j X pc lo (.ref d :: .ref 1 :: st) M (bM (sDra M d) ex) := sn_pDra iw6 (by rw [hj]; exact w_fl_X6_16) hd k1
theorem p_X6_62 {α : Type} {inj : α → Option Value × mm_M} {j : mm_J} {X : mm_X} {pc : Nat} {lo : List (Option Value)} {st : List Value} {M : mm_M} {ex : mm_M → Option α} {v : Int32} (hz : v = 0 ∨ v = 1) (hj : j.1.cls = RX6) (hd : decode j.2.1 pc = .ok (.putfield 62, 3)) (k1 : ∀ M, Snd inj j X (pc + 3) lo st M (ex M)) : Snd inj j X pc lo (.int v :: .ref 1 :: st) M (bM (sI M 1 8 v) ex) := sn_pZ (k := 8) (T := TX6) hz tyX6 tyX6_ok nmX6 rfl iw6 rfl ⟨by decide, by decide⟩ (by decide) rfl rfl (tyX6_ok 8 (by decide)) (by rw [hj]; exact w_fl_X6_62) hd k1
theorem g_X6_81 {α : Type} {inj : α → Option Value × mm_M} {j : mm_J} {X : mm_X} {pc : Nat} {lo : List (Option Value)} {st : List Value} {M : mm_M} {ee : Option α} (hj : j.1.cls = RX6) (hd : decode j.2.1 pc = .ok (.getfield 81, 3)) (k1 : Snd inj j X (pc + 3) lo (.int (mI M 22 1) :: st) M ee) : Snd inj j X pc lo (.ref 22 :: st) M ee := sn_gI (k := 1) (T := TX3) rfl iw3 rfl ⟨by decide, by decide⟩ (by decide) rfl (by rw [hj]; exact w_fl_X6_81) hd k1
theorem g_X6_94 {α : Type} {inj : α → Option Value × mm_M} {j : mm_J} {X : mm_X} {pc : Nat} {lo : List (Option Value)} {st : List Value} {M : mm_M} {ee : Option α} {d : Nat} (hD : isD d = true) (hj : j.1.cls = RX6) (hd : decode j.2.1 pc = .ok (.getfield 94, 3)) (k1 : Snd inj j X (pc + 3) lo (.int (mI M d 2) :: st) M ee) : Snd inj j X pc lo (.ref d :: st) M ee := sn_gI (k := 2) (T := TX0) rfl iw0 (isD_obj hD) (isD_pos hD) (by decide) (isD_k0 hD 2 (by decide)) (by rw [hj]; exact w_fl_X6_94) hd k1
theorem g_X6_110 {α : Type} {inj : α → Option Value × mm_M} {j : mm_J} {X : mm_X} {pc : Nat} {lo : List (Option Value)} {st : List Value} {M : mm_M} {ee : Option α} {d : Nat} (hD : isD d = true) (hj : j.1.cls = RX6) (hd : decode j.2.1 pc = .ok (.getfield 110, 3)) (k1 : Snd inj j X (pc + 3) lo (.ref (d + 3) :: st) M ee) : Snd inj j X pc lo (.ref d :: st) M ee := sn_gR (d + 3) (k := 5) (T := TX0) rfl iw0 (isD_obj hD) (isD_pos hD) (by decide) (isD_kR hD 5 3 rfl (by decide)) (by rw [hj]; exact w_fl_X6_110) hd k1
theorem g_X6_38 {α : Type} {inj : α → Option Value × mm_M} {j : mm_J} {X : mm_X} {pc : Nat} {lo : List (Option Value)} {st : List Value} {M : mm_M} {ee : Option α} (hj : j.1.cls = RX6) (hd : decode j.2.1 pc = .ok (.getfield 38, 3)) (k1 : Snd inj j X (pc + 3) lo (.ref 23 :: st) M ee) : Snd inj j X pc lo (.ref 1 :: st) M ee := sn_gR 23 (k := 4) (T := TX6) rfl iw6 rfl ⟨by decide, by decide⟩ (by decide) rfl (by rw [hj]; exact w_fl_X6_38) hd k1
theorem g_X6_123 {α : Type} {inj : α → Option Value × mm_M} {j : mm_J} {X : mm_X} {pc : Nat} {lo : List (Option Value)} {st : List Value} {M : mm_M} {ee : Option α} (hj : j.1.cls = RX6) (hd : decode j.2.1 pc = .ok (.getfield 123, 3)) (k1 : Snd inj j X (pc + 3) lo (.int (mI M 23 3) :: st) M ee) : Snd inj j X pc lo (.ref 23 :: st) M ee := sn_gI (k := 3) (T := TX1) rfl iw1 rfl ⟨by decide, by decide⟩ (by decide) rfl (by rw [hj]; exact w_fl_X6_123) hd k1
theorem g_X6_126 {α : Type} {inj : α → Option Value × mm_M} {j : mm_J} {X : mm_X} {pc : Nat} {lo : List (Option Value)} {st : List Value} {M : mm_M} {ee : Option α} {d : Nat} (hD : isD d = true) (hj : j.1.cls = RX6) (hd : decode j.2.1 pc = .ok (.getfield 126, 3)) (k1 : Snd inj j X (pc + 3) lo (.int (mI M d 0) :: st) M ee) : Snd inj j X pc lo (.ref d :: st) M ee := sn_gI (k := 0) (T := TX0) rfl iw0 (isD_obj hD) (isD_pos hD) (by decide) (isD_k0 hD 0 (by decide)) (by rw [hj]; exact w_fl_X6_126) hd k1
theorem g_X6_129 {α : Type} {inj : α → Option Value × mm_M} {j : mm_J} {X : mm_X} {pc : Nat} {lo : List (Option Value)} {st : List Value} {M : mm_M} {ee : Option α} {d : Nat} (hD : isD d = true) (hj : j.1.cls = RX6) (hd : decode j.2.1 pc = .ok (.getfield 129, 3)) (k1 : Snd inj j X (pc + 3) lo (.int (mI M d 1) :: st) M ee) : Snd inj j X pc lo (.ref d :: st) M ee := sn_gI (k := 1) (T := TX0) rfl iw0 (isD_obj hD) (isD_pos hD) (by decide) (isD_k0 hD 1 (by decide)) (by rw [hj]; exact w_fl_X6_129) hd k1
theorem g_X6_132 {α : Type} {inj : α → Option Value × mm_M} {j : mm_J} {X : mm_X} {pc : Nat} {lo : List (Option Value)} {st : List Value} {M : mm_M} {ee : Option α} {d : Nat} (hD : isD d = true) (hj : j.1.cls = RX6) (hd : decode j.2.1 pc = .ok (.getfield 132, 3)) (k1 : Snd inj j X (pc + 3) lo (.ref (d + 1) :: st) M ee) : Snd inj j X pc lo (.ref d :: st) M ee := sn_gR (d + 1) (k := 3) (T := TX0) rfl iw0 (isD_obj hD) (isD_pos hD) (by decide) (isD_kR hD 3 1 rfl (by decide)) (by rw [hj]; exact w_fl_X6_132) hd k1
theorem g_X6_135 {α : Type} {inj : α → Option Value × mm_M} {j : mm_J} {X : mm_X} {pc : Nat} {lo : List (Option Value)} {st : List Value} {M : mm_M} {ee : Option α} {d : Nat} (hD : isD d = true) (hj : j.1.cls = RX6) (hd : decode j.2.1 pc = .ok (.getfield 135, 3)) (k1 : Snd inj j X (pc + 3) lo (.ref (d + 2) :: st) M ee) : Snd inj j X pc lo (.ref d :: st) M ee := sn_gR (d + 2) (k := 4) (T := TX0) rfl iw0 (isD_obj hD) (isD_pos hD) (by decide) (isD_kR hD 4 2 rfl (by decide)) (by rw [hj]; exact w_fl_X6_135) hd k1
theorem g_X6_152 {α : Type} {inj : α → Option Value × mm_M} {j : mm_J} {X : mm_X} {pc : Nat} {lo : List (Option Value)} {st : List Value} {M : mm_M} {ee : Option α} {d : Nat} (hD : isD d = true) (hj : j.1.cls = RX6) (hd : decode j.2.1 pc = .ok (.getfield 152, 3)) (k1 : Snd inj j X (pc + 3) lo (.ref (d + 4) :: st) M ee) : Snd inj j X pc lo (.ref d :: st) M ee := sn_gR (d + 4) (k := 6) (T := TX0) rfl iw0 (isD_obj hD) (isD_pos hD) (by decide) (isD_kR hD 6 4 rfl (by decide)) (by rw [hj]; exact w_fl_X6_152) hd k1
theorem g_X6_155 {α : Type} {inj : α → Option Value × mm_M} {j : mm_J} {X : mm_X} {pc : Nat} {lo : List (Option Value)} {st : List Value} {M : mm_M} {ee : Option α} {d : Nat} (hD : isD d = true) (hj : j.1.cls = RX6) (hd : decode j.2.1 pc = .ok (.getfield 155, 3)) (k1 : Snd inj j X (pc + 3) lo (.ref (d + 5) :: st) M ee) : Snd inj j X pc lo (.ref d :: st) M ee := sn_gR (d + 5) (k := 7) (T := TX0) rfl iw0 (isD_obj hD) (isD_pos hD) (by decide) (isD_kR hD 7 5 rfl (by decide)) (by rw [hj]; exact w_fl_X6_155) hd k1
theorem g_X6_158 {α : Type} {inj : α → Option Value × mm_M} {j : mm_J} {X : mm_X} {pc : Nat} {lo : List (Option Value)} {st : List Value} {M : mm_M} {ee : Option α} {d : Nat} (hD : isD d = true) (hj : j.1.cls = RX6) (hd : decode j.2.1 pc = .ok (.getfield 158, 3)) (k1 : Snd inj j X (pc + 3) lo (.ref (d + 6) :: st) M ee) : Snd inj j X pc lo (.ref d :: st) M ee := sn_gR (d + 6) (k := 8) (T := TX0) rfl iw0 (isD_obj hD) (isD_pos hD) (by decide) (isD_kR hD 8 6 rfl (by decide)) (by rw [hj]; exact w_fl_X6_158) hd k1
theorem g_X6_174 {α : Type} {inj : α → Option Value × mm_M} {j : mm_J} {X : mm_X} {pc : Nat} {lo : List (Option Value)} {st : List Value} {M : mm_M} {ee : Option α} (hj : j.1.cls = RX6) (hd : decode j.2.1 pc = .ok (.getfield 174, 3)) (k1 : Snd inj j X (pc + 3) lo (.ref 25 :: st) M ee) : Snd inj j X pc lo (.ref 23 :: st) M ee := sn_gR 25 (k := 1) (T := TX1) rfl iw1 rfl ⟨by decide, by decide⟩ (by decide) rfl (by rw [hj]; exact w_fl_X6_174) hd k1
theorem g_X6_62 {α : Type} {inj : α → Option Value × mm_M} {j : mm_J} {X : mm_X} {pc : Nat} {lo : List (Option Value)} {st : List Value} {M : mm_M} {ee : Option α} (hj : j.1.cls = RX6) (hd : decode j.2.1 pc = .ok (.getfield 62, 3)) (k1 : Snd inj j X (pc + 3) lo (.int (mI M 1 8) :: st) M ee) : Snd inj j X pc lo (.ref 1 :: st) M ee := sn_gI (k := 8) (T := TX6) rfl iw6 rfl ⟨by decide, by decide⟩ (by decide) rfl (by rw [hj]; exact w_fl_X6_62) hd k1
theorem g_X6_47 {α : Type} {inj : α → Option Value × mm_M} {j : mm_J} {X : mm_X} {pc : Nat} {lo : List (Option Value)} {st : List Value} {M : mm_M} {ee : Option α} (hj : j.1.cls = RX6) (hd : decode j.2.1 pc = .ok (.getfield 47, 3)) (k1 : Snd inj j X (pc + 3) lo (.ref 26 :: st) M ee) : Snd inj j X pc lo (.ref 1 :: st) M ee := sn_gR 26 (k := 5) (T := TX6) rfl iw6 rfl ⟨by decide, by decide⟩ (by decide) rfl (by rw [hj]; exact w_fl_X6_47) hd k1
theorem g_X6_58 {α : Type} {inj : α → Option Value × mm_M} {j : mm_J} {X : mm_X} {pc : Nat} {lo : List (Option Value)} {st : List Value} {M : mm_M} {ee : Option α} (hj : j.1.cls = RX6) (hd : decode j.2.1 pc = .ok (.getfield 58, 3)) (k1 : Snd inj j X (pc + 3) lo (.ref 45 :: st) M ee) : Snd inj j X pc lo (.ref 1 :: st) M ee := sn_gR 45 (k := 7) (T := TX6) rfl iw6 rfl ⟨by decide, by decide⟩ (by decide) rfl (by rw [hj]; exact w_fl_X6_58) hd k1
theorem g_X6_245 {α : Type} {inj : α → Option Value × mm_M} {j : mm_J} {X : mm_X} {pc : Nat} {lo : List (Option Value)} {st : List Value} {M : mm_M} {ee : Option α} (hj : j.1.cls = RX6) (hd : decode j.2.1 pc = .ok (.getfield 245, 3)) (k1 : Snd inj j X (pc + 3) lo (.ref 28 :: st) M ee) : Snd inj j X pc lo (.ref 26 :: st) M ee := sn_gR 28 (k := 1) (T := TX2) rfl iw2 rfl ⟨by decide, by decide⟩ (by decide) rfl (by rw [hj]; exact w_fl_X6_245) hd k1
theorem g_X6_248 {α : Type} {inj : α → Option Value × mm_M} {j : mm_J} {X : mm_X} {pc : Nat} {lo : List (Option Value)} {st : List Value} {M : mm_M} {ee : Option α} (hj : j.1.cls = RX6) (hd : decode j.2.1 pc = .ok (.getfield 248, 3)) (k1 : Snd inj j X (pc + 3) lo (.ref 27 :: st) M ee) : Snd inj j X pc lo (.ref 26 :: st) M ee := sn_gR 27 (k := 0) (T := TX2) rfl iw2 rfl ⟨by decide, by decide⟩ (by decide) rfl (by rw [hj]; exact w_fl_X6_248) hd k1
theorem p_X6_221 {α : Type} {inj : α → Option Value × mm_M} {j : mm_J} {X : mm_X} {pc : Nat} {lo : List (Option Value)} {st : List Value} {M : mm_M} {ex : mm_M → Option α} {v : Int32} (hj : j.1.cls = RX6) (hd : decode j.2.1 pc = .ok (.putfield 221, 3)) (k1 : ∀ M, Snd inj j X (pc + 3) lo st M (ex M)) : Snd inj j X pc lo (.int v :: .ref 26 :: st) M (bM (sI M 26 2 v) ex) := sn_pI (k := 2) (T := TX2) tyX2 tyX2_ok nmX2 rfl iw2 rfl ⟨by decide, by decide⟩ (by decide) rfl rfl (tyX2_ok 2 (by decide)) (by rw [hj]; exact w_fl_X6_221) hd k1
theorem g_X6_54 {α : Type} {inj : α → Option Value × mm_M} {j : mm_J} {X : mm_X} {pc : Nat} {lo : List (Option Value)} {st : List Value} {M : mm_M} {ee : Option α} (hj : j.1.cls = RX6) (hd : decode j.2.1 pc = .ok (.getfield 54, 3)) (k1 : Snd inj j X (pc + 3) lo (.ref 41 :: st) M ee) : Snd inj j X pc lo (.ref 1 :: st) M ee := sn_gR 41 (k := 6) (T := TX6) rfl iw6 rfl ⟨by decide, by decide⟩ (by decide) rfl (by rw [hj]; exact w_fl_X6_54) hd k1
theorem g_X6_234 {α : Type} {inj : α → Option Value × mm_M} {j : mm_J} {X : mm_X} {pc : Nat} {lo : List (Option Value)} {st : List Value} {M : mm_M} {ee : Option α} (hj : j.1.cls = RX6) (hd : decode j.2.1 pc = .ok (.getfield 234, 3)) (k1 : Snd inj j X (pc + 3) lo (.ref 42 :: st) M ee) : Snd inj j X pc lo (.ref 41 :: st) M ee := sn_gR 42 (k := 0) (T := TX4) rfl iw4 rfl ⟨by decide, by decide⟩ (by decide) rfl (by rw [hj]; exact w_fl_X6_234) hd k1
theorem g_X6_235 {α : Type} {inj : α → Option Value × mm_M} {j : mm_J} {X : mm_X} {pc : Nat} {lo : List (Option Value)} {st : List Value} {M : mm_M} {ee : Option α} (hj : j.1.cls = RX6) (hd : decode j.2.1 pc = .ok (.getfield 235, 3)) (k1 : Snd inj j X (pc + 3) lo (.int (mI M 23 4) :: st) M ee) : Snd inj j X pc lo (.ref 23 :: st) M ee := sn_gI (k := 4) (T := TX1) rfl iw1 rfl ⟨by decide, by decide⟩ (by decide) rfl (by rw [hj]; exact w_fl_X6_235) hd k1
theorem g_X6_238 {α : Type} {inj : α → Option Value × mm_M} {j : mm_J} {X : mm_X} {pc : Nat} {lo : List (Option Value)} {st : List Value} {M : mm_M} {ee : Option α} (hj : j.1.cls = RX6) (hd : decode j.2.1 pc = .ok (.getfield 238, 3)) (k1 : Snd inj j X (pc + 3) lo (.int (mI M 23 2) :: st) M ee) : Snd inj j X pc lo (.ref 23 :: st) M ee := sn_gI (k := 2) (T := TX1) rfl iw1 rfl ⟨by decide, by decide⟩ (by decide) rfl (by rw [hj]; exact w_fl_X6_238) hd k1
theorem g_X7_56 {α : Type} {inj : α → Option Value × mm_M} {j : mm_J} {X : mm_X} {pc : Nat} {lo : List (Option Value)} {st : List Value} {M : mm_M} {ee : Option α} (hj : j.1.cls = RX7) (hd : decode j.2.1 pc = .ok (.getfield 56, 3)) (k1 : Snd inj j X (pc + 3) lo (.int (mI M 46 0) :: st) M ee) : Snd inj j X pc lo (.ref 46 :: st) M ee := sn_gI (k := 0) (T := TX7) rfl iw7 rfl ⟨by decide, by decide⟩ (by decide) rfl (by rw [hj]; exact w_fl_X7_56) hd k1
theorem g_X7_7 {α : Type} {inj : α → Option Value × mm_M} {j : mm_J} {X : mm_X} {pc : Nat} {lo : List (Option Value)} {st : List Value} {M : mm_M} {ee : Option α} (hj : j.1.cls = RX7) (hd : decode j.2.1 pc = .ok (.getfield 7, 3)) (k1 : Snd inj j X (pc + 3) lo (.ref 47 :: st) M ee) : Snd inj j X pc lo (.ref 46 :: st) M ee := sn_gR 47 (k := 1) (T := TX7) rfl iw7 rfl ⟨by decide, by decide⟩ (by decide) rfl (by rw [hj]; exact w_fl_X7_7) hd k1
theorem g_X7_16 {α : Type} {inj : α → Option Value × mm_M} {j : mm_J} {X : mm_X} {pc : Nat} {lo : List (Option Value)} {st : List Value} {M : mm_M} {ee : Option α} (hj : j.1.cls = RX7) (hd : decode j.2.1 pc = .ok (.getfield 16, 3)) (k1 : Snd inj j X (pc + 3) lo (.ref 49 :: st) M ee) : Snd inj j X pc lo (.ref 46 :: st) M ee := sn_gR 49 (k := 3) (T := TX7) rfl iw7 rfl ⟨by decide, by decide⟩ (by decide) rfl (by rw [hj]; exact w_fl_X7_16) hd k1
theorem g_X7_64 {α : Type} {inj : α → Option Value × mm_M} {j : mm_J} {X : mm_X} {pc : Nat} {lo : List (Option Value)} {st : List Value} {M : mm_M} {ee : Option α} (hj : j.1.cls = RX7) (hd : decode j.2.1 pc = .ok (.getfield 64, 3)) (k1 : Snd inj j X (pc + 3) lo (.int (mI M 46 4) :: st) M ee) : Snd inj j X pc lo (.ref 46 :: st) M ee := sn_gI (k := 4) (T := TX7) rfl iw7 rfl ⟨by decide, by decide⟩ (by decide) rfl (by rw [hj]; exact w_fl_X7_64) hd k1
theorem p_X7_64 {α : Type} {inj : α → Option Value × mm_M} {j : mm_J} {X : mm_X} {pc : Nat} {lo : List (Option Value)} {st : List Value} {M : mm_M} {ex : mm_M → Option α} {v : Int32} (hj : j.1.cls = RX7) (hd : decode j.2.1 pc = .ok (.putfield 64, 3)) (k1 : ∀ M, Snd inj j X (pc + 3) lo st M (ex M)) : Snd inj j X pc lo (.int v :: .ref 46 :: st) M (bM (sI M 46 4 v) ex) := sn_pI (k := 4) (T := TX7) tyX7 tyX7_ok nmX7 rfl iw7 rfl ⟨by decide, by decide⟩ (by decide) rfl rfl (tyX7_ok 4 (by decide)) (by rw [hj]; exact w_fl_X7_64) hd k1
theorem p_X7_56 {α : Type} {inj : α → Option Value × mm_M} {j : mm_J} {X : mm_X} {pc : Nat} {lo : List (Option Value)} {st : List Value} {M : mm_M} {ex : mm_M → Option α} {v : Int32} (hj : j.1.cls = RX7) (hd : decode j.2.1 pc = .ok (.putfield 56, 3)) (k1 : ∀ M, Snd inj j X (pc + 3) lo st M (ex M)) : Snd inj j X pc lo (.int v :: .ref 46 :: st) M (bM (sI M 46 0 v) ex) := sn_pI (k := 0) (T := TX7) tyX7 tyX7_ok nmX7 rfl iw7 rfl ⟨by decide, by decide⟩ (by decide) rfl rfl (tyX7_ok 0 (by decide)) (by rw [hj]; exact w_fl_X7_56) hd k1
theorem g_X7_71 {α : Type} {inj : α → Option Value × mm_M} {j : mm_J} {X : mm_X} {pc : Nat} {lo : List (Option Value)} {st : List Value} {M : mm_M} {ee : Option α} (hj : j.1.cls = RX7) (hd : decode j.2.1 pc = .ok (.getfield 71, 3)) (k1 : Snd inj j X (pc + 3) lo (.int (mI M 46 6) :: st) M ee) : Snd inj j X pc lo (.ref 46 :: st) M ee := sn_gI (k := 6) (T := TX7) rfl iw7 rfl ⟨by decide, by decide⟩ (by decide) rfl (by rw [hj]; exact w_fl_X7_71) hd k1
theorem p_X7_71 {α : Type} {inj : α → Option Value × mm_M} {j : mm_J} {X : mm_X} {pc : Nat} {lo : List (Option Value)} {st : List Value} {M : mm_M} {ex : mm_M → Option α} {v : Int32} (hj : j.1.cls = RX7) (hd : decode j.2.1 pc = .ok (.putfield 71, 3)) (k1 : ∀ M, Snd inj j X (pc + 3) lo st M (ex M)) : Snd inj j X pc lo (.int v :: .ref 46 :: st) M (bM (sI M 46 6 v) ex) := sn_pI (k := 6) (T := TX7) tyX7 tyX7_ok nmX7 rfl iw7 rfl ⟨by decide, by decide⟩ (by decide) rfl rfl (tyX7_ok 6 (by decide)) (by rw [hj]; exact w_fl_X7_71) hd k1
theorem p_X7_74 {α : Type} {inj : α → Option Value × mm_M} {j : mm_J} {X : mm_X} {pc : Nat} {lo : List (Option Value)} {st : List Value} {M : mm_M} {ex : mm_M → Option α} {v : Int32} (hj : j.1.cls = RX7) (hd : decode j.2.1 pc = .ok (.putfield 74, 3)) (k1 : ∀ M, Snd inj j X (pc + 3) lo st M (ex M)) : Snd inj j X pc lo (.int v :: .ref 46 :: st) M (bM (sI M 46 7 v) ex) := sn_pI (k := 7) (T := TX7) tyX7 tyX7_ok nmX7 rfl iw7 rfl ⟨by decide, by decide⟩ (by decide) rfl rfl (tyX7_ok 7 (by decide)) (by rw [hj]; exact w_fl_X7_74) hd k1
theorem g_X7_89 {α : Type} {inj : α → Option Value × mm_M} {j : mm_J} {X : mm_X} {pc : Nat} {lo : List (Option Value)} {st : List Value} {M : mm_M} {ee : Option α} (hj : j.1.cls = RX7) (hd : decode j.2.1 pc = .ok (.getfield 89, 3)) (k1 : Snd inj j X (pc + 3) lo (.int (mI M 46 9) :: st) M ee) : Snd inj j X pc lo (.ref 46 :: st) M ee := sn_gI (k := 9) (T := TX7) rfl iw7 rfl ⟨by decide, by decide⟩ (by decide) rfl (by rw [hj]; exact w_fl_X7_89) hd k1
theorem p_X7_92 {α : Type} {inj : α → Option Value × mm_M} {j : mm_J} {X : mm_X} {pc : Nat} {lo : List (Option Value)} {st : List Value} {M : mm_M} {ex : mm_M → Option α} {v : Int32} (hj : j.1.cls = RX7) (hd : decode j.2.1 pc = .ok (.putfield 92, 3)) (k1 : ∀ M, Snd inj j X (pc + 3) lo st M (ex M)) : Snd inj j X pc lo (.int v :: .ref 46 :: st) M (bM (sI M 46 8 v) ex) := sn_pI (k := 8) (T := TX7) tyX7 tyX7_ok nmX7 rfl iw7 rfl ⟨by decide, by decide⟩ (by decide) rfl rfl (tyX7_ok 8 (by decide)) (by rw [hj]; exact w_fl_X7_92) hd k1
theorem g_X7_92 {α : Type} {inj : α → Option Value × mm_M} {j : mm_J} {X : mm_X} {pc : Nat} {lo : List (Option Value)} {st : List Value} {M : mm_M} {ee : Option α} (hj : j.1.cls = RX7) (hd : decode j.2.1 pc = .ok (.getfield 92, 3)) (k1 : Snd inj j X (pc + 3) lo (.int (mI M 46 8) :: st) M ee) : Snd inj j X pc lo (.ref 46 :: st) M ee := sn_gI (k := 8) (T := TX7) rfl iw7 rfl ⟨by decide, by decide⟩ (by decide) rfl (by rw [hj]; exact w_fl_X7_92) hd k1
theorem p_X7_89 {α : Type} {inj : α → Option Value × mm_M} {j : mm_J} {X : mm_X} {pc : Nat} {lo : List (Option Value)} {st : List Value} {M : mm_M} {ex : mm_M → Option α} {v : Int32} (hj : j.1.cls = RX7) (hd : decode j.2.1 pc = .ok (.putfield 89, 3)) (k1 : ∀ M, Snd inj j X (pc + 3) lo st M (ex M)) : Snd inj j X pc lo (.int v :: .ref 46 :: st) M (bM (sI M 46 9 v) ex) := sn_pI (k := 9) (T := TX7) tyX7 tyX7_ok nmX7 rfl iw7 rfl ⟨by decide, by decide⟩ (by decide) rfl rfl (tyX7_ok 9 (by decide)) (by rw [hj]; exact w_fl_X7_89) hd k1
theorem g_X7_13 {α : Type} {inj : α → Option Value × mm_M} {j : mm_J} {X : mm_X} {pc : Nat} {lo : List (Option Value)} {st : List Value} {M : mm_M} {ee : Option α} (hj : j.1.cls = RX7) (hd : decode j.2.1 pc = .ok (.getfield 13, 3)) (k1 : Snd inj j X (pc + 3) lo (.ref 48 :: st) M ee) : Snd inj j X pc lo (.ref 46 :: st) M ee := sn_gR 48 (k := 2) (T := TX7) rfl iw7 rfl ⟨by decide, by decide⟩ (by decide) rfl (by rw [hj]; exact w_fl_X7_13) hd k1
theorem g_X7_149 {α : Type} {inj : α → Option Value × mm_M} {j : mm_J} {X : mm_X} {pc : Nat} {lo : List (Option Value)} {st : List Value} {M : mm_M} {ee : Option α} (hj : j.1.cls = RX7) (hd : decode j.2.1 pc = .ok (.getfield 149, 3)) (k1 : Snd inj j X (pc + 3) lo (.int (mI M 46 10) :: st) M ee) : Snd inj j X pc lo (.ref 46 :: st) M ee := sn_gI (k := 10) (T := TX7) rfl iw7 rfl ⟨by decide, by decide⟩ (by decide) rfl (by rw [hj]; exact w_fl_X7_149) hd k1
theorem p_X7_149 {α : Type} {inj : α → Option Value × mm_M} {j : mm_J} {X : mm_X} {pc : Nat} {lo : List (Option Value)} {st : List Value} {M : mm_M} {ex : mm_M → Option α} {v : Int32} (hj : j.1.cls = RX7) (hd : decode j.2.1 pc = .ok (.putfield 149, 3)) (k1 : ∀ M, Snd inj j X (pc + 3) lo st M (ex M)) : Snd inj j X pc lo (.int v :: .ref 46 :: st) M (bM (sI M 46 10 v) ex) := sn_pI (k := 10) (T := TX7) tyX7 tyX7_ok nmX7 rfl iw7 rfl ⟨by decide, by decide⟩ (by decide) rfl rfl (tyX7_ok 10 (by decide)) (by rw [hj]; exact w_fl_X7_149) hd k1
theorem g_X7_74 {α : Type} {inj : α → Option Value × mm_M} {j : mm_J} {X : mm_X} {pc : Nat} {lo : List (Option Value)} {st : List Value} {M : mm_M} {ee : Option α} (hj : j.1.cls = RX7) (hd : decode j.2.1 pc = .ok (.getfield 74, 3)) (k1 : Snd inj j X (pc + 3) lo (.int (mI M 46 7) :: st) M ee) : Snd inj j X pc lo (.ref 46 :: st) M ee := sn_gI (k := 7) (T := TX7) rfl iw7 rfl ⟨by decide, by decide⟩ (by decide) rfl (by rw [hj]; exact w_fl_X7_74) hd k1
theorem p_X7_162 {α : Type} {inj : α → Option Value × mm_M} {j : mm_J} {X : mm_X} {pc : Nat} {lo : List (Option Value)} {st : List Value} {M : mm_M} {ex : mm_M → Option α} {v : Int32} (hj : j.1.cls = RX7) (hd : decode j.2.1 pc = .ok (.putfield 162, 3)) (k1 : ∀ M, Snd inj j X (pc + 3) lo st M (ex M)) : Snd inj j X pc lo (.int v :: .ref 46 :: st) M (bM (sI M 46 5 v) ex) := sn_pI (k := 5) (T := TX7) tyX7 tyX7_ok nmX7 rfl iw7 rfl ⟨by decide, by decide⟩ (by decide) rfl rfl (tyX7_ok 5 (by decide)) (by rw [hj]; exact w_fl_X7_162) hd k1
theorem g_X7_162 {α : Type} {inj : α → Option Value × mm_M} {j : mm_J} {X : mm_X} {pc : Nat} {lo : List (Option Value)} {st : List Value} {M : mm_M} {ee : Option α} (hj : j.1.cls = RX7) (hd : decode j.2.1 pc = .ok (.getfield 162, 3)) (k1 : Snd inj j X (pc + 3) lo (.int (mI M 46 5) :: st) M ee) : Snd inj j X pc lo (.ref 46 :: st) M ee := sn_gI (k := 5) (T := TX7) rfl iw7 rfl ⟨by decide, by decide⟩ (by decide) rfl (by rw [hj]; exact w_fl_X7_162) hd k1
theorem g_X7_185 {α : Type} {inj : α → Option Value × mm_M} {j : mm_J} {X : mm_X} {pc : Nat} {lo : List (Option Value)} {st : List Value} {M : mm_M} {ee : Option α} (hj : j.1.cls = RX7) (hd : decode j.2.1 pc = .ok (.getfield 185, 3)) (k1 : Snd inj j X (pc + 3) lo (.int (mI M 46 12) :: st) M ee) : Snd inj j X pc lo (.ref 46 :: st) M ee := sn_gI (k := 12) (T := TX7) rfl iw7 rfl ⟨by decide, by decide⟩ (by decide) rfl (by rw [hj]; exact w_fl_X7_185) hd k1
theorem g_X7_19 {α : Type} {inj : α → Option Value × mm_M} {j : mm_J} {X : mm_X} {pc : Nat} {lo : List (Option Value)} {st : List Value} {M : mm_M} {ee : Option α} (hj : j.1.cls = RX7) (hd : decode j.2.1 pc = .ok (.getfield 19, 3)) (k1 : Snd inj j X (pc + 3) lo (.ref 50 :: st) M ee) : Snd inj j X pc lo (.ref 46 :: st) M ee := sn_gR 50 (k := 14) (T := TX7) rfl iw7 rfl ⟨by decide, by decide⟩ (by decide) rfl (by rw [hj]; exact w_fl_X7_19) hd k1
theorem p_X7_201 {α : Type} {inj : α → Option Value × mm_M} {j : mm_J} {X : mm_X} {pc : Nat} {lo : List (Option Value)} {st : List Value} {M : mm_M} {ex : mm_M → Option α} {v : Int32} (hj : j.1.cls = RX7) (hd : decode j.2.1 pc = .ok (.putfield 201, 3)) (k1 : ∀ M, Snd inj j X (pc + 3) lo st M (ex M)) : Snd inj j X pc lo (.int v :: .ref 46 :: st) M (bM (sI M 46 11 v) ex) := sn_pI (k := 11) (T := TX7) tyX7 tyX7_ok nmX7 rfl iw7 rfl ⟨by decide, by decide⟩ (by decide) rfl rfl (tyX7_ok 11 (by decide)) (by rw [hj]; exact w_fl_X7_201) hd k1
theorem p_X7_185 {α : Type} {inj : α → Option Value × mm_M} {j : mm_J} {X : mm_X} {pc : Nat} {lo : List (Option Value)} {st : List Value} {M : mm_M} {ex : mm_M → Option α} {v : Int32} (hj : j.1.cls = RX7) (hd : decode j.2.1 pc = .ok (.putfield 185, 3)) (k1 : ∀ M, Snd inj j X (pc + 3) lo st M (ex M)) : Snd inj j X pc lo (.int v :: .ref 46 :: st) M (bM (sI M 46 12 v) ex) := sn_pI (k := 12) (T := TX7) tyX7 tyX7_ok nmX7 rfl iw7 rfl ⟨by decide, by decide⟩ (by decide) rfl rfl (tyX7_ok 12 (by decide)) (by rw [hj]; exact w_fl_X7_185) hd k1
theorem p_X7_204 {α : Type} {inj : α → Option Value × mm_M} {j : mm_J} {X : mm_X} {pc : Nat} {lo : List (Option Value)} {st : List Value} {M : mm_M} {ex : mm_M → Option α} {v : Int32} (hj : j.1.cls = RX7) (hd : decode j.2.1 pc = .ok (.putfield 204, 3)) (k1 : ∀ M, Snd inj j X (pc + 3) lo st M (ex M)) : Snd inj j X pc lo (.int v :: .ref 46 :: st) M (bM (sI M 46 13 v) ex) := sn_pI (k := 13) (T := TX7) tyX7 tyX7_ok nmX7 rfl iw7 rfl ⟨by decide, by decide⟩ (by decide) rfl rfl (tyX7_ok 13 (by decide)) (by rw [hj]; exact w_fl_X7_204) hd k1
theorem p_X7_207 {α : Type} {inj : α → Option Value × mm_M} {j : mm_J} {X : mm_X} {pc : Nat} {lo : List (Option Value)} {st : List Value} {M : mm_M} {ex : mm_M → Option α} {v : Int32} (hj : j.1.cls = RX7) (hd : decode j.2.1 pc = .ok (.putfield 207, 3)) (k1 : ∀ M, Snd inj j X (pc + 3) lo st M (ex M)) : Snd inj j X pc lo (.int v :: .ref 46 :: st) M (bM (sI M 46 15 v) ex) := sn_pI (k := 15) (T := TX7) tyX7 tyX7_ok nmX7 rfl iw7 rfl ⟨by decide, by decide⟩ (by decide) rfl rfl (tyX7_ok 15 (by decide)) (by rw [hj]; exact w_fl_X7_207) hd k1
theorem g_X7_25 {α : Type} {inj : α → Option Value × mm_M} {j : mm_J} {X : mm_X} {pc : Nat} {lo : List (Option Value)} {st : List Value} {M : mm_M} {ee : Option α} (hj : j.1.cls = RX7) (hd : decode j.2.1 pc = .ok (.getfield 25, 3)) (k1 : Snd inj j X (pc + 3) lo (.ref 52 :: st) M ee) : Snd inj j X pc lo (.ref 46 :: st) M ee := sn_gR 52 (k := 17) (T := TX7) rfl iw7 rfl ⟨by decide, by decide⟩ (by decide) rfl (by rw [hj]; exact w_fl_X7_25) hd k1
theorem g_X7_28 {α : Type} {inj : α → Option Value × mm_M} {j : mm_J} {X : mm_X} {pc : Nat} {lo : List (Option Value)} {st : List Value} {M : mm_M} {ee : Option α} (hj : j.1.cls = RX7) (hd : decode j.2.1 pc = .ok (.getfield 28, 3)) (k1 : Snd inj j X (pc + 3) lo (.ref 53 :: st) M ee) : Snd inj j X pc lo (.ref 46 :: st) M ee := sn_gR 53 (k := 18) (T := TX7) rfl iw7 rfl ⟨by decide, by decide⟩ (by decide) rfl (by rw [hj]; exact w_fl_X7_28) hd k1
theorem g_X7_22 {α : Type} {inj : α → Option Value × mm_M} {j : mm_J} {X : mm_X} {pc : Nat} {lo : List (Option Value)} {st : List Value} {M : mm_M} {ee : Option α} (hj : j.1.cls = RX7) (hd : decode j.2.1 pc = .ok (.getfield 22, 3)) (k1 : Snd inj j X (pc + 3) lo (.ref 51 :: st) M ee) : Snd inj j X pc lo (.ref 46 :: st) M ee := sn_gR 51 (k := 16) (T := TX7) rfl iw7 rfl ⟨by decide, by decide⟩ (by decide) rfl (by rw [hj]; exact w_fl_X7_22) hd k1
theorem g_X7_204 {α : Type} {inj : α → Option Value × mm_M} {j : mm_J} {X : mm_X} {pc : Nat} {lo : List (Option Value)} {st : List Value} {M : mm_M} {ee : Option α} (hj : j.1.cls = RX7) (hd : decode j.2.1 pc = .ok (.getfield 204, 3)) (k1 : Snd inj j X (pc + 3) lo (.int (mI M 46 13) :: st) M ee) : Snd inj j X pc lo (.ref 46 :: st) M ee := sn_gI (k := 13) (T := TX7) rfl iw7 rfl ⟨by decide, by decide⟩ (by decide) rfl (by rw [hj]; exact w_fl_X7_204) hd k1
theorem g_X7_201 {α : Type} {inj : α → Option Value × mm_M} {j : mm_J} {X : mm_X} {pc : Nat} {lo : List (Option Value)} {st : List Value} {M : mm_M} {ee : Option α} (hj : j.1.cls = RX7) (hd : decode j.2.1 pc = .ok (.getfield 201, 3)) (k1 : Snd inj j X (pc + 3) lo (.int (mI M 46 11) :: st) M ee) : Snd inj j X pc lo (.ref 46 :: st) M ee := sn_gI (k := 11) (T := TX7) rfl iw7 rfl ⟨by decide, by decide⟩ (by decide) rfl (by rw [hj]; exact w_fl_X7_201) hd k1
theorem g_X7_44 {α : Type} {inj : α → Option Value × mm_M} {j : mm_J} {X : mm_X} {pc : Nat} {lo : List (Option Value)} {st : List Value} {M : mm_M} {ee : Option α} (hj : j.1.cls = RX7) (hd : decode j.2.1 pc = .ok (.getfield 44, 3)) (k1 : Snd inj j X (pc + 3) lo (.ref 58 :: st) M ee) : Snd inj j X pc lo (.ref 46 :: st) M ee := sn_gR 58 (k := 23) (T := TX7) rfl iw7 rfl ⟨by decide, by decide⟩ (by decide) rfl (by rw [hj]; exact w_fl_X7_44) hd k1
theorem g_X7_32 {α : Type} {inj : α → Option Value × mm_M} {j : mm_J} {X : mm_X} {pc : Nat} {lo : List (Option Value)} {st : List Value} {M : mm_M} {ee : Option α} (hj : j.1.cls = RX7) (hd : decode j.2.1 pc = .ok (.getfield 32, 3)) (k1 : Snd inj j X (pc + 3) lo (.ref 54 :: st) M ee) : Snd inj j X pc lo (.ref 46 :: st) M ee := sn_gR 54 (k := 19) (T := TX7) rfl iw7 rfl ⟨by decide, by decide⟩ (by decide) rfl (by rw [hj]; exact w_fl_X7_32) hd k1
theorem g_X7_35 {α : Type} {inj : α → Option Value × mm_M} {j : mm_J} {X : mm_X} {pc : Nat} {lo : List (Option Value)} {st : List Value} {M : mm_M} {ee : Option α} (hj : j.1.cls = RX7) (hd : decode j.2.1 pc = .ok (.getfield 35, 3)) (k1 : Snd inj j X (pc + 3) lo (.ref 55 :: st) M ee) : Snd inj j X pc lo (.ref 46 :: st) M ee := sn_gR 55 (k := 20) (T := TX7) rfl iw7 rfl ⟨by decide, by decide⟩ (by decide) rfl (by rw [hj]; exact w_fl_X7_35) hd k1
theorem g_X7_38 {α : Type} {inj : α → Option Value × mm_M} {j : mm_J} {X : mm_X} {pc : Nat} {lo : List (Option Value)} {st : List Value} {M : mm_M} {ee : Option α} (hj : j.1.cls = RX7) (hd : decode j.2.1 pc = .ok (.getfield 38, 3)) (k1 : Snd inj j X (pc + 3) lo (.ref 56 :: st) M ee) : Snd inj j X pc lo (.ref 46 :: st) M ee := sn_gR 56 (k := 21) (T := TX7) rfl iw7 rfl ⟨by decide, by decide⟩ (by decide) rfl (by rw [hj]; exact w_fl_X7_38) hd k1
theorem g_X7_207 {α : Type} {inj : α → Option Value × mm_M} {j : mm_J} {X : mm_X} {pc : Nat} {lo : List (Option Value)} {st : List Value} {M : mm_M} {ee : Option α} (hj : j.1.cls = RX7) (hd : decode j.2.1 pc = .ok (.getfield 207, 3)) (k1 : Snd inj j X (pc + 3) lo (.int (mI M 46 15) :: st) M ee) : Snd inj j X pc lo (.ref 46 :: st) M ee := sn_gI (k := 15) (T := TX7) rfl iw7 rfl ⟨by decide, by decide⟩ (by decide) rfl (by rw [hj]; exact w_fl_X7_207) hd k1
theorem g_X7_47 {α : Type} {inj : α → Option Value × mm_M} {j : mm_J} {X : mm_X} {pc : Nat} {lo : List (Option Value)} {st : List Value} {M : mm_M} {ee : Option α} (hj : j.1.cls = RX7) (hd : decode j.2.1 pc = .ok (.getfield 47, 3)) (k1 : Snd inj j X (pc + 3) lo (.ref 59 :: st) M ee) : Snd inj j X pc lo (.ref 46 :: st) M ee := sn_gR 59 (k := 24) (T := TX7) rfl iw7 rfl ⟨by decide, by decide⟩ (by decide) rfl (by rw [hj]; exact w_fl_X7_47) hd k1
theorem g_X7_41 {α : Type} {inj : α → Option Value × mm_M} {j : mm_J} {X : mm_X} {pc : Nat} {lo : List (Option Value)} {st : List Value} {M : mm_M} {ee : Option α} (hj : j.1.cls = RX7) (hd : decode j.2.1 pc = .ok (.getfield 41, 3)) (k1 : Snd inj j X (pc + 3) lo (.ref 57 :: st) M ee) : Snd inj j X pc lo (.ref 46 :: st) M ee := sn_gR 57 (k := 22) (T := TX7) rfl iw7 rfl ⟨by decide, by decide⟩ (by decide) rfl (by rw [hj]; exact w_fl_X7_41) hd k1
theorem g_X7_50 {α : Type} {inj : α → Option Value × mm_M} {j : mm_J} {X : mm_X} {pc : Nat} {lo : List (Option Value)} {st : List Value} {M : mm_M} {ee : Option α} (hj : j.1.cls = RX7) (hd : decode j.2.1 pc = .ok (.getfield 50, 3)) (k1 : Snd inj j X (pc + 3) lo (.ref 60 :: st) M ee) : Snd inj j X pc lo (.ref 46 :: st) M ee := sn_gR 60 (k := 25) (T := TX7) rfl iw7 rfl ⟨by decide, by decide⟩ (by decide) rfl (by rw [hj]; exact w_fl_X7_50) hd k1
theorem g_X7_53 {α : Type} {inj : α → Option Value × mm_M} {j : mm_J} {X : mm_X} {pc : Nat} {lo : List (Option Value)} {st : List Value} {M : mm_M} {ee : Option α} (hj : j.1.cls = RX7) (hd : decode j.2.1 pc = .ok (.getfield 53, 3)) (k1 : Snd inj j X (pc + 3) lo (.ref 61 :: st) M ee) : Snd inj j X pc lo (.ref 46 :: st) M ee := sn_gR 61 (k := 26) (T := TX7) rfl iw7 rfl ⟨by decide, by decide⟩ (by decide) rfl (by rw [hj]; exact w_fl_X7_53) hd k1
