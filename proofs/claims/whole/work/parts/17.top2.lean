abbrev j6_slots : mm_J := (yX6_slots, cX6_slots, 4, (some .int), 3)
theorem dX6_slots_0 : decode cX6_slots 0 = .ok (.aload_n 0, 1) := by decide +kernel
theorem dX6_slots_1 : decode cX6_slots 1 = .ok (.getfield 12, 3) := by decide +kernel
theorem dX6_slots_4 : decode cX6_slots 4 = .ok (.iload_n 1, 1) := by decide +kernel
theorem dX6_slots_5 : decode cX6_slots 5 = .ok (.iload_n 2, 1) := by decide +kernel
theorem dX6_slots_6 : decode cX6_slots 6 = .ok (.invokevirtual 161, 3) := by decide +kernel
theorem dX6_slots_9 : decode cX6_slots 9 = .ok (.ifCond .eq 16, 3) := by decide +kernel
theorem dX6_slots_12 : decode cX6_slots 12 = .ok (.iload_n 3, 1) := by decide +kernel
theorem dX6_slots_13 : decode cX6_slots 13 = .ok (.aload_n 0, 1) := by decide +kernel
theorem dX6_slots_14 : decode cX6_slots 14 = .ok (.getfield 12, 3) := by decide +kernel
theorem dX6_slots_17 : decode cX6_slots 17 = .ok (.iload_n 1, 1) := by decide +kernel
theorem dX6_slots_18 : decode cX6_slots 18 = .ok (.iconst 1, 1) := by decide +kernel
theorem dX6_slots_19 : decode cX6_slots 19 = .ok (.invokevirtual 145, 3) := by decide +kernel
theorem dX6_slots_22 : decode cX6_slots 22 = .ok (.if_icmp .le 5, 3) := by decide +kernel
theorem dX6_slots_25 : decode cX6_slots 25 = .ok (.iconst (-1), 1) := by decide +kernel
theorem dX6_slots_26 : decode cX6_slots 26 = .ok (.ireturn, 1) := by decide +kernel
theorem dX6_slots_27 : decode cX6_slots 27 = .ok (.aload_n 0, 1) := by decide +kernel
theorem dX6_slots_28 : decode cX6_slots 28 = .ok (.getfield 12, 3) := by decide +kernel
theorem dX6_slots_31 : decode cX6_slots 31 = .ok (.iload_n 1, 1) := by decide +kernel
theorem dX6_slots_32 : decode cX6_slots 32 = .ok (.iload_n 2, 1) := by decide +kernel
theorem dX6_slots_33 : decode cX6_slots 33 = .ok (.iload_n 3, 1) := by decide +kernel
theorem dX6_slots_34 : decode cX6_slots 34 = .ok (.invokevirtual 168, 3) := by decide +kernel
theorem dX6_slots_37 : decode cX6_slots 37 = .ok (.ireturn, 1) := by decide +kernel
def l6_slots_25   (M : mm_M) : Option (Int32 × mm_M) :=
  some ((-1), M)
set_option maxHeartbeats 2000000 in
theorem sl6_slots_25     (M : mm_M) : Snd injI j6_slots mm_X0 25 [none, none, none, none] [] M (l6_slots_25   M) := by
  unfold l6_slots_25
  refine sn_iconst (j := j6_slots) (pc := 25) (-1) rfl dX6_slots_25 ?_
  exact sn_iret (j := j6_slots) (pc := 26) rfl dX6_slots_26
def f6_slots (x1 : Int32) (x2 : Int32) (x3 : Int32) (M : mm_M) : Option (Int32 × mm_M) :=
  bN (mNow M) (fun d_1 => if isD d_1 = true then (cI (f0_hasLevel d_1 x1 x2 M) (fun r_2 M => if r_2 = 0 then (l6_slots_25 M) else (bN (mNow M) (fun d_3 => if isD d_3 = true then (cI (f0_fact d_3 x1 1 M) (fun r_4 M => if x3 ≤ r_4 then (bN (mNow M) (fun d_5 => if isD d_5 = true then (cI (f0_fewestCharges d_5 x1 x2 x3 M) (fun r_6 M => some (r_6, M))) else none)) else (l6_slots_25 M))) else none)))) else none)
set_option maxHeartbeats 2000000 in
theorem s6_slots (x1 : Int32) (x2 : Int32) (x3 : Int32) (M : mm_M) : Snd injI j6_slots mm_X0 0 [some (.ref 1), some (.int x1), some (.int x2), some (.int x3)] [] M (f6_slots x1 x2 x3 M) := by
  refine Snd.wk (lo' := [some (.ref 1), some (.int x1), some (.int x2), some (.int x3)]) ?_ (by simp [mm_le])
  unfold f6_slots
  refine sn_aload_n (j := j6_slots) (pc := 0) rfl rfl dX6_slots_0 ?_
  refine g_X6_12 (j := j6_slots) (pc := 1) rfl dX6_slots_1 (fun d_1 => ?_)
  refine Snd.ite fun hd_1 => ?_
  refine sn_iload_n (j := j6_slots) (pc := 4) rfl rfl dX6_slots_4 ?_
  refine sn_iload_n (j := j6_slots) (pc := 5) rfl rfl dX6_slots_5 ?_
  refine sn_callV (j := j6_slots) (pc := 6) (jc := j0_hasLevel) (As := [.int x1, .int x2]) (s0_hasLevel d_1 x1 x2 M) mm_hvI (by simp [Value.category]) (Nat.le_of_ble_eq_true rfl) q0_hasLevel rfl (by decide) rfl (isD_obj hd_1) (isD_pos hd_1) w_ml_X6_161 w_im_X0_hasLevel w_se_X0_hasLevel rfl (Nat.le_of_ble_eq_true rfl) dX6_slots_6 ?_
  rintro ⟨r_2, M⟩
  show Snd injI j6_slots mm_X0 9 [some (.ref 1), some (.int x1), some (.int x2), some (.int x3)] [.int r_2] M _
  refine sn_if_eq (j := j6_slots) (pc := 9) 25 rfl dX6_slots_9 ?_ ?_
  · exact Snd.wk (sl6_slots_25 M) (by simp [mm_le])
  · refine sn_iload_n (j := j6_slots) (pc := 12) rfl rfl dX6_slots_12 ?_
    refine sn_aload_n (j := j6_slots) (pc := 13) rfl rfl dX6_slots_13 ?_
    refine g_X6_12 (j := j6_slots) (pc := 14) rfl dX6_slots_14 (fun d_3 => ?_)
    refine Snd.ite fun hd_3 => ?_
    refine sn_iload_n (j := j6_slots) (pc := 17) rfl rfl dX6_slots_17 ?_
    refine sn_iconst (j := j6_slots) (pc := 18) 1 rfl dX6_slots_18 ?_
    refine sn_callV (j := j6_slots) (pc := 19) (jc := j0_fact) (As := [.int x1, .int 1]) (s0_fact d_3 x1 1 M) mm_hvI (by simp [Value.category]) (Nat.le_of_ble_eq_true rfl) q0_fact rfl (by decide) rfl (isD_obj hd_3) (isD_pos hd_3) w_ml_X6_145 w_im_X0_fact w_se_X0_fact rfl (Nat.le_of_ble_eq_true rfl) dX6_slots_19 ?_
    rintro ⟨r_4, M⟩
    show Snd injI j6_slots mm_X0 22 [some (.ref 1), some (.int x1), some (.int x2), some (.int x3)] [.int r_4, .int x3] M _
    refine sn_icmp_le (j := j6_slots) (pc := 22) 27 rfl dX6_slots_22 ?_ ?_
    · refine sn_aload_n (j := j6_slots) (pc := 27) rfl rfl dX6_slots_27 ?_
      refine g_X6_12 (j := j6_slots) (pc := 28) rfl dX6_slots_28 (fun d_5 => ?_)
      refine Snd.ite fun hd_5 => ?_
      refine sn_iload_n (j := j6_slots) (pc := 31) rfl rfl dX6_slots_31 ?_
      refine sn_iload_n (j := j6_slots) (pc := 32) rfl rfl dX6_slots_32 ?_
      refine sn_iload_n (j := j6_slots) (pc := 33) rfl rfl dX6_slots_33 ?_
      refine sn_callV (j := j6_slots) (pc := 34) (jc := j0_fewestCharges) (As := [.int x1, .int x2, .int x3]) (s0_fewestCharges d_5 x1 x2 x3 M) mm_hvI (by simp [Value.category]) (Nat.le_of_ble_eq_true rfl) q0_fewestCharges rfl (by decide) rfl (isD_obj hd_5) (isD_pos hd_5) w_ml_X6_168 w_im_X0_fewestCharges w_se_X0_fewestCharges rfl (Nat.le_of_ble_eq_true rfl) dX6_slots_34 ?_
      rintro ⟨r_6, M⟩
      show Snd injI j6_slots mm_X0 37 [some (.ref 1), some (.int x1), some (.int x2), some (.int x3)] [.int r_6] M _
      exact sn_iret (j := j6_slots) (pc := 37) rfl dX6_slots_37
    · exact Snd.wk (sl6_slots_25 M) (by simp [mm_le])

abbrev j6_plan : mm_J := (yX6_plan, cX6_plan, 2, (some .int), 1)
theorem dX6_plan_0 : decode cX6_plan 0 = .ok (.aload_n 0, 1) := by decide +kernel
theorem dX6_plan_1 : decode cX6_plan 1 = .ok (.getfield 12, 3) := by decide +kernel
theorem dX6_plan_4 : decode cX6_plan 4 = .ok (.iload_n 1, 1) := by decide +kernel
theorem dX6_plan_5 : decode cX6_plan 5 = .ok (.invokevirtual 103, 3) := by decide +kernel
theorem dX6_plan_8 : decode cX6_plan 8 = .ok (.ifCond .eq 15, 3) := by decide +kernel
theorem dX6_plan_11 : decode cX6_plan 11 = .ok (.aload_n 0, 1) := by decide +kernel
theorem dX6_plan_12 : decode cX6_plan 12 = .ok (.getfield 12, 3) := by decide +kernel
theorem dX6_plan_15 : decode cX6_plan 15 = .ok (.getfield 110, 3) := by decide +kernel
theorem dX6_plan_18 : decode cX6_plan 18 = .ok (.iload_n 1, 1) := by decide +kernel
theorem dX6_plan_19 : decode cX6_plan 19 = .ok (.iaload, 1) := by decide +kernel
theorem dX6_plan_20 : decode cX6_plan 20 = .ok (.goto 4, 3) := by decide +kernel
theorem dX6_plan_23 : decode cX6_plan 23 = .ok (.iconst (-1), 1) := by decide +kernel
theorem dX6_plan_24 : decode cX6_plan 24 = .ok (.ireturn, 1) := by decide +kernel
def l6_plan_24  (s0 : Int32) (M : mm_M) : Option (Int32 × mm_M) :=
  some (s0, M)
set_option maxHeartbeats 2000000 in
theorem sl6_plan_24   (s0 : Int32)  (M : mm_M) : Snd injI j6_plan mm_X0 24 [none, none] [.int s0] M (l6_plan_24  s0 M) := by
  unfold l6_plan_24
  exact sn_iret (j := j6_plan) (pc := 24) rfl dX6_plan_24
def f6_plan (x1 : Int32) (M : mm_M) : Option (Int32 × mm_M) :=
  bN (mNow M) (fun d_1 => if isD d_1 = true then (cI (f0_hasSlot d_1 x1 M) (fun r_2 M => if r_2 = 0 then (l6_plan_24 (-1) M) else (bN (mNow M) (fun d_3 => if isD d_3 = true then (aI (d_3 + 3) 8 x1 M (fun w_4 => l6_plan_24 w_4 M)) else none)))) else none)
set_option maxHeartbeats 2000000 in
theorem s6_plan (x1 : Int32) (M : mm_M) : Snd injI j6_plan mm_X0 0 [some (.ref 1), some (.int x1)] [] M (f6_plan x1 M) := by
  refine Snd.wk (lo' := [some (.ref 1), some (.int x1)]) ?_ (by simp [mm_le])
  unfold f6_plan
  refine sn_aload_n (j := j6_plan) (pc := 0) rfl rfl dX6_plan_0 ?_
  refine g_X6_12 (j := j6_plan) (pc := 1) rfl dX6_plan_1 (fun d_1 => ?_)
  refine Snd.ite fun hd_1 => ?_
  refine sn_iload_n (j := j6_plan) (pc := 4) rfl rfl dX6_plan_4 ?_
  refine sn_callV (j := j6_plan) (pc := 5) (jc := j0_hasSlot) (As := [.int x1]) (s0_hasSlot d_1 x1 M) mm_hvI (by simp [Value.category]) (Nat.le_of_ble_eq_true rfl) q0_hasSlot rfl (by decide) rfl (isD_obj hd_1) (isD_pos hd_1) w_ml_X6_103 w_im_X0_hasSlot w_se_X0_hasSlot rfl (Nat.le_of_ble_eq_true rfl) dX6_plan_5 ?_
  rintro ⟨r_2, M⟩
  show Snd injI j6_plan mm_X0 8 [some (.ref 1), some (.int x1)] [.int r_2] M _
  refine sn_if_eq (j := j6_plan) (pc := 8) 23 rfl dX6_plan_8 ?_ ?_
  · refine sn_iconst (j := j6_plan) (pc := 23) (-1) rfl dX6_plan_23 ?_
    exact Snd.wk (sl6_plan_24 (-1) M) (by simp [mm_le])
  · refine sn_aload_n (j := j6_plan) (pc := 11) rfl rfl dX6_plan_11 ?_
    refine g_X6_12 (j := j6_plan) (pc := 12) rfl dX6_plan_12 (fun d_3 => ?_)
    refine Snd.ite fun hd_3 => ?_
    refine g_X6_110 (j := j6_plan) (pc := 15) hd_3 rfl dX6_plan_15 ?_
    refine sn_iload_n (j := j6_plan) (pc := 18) rfl rfl dX6_plan_18 ?_
    refine sn_iald (j := j6_plan) (pc := 19) (isD_a3 hd_3) (isD_p3 hd_3) dX6_plan_19 (fun w_4 => ?_)
    refine sn_goto (j := j6_plan) (pc := 20) 24 rfl dX6_plan_20 ?_
    exact Snd.wk (sl6_plan_24 w_4 M) (by simp [mm_le])

abbrev j6_level : mm_J := (yX6_level, cX6_level, 3, (some .int), 4)
theorem dX6_level_0 : decode cX6_level 0 = .ok (.aload_n 0, 1) := by decide +kernel
theorem dX6_level_1 : decode cX6_level 1 = .ok (.getfield 12, 3) := by decide +kernel
theorem dX6_level_4 : decode cX6_level 4 = .ok (.iload_n 1, 1) := by decide +kernel
theorem dX6_level_5 : decode cX6_level 5 = .ok (.invokevirtual 107, 3) := by decide +kernel
theorem dX6_level_8 : decode cX6_level 8 = .ok (.ifCond .eq 18, 3) := by decide +kernel
theorem dX6_level_11 : decode cX6_level 11 = .ok (.iload_n 2, 1) := by decide +kernel
theorem dX6_level_12 : decode cX6_level 12 = .ok (.ifCond .lt 14, 3) := by decide +kernel
theorem dX6_level_15 : decode cX6_level 15 = .ok (.iload_n 2, 1) := by decide +kernel
theorem dX6_level_16 : decode cX6_level 16 = .ok (.aload_n 0, 1) := by decide +kernel
theorem dX6_level_17 : decode cX6_level 17 = .ok (.getfield 12, 3) := by decide +kernel
theorem dX6_level_20 : decode cX6_level 20 = .ok (.getfield 126, 3) := by decide +kernel
theorem dX6_level_23 : decode cX6_level 23 = .ok (.if_icmp .le 5, 3) := by decide +kernel
theorem dX6_level_26 : decode cX6_level 26 = .ok (.iconst (-1), 1) := by decide +kernel
theorem dX6_level_27 : decode cX6_level 27 = .ok (.ireturn, 1) := by decide +kernel
theorem dX6_level_28 : decode cX6_level 28 = .ok (.aload_n 0, 1) := by decide +kernel
theorem dX6_level_29 : decode cX6_level 29 = .ok (.getfield 38, 3) := by decide +kernel
theorem dX6_level_32 : decode cX6_level 32 = .ok (.aload_n 0, 1) := by decide +kernel
theorem dX6_level_33 : decode cX6_level 33 = .ok (.getfield 12, 3) := by decide +kernel
theorem dX6_level_36 : decode cX6_level 36 = .ok (.aload_n 0, 1) := by decide +kernel
theorem dX6_level_37 : decode cX6_level 37 = .ok (.getfield 12, 3) := by decide +kernel
theorem dX6_level_40 : decode cX6_level 40 = .ok (.getfield 110, 3) := by decide +kernel
theorem dX6_level_43 : decode cX6_level 43 = .ok (.invokevirtual 113, 3) := by decide +kernel
theorem dX6_level_46 : decode cX6_level 46 = .ok (.aload_n 0, 1) := by decide +kernel
theorem dX6_level_47 : decode cX6_level 47 = .ok (.getfield 38, 3) := by decide +kernel
theorem dX6_level_50 : decode cX6_level 50 = .ok (.iload_n 1, 1) := by decide +kernel
theorem dX6_level_51 : decode cX6_level 51 = .ok (.iload_n 2, 1) := by decide +kernel
theorem dX6_level_52 : decode cX6_level 52 = .ok (.invokevirtual 171, 3) := by decide +kernel
theorem dX6_level_55 : decode cX6_level 55 = .ok (.ireturn, 1) := by decide +kernel
def l6_level_26   (M : mm_M) : Option (Int32 × mm_M) :=
  some ((-1), M)
set_option maxHeartbeats 2000000 in
theorem sl6_level_26     (M : mm_M) : Snd injI j6_level mm_X0 26 [none, none, none] [] M (l6_level_26   M) := by
  unfold l6_level_26
  refine sn_iconst (j := j6_level) (pc := 26) (-1) rfl dX6_level_26 ?_
  exact sn_iret (j := j6_level) (pc := 27) rfl dX6_level_27
def f6_level (x1 : Int32) (x2 : Int32) (M : mm_M) : Option (Int32 × mm_M) :=
  bN (mNow M) (fun d_1 => if isD d_1 = true then (cI (f0_hasBus d_1 x1 M) (fun r_2 M => if r_2 = 0 then (l6_level_26 M) else (if x2 < 0 then (l6_level_26 M) else (bN (mNow M) (fun d_3 => if isD d_3 = true then (bI (mI M d_3 0) (fun v_4 => if x2 ≤ v_4 then (bN (mNow M) (fun d_5 => if isD d_5 = true then (bN (mNow M) (fun d_6 => if isD d_6 = true then (cV (f1_weigh d_5 (d_6 + 3) M) (fun M => cI (f1_levelAt x1 x2 M) (fun r_7 M => some (r_7, M)))) else none)) else none)) else (l6_level_26 M))) else none))))) else none)
set_option maxHeartbeats 2000000 in
theorem s6_level (x1 : Int32) (x2 : Int32) (M : mm_M) : Snd injI j6_level mm_X0 0 [some (.ref 1), some (.int x1), some (.int x2)] [] M (f6_level x1 x2 M) := by
  refine Snd.wk (lo' := [some (.ref 1), some (.int x1), some (.int x2)]) ?_ (by simp [mm_le])
  unfold f6_level
  refine sn_aload_n (j := j6_level) (pc := 0) rfl rfl dX6_level_0 ?_
  refine g_X6_12 (j := j6_level) (pc := 1) rfl dX6_level_1 (fun d_1 => ?_)
  refine Snd.ite fun hd_1 => ?_
  refine sn_iload_n (j := j6_level) (pc := 4) rfl rfl dX6_level_4 ?_
  refine sn_callV (j := j6_level) (pc := 5) (jc := j0_hasBus) (As := [.int x1]) (s0_hasBus d_1 x1 M) mm_hvI (by simp [Value.category]) (Nat.le_of_ble_eq_true rfl) q0_hasBus rfl (by decide) rfl (isD_obj hd_1) (isD_pos hd_1) w_ml_X6_107 w_im_X0_hasBus w_se_X0_hasBus rfl (Nat.le_of_ble_eq_true rfl) dX6_level_5 ?_
  rintro ⟨r_2, M⟩
  show Snd injI j6_level mm_X0 8 [some (.ref 1), some (.int x1), some (.int x2)] [.int r_2] M _
  refine sn_if_eq (j := j6_level) (pc := 8) 26 rfl dX6_level_8 ?_ ?_
  · exact Snd.wk (sl6_level_26 M) (by simp [mm_le])
  · refine sn_iload_n (j := j6_level) (pc := 11) rfl rfl dX6_level_11 ?_
    refine sn_if_lt (j := j6_level) (pc := 12) 26 rfl dX6_level_12 ?_ ?_
    · exact Snd.wk (sl6_level_26 M) (by simp [mm_le])
    · refine sn_iload_n (j := j6_level) (pc := 15) rfl rfl dX6_level_15 ?_
      refine sn_aload_n (j := j6_level) (pc := 16) rfl rfl dX6_level_16 ?_
      refine g_X6_12 (j := j6_level) (pc := 17) rfl dX6_level_17 (fun d_3 => ?_)
      refine Snd.ite fun hd_3 => ?_
      refine g_X6_126 (j := j6_level) (pc := 20) hd_3 rfl dX6_level_20 ?_
      refine Snd.bI (fun v_4 => ?_)
      refine sn_icmp_le (j := j6_level) (pc := 23) 28 rfl dX6_level_23 ?_ ?_
      · refine sn_aload_n (j := j6_level) (pc := 28) rfl rfl dX6_level_28 ?_
        refine g_X6_38 (j := j6_level) (pc := 29) rfl dX6_level_29 ?_
        refine sn_aload_n (j := j6_level) (pc := 32) rfl rfl dX6_level_32 ?_
        refine g_X6_12 (j := j6_level) (pc := 33) rfl dX6_level_33 (fun d_5 => ?_)
        refine Snd.ite fun hd_5 => ?_
        refine sn_aload_n (j := j6_level) (pc := 36) rfl rfl dX6_level_36 ?_
        refine g_X6_12 (j := j6_level) (pc := 37) rfl dX6_level_37 (fun d_6 => ?_)
        refine Snd.ite fun hd_6 => ?_
        refine g_X6_110 (j := j6_level) (pc := 40) hd_6 rfl dX6_level_40 ?_
        refine sn_callV (j := j6_level) (pc := 43) (jc := j1_weigh) (As := [.ref d_5, .ref (d_6 + 3)]) (s1_weigh d_5 (d_6 + 3) M) mm_hvV (by simp [Value.category]) (Nat.le_of_ble_eq_true rfl) q1_weigh rfl (by decide) rfl rfl ⟨by decide, by decide⟩ w_ml_X6_113 w_im_X1_weigh w_se_X1_weigh rfl (Nat.le_of_ble_eq_true rfl) dX6_level_43 ?_
        intro M
        show Snd injI j6_level mm_X0 46 [some (.ref 1), some (.int x1), some (.int x2)] [] M _
        refine sn_aload_n (j := j6_level) (pc := 46) rfl rfl dX6_level_46 ?_
        refine g_X6_38 (j := j6_level) (pc := 47) rfl dX6_level_47 ?_
        refine sn_iload_n (j := j6_level) (pc := 50) rfl rfl dX6_level_50 ?_
        refine sn_iload_n (j := j6_level) (pc := 51) rfl rfl dX6_level_51 ?_
        refine sn_callV (j := j6_level) (pc := 52) (jc := j1_levelAt) (As := [.int x1, .int x2]) (s1_levelAt x1 x2 M) mm_hvI (by simp [Value.category]) (Nat.le_of_ble_eq_true rfl) q1_levelAt rfl (by decide) rfl rfl ⟨by decide, by decide⟩ w_ml_X6_171 w_im_X1_levelAt w_se_X1_levelAt rfl (Nat.le_of_ble_eq_true rfl) dX6_level_52 ?_
        rintro ⟨r_7, M⟩
        show Snd injI j6_level mm_X0 55 [some (.ref 1), some (.int x1), some (.int x2)] [.int r_7] M _
        exact sn_iret (j := j6_level) (pc := 55) rfl dX6_level_55
      · exact Snd.wk (sl6_level_26 M) (by simp [mm_le])

abbrev j6_used : mm_J := (yX6_used, cX6_used, 2, (some .int), 4)
theorem dX6_used_0 : decode cX6_used 0 = .ok (.aload_n 0, 1) := by decide +kernel
theorem dX6_used_1 : decode cX6_used 1 = .ok (.getfield 12, 3) := by decide +kernel
theorem dX6_used_4 : decode cX6_used 4 = .ok (.iload_n 1, 1) := by decide +kernel
theorem dX6_used_5 : decode cX6_used 5 = .ok (.invokevirtual 103, 3) := by decide +kernel
theorem dX6_used_8 : decode cX6_used 8 = .ok (.ifCond .ne 5, 3) := by decide +kernel
theorem dX6_used_11 : decode cX6_used 11 = .ok (.iconst (-1), 1) := by decide +kernel
theorem dX6_used_12 : decode cX6_used 12 = .ok (.ireturn, 1) := by decide +kernel
theorem dX6_used_13 : decode cX6_used 13 = .ok (.aload_n 0, 1) := by decide +kernel
theorem dX6_used_14 : decode cX6_used 14 = .ok (.getfield 38, 3) := by decide +kernel
theorem dX6_used_17 : decode cX6_used 17 = .ok (.aload_n 0, 1) := by decide +kernel
theorem dX6_used_18 : decode cX6_used 18 = .ok (.getfield 12, 3) := by decide +kernel
theorem dX6_used_21 : decode cX6_used 21 = .ok (.aload_n 0, 1) := by decide +kernel
theorem dX6_used_22 : decode cX6_used 22 = .ok (.getfield 12, 3) := by decide +kernel
theorem dX6_used_25 : decode cX6_used 25 = .ok (.getfield 110, 3) := by decide +kernel
theorem dX6_used_28 : decode cX6_used 28 = .ok (.invokevirtual 113, 3) := by decide +kernel
theorem dX6_used_31 : decode cX6_used 31 = .ok (.aload_n 0, 1) := by decide +kernel
theorem dX6_used_32 : decode cX6_used 32 = .ok (.getfield 38, 3) := by decide +kernel
theorem dX6_used_35 : decode cX6_used 35 = .ok (.getfield 174, 3) := by decide +kernel
theorem dX6_used_38 : decode cX6_used 38 = .ok (.iload_n 1, 1) := by decide +kernel
theorem dX6_used_39 : decode cX6_used 39 = .ok (.iaload, 1) := by decide +kernel
theorem dX6_used_40 : decode cX6_used 40 = .ok (.ireturn, 1) := by decide +kernel
def f6_used (x1 : Int32) (M : mm_M) : Option (Int32 × mm_M) :=
  bN (mNow M) (fun d_1 => if isD d_1 = true then (cI (f0_hasSlot d_1 x1 M) (fun r_2 M => if r_2 = 0 then (some ((-1), M)) else (bN (mNow M) (fun d_3 => if isD d_3 = true then (bN (mNow M) (fun d_4 => if isD d_4 = true then (cV (f1_weigh d_3 (d_4 + 3) M) (fun M => aI 25 8 x1 M (fun w_5 => some (w_5, M)))) else none)) else none)))) else none)
set_option maxHeartbeats 2000000 in
theorem s6_used (x1 : Int32) (M : mm_M) : Snd injI j6_used mm_X0 0 [some (.ref 1), some (.int x1)] [] M (f6_used x1 M) := by
  refine Snd.wk (lo' := [some (.ref 1), some (.int x1)]) ?_ (by simp [mm_le])
  unfold f6_used
  refine sn_aload_n (j := j6_used) (pc := 0) rfl rfl dX6_used_0 ?_
  refine g_X6_12 (j := j6_used) (pc := 1) rfl dX6_used_1 (fun d_1 => ?_)
  refine Snd.ite fun hd_1 => ?_
  refine sn_iload_n (j := j6_used) (pc := 4) rfl rfl dX6_used_4 ?_
  refine sn_callV (j := j6_used) (pc := 5) (jc := j0_hasSlot) (As := [.int x1]) (s0_hasSlot d_1 x1 M) mm_hvI (by simp [Value.category]) (Nat.le_of_ble_eq_true rfl) q0_hasSlot rfl (by decide) rfl (isD_obj hd_1) (isD_pos hd_1) w_ml_X6_103 w_im_X0_hasSlot w_se_X0_hasSlot rfl (Nat.le_of_ble_eq_true rfl) dX6_used_5 ?_
  rintro ⟨r_2, M⟩
  show Snd injI j6_used mm_X0 8 [some (.ref 1), some (.int x1)] [.int r_2] M _
  refine sn_if_ne (j := j6_used) (pc := 8) 13 rfl dX6_used_8 ?_ ?_
  · refine sn_aload_n (j := j6_used) (pc := 13) rfl rfl dX6_used_13 ?_
    refine g_X6_38 (j := j6_used) (pc := 14) rfl dX6_used_14 ?_
    refine sn_aload_n (j := j6_used) (pc := 17) rfl rfl dX6_used_17 ?_
    refine g_X6_12 (j := j6_used) (pc := 18) rfl dX6_used_18 (fun d_3 => ?_)
    refine Snd.ite fun hd_3 => ?_
    refine sn_aload_n (j := j6_used) (pc := 21) rfl rfl dX6_used_21 ?_
    refine g_X6_12 (j := j6_used) (pc := 22) rfl dX6_used_22 (fun d_4 => ?_)
    refine Snd.ite fun hd_4 => ?_
    refine g_X6_110 (j := j6_used) (pc := 25) hd_4 rfl dX6_used_25 ?_
    refine sn_callV (j := j6_used) (pc := 28) (jc := j1_weigh) (As := [.ref d_3, .ref (d_4 + 3)]) (s1_weigh d_3 (d_4 + 3) M) mm_hvV (by simp [Value.category]) (Nat.le_of_ble_eq_true rfl) q1_weigh rfl (by decide) rfl rfl ⟨by decide, by decide⟩ w_ml_X6_113 w_im_X1_weigh w_se_X1_weigh rfl (Nat.le_of_ble_eq_true rfl) dX6_used_28 ?_
    intro M
    show Snd injI j6_used mm_X0 31 [some (.ref 1), some (.int x1)] [] M _
    refine sn_aload_n (j := j6_used) (pc := 31) rfl rfl dX6_used_31 ?_
    refine g_X6_38 (j := j6_used) (pc := 32) rfl dX6_used_32 ?_
    refine g_X6_174 (j := j6_used) (pc := 35) rfl dX6_used_35 ?_
    refine sn_iload_n (j := j6_used) (pc := 38) rfl rfl dX6_used_38 ?_
    refine sn_iald (j := j6_used) (pc := 39) rfl ⟨by decide, by decide⟩ dX6_used_39 (fun w_5 => ?_)
    exact sn_iret (j := j6_used) (pc := 40) rfl dX6_used_40
  · refine sn_iconst (j := j6_used) (pc := 11) (-1) rfl dX6_used_11 ?_
    exact sn_iret (j := j6_used) (pc := 12) rfl dX6_used_12

abbrev j6_sum : mm_J := (yX6_sum, cX6_sum, 2, (some .int), 5)
theorem dX6_sum_0 : decode cX6_sum 0 = .ok (.aload_n 0, 1) := by decide +kernel
theorem dX6_sum_1 : decode cX6_sum 1 = .ok (.getfield 38, 3) := by decide +kernel
theorem dX6_sum_4 : decode cX6_sum 4 = .ok (.aload_n 0, 1) := by decide +kernel
theorem dX6_sum_5 : decode cX6_sum 5 = .ok (.getfield 12, 3) := by decide +kernel
theorem dX6_sum_8 : decode cX6_sum 8 = .ok (.aload_n 0, 1) := by decide +kernel
theorem dX6_sum_9 : decode cX6_sum 9 = .ok (.getfield 12, 3) := by decide +kernel
theorem dX6_sum_12 : decode cX6_sum 12 = .ok (.getfield 110, 3) := by decide +kernel
theorem dX6_sum_15 : decode cX6_sum 15 = .ok (.invokevirtual 113, 3) := by decide +kernel
theorem dX6_sum_18 : decode cX6_sum 18 = .ok (.iload_n 1, 1) := by decide +kernel
theorem dX6_sum_19 : decode cX6_sum 19 = .ok (.iconst 4, 1) := by decide +kernel
theorem dX6_sum_20 : decode cX6_sum 20 = .ok (.if_icmp .ne 24, 3) := by decide +kernel
theorem dX6_sum_23 : decode cX6_sum 23 = .ok (.aload_n 0, 1) := by decide +kernel
theorem dX6_sum_24 : decode cX6_sum 24 = .ok (.getfield 38, 3) := by decide +kernel
theorem dX6_sum_27 : decode cX6_sum 27 = .ok (.aload_n 0, 1) := by decide +kernel
theorem dX6_sum_28 : decode cX6_sum 28 = .ok (.getfield 12, 3) := by decide +kernel
theorem dX6_sum_31 : decode cX6_sum 31 = .ok (.aload_n 0, 1) := by decide +kernel
theorem dX6_sum_32 : decode cX6_sum 32 = .ok (.getfield 12, 3) := by decide +kernel
theorem dX6_sum_35 : decode cX6_sum 35 = .ok (.getfield 110, 3) := by decide +kernel
theorem dX6_sum_38 : decode cX6_sum 38 = .ok (.invokevirtual 177, 3) := by decide +kernel
theorem dX6_sum_41 : decode cX6_sum 41 = .ok (.goto 11, 3) := by decide +kernel
theorem dX6_sum_44 : decode cX6_sum 44 = .ok (.aload_n 0, 1) := by decide +kernel
theorem dX6_sum_45 : decode cX6_sum 45 = .ok (.getfield 38, 3) := by decide +kernel
theorem dX6_sum_48 : decode cX6_sum 48 = .ok (.iload_n 1, 1) := by decide +kernel
theorem dX6_sum_49 : decode cX6_sum 49 = .ok (.invokevirtual 181, 3) := by decide +kernel
theorem dX6_sum_52 : decode cX6_sum 52 = .ok (.ireturn, 1) := by decide +kernel
def l6_sum_52  (s0 : Int32) (M : mm_M) : Option (Int32 × mm_M) :=
  some (s0, M)
set_option maxHeartbeats 2000000 in
theorem sl6_sum_52   (s0 : Int32)  (M : mm_M) : Snd injI j6_sum mm_X0 52 [none, none] [.int s0] M (l6_sum_52  s0 M) := by
  unfold l6_sum_52
  exact sn_iret (j := j6_sum) (pc := 52) rfl dX6_sum_52
def f6_sum (x1 : Int32) (M : mm_M) : Option (Int32 × mm_M) :=
  bN (mNow M) (fun d_1 => if isD d_1 = true then (bN (mNow M) (fun d_2 => if isD d_2 = true then (cV (f1_weigh d_1 (d_2 + 3) M) (fun M => if x1 = 4 then (bN (mNow M) (fun d_4 => if isD d_4 = true then (bN (mNow M) (fun d_5 => if isD d_5 = true then (cI (f1_wrongness d_4 (d_5 + 3) M) (fun r_6 M => l6_sum_52 r_6 M)) else none)) else none)) else (cI (f1_figure x1 M) (fun r_3 M => l6_sum_52 r_3 M)))) else none)) else none)
set_option maxHeartbeats 2000000 in
theorem s6_sum (x1 : Int32) (M : mm_M) : Snd injI j6_sum mm_X0 0 [some (.ref 1), some (.int x1)] [] M (f6_sum x1 M) := by
  refine Snd.wk (lo' := [some (.ref 1), some (.int x1)]) ?_ (by simp [mm_le])
  unfold f6_sum
  refine sn_aload_n (j := j6_sum) (pc := 0) rfl rfl dX6_sum_0 ?_
  refine g_X6_38 (j := j6_sum) (pc := 1) rfl dX6_sum_1 ?_
  refine sn_aload_n (j := j6_sum) (pc := 4) rfl rfl dX6_sum_4 ?_
  refine g_X6_12 (j := j6_sum) (pc := 5) rfl dX6_sum_5 (fun d_1 => ?_)
  refine Snd.ite fun hd_1 => ?_
  refine sn_aload_n (j := j6_sum) (pc := 8) rfl rfl dX6_sum_8 ?_
  refine g_X6_12 (j := j6_sum) (pc := 9) rfl dX6_sum_9 (fun d_2 => ?_)
  refine Snd.ite fun hd_2 => ?_
  refine g_X6_110 (j := j6_sum) (pc := 12) hd_2 rfl dX6_sum_12 ?_
  refine sn_callV (j := j6_sum) (pc := 15) (jc := j1_weigh) (As := [.ref d_1, .ref (d_2 + 3)]) (s1_weigh d_1 (d_2 + 3) M) mm_hvV (by simp [Value.category]) (Nat.le_of_ble_eq_true rfl) q1_weigh rfl (by decide) rfl rfl ⟨by decide, by decide⟩ w_ml_X6_113 w_im_X1_weigh w_se_X1_weigh rfl (Nat.le_of_ble_eq_true rfl) dX6_sum_15 ?_
  intro M
  show Snd injI j6_sum mm_X0 18 [some (.ref 1), some (.int x1)] [] M _
  refine sn_iload_n (j := j6_sum) (pc := 18) rfl rfl dX6_sum_18 ?_
  refine sn_iconst (j := j6_sum) (pc := 19) 4 rfl dX6_sum_19 ?_
  refine sn_icmp_ne (j := j6_sum) (pc := 20) 44 rfl dX6_sum_20 ?_ ?_
  · refine sn_aload_n (j := j6_sum) (pc := 44) rfl rfl dX6_sum_44 ?_
    refine g_X6_38 (j := j6_sum) (pc := 45) rfl dX6_sum_45 ?_
    refine sn_iload_n (j := j6_sum) (pc := 48) rfl rfl dX6_sum_48 ?_
    refine sn_callV (j := j6_sum) (pc := 49) (jc := j1_figure) (As := [.int x1]) (s1_figure x1 M) mm_hvI (by simp [Value.category]) (Nat.le_of_ble_eq_true rfl) q1_figure rfl (by decide) rfl rfl ⟨by decide, by decide⟩ w_ml_X6_181 w_im_X1_figure w_se_X1_figure rfl (Nat.le_of_ble_eq_true rfl) dX6_sum_49 ?_
    rintro ⟨r_3, M⟩
    show Snd injI j6_sum mm_X0 52 [some (.ref 1), some (.int x1)] [.int r_3] M _
    exact Snd.wk (sl6_sum_52 r_3 M) (by simp [mm_le])
  · refine sn_aload_n (j := j6_sum) (pc := 23) rfl rfl dX6_sum_23 ?_
    refine g_X6_38 (j := j6_sum) (pc := 24) rfl dX6_sum_24 ?_
    refine sn_aload_n (j := j6_sum) (pc := 27) rfl rfl dX6_sum_27 ?_
    refine g_X6_12 (j := j6_sum) (pc := 28) rfl dX6_sum_28 (fun d_4 => ?_)
    refine Snd.ite fun hd_4 => ?_
    refine sn_aload_n (j := j6_sum) (pc := 31) rfl rfl dX6_sum_31 ?_
    refine g_X6_12 (j := j6_sum) (pc := 32) rfl dX6_sum_32 (fun d_5 => ?_)
    refine Snd.ite fun hd_5 => ?_
    refine g_X6_110 (j := j6_sum) (pc := 35) hd_5 rfl dX6_sum_35 ?_
    refine sn_callV (j := j6_sum) (pc := 38) (jc := j1_wrongness) (As := [.ref d_4, .ref (d_5 + 3)]) (s1_wrongness d_4 (d_5 + 3) M) mm_hvI (by simp [Value.category]) (Nat.le_of_ble_eq_true rfl) q1_wrongness rfl (by decide) rfl rfl ⟨by decide, by decide⟩ w_ml_X6_177 w_im_X1_wrongness w_se_X1_wrongness rfl (Nat.le_of_ble_eq_true rfl) dX6_sum_38 ?_
    rintro ⟨r_6, M⟩
    show Snd injI j6_sum mm_X0 41 [some (.ref 1), some (.int x1)] [.int r_6] M _
    refine sn_goto (j := j6_sum) (pc := 41) 52 rfl dX6_sum_41 ?_
    exact Snd.wk (sl6_sum_52 r_6 M) (by simp [mm_le])

abbrev j6_lack : mm_J := (yX6_lack, cX6_lack, 2, (some .int), 4)
theorem dX6_lack_0 : decode cX6_lack 0 = .ok (.aload_n 0, 1) := by decide +kernel
theorem dX6_lack_1 : decode cX6_lack 1 = .ok (.getfield 12, 3) := by decide +kernel
theorem dX6_lack_4 : decode cX6_lack 4 = .ok (.iload_n 1, 1) := by decide +kernel
theorem dX6_lack_5 : decode cX6_lack 5 = .ok (.invokevirtual 107, 3) := by decide +kernel
theorem dX6_lack_8 : decode cX6_lack 8 = .ok (.ifCond .ne 5, 3) := by decide +kernel
theorem dX6_lack_11 : decode cX6_lack 11 = .ok (.iconst (-1), 1) := by decide +kernel
theorem dX6_lack_12 : decode cX6_lack 12 = .ok (.ireturn, 1) := by decide +kernel
theorem dX6_lack_13 : decode cX6_lack 13 = .ok (.aload_n 0, 1) := by decide +kernel
theorem dX6_lack_14 : decode cX6_lack 14 = .ok (.getfield 38, 3) := by decide +kernel
theorem dX6_lack_17 : decode cX6_lack 17 = .ok (.aload_n 0, 1) := by decide +kernel
theorem dX6_lack_18 : decode cX6_lack 18 = .ok (.getfield 12, 3) := by decide +kernel
theorem dX6_lack_21 : decode cX6_lack 21 = .ok (.aload_n 0, 1) := by decide +kernel
theorem dX6_lack_22 : decode cX6_lack 22 = .ok (.getfield 12, 3) := by decide +kernel
theorem dX6_lack_25 : decode cX6_lack 25 = .ok (.getfield 110, 3) := by decide +kernel
theorem dX6_lack_28 : decode cX6_lack 28 = .ok (.invokevirtual 113, 3) := by decide +kernel
theorem dX6_lack_31 : decode cX6_lack 31 = .ok (.aload_n 0, 1) := by decide +kernel
theorem dX6_lack_32 : decode cX6_lack 32 = .ok (.getfield 38, 3) := by decide +kernel
theorem dX6_lack_35 : decode cX6_lack 35 = .ok (.aload_n 0, 1) := by decide +kernel
theorem dX6_lack_36 : decode cX6_lack 36 = .ok (.getfield 12, 3) := by decide +kernel
theorem dX6_lack_39 : decode cX6_lack 39 = .ok (.iload_n 1, 1) := by decide +kernel
theorem dX6_lack_40 : decode cX6_lack 40 = .ok (.invokevirtual 185, 3) := by decide +kernel
theorem dX6_lack_43 : decode cX6_lack 43 = .ok (.ireturn, 1) := by decide +kernel
def f6_lack (x1 : Int32) (M : mm_M) : Option (Int32 × mm_M) :=
  bN (mNow M) (fun d_1 => if isD d_1 = true then (cI (f0_hasBus d_1 x1 M) (fun r_2 M => if r_2 = 0 then (some ((-1), M)) else (bN (mNow M) (fun d_3 => if isD d_3 = true then (bN (mNow M) (fun d_4 => if isD d_4 = true then (cV (f1_weigh d_3 (d_4 + 3) M) (fun M => bN (mNow M) (fun d_5 => if isD d_5 = true then (cI (f1_lackOf d_5 x1 M) (fun r_6 M => some (r_6, M))) else none))) else none)) else none)))) else none)
set_option maxHeartbeats 2000000 in
theorem s6_lack (x1 : Int32) (M : mm_M) : Snd injI j6_lack mm_X0 0 [some (.ref 1), some (.int x1)] [] M (f6_lack x1 M) := by
  refine Snd.wk (lo' := [some (.ref 1), some (.int x1)]) ?_ (by simp [mm_le])
  unfold f6_lack
  refine sn_aload_n (j := j6_lack) (pc := 0) rfl rfl dX6_lack_0 ?_
  refine g_X6_12 (j := j6_lack) (pc := 1) rfl dX6_lack_1 (fun d_1 => ?_)
  refine Snd.ite fun hd_1 => ?_
  refine sn_iload_n (j := j6_lack) (pc := 4) rfl rfl dX6_lack_4 ?_
  refine sn_callV (j := j6_lack) (pc := 5) (jc := j0_hasBus) (As := [.int x1]) (s0_hasBus d_1 x1 M) mm_hvI (by simp [Value.category]) (Nat.le_of_ble_eq_true rfl) q0_hasBus rfl (by decide) rfl (isD_obj hd_1) (isD_pos hd_1) w_ml_X6_107 w_im_X0_hasBus w_se_X0_hasBus rfl (Nat.le_of_ble_eq_true rfl) dX6_lack_5 ?_
  rintro ⟨r_2, M⟩
  show Snd injI j6_lack mm_X0 8 [some (.ref 1), some (.int x1)] [.int r_2] M _
  refine sn_if_ne (j := j6_lack) (pc := 8) 13 rfl dX6_lack_8 ?_ ?_
  · refine sn_aload_n (j := j6_lack) (pc := 13) rfl rfl dX6_lack_13 ?_
    refine g_X6_38 (j := j6_lack) (pc := 14) rfl dX6_lack_14 ?_
    refine sn_aload_n (j := j6_lack) (pc := 17) rfl rfl dX6_lack_17 ?_
    refine g_X6_12 (j := j6_lack) (pc := 18) rfl dX6_lack_18 (fun d_3 => ?_)
    refine Snd.ite fun hd_3 => ?_
    refine sn_aload_n (j := j6_lack) (pc := 21) rfl rfl dX6_lack_21 ?_
    refine g_X6_12 (j := j6_lack) (pc := 22) rfl dX6_lack_22 (fun d_4 => ?_)
    refine Snd.ite fun hd_4 => ?_
    refine g_X6_110 (j := j6_lack) (pc := 25) hd_4 rfl dX6_lack_25 ?_
    refine sn_callV (j := j6_lack) (pc := 28) (jc := j1_weigh) (As := [.ref d_3, .ref (d_4 + 3)]) (s1_weigh d_3 (d_4 + 3) M) mm_hvV (by simp [Value.category]) (Nat.le_of_ble_eq_true rfl) q1_weigh rfl (by decide) rfl rfl ⟨by decide, by decide⟩ w_ml_X6_113 w_im_X1_weigh w_se_X1_weigh rfl (Nat.le_of_ble_eq_true rfl) dX6_lack_28 ?_
    intro M
    show Snd injI j6_lack mm_X0 31 [some (.ref 1), some (.int x1)] [] M _
    refine sn_aload_n (j := j6_lack) (pc := 31) rfl rfl dX6_lack_31 ?_
    refine g_X6_38 (j := j6_lack) (pc := 32) rfl dX6_lack_32 ?_
    refine sn_aload_n (j := j6_lack) (pc := 35) rfl rfl dX6_lack_35 ?_
    refine g_X6_12 (j := j6_lack) (pc := 36) rfl dX6_lack_36 (fun d_5 => ?_)
    refine Snd.ite fun hd_5 => ?_
    refine sn_iload_n (j := j6_lack) (pc := 39) rfl rfl dX6_lack_39 ?_
    refine sn_callV (j := j6_lack) (pc := 40) (jc := j1_lackOf) (As := [.ref d_5, .int x1]) (s1_lackOf d_5 x1 M) mm_hvI (by simp [Value.category]) (Nat.le_of_ble_eq_true rfl) q1_lackOf rfl (by decide) rfl rfl ⟨by decide, by decide⟩ w_ml_X6_185 w_im_X1_lackOf w_se_X1_lackOf rfl (Nat.le_of_ble_eq_true rfl) dX6_lack_40 ?_
    rintro ⟨r_6, M⟩
    show Snd injI j6_lack mm_X0 43 [some (.ref 1), some (.int x1)] [.int r_6] M _
    exact sn_iret (j := j6_lack) (pc := 43) rfl dX6_lack_43
  · refine sn_iconst (j := j6_lack) (pc := 11) (-1) rfl dX6_lack_11 ?_
    exact sn_iret (j := j6_lack) (pc := 12) rfl dX6_lack_12

abbrev j6_findBest : mm_J := (yX6_findBest, cX6_findBest, 1, none, 5)
theorem dX6_findBest_0 : decode cX6_findBest 0 = .ok (.aload_n 0, 1) := by decide +kernel
theorem dX6_findBest_1 : decode cX6_findBest 1 = .ok (.getfield 62, 3) := by decide +kernel
theorem dX6_findBest_4 : decode cX6_findBest 4 = .ok (.ifCond .eq 4, 3) := by decide +kernel
theorem dX6_findBest_7 : decode cX6_findBest 7 = .ok (.return_, 1) := by decide +kernel
theorem dX6_findBest_8 : decode cX6_findBest 8 = .ok (.aload_n 0, 1) := by decide +kernel
theorem dX6_findBest_9 : decode cX6_findBest 9 = .ok (.getfield 47, 3) := by decide +kernel
theorem dX6_findBest_12 : decode cX6_findBest 12 = .ok (.aload_n 0, 1) := by decide +kernel
theorem dX6_findBest_13 : decode cX6_findBest 13 = .ok (.getfield 12, 3) := by decide +kernel
theorem dX6_findBest_16 : decode cX6_findBest 16 = .ok (.invokevirtual 218, 3) := by decide +kernel
theorem dX6_findBest_19 : decode cX6_findBest 19 = .ok (.aload_n 0, 1) := by decide +kernel
theorem dX6_findBest_20 : decode cX6_findBest 20 = .ok (.getfield 47, 3) := by decide +kernel
theorem dX6_findBest_23 : decode cX6_findBest 23 = .ok (.aload_n 0, 1) := by decide +kernel
theorem dX6_findBest_24 : decode cX6_findBest 24 = .ok (.getfield 58, 3) := by decide +kernel
theorem dX6_findBest_27 : decode cX6_findBest 27 = .ok (.invokevirtual 241, 3) := by decide +kernel
theorem dX6_findBest_30 : decode cX6_findBest 30 = .ok (.aload_n 0, 1) := by decide +kernel
theorem dX6_findBest_31 : decode cX6_findBest 31 = .ok (.iconst 1, 1) := by decide +kernel
theorem dX6_findBest_32 : decode cX6_findBest 32 = .ok (.putfield 62, 3) := by decide +kernel
theorem dX6_findBest_35 : decode cX6_findBest 35 = .ok (.return_, 1) := by decide +kernel
def f6_findBest  (M : mm_M) : Option (mm_M) :=
  bI (mI M 1 8) (fun v_1 => if v_1 = 0 then (bN (mNow M) (fun d_2 => if isD d_2 = true then (cV (f2_lookAt d_2 M) (fun M => cV (f2_findPlan 45 M) (fun M => bM (sI M 1 8 1) (fun M => some M)))) else none)) else (some M))
set_option maxHeartbeats 2000000 in
theorem s6_findBest  (M : mm_M) : Snd injV j6_findBest mm_X0 0 [some (.ref 1)] [] M (f6_findBest  M) := by
  refine Snd.wk (lo' := [some (.ref 1)]) ?_ (by simp [mm_le])
  unfold f6_findBest
  refine sn_aload_n (j := j6_findBest) (pc := 0) rfl rfl dX6_findBest_0 ?_
  refine g_X6_62 (j := j6_findBest) (pc := 1) rfl dX6_findBest_1 ?_
  refine Snd.bI (fun v_1 => ?_)
  refine sn_if_eq (j := j6_findBest) (pc := 4) 8 rfl dX6_findBest_4 ?_ ?_
  · refine sn_aload_n (j := j6_findBest) (pc := 8) rfl rfl dX6_findBest_8 ?_
    refine g_X6_47 (j := j6_findBest) (pc := 9) rfl dX6_findBest_9 ?_
    refine sn_aload_n (j := j6_findBest) (pc := 12) rfl rfl dX6_findBest_12 ?_
    refine g_X6_12 (j := j6_findBest) (pc := 13) rfl dX6_findBest_13 (fun d_2 => ?_)
    refine Snd.ite fun hd_2 => ?_
    refine sn_callV (j := j6_findBest) (pc := 16) (jc := j2_lookAt) (As := [.ref d_2]) (s2_lookAt d_2 M) mm_hvV (by simp [Value.category]) (Nat.le_of_ble_eq_true rfl) q2_lookAt rfl (by decide) rfl rfl ⟨by decide, by decide⟩ w_ml_X6_218 w_im_X2_lookAt w_se_X2_lookAt rfl (Nat.le_of_ble_eq_true rfl) dX6_findBest_16 ?_
    intro M
    show Snd injV j6_findBest mm_X0 19 [some (.ref 1)] [] M _
    refine sn_aload_n (j := j6_findBest) (pc := 19) rfl rfl dX6_findBest_19 ?_
    refine g_X6_47 (j := j6_findBest) (pc := 20) rfl dX6_findBest_20 ?_
    refine sn_aload_n (j := j6_findBest) (pc := 23) rfl rfl dX6_findBest_23 ?_
    refine g_X6_58 (j := j6_findBest) (pc := 24) rfl dX6_findBest_24 ?_
    refine sn_callV (j := j6_findBest) (pc := 27) (jc := j2_findPlan) (As := [.ref 45]) (s2_findPlan 45 M) mm_hvV (by simp [Value.category]) (Nat.le_of_ble_eq_true rfl) q2_findPlan rfl (by decide) rfl rfl ⟨by decide, by decide⟩ w_ml_X6_241 w_im_X2_findPlan w_se_X2_findPlan rfl (Nat.le_of_ble_eq_true rfl) dX6_findBest_27 ?_
    intro M
    show Snd injV j6_findBest mm_X0 30 [some (.ref 1)] [] M _
    refine sn_aload_n (j := j6_findBest) (pc := 30) rfl rfl dX6_findBest_30 ?_
    refine sn_iconst (j := j6_findBest) (pc := 31) 1 rfl dX6_findBest_31 ?_
    refine p_X6_62 (j := j6_findBest) (pc := 32) (by decide) rfl dX6_findBest_32 (fun M => ?_)
    exact sn_vret (j := j6_findBest) (pc := 35) rfl dX6_findBest_35
  · exact sn_vret (j := j6_findBest) (pc := 7) rfl dX6_findBest_7

abbrev j6_best : mm_J := (yX6_best, cX6_best, 2, (some .int), 6)
theorem dX6_best_0 : decode cX6_best 0 = .ok (.iload_n 1, 1) := by decide +kernel
theorem dX6_best_1 : decode cX6_best 1 = .ok (.ifCond .lt 8, 3) := by decide +kernel
theorem dX6_best_4 : decode cX6_best 4 = .ok (.iload_n 1, 1) := by decide +kernel
theorem dX6_best_5 : decode cX6_best 5 = .ok (.iconst 4, 1) := by decide +kernel
theorem dX6_best_6 : decode cX6_best 6 = .ok (.if_icmp .lt 5, 3) := by decide +kernel
theorem dX6_best_9 : decode cX6_best 9 = .ok (.iconst (-1), 1) := by decide +kernel
theorem dX6_best_10 : decode cX6_best 10 = .ok (.ireturn, 1) := by decide +kernel
theorem dX6_best_11 : decode cX6_best 11 = .ok (.aload_n 0, 1) := by decide +kernel
theorem dX6_best_12 : decode cX6_best 12 = .ok (.invokevirtual 189, 3) := by decide +kernel
theorem dX6_best_15 : decode cX6_best 15 = .ok (.aload_n 0, 1) := by decide +kernel
theorem dX6_best_16 : decode cX6_best 16 = .ok (.getfield 38, 3) := by decide +kernel
theorem dX6_best_19 : decode cX6_best 19 = .ok (.aload_n 0, 1) := by decide +kernel
theorem dX6_best_20 : decode cX6_best 20 = .ok (.getfield 12, 3) := by decide +kernel
theorem dX6_best_23 : decode cX6_best 23 = .ok (.aload_n 0, 1) := by decide +kernel
theorem dX6_best_24 : decode cX6_best 24 = .ok (.getfield 58, 3) := by decide +kernel
theorem dX6_best_27 : decode cX6_best 27 = .ok (.invokevirtual 113, 3) := by decide +kernel
theorem dX6_best_30 : decode cX6_best 30 = .ok (.aload_n 0, 1) := by decide +kernel
theorem dX6_best_31 : decode cX6_best 31 = .ok (.getfield 38, 3) := by decide +kernel
theorem dX6_best_34 : decode cX6_best 34 = .ok (.iload_n 1, 1) := by decide +kernel
theorem dX6_best_35 : decode cX6_best 35 = .ok (.invokevirtual 181, 3) := by decide +kernel
theorem dX6_best_38 : decode cX6_best 38 = .ok (.ireturn, 1) := by decide +kernel
def l6_best_9   (M : mm_M) : Option (Int32 × mm_M) :=
  some ((-1), M)
set_option maxHeartbeats 2000000 in
theorem sl6_best_9     (M : mm_M) : Snd injI j6_best mm_X0 9 [none, none] [] M (l6_best_9   M) := by
  unfold l6_best_9
  refine sn_iconst (j := j6_best) (pc := 9) (-1) rfl dX6_best_9 ?_
  exact sn_iret (j := j6_best) (pc := 10) rfl dX6_best_10
def f6_best (x1 : Int32) (M : mm_M) : Option (Int32 × mm_M) :=
  if x1 < 0 then (l6_best_9 M) else (if x1 < 4 then (cV (f6_findBest M) (fun M => bN (mNow M) (fun d_1 => if isD d_1 = true then (cV (f1_weigh d_1 45 M) (fun M => cI (f1_figure x1 M) (fun r_2 M => some (r_2, M)))) else none))) else (l6_best_9 M))
set_option maxHeartbeats 2000000 in
theorem s6_best (x1 : Int32) (M : mm_M) : Snd injI j6_best mm_X0 0 [some (.ref 1), some (.int x1)] [] M (f6_best x1 M) := by
  refine Snd.wk (lo' := [some (.ref 1), some (.int x1)]) ?_ (by simp [mm_le])
  unfold f6_best
  refine sn_iload_n (j := j6_best) (pc := 0) rfl rfl dX6_best_0 ?_
  refine sn_if_lt (j := j6_best) (pc := 1) 9 rfl dX6_best_1 ?_ ?_
  · exact Snd.wk (sl6_best_9 M) (by simp [mm_le])
  · refine sn_iload_n (j := j6_best) (pc := 4) rfl rfl dX6_best_4 ?_
    refine sn_iconst (j := j6_best) (pc := 5) 4 rfl dX6_best_5 ?_
    refine sn_icmp_lt (j := j6_best) (pc := 6) 11 rfl dX6_best_6 ?_ ?_
    · refine sn_aload_n (j := j6_best) (pc := 11) rfl rfl dX6_best_11 ?_
      refine sn_callV (j := j6_best) (pc := 12) (jc := j6_findBest) (As := []) (s6_findBest M) mm_hvV (by simp [Value.category]) (Nat.le_of_ble_eq_true rfl) q6_findBest rfl (by decide) rfl rfl ⟨by decide, by decide⟩ w_ml_X6_189 w_im_X6_findBest w_se_X6_findBest rfl (Nat.le_of_ble_eq_true rfl) dX6_best_12 ?_
      intro M
      show Snd injI j6_best mm_X0 15 [some (.ref 1), some (.int x1)] [] M _
      refine sn_aload_n (j := j6_best) (pc := 15) rfl rfl dX6_best_15 ?_
      refine g_X6_38 (j := j6_best) (pc := 16) rfl dX6_best_16 ?_
      refine sn_aload_n (j := j6_best) (pc := 19) rfl rfl dX6_best_19 ?_
      refine g_X6_12 (j := j6_best) (pc := 20) rfl dX6_best_20 (fun d_1 => ?_)
      refine Snd.ite fun hd_1 => ?_
      refine sn_aload_n (j := j6_best) (pc := 23) rfl rfl dX6_best_23 ?_
      refine g_X6_58 (j := j6_best) (pc := 24) rfl dX6_best_24 ?_
      refine sn_callV (j := j6_best) (pc := 27) (jc := j1_weigh) (As := [.ref d_1, .ref 45]) (s1_weigh d_1 45 M) mm_hvV (by simp [Value.category]) (Nat.le_of_ble_eq_true rfl) q1_weigh rfl (by decide) rfl rfl ⟨by decide, by decide⟩ w_ml_X6_113 w_im_X1_weigh w_se_X1_weigh rfl (Nat.le_of_ble_eq_true rfl) dX6_best_27 ?_
      intro M
      show Snd injI j6_best mm_X0 30 [some (.ref 1), some (.int x1)] [] M _
      refine sn_aload_n (j := j6_best) (pc := 30) rfl rfl dX6_best_30 ?_
      refine g_X6_38 (j := j6_best) (pc := 31) rfl dX6_best_31 ?_
      refine sn_iload_n (j := j6_best) (pc := 34) rfl rfl dX6_best_34 ?_
      refine sn_callV (j := j6_best) (pc := 35) (jc := j1_figure) (As := [.int x1]) (s1_figure x1 M) mm_hvI (by simp [Value.category]) (Nat.le_of_ble_eq_true rfl) q1_figure rfl (by decide) rfl rfl ⟨by decide, by decide⟩ w_ml_X6_181 w_im_X1_figure w_se_X1_figure rfl (Nat.le_of_ble_eq_true rfl) dX6_best_35 ?_
      rintro ⟨r_2, M⟩
      show Snd injI j6_best mm_X0 38 [some (.ref 1), some (.int x1)] [.int r_2] M _
      exact sn_iret (j := j6_best) (pc := 38) rfl dX6_best_38
    · exact Snd.wk (sl6_best_9 M) (by simp [mm_le])

abbrev j6_adopt : mm_J := (yX6_adopt, cX6_adopt, 3, (some .int), 4)
theorem dX6_adopt_0 : decode cX6_adopt 0 = .ok (.iconst 0, 1) := by decide +kernel
theorem dX6_adopt_1 : decode cX6_adopt 1 = .ok (.istore_n 2, 1) := by decide +kernel
theorem dX6_adopt_2 : decode cX6_adopt 2 = .ok (.iload_n 2, 1) := by decide +kernel
theorem dX6_adopt_3 : decode cX6_adopt 3 = .ok (.bipush 8, 2) := by decide +kernel
theorem dX6_adopt_5 : decode cX6_adopt 5 = .ok (.if_icmp .ge 21, 3) := by decide +kernel
theorem dX6_adopt_8 : decode cX6_adopt 8 = .ok (.aload_n 0, 1) := by decide +kernel
theorem dX6_adopt_9 : decode cX6_adopt 9 = .ok (.getfield 12, 3) := by decide +kernel
theorem dX6_adopt_12 : decode cX6_adopt 12 = .ok (.getfield 110, 3) := by decide +kernel
theorem dX6_adopt_15 : decode cX6_adopt 15 = .ok (.iload_n 2, 1) := by decide +kernel
theorem dX6_adopt_16 : decode cX6_adopt 16 = .ok (.aload_n 1, 1) := by decide +kernel
theorem dX6_adopt_17 : decode cX6_adopt 17 = .ok (.iload_n 2, 1) := by decide +kernel
theorem dX6_adopt_18 : decode cX6_adopt 18 = .ok (.iaload, 1) := by decide +kernel
theorem dX6_adopt_19 : decode cX6_adopt 19 = .ok (.iastore, 1) := by decide +kernel
theorem dX6_adopt_20 : decode cX6_adopt 20 = .ok (.iinc 2 1, 3) := by decide +kernel
theorem dX6_adopt_23 : decode cX6_adopt 23 = .ok (.goto (-21), 3) := by decide +kernel
theorem dX6_adopt_26 : decode cX6_adopt 26 = .ok (.aload_n 0, 1) := by decide +kernel
theorem dX6_adopt_27 : decode cX6_adopt 27 = .ok (.getfield 38, 3) := by decide +kernel
theorem dX6_adopt_30 : decode cX6_adopt 30 = .ok (.aload_n 0, 1) := by decide +kernel
theorem dX6_adopt_31 : decode cX6_adopt 31 = .ok (.getfield 12, 3) := by decide +kernel
theorem dX6_adopt_34 : decode cX6_adopt 34 = .ok (.aload_n 0, 1) := by decide +kernel
theorem dX6_adopt_35 : decode cX6_adopt 35 = .ok (.getfield 12, 3) := by decide +kernel
theorem dX6_adopt_38 : decode cX6_adopt 38 = .ok (.getfield 110, 3) := by decide +kernel
theorem dX6_adopt_41 : decode cX6_adopt 41 = .ok (.invokevirtual 113, 3) := by decide +kernel
theorem dX6_adopt_44 : decode cX6_adopt 44 = .ok (.aload_n 0, 1) := by decide +kernel
theorem dX6_adopt_45 : decode cX6_adopt 45 = .ok (.getfield 38, 3) := by decide +kernel
theorem dX6_adopt_48 : decode cX6_adopt 48 = .ok (.getfield 123, 3) := by decide +kernel
theorem dX6_adopt_51 : decode cX6_adopt 51 = .ok (.ireturn, 1) := by decide +kernel
def b6_adopt_2  (rec2 : Nat → Int32 → mm_M → Option (Int32 × mm_M)) (a1 : Nat) (x2 : Int32) (M : mm_M) : Option (Int32 × mm_M) :=
  if 8 ≤ x2 then (bN (mNow M) (fun d_1 => if isD d_1 = true then (bN (mNow M) (fun d_2 => if isD d_2 = true then (cV (f1_weigh d_1 (d_2 + 3) M) (fun M => bI (mI M 23 3) (fun v_3 => some (v_3, M)))) else none)) else none)) else (bN (mNow M) (fun d_4 => if isD d_4 = true then (aI a1 (mm_n a1) x2 M (fun w_5 => uI (d_4 + 3) 8 x2 w_5 M (fun M => rec2 a1 (x2 + 1) M))) else none))
set_option maxHeartbeats 2000000 in
theorem sb6_adopt_2   (rec2 : Nat → Int32 → mm_M → Option (Int32 × mm_M)) (hrec2 : ∀ (a1 : Nat) (x2 : Int32) (M : mm_M), isA a1 = true → Snd injI j6_adopt mm_X0 2 [some (.ref 1), some (.ref a1), some (.int x2)] [] M (rec2 a1 x2 M)) (a1 : Nat) (x2 : Int32) (ha1 : isA a1 = true) (M : mm_M) : Snd injI j6_adopt mm_X0 2 [some (.ref 1), some (.ref a1), some (.int x2)] [] M (b6_adopt_2  rec2 a1 x2 M) := by
  unfold b6_adopt_2
  refine sn_iload_n (j := j6_adopt) (pc := 2) rfl rfl dX6_adopt_2 ?_
  refine sn_bipush (j := j6_adopt) (pc := 3) 8 rfl dX6_adopt_3 ?_
  refine sn_icmp_ge (j := j6_adopt) (pc := 5) 26 rfl dX6_adopt_5 ?_ ?_
  · refine sn_aload_n (j := j6_adopt) (pc := 26) rfl rfl dX6_adopt_26 ?_
    refine g_X6_38 (j := j6_adopt) (pc := 27) rfl dX6_adopt_27 ?_
    refine sn_aload_n (j := j6_adopt) (pc := 30) rfl rfl dX6_adopt_30 ?_
    refine g_X6_12 (j := j6_adopt) (pc := 31) rfl dX6_adopt_31 (fun d_1 => ?_)
    refine Snd.ite fun hd_1 => ?_
    refine sn_aload_n (j := j6_adopt) (pc := 34) rfl rfl dX6_adopt_34 ?_
    refine g_X6_12 (j := j6_adopt) (pc := 35) rfl dX6_adopt_35 (fun d_2 => ?_)
    refine Snd.ite fun hd_2 => ?_
    refine g_X6_110 (j := j6_adopt) (pc := 38) hd_2 rfl dX6_adopt_38 ?_
    refine sn_callV (j := j6_adopt) (pc := 41) (jc := j1_weigh) (As := [.ref d_1, .ref (d_2 + 3)]) (s1_weigh d_1 (d_2 + 3) M) mm_hvV (by simp [Value.category]) (Nat.le_of_ble_eq_true rfl) q1_weigh rfl (by decide) rfl rfl ⟨by decide, by decide⟩ w_ml_X6_113 w_im_X1_weigh w_se_X1_weigh rfl (Nat.le_of_ble_eq_true rfl) dX6_adopt_41 ?_
    intro M
    show Snd injI j6_adopt mm_X0 44 [some (.ref 1), some (.ref a1), some (.int x2)] [] M _
    refine sn_aload_n (j := j6_adopt) (pc := 44) rfl rfl dX6_adopt_44 ?_
    refine g_X6_38 (j := j6_adopt) (pc := 45) rfl dX6_adopt_45 ?_
    refine g_X6_123 (j := j6_adopt) (pc := 48) rfl dX6_adopt_48 ?_
    refine Snd.bI (fun v_3 => ?_)
    exact sn_iret (j := j6_adopt) (pc := 51) rfl dX6_adopt_51
  · refine sn_aload_n (j := j6_adopt) (pc := 8) rfl rfl dX6_adopt_8 ?_
    refine g_X6_12 (j := j6_adopt) (pc := 9) rfl dX6_adopt_9 (fun d_4 => ?_)
    refine Snd.ite fun hd_4 => ?_
    refine g_X6_110 (j := j6_adopt) (pc := 12) hd_4 rfl dX6_adopt_12 ?_
    refine sn_iload_n (j := j6_adopt) (pc := 15) rfl rfl dX6_adopt_15 ?_
    refine sn_aload_n (j := j6_adopt) (pc := 16) rfl rfl dX6_adopt_16 ?_
    refine sn_iload_n (j := j6_adopt) (pc := 17) rfl rfl dX6_adopt_17 ?_
    refine sn_iald (j := j6_adopt) (pc := 18) (isA_sh ha1) (isA_pos ha1) dX6_adopt_18 (fun w_5 => ?_)
    refine sn_iast (j := j6_adopt) (pc := 19) (isD_a3 hd_4) (isD_p3 hd_4) dX6_adopt_19 (fun M => ?_)
    refine sn_iinc (j := j6_adopt) (pc := 20) 1 rfl (by decide) rfl (lo' := [some (.ref 1), some (.ref a1), some (.int (x2 + 1))]) rfl dX6_adopt_20 ?_
    refine sn_goto (j := j6_adopt) (pc := 23) 2 rfl dX6_adopt_23 ?_
    exact Snd.wk (hrec2 a1 (x2 + 1) M ha1) (by simp [mm_le])
def l6_adopt_2  : Nat → Nat → Int32 → mm_M → Option (Int32 × mm_M)
  | 0 => fun _ _ _ => none
  | n + 1 => fun a1 x2 M => b6_adopt_2  (l6_adopt_2  n) a1 x2 M
theorem sl6_adopt_2   : ∀ (n : Nat) (a1 : Nat) (x2 : Int32) (ha1 : isA a1 = true) (M : mm_M), Snd injI j6_adopt mm_X0 2 [some (.ref 1), some (.ref a1), some (.int x2)] [] M (l6_adopt_2  n a1 x2 M)
  | 0 => fun _ _ _ _ => Snd.none
  | n + 1 => fun a1 x2 ha1 M => sb6_adopt_2   (l6_adopt_2  n) (fun a1 x2 M ha1 => sl6_adopt_2   n a1 x2 ha1 M) a1 x2 ha1 M
def f6_adopt (a1 : Nat) (M : mm_M) : Option (Int32 × mm_M) :=
  if isA a1 = true then (l6_adopt_2 FU a1 0 M) else none
set_option maxHeartbeats 2000000 in
theorem s6_adopt (a1 : Nat) (M : mm_M) : Snd injI j6_adopt mm_X0 0 [some (.ref 1), some (.ref a1)] [] M (f6_adopt a1 M) := by
  refine Snd.wk (lo' := [some (.ref 1), some (.ref a1), none]) ?_ (by simp [mm_le])
  unfold f6_adopt
  refine Snd.ite fun ha1 => ?_
  refine sn_iconst (j := j6_adopt) (pc := 0) 0 rfl dX6_adopt_0 ?_
  refine sn_istore_n (j := j6_adopt) (pc := 1) rfl (by decide) (lo' := [some (.ref 1), some (.ref a1), some (.int 0)]) rfl dX6_adopt_1 ?_
  exact Snd.wk (sl6_adopt_2 FU a1 0 ha1 M) (by simp [mm_le])

abbrev j6_take : mm_J := (yX6_take, cX6_take, 1, (some .int), 6)
theorem dX6_take_0 : decode cX6_take 0 = .ok (.aload_n 0, 1) := by decide +kernel
theorem dX6_take_1 : decode cX6_take 1 = .ok (.invokevirtual 189, 3) := by decide +kernel
theorem dX6_take_4 : decode cX6_take 4 = .ok (.aload_n 0, 1) := by decide +kernel
theorem dX6_take_5 : decode cX6_take 5 = .ok (.aload_n 0, 1) := by decide +kernel
theorem dX6_take_6 : decode cX6_take 6 = .ok (.getfield 58, 3) := by decide +kernel
theorem dX6_take_9 : decode cX6_take 9 = .ok (.invokevirtual 192, 3) := by decide +kernel
theorem dX6_take_12 : decode cX6_take 12 = .ok (.ireturn, 1) := by decide +kernel
def f6_take  (M : mm_M) : Option (Int32 × mm_M) :=
  cV (f6_findBest M) (fun M => cI (f6_adopt 45 M) (fun r_1 M => some (r_1, M)))
set_option maxHeartbeats 2000000 in
theorem s6_take  (M : mm_M) : Snd injI j6_take mm_X0 0 [some (.ref 1)] [] M (f6_take  M) := by
  refine Snd.wk (lo' := [some (.ref 1)]) ?_ (by simp [mm_le])
  unfold f6_take
  refine sn_aload_n (j := j6_take) (pc := 0) rfl rfl dX6_take_0 ?_
  refine sn_callV (j := j6_take) (pc := 1) (jc := j6_findBest) (As := []) (s6_findBest M) mm_hvV (by simp [Value.category]) (Nat.le_of_ble_eq_true rfl) q6_findBest rfl (by decide) rfl rfl ⟨by decide, by decide⟩ w_ml_X6_189 w_im_X6_findBest w_se_X6_findBest rfl (Nat.le_of_ble_eq_true rfl) dX6_take_1 ?_
  intro M
  show Snd injI j6_take mm_X0 4 [some (.ref 1)] [] M _
  refine sn_aload_n (j := j6_take) (pc := 4) rfl rfl dX6_take_4 ?_
  refine sn_aload_n (j := j6_take) (pc := 5) rfl rfl dX6_take_5 ?_
  refine g_X6_58 (j := j6_take) (pc := 6) rfl dX6_take_6 ?_
  refine sn_callV (j := j6_take) (pc := 9) (jc := j6_adopt) (As := [.ref 45]) (s6_adopt 45 M) mm_hvI (by simp [Value.category]) (Nat.le_of_ble_eq_true rfl) q6_adopt rfl (by decide) rfl rfl ⟨by decide, by decide⟩ w_ml_X6_192 w_im_X6_adopt w_se_X6_adopt rfl (Nat.le_of_ble_eq_true rfl) dX6_take_9 ?_
  rintro ⟨r_1, M⟩
  show Snd injI j6_take mm_X0 12 [some (.ref 1)] [.int r_1] M _
  exact sn_iret (j := j6_take) (pc := 12) rfl dX6_take_12

abbrev j6_costIfLate : mm_J := (yX6_costIfLate, cX6_costIfLate, 3, (some .int), 5)
theorem dX6_costIfLate_0 : decode cX6_costIfLate 0 = .ok (.aload_n 0, 1) := by decide +kernel
theorem dX6_costIfLate_1 : decode cX6_costIfLate 1 = .ok (.getfield 47, 3) := by decide +kernel
theorem dX6_costIfLate_4 : decode cX6_costIfLate 4 = .ok (.aload_n 0, 1) := by decide +kernel
theorem dX6_costIfLate_5 : decode cX6_costIfLate 5 = .ok (.getfield 12, 3) := by decide +kernel
theorem dX6_costIfLate_8 : decode cX6_costIfLate 8 = .ok (.invokevirtual 218, 3) := by decide +kernel
theorem dX6_costIfLate_11 : decode cX6_costIfLate 11 = .ok (.aload_n 0, 1) := by decide +kernel
theorem dX6_costIfLate_12 : decode cX6_costIfLate 12 = .ok (.getfield 47, 3) := by decide +kernel
theorem dX6_costIfLate_15 : decode cX6_costIfLate 15 = .ok (.getfield 245, 3) := by decide +kernel
theorem dX6_costIfLate_18 : decode cX6_costIfLate 18 = .ok (.iload_n 1, 1) := by decide +kernel
theorem dX6_costIfLate_19 : decode cX6_costIfLate 19 = .ok (.dup2, 1) := by decide +kernel
theorem dX6_costIfLate_20 : decode cX6_costIfLate 20 = .ok (.iaload, 1) := by decide +kernel
theorem dX6_costIfLate_21 : decode cX6_costIfLate 21 = .ok (.iload_n 2, 1) := by decide +kernel
theorem dX6_costIfLate_22 : decode cX6_costIfLate 22 = .ok (.iadd, 1) := by decide +kernel
theorem dX6_costIfLate_23 : decode cX6_costIfLate 23 = .ok (.iastore, 1) := by decide +kernel
theorem dX6_costIfLate_24 : decode cX6_costIfLate 24 = .ok (.aload_n 0, 1) := by decide +kernel
theorem dX6_costIfLate_25 : decode cX6_costIfLate 25 = .ok (.getfield 47, 3) := by decide +kernel
theorem dX6_costIfLate_28 : decode cX6_costIfLate 28 = .ok (.invokevirtual 224, 3) := by decide +kernel
theorem dX6_costIfLate_31 : decode cX6_costIfLate 31 = .ok (.ireturn, 1) := by decide +kernel
def f6_costIfLate (x1 : Int32) (x2 : Int32) (M : mm_M) : Option (Int32 × mm_M) :=
  bN (mNow M) (fun d_1 => if isD d_1 = true then (cV (f2_lookAt d_1 M) (fun M => aI 28 4 x1 M (fun w_2 => uI 28 4 x1 (w_2 + x2) M (fun M => cI (f2_costIfReady M) (fun r_3 M => some (r_3, M)))))) else none)
set_option maxHeartbeats 2000000 in
theorem s6_costIfLate (x1 : Int32) (x2 : Int32) (M : mm_M) : Snd injI j6_costIfLate mm_X0 0 [some (.ref 1), some (.int x1), some (.int x2)] [] M (f6_costIfLate x1 x2 M) := by
  refine Snd.wk (lo' := [some (.ref 1), some (.int x1), some (.int x2)]) ?_ (by simp [mm_le])
  unfold f6_costIfLate
  refine sn_aload_n (j := j6_costIfLate) (pc := 0) rfl rfl dX6_costIfLate_0 ?_
  refine g_X6_47 (j := j6_costIfLate) (pc := 1) rfl dX6_costIfLate_1 ?_
  refine sn_aload_n (j := j6_costIfLate) (pc := 4) rfl rfl dX6_costIfLate_4 ?_
  refine g_X6_12 (j := j6_costIfLate) (pc := 5) rfl dX6_costIfLate_5 (fun d_1 => ?_)
  refine Snd.ite fun hd_1 => ?_
  refine sn_callV (j := j6_costIfLate) (pc := 8) (jc := j2_lookAt) (As := [.ref d_1]) (s2_lookAt d_1 M) mm_hvV (by simp [Value.category]) (Nat.le_of_ble_eq_true rfl) q2_lookAt rfl (by decide) rfl rfl ⟨by decide, by decide⟩ w_ml_X6_218 w_im_X2_lookAt w_se_X2_lookAt rfl (Nat.le_of_ble_eq_true rfl) dX6_costIfLate_8 ?_
  intro M
  show Snd injI j6_costIfLate mm_X0 11 [some (.ref 1), some (.int x1), some (.int x2)] [] M _
  refine sn_aload_n (j := j6_costIfLate) (pc := 11) rfl rfl dX6_costIfLate_11 ?_
  refine g_X6_47 (j := j6_costIfLate) (pc := 12) rfl dX6_costIfLate_12 ?_
  refine g_X6_245 (j := j6_costIfLate) (pc := 15) rfl dX6_costIfLate_15 ?_
  refine sn_iload_n (j := j6_costIfLate) (pc := 18) rfl rfl dX6_costIfLate_18 ?_
  refine sn_dup2 (j := j6_costIfLate) (pc := 19) rfl rfl dX6_costIfLate_19 ?_
  refine sn_iald (j := j6_costIfLate) (pc := 20) rfl ⟨by decide, by decide⟩ dX6_costIfLate_20 (fun w_2 => ?_)
  refine sn_iload_n (j := j6_costIfLate) (pc := 21) rfl rfl dX6_costIfLate_21 ?_
  refine sn_iadd (j := j6_costIfLate) (pc := 22) dX6_costIfLate_22 ?_
  refine sn_iast (j := j6_costIfLate) (pc := 23) rfl ⟨by decide, by decide⟩ dX6_costIfLate_23 (fun M => ?_)
  refine sn_aload_n (j := j6_costIfLate) (pc := 24) rfl rfl dX6_costIfLate_24 ?_
  refine g_X6_47 (j := j6_costIfLate) (pc := 25) rfl dX6_costIfLate_25 ?_
  refine sn_callV (j := j6_costIfLate) (pc := 28) (jc := j2_costIfReady) (As := []) (s2_costIfReady M) mm_hvI (by simp [Value.category]) (Nat.le_of_ble_eq_true rfl) q2_costIfReady rfl (by decide) rfl rfl ⟨by decide, by decide⟩ w_ml_X6_224 w_im_X2_costIfReady w_se_X2_costIfReady rfl (Nat.le_of_ble_eq_true rfl) dX6_costIfLate_28 ?_
  rintro ⟨r_3, M⟩
  show Snd injI j6_costIfLate mm_X0 31 [some (.ref 1), some (.int x1), some (.int x2)] [.int r_3] M _
  exact sn_iret (j := j6_costIfLate) (pc := 31) rfl dX6_costIfLate_31

abbrev j6_late : mm_J := (yX6_late, cX6_late, 3, (some .int), 6)
theorem dX6_late_0 : decode cX6_late 0 = .ok (.aload_n 0, 1) := by decide +kernel
theorem dX6_late_1 : decode cX6_late 1 = .ok (.getfield 12, 3) := by decide +kernel
theorem dX6_late_4 : decode cX6_late 4 = .ok (.iload_n 1, 1) := by decide +kernel
theorem dX6_late_5 : decode cX6_late 5 = .ok (.invokevirtual 107, 3) := by decide +kernel
theorem dX6_late_8 : decode cX6_late 8 = .ok (.ifCond .eq 13, 3) := by decide +kernel
theorem dX6_late_11 : decode cX6_late 11 = .ok (.iload_n 2, 1) := by decide +kernel
theorem dX6_late_12 : decode cX6_late 12 = .ok (.ifCond .lt 9, 3) := by decide +kernel
theorem dX6_late_15 : decode cX6_late 15 = .ok (.iload_n 2, 1) := by decide +kernel
theorem dX6_late_16 : decode cX6_late 16 = .ok (.bipush 8, 2) := by decide +kernel
theorem dX6_late_18 : decode cX6_late 18 = .ok (.if_icmp .le 5, 3) := by decide +kernel
theorem dX6_late_21 : decode cX6_late 21 = .ok (.iconst (-1), 1) := by decide +kernel
theorem dX6_late_22 : decode cX6_late 22 = .ok (.ireturn, 1) := by decide +kernel
theorem dX6_late_23 : decode cX6_late 23 = .ok (.aload_n 0, 1) := by decide +kernel
theorem dX6_late_24 : decode cX6_late 24 = .ok (.iload_n 1, 1) := by decide +kernel
theorem dX6_late_25 : decode cX6_late 25 = .ok (.iload_n 2, 1) := by decide +kernel
theorem dX6_late_26 : decode cX6_late 26 = .ok (.invokevirtual 196, 3) := by decide +kernel
theorem dX6_late_29 : decode cX6_late 29 = .ok (.ireturn, 1) := by decide +kernel
def l6_late_21   (M : mm_M) : Option (Int32 × mm_M) :=
  some ((-1), M)
set_option maxHeartbeats 2000000 in
theorem sl6_late_21     (M : mm_M) : Snd injI j6_late mm_X0 21 [none, none, none] [] M (l6_late_21   M) := by
  unfold l6_late_21
  refine sn_iconst (j := j6_late) (pc := 21) (-1) rfl dX6_late_21 ?_
  exact sn_iret (j := j6_late) (pc := 22) rfl dX6_late_22
def f6_late (x1 : Int32) (x2 : Int32) (M : mm_M) : Option (Int32 × mm_M) :=
  bN (mNow M) (fun d_1 => if isD d_1 = true then (cI (f0_hasBus d_1 x1 M) (fun r_2 M => if r_2 = 0 then (l6_late_21 M) else (if x2 < 0 then (l6_late_21 M) else (if x2 ≤ 8 then (cI (f6_costIfLate x1 x2 M) (fun r_3 M => some (r_3, M))) else (l6_late_21 M))))) else none)
set_option maxHeartbeats 2000000 in
theorem s6_late (x1 : Int32) (x2 : Int32) (M : mm_M) : Snd injI j6_late mm_X0 0 [some (.ref 1), some (.int x1), some (.int x2)] [] M (f6_late x1 x2 M) := by
  refine Snd.wk (lo' := [some (.ref 1), some (.int x1), some (.int x2)]) ?_ (by simp [mm_le])
  unfold f6_late
  refine sn_aload_n (j := j6_late) (pc := 0) rfl rfl dX6_late_0 ?_
  refine g_X6_12 (j := j6_late) (pc := 1) rfl dX6_late_1 (fun d_1 => ?_)
  refine Snd.ite fun hd_1 => ?_
  refine sn_iload_n (j := j6_late) (pc := 4) rfl rfl dX6_late_4 ?_
  refine sn_callV (j := j6_late) (pc := 5) (jc := j0_hasBus) (As := [.int x1]) (s0_hasBus d_1 x1 M) mm_hvI (by simp [Value.category]) (Nat.le_of_ble_eq_true rfl) q0_hasBus rfl (by decide) rfl (isD_obj hd_1) (isD_pos hd_1) w_ml_X6_107 w_im_X0_hasBus w_se_X0_hasBus rfl (Nat.le_of_ble_eq_true rfl) dX6_late_5 ?_
  rintro ⟨r_2, M⟩
  show Snd injI j6_late mm_X0 8 [some (.ref 1), some (.int x1), some (.int x2)] [.int r_2] M _
  refine sn_if_eq (j := j6_late) (pc := 8) 21 rfl dX6_late_8 ?_ ?_
  · exact Snd.wk (sl6_late_21 M) (by simp [mm_le])
  · refine sn_iload_n (j := j6_late) (pc := 11) rfl rfl dX6_late_11 ?_
    refine sn_if_lt (j := j6_late) (pc := 12) 21 rfl dX6_late_12 ?_ ?_
    · exact Snd.wk (sl6_late_21 M) (by simp [mm_le])
    · refine sn_iload_n (j := j6_late) (pc := 15) rfl rfl dX6_late_15 ?_
      refine sn_bipush (j := j6_late) (pc := 16) 8 rfl dX6_late_16 ?_
      refine sn_icmp_le (j := j6_late) (pc := 18) 23 rfl dX6_late_18 ?_ ?_
      · refine sn_aload_n (j := j6_late) (pc := 23) rfl rfl dX6_late_23 ?_
        refine sn_iload_n (j := j6_late) (pc := 24) rfl rfl dX6_late_24 ?_
        refine sn_iload_n (j := j6_late) (pc := 25) rfl rfl dX6_late_25 ?_
        refine sn_callV (j := j6_late) (pc := 26) (jc := j6_costIfLate) (As := [.int x1, .int x2]) (s6_costIfLate x1 x2 M) mm_hvI (by simp [Value.category]) (Nat.le_of_ble_eq_true rfl) q6_costIfLate rfl (by decide) rfl rfl ⟨by decide, by decide⟩ w_ml_X6_196 w_im_X6_costIfLate w_se_X6_costIfLate rfl (Nat.le_of_ble_eq_true rfl) dX6_late_26 ?_
        rintro ⟨r_3, M⟩
        show Snd injI j6_late mm_X0 29 [some (.ref 1), some (.int x1), some (.int x2)] [.int r_3] M _
        exact sn_iret (j := j6_late) (pc := 29) rfl dX6_late_29
      · exact Snd.wk (sl6_late_21 M) (by simp [mm_le])
