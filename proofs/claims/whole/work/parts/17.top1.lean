abbrev j6_feed : mm_J := (yX6_feed, cX6_feed, 6, (some .int), 1)
theorem dX6_feed_0 : decode cX6_feed 0 = .ok (.aload_n 0, 1) := by decide +kernel
theorem dX6_feed_1 : decode cX6_feed 1 = .ok (.getfield 22, 3) := by decide +kernel
theorem dX6_feed_4 : decode cX6_feed 4 = .ok (.getfield 66, 3) := by decide +kernel
theorem dX6_feed_7 : decode cX6_feed 7 = .ok (.bipush 20, 2) := by decide +kernel
theorem dX6_feed_9 : decode cX6_feed 9 = .ok (.iadd, 1) := by decide +kernel
theorem dX6_feed_10 : decode cX6_feed 10 = .ok (.sipush 400, 3) := by decide +kernel
theorem dX6_feed_13 : decode cX6_feed 13 = .ok (.if_icmp .le 5, 3) := by decide +kernel
theorem dX6_feed_16 : decode cX6_feed 16 = .ok (.iconst (-1), 1) := by decide +kernel
theorem dX6_feed_17 : decode cX6_feed 17 = .ok (.ireturn, 1) := by decide +kernel
theorem dX6_feed_18 : decode cX6_feed 18 = .ok (.aload_n 0, 1) := by decide +kernel
theorem dX6_feed_19 : decode cX6_feed 19 = .ok (.getfield 22, 3) := by decide +kernel
theorem dX6_feed_22 : decode cX6_feed 22 = .ok (.iload_n 1, 1) := by decide +kernel
theorem dX6_feed_23 : decode cX6_feed 23 = .ok (.invokevirtual 70, 3) := by decide +kernel
theorem dX6_feed_26 : decode cX6_feed 26 = .ok (.aload_n 0, 1) := by decide +kernel
theorem dX6_feed_27 : decode cX6_feed 27 = .ok (.getfield 22, 3) := by decide +kernel
theorem dX6_feed_30 : decode cX6_feed 30 = .ok (.iload_n 2, 1) := by decide +kernel
theorem dX6_feed_31 : decode cX6_feed 31 = .ok (.invokevirtual 70, 3) := by decide +kernel
theorem dX6_feed_34 : decode cX6_feed 34 = .ok (.aload_n 0, 1) := by decide +kernel
theorem dX6_feed_35 : decode cX6_feed 35 = .ok (.getfield 22, 3) := by decide +kernel
theorem dX6_feed_38 : decode cX6_feed 38 = .ok (.iload_n 3, 1) := by decide +kernel
theorem dX6_feed_39 : decode cX6_feed 39 = .ok (.invokevirtual 70, 3) := by decide +kernel
theorem dX6_feed_42 : decode cX6_feed 42 = .ok (.aload_n 0, 1) := by decide +kernel
theorem dX6_feed_43 : decode cX6_feed 43 = .ok (.getfield 22, 3) := by decide +kernel
theorem dX6_feed_46 : decode cX6_feed 46 = .ok (.iload 4, 2) := by decide +kernel
theorem dX6_feed_48 : decode cX6_feed 48 = .ok (.invokevirtual 70, 3) := by decide +kernel
theorem dX6_feed_51 : decode cX6_feed 51 = .ok (.aload_n 0, 1) := by decide +kernel
theorem dX6_feed_52 : decode cX6_feed 52 = .ok (.getfield 22, 3) := by decide +kernel
theorem dX6_feed_55 : decode cX6_feed 55 = .ok (.iload 5, 2) := by decide +kernel
theorem dX6_feed_57 : decode cX6_feed 57 = .ok (.invokevirtual 70, 3) := by decide +kernel
theorem dX6_feed_60 : decode cX6_feed 60 = .ok (.aload_n 0, 1) := by decide +kernel
theorem dX6_feed_61 : decode cX6_feed 61 = .ok (.getfield 22, 3) := by decide +kernel
theorem dX6_feed_64 : decode cX6_feed 64 = .ok (.getfield 66, 3) := by decide +kernel
theorem dX6_feed_67 : decode cX6_feed 67 = .ok (.ireturn, 1) := by decide +kernel
def f6_feed (x1 : Int32) (x2 : Int32) (x3 : Int32) (x4 : Int32) (x5 : Int32) (M : mm_M) : Option (Int32 × mm_M) :=
  bI (mI M 20 1) (fun v_1 => if (v_1 + 20) ≤ 400 then (cV (f5_append x1 M) (fun M => cV (f5_append x2 M) (fun M => cV (f5_append x3 M) (fun M => cV (f5_append x4 M) (fun M => cV (f5_append x5 M) (fun M => bI (mI M 20 1) (fun v_2 => some (v_2, M)))))))) else (some ((-1), M)))
set_option maxHeartbeats 2000000 in
theorem s6_feed (x1 : Int32) (x2 : Int32) (x3 : Int32) (x4 : Int32) (x5 : Int32) (M : mm_M) : Snd injI j6_feed mm_X0 0 [some (.ref 1), some (.int x1), some (.int x2), some (.int x3), some (.int x4), some (.int x5)] [] M (f6_feed x1 x2 x3 x4 x5 M) := by
  refine Snd.wk (lo' := [some (.ref 1), some (.int x1), some (.int x2), some (.int x3), some (.int x4), some (.int x5)]) ?_ (by simp [mm_le])
  unfold f6_feed
  refine sn_aload_n (j := j6_feed) (pc := 0) rfl rfl dX6_feed_0 ?_
  refine g_X6_22 (j := j6_feed) (pc := 1) rfl dX6_feed_1 ?_
  refine g_X6_66 (j := j6_feed) (pc := 4) rfl dX6_feed_4 ?_
  refine Snd.bI (fun v_1 => ?_)
  refine sn_bipush (j := j6_feed) (pc := 7) 20 rfl dX6_feed_7 ?_
  refine sn_iadd (j := j6_feed) (pc := 9) dX6_feed_9 ?_
  refine sn_sipush (j := j6_feed) (pc := 10) 400 rfl dX6_feed_10 ?_
  refine sn_icmp_le (j := j6_feed) (pc := 13) 18 rfl dX6_feed_13 ?_ ?_
  · refine sn_aload_n (j := j6_feed) (pc := 18) rfl rfl dX6_feed_18 ?_
    refine g_X6_22 (j := j6_feed) (pc := 19) rfl dX6_feed_19 ?_
    refine sn_iload_n (j := j6_feed) (pc := 22) rfl rfl dX6_feed_22 ?_
    refine sn_callV (j := j6_feed) (pc := 23) (jc := j5_append) (As := [.int x1]) (s5_append x1 M) mm_hvV (by simp [Value.category]) (Nat.le_of_ble_eq_true rfl) q5_append rfl (by decide) rfl rfl ⟨by decide, by decide⟩ w_ml_X6_70 w_im_X5_append w_se_X5_append rfl (Nat.le_of_ble_eq_true rfl) dX6_feed_23 ?_
    intro M
    show Snd injI j6_feed mm_X0 26 [some (.ref 1), some (.int x1), some (.int x2), some (.int x3), some (.int x4), some (.int x5)] [] M _
    refine sn_aload_n (j := j6_feed) (pc := 26) rfl rfl dX6_feed_26 ?_
    refine g_X6_22 (j := j6_feed) (pc := 27) rfl dX6_feed_27 ?_
    refine sn_iload_n (j := j6_feed) (pc := 30) rfl rfl dX6_feed_30 ?_
    refine sn_callV (j := j6_feed) (pc := 31) (jc := j5_append) (As := [.int x2]) (s5_append x2 M) mm_hvV (by simp [Value.category]) (Nat.le_of_ble_eq_true rfl) q5_append rfl (by decide) rfl rfl ⟨by decide, by decide⟩ w_ml_X6_70 w_im_X5_append w_se_X5_append rfl (Nat.le_of_ble_eq_true rfl) dX6_feed_31 ?_
    intro M
    show Snd injI j6_feed mm_X0 34 [some (.ref 1), some (.int x1), some (.int x2), some (.int x3), some (.int x4), some (.int x5)] [] M _
    refine sn_aload_n (j := j6_feed) (pc := 34) rfl rfl dX6_feed_34 ?_
    refine g_X6_22 (j := j6_feed) (pc := 35) rfl dX6_feed_35 ?_
    refine sn_iload_n (j := j6_feed) (pc := 38) rfl rfl dX6_feed_38 ?_
    refine sn_callV (j := j6_feed) (pc := 39) (jc := j5_append) (As := [.int x3]) (s5_append x3 M) mm_hvV (by simp [Value.category]) (Nat.le_of_ble_eq_true rfl) q5_append rfl (by decide) rfl rfl ⟨by decide, by decide⟩ w_ml_X6_70 w_im_X5_append w_se_X5_append rfl (Nat.le_of_ble_eq_true rfl) dX6_feed_39 ?_
    intro M
    show Snd injI j6_feed mm_X0 42 [some (.ref 1), some (.int x1), some (.int x2), some (.int x3), some (.int x4), some (.int x5)] [] M _
    refine sn_aload_n (j := j6_feed) (pc := 42) rfl rfl dX6_feed_42 ?_
    refine g_X6_22 (j := j6_feed) (pc := 43) rfl dX6_feed_43 ?_
    refine sn_iload (j := j6_feed) (pc := 46) rfl dX6_feed_46 ?_
    refine sn_callV (j := j6_feed) (pc := 48) (jc := j5_append) (As := [.int x4]) (s5_append x4 M) mm_hvV (by simp [Value.category]) (Nat.le_of_ble_eq_true rfl) q5_append rfl (by decide) rfl rfl ⟨by decide, by decide⟩ w_ml_X6_70 w_im_X5_append w_se_X5_append rfl (Nat.le_of_ble_eq_true rfl) dX6_feed_48 ?_
    intro M
    show Snd injI j6_feed mm_X0 51 [some (.ref 1), some (.int x1), some (.int x2), some (.int x3), some (.int x4), some (.int x5)] [] M _
    refine sn_aload_n (j := j6_feed) (pc := 51) rfl rfl dX6_feed_51 ?_
    refine g_X6_22 (j := j6_feed) (pc := 52) rfl dX6_feed_52 ?_
    refine sn_iload (j := j6_feed) (pc := 55) rfl dX6_feed_55 ?_
    refine sn_callV (j := j6_feed) (pc := 57) (jc := j5_append) (As := [.int x5]) (s5_append x5 M) mm_hvV (by simp [Value.category]) (Nat.le_of_ble_eq_true rfl) q5_append rfl (by decide) rfl rfl ⟨by decide, by decide⟩ w_ml_X6_70 w_im_X5_append w_se_X5_append rfl (Nat.le_of_ble_eq_true rfl) dX6_feed_57 ?_
    intro M
    show Snd injI j6_feed mm_X0 60 [some (.ref 1), some (.int x1), some (.int x2), some (.int x3), some (.int x4), some (.int x5)] [] M _
    refine sn_aload_n (j := j6_feed) (pc := 60) rfl rfl dX6_feed_60 ?_
    refine g_X6_22 (j := j6_feed) (pc := 61) rfl dX6_feed_61 ?_
    refine g_X6_66 (j := j6_feed) (pc := 64) rfl dX6_feed_64 ?_
    refine Snd.bI (fun v_2 => ?_)
    exact sn_iret (j := j6_feed) (pc := 67) rfl dX6_feed_67
  · refine sn_iconst (j := j6_feed) (pc := 16) (-1) rfl dX6_feed_16 ?_
    exact sn_iret (j := j6_feed) (pc := 17) rfl dX6_feed_17

abbrev j6_end : mm_J := (yX6_end, cX6_end, 2, (some .boolean), 0)
theorem dX6_end_0 : decode cX6_end 0 = .ok (.iload_n 1, 1) := by decide +kernel
theorem dX6_end_1 : decode cX6_end 1 = .ok (.ifCond .lt 14, 3) := by decide +kernel
theorem dX6_end_4 : decode cX6_end 4 = .ok (.iload_n 1, 1) := by decide +kernel
theorem dX6_end_5 : decode cX6_end 5 = .ok (.aload_n 0, 1) := by decide +kernel
theorem dX6_end_6 : decode cX6_end 6 = .ok (.getfield 22, 3) := by decide +kernel
theorem dX6_end_9 : decode cX6_end 9 = .ok (.getfield 66, 3) := by decide +kernel
theorem dX6_end_12 : decode cX6_end 12 = .ok (.if_icmp .le 5, 3) := by decide +kernel
theorem dX6_end_15 : decode cX6_end 15 = .ok (.iconst 0, 1) := by decide +kernel
theorem dX6_end_16 : decode cX6_end 16 = .ok (.ireturn, 1) := by decide +kernel
theorem dX6_end_17 : decode cX6_end 17 = .ok (.aload_n 0, 1) := by decide +kernel
theorem dX6_end_18 : decode cX6_end 18 = .ok (.getfield 22, 3) := by decide +kernel
theorem dX6_end_21 : decode cX6_end 21 = .ok (.iload_n 1, 1) := by decide +kernel
theorem dX6_end_22 : decode cX6_end 22 = .ok (.putfield 66, 3) := by decide +kernel
theorem dX6_end_25 : decode cX6_end 25 = .ok (.iconst 1, 1) := by decide +kernel
theorem dX6_end_26 : decode cX6_end 26 = .ok (.ireturn, 1) := by decide +kernel
def l6_end_15   (M : mm_M) : Option (Int32 × mm_M) :=
  rZ 0 M
set_option maxHeartbeats 2000000 in
theorem sl6_end_15     (M : mm_M) : Snd injI j6_end mm_X0 15 [none, none] [] M (l6_end_15   M) := by
  unfold l6_end_15
  refine sn_iconst (j := j6_end) (pc := 15) 0 rfl dX6_end_15 ?_
  exact sn_zret (j := j6_end) (pc := 16) rfl dX6_end_16
def f6_end (x1 : Int32) (M : mm_M) : Option (Int32 × mm_M) :=
  if x1 < 0 then (l6_end_15 M) else (bI (mI M 20 1) (fun v_1 => if x1 ≤ v_1 then (bM (sI M 20 1 x1) (fun M => rZ 1 M)) else (l6_end_15 M)))
set_option maxHeartbeats 2000000 in
theorem s6_end (x1 : Int32) (M : mm_M) : Snd injI j6_end mm_X0 0 [some (.ref 1), some (.int x1)] [] M (f6_end x1 M) := by
  refine Snd.wk (lo' := [some (.ref 1), some (.int x1)]) ?_ (by simp [mm_le])
  unfold f6_end
  refine sn_iload_n (j := j6_end) (pc := 0) rfl rfl dX6_end_0 ?_
  refine sn_if_lt (j := j6_end) (pc := 1) 15 rfl dX6_end_1 ?_ ?_
  · exact Snd.wk (sl6_end_15 M) (by simp [mm_le])
  · refine sn_iload_n (j := j6_end) (pc := 4) rfl rfl dX6_end_4 ?_
    refine sn_aload_n (j := j6_end) (pc := 5) rfl rfl dX6_end_5 ?_
    refine g_X6_22 (j := j6_end) (pc := 6) rfl dX6_end_6 ?_
    refine g_X6_66 (j := j6_end) (pc := 9) rfl dX6_end_9 ?_
    refine Snd.bI (fun v_1 => ?_)
    refine sn_icmp_le (j := j6_end) (pc := 12) 17 rfl dX6_end_12 ?_ ?_
    · refine sn_aload_n (j := j6_end) (pc := 17) rfl rfl dX6_end_17 ?_
      refine g_X6_22 (j := j6_end) (pc := 18) rfl dX6_end_18 ?_
      refine sn_iload_n (j := j6_end) (pc := 21) rfl rfl dX6_end_21 ?_
      refine p_X6_66 (j := j6_end) (pc := 22) rfl dX6_end_22 (fun M => ?_)
      refine sn_iconst (j := j6_end) (pc := 25) 1 rfl dX6_end_25 ?_
      exact sn_zret (j := j6_end) (pc := 26) rfl dX6_end_26
    · exact Snd.wk (sl6_end_15 M) (by simp [mm_le])

abbrev j6_tell : mm_J := (yX6_tell, cX6_tell, 3, (some .int), 7)
theorem dX6_tell_0 : decode cX6_tell 0 = .ok (.aload_n 0, 1) := by decide +kernel
theorem dX6_tell_1 : decode cX6_tell 1 = .ok (.getfield 16, 3) := by decide +kernel
theorem dX6_tell_4 : decode cX6_tell 4 = .ok (.aload_n 0, 1) := by decide +kernel
theorem dX6_tell_5 : decode cX6_tell 5 = .ok (.getfield 12, 3) := by decide +kernel
theorem dX6_tell_8 : decode cX6_tell 8 = .ok (.invokevirtual 74, 3) := by decide +kernel
theorem dX6_tell_11 : decode cX6_tell 11 = .ok (.aload_n 0, 1) := by decide +kernel
theorem dX6_tell_12 : decode cX6_tell 12 = .ok (.getfield 31, 3) := by decide +kernel
theorem dX6_tell_15 : decode cX6_tell 15 = .ok (.aload_n 0, 1) := by decide +kernel
theorem dX6_tell_16 : decode cX6_tell 16 = .ok (.getfield 16, 3) := by decide +kernel
theorem dX6_tell_19 : decode cX6_tell 19 = .ok (.invokevirtual 77, 3) := by decide +kernel
theorem dX6_tell_22 : decode cX6_tell 22 = .ok (.istore_n 1, 1) := by decide +kernel
theorem dX6_tell_23 : decode cX6_tell 23 = .ok (.aload_n 0, 1) := by decide +kernel
theorem dX6_tell_24 : decode cX6_tell 24 = .ok (.getfield 22, 3) := by decide +kernel
theorem dX6_tell_27 : decode cX6_tell 27 = .ok (.iconst 0, 1) := by decide +kernel
theorem dX6_tell_28 : decode cX6_tell 28 = .ok (.putfield 66, 3) := by decide +kernel
theorem dX6_tell_31 : decode cX6_tell 31 = .ok (.iload_n 1, 1) := by decide +kernel
theorem dX6_tell_32 : decode cX6_tell 32 = .ok (.iconst (-1), 1) := by decide +kernel
theorem dX6_tell_33 : decode cX6_tell 33 = .ok (.if_icmp .ne 5, 3) := by decide +kernel
theorem dX6_tell_36 : decode cX6_tell 36 = .ok (.iconst (-1), 1) := by decide +kernel
theorem dX6_tell_37 : decode cX6_tell 37 = .ok (.ireturn, 1) := by decide +kernel
theorem dX6_tell_38 : decode cX6_tell 38 = .ok (.aload_n 0, 1) := by decide +kernel
theorem dX6_tell_39 : decode cX6_tell 39 = .ok (.getfield 12, 3) := by decide +kernel
theorem dX6_tell_42 : decode cX6_tell 42 = .ok (.astore_n 2, 1) := by decide +kernel
theorem dX6_tell_43 : decode cX6_tell 43 = .ok (.aload_n 0, 1) := by decide +kernel
theorem dX6_tell_44 : decode cX6_tell 44 = .ok (.aload_n 0, 1) := by decide +kernel
theorem dX6_tell_45 : decode cX6_tell 45 = .ok (.getfield 16, 3) := by decide +kernel
theorem dX6_tell_48 : decode cX6_tell 48 = .ok (.putfield 12, 3) := by decide +kernel
theorem dX6_tell_51 : decode cX6_tell 51 = .ok (.aload_n 0, 1) := by decide +kernel
theorem dX6_tell_52 : decode cX6_tell 52 = .ok (.aload_n 2, 1) := by decide +kernel
theorem dX6_tell_53 : decode cX6_tell 53 = .ok (.putfield 16, 3) := by decide +kernel
theorem dX6_tell_56 : decode cX6_tell 56 = .ok (.aload_n 0, 1) := by decide +kernel
theorem dX6_tell_57 : decode cX6_tell 57 = .ok (.iconst 0, 1) := by decide +kernel
theorem dX6_tell_58 : decode cX6_tell 58 = .ok (.putfield 62, 3) := by decide +kernel
theorem dX6_tell_61 : decode cX6_tell 61 = .ok (.iload_n 1, 1) := by decide +kernel
theorem dX6_tell_62 : decode cX6_tell 62 = .ok (.ireturn, 1) := by decide +kernel
def f6_tell  (M : mm_M) : Option (Int32 × mm_M) :=
  bN (mDra M) (fun d_1 => if isD d_1 = true then (bN (mNow M) (fun d_2 => if isD d_2 = true then (cV (f0_copyFrom d_1 d_2 M) (fun M => bN (mDra M) (fun d_3 => if isD d_3 = true then (cI (f3_readInto d_3 M) (fun r_4 M => bM (sI M 20 1 0) (fun M => if r_4 = (-1) then (some ((-1), M)) else (bN (mNow M) (fun d_5 => if isD d_5 = true then (bN (mDra M) (fun d_6 => if isD d_6 = true then (bM (sNow M d_6) (fun M => bM (sDra M d_5) (fun M => bM (sI M 1 8 0) (fun M => some (r_4, M))))) else none)) else none))))) else none))) else none)) else none)
set_option maxHeartbeats 2000000 in
theorem s6_tell  (M : mm_M) : Snd injI j6_tell mm_X0 0 [some (.ref 1)] [] M (f6_tell  M) := by
  refine Snd.wk (lo' := [some (.ref 1), none, none]) ?_ (by simp [mm_le])
  unfold f6_tell
  refine sn_aload_n (j := j6_tell) (pc := 0) rfl rfl dX6_tell_0 ?_
  refine g_X6_16 (j := j6_tell) (pc := 1) rfl dX6_tell_1 (fun d_1 => ?_)
  refine Snd.ite fun hd_1 => ?_
  refine sn_aload_n (j := j6_tell) (pc := 4) rfl rfl dX6_tell_4 ?_
  refine g_X6_12 (j := j6_tell) (pc := 5) rfl dX6_tell_5 (fun d_2 => ?_)
  refine Snd.ite fun hd_2 => ?_
  refine sn_callV (j := j6_tell) (pc := 8) (jc := j0_copyFrom) (As := [.ref d_2]) (s0_copyFrom d_1 d_2 M) mm_hvV (by simp [Value.category]) (Nat.le_of_ble_eq_true rfl) q0_copyFrom rfl (by decide) rfl (isD_obj hd_1) (isD_pos hd_1) w_ml_X6_74 w_im_X0_copyFrom w_se_X0_copyFrom rfl (Nat.le_of_ble_eq_true rfl) dX6_tell_8 ?_
  intro M
  show Snd injI j6_tell mm_X0 11 [some (.ref 1), none, none] [] M _
  refine sn_aload_n (j := j6_tell) (pc := 11) rfl rfl dX6_tell_11 ?_
  refine g_X6_31 (j := j6_tell) (pc := 12) rfl dX6_tell_12 ?_
  refine sn_aload_n (j := j6_tell) (pc := 15) rfl rfl dX6_tell_15 ?_
  refine g_X6_16 (j := j6_tell) (pc := 16) rfl dX6_tell_16 (fun d_3 => ?_)
  refine Snd.ite fun hd_3 => ?_
  refine sn_callV (j := j6_tell) (pc := 19) (jc := j3_readInto) (As := [.ref d_3]) (s3_readInto d_3 M) mm_hvI (by simp [Value.category]) (Nat.le_of_ble_eq_true rfl) q3_readInto rfl (by decide) rfl rfl ⟨by decide, by decide⟩ w_ml_X6_77 w_im_X3_readInto w_se_X3_readInto rfl (Nat.le_of_ble_eq_true rfl) dX6_tell_19 ?_
  rintro ⟨r_4, M⟩
  show Snd injI j6_tell mm_X0 22 [some (.ref 1), none, none] [.int r_4] M _
  refine sn_istore_n (j := j6_tell) (pc := 22) rfl (by decide) (lo' := [some (.ref 1), some (.int r_4), none]) rfl dX6_tell_22 ?_
  refine sn_aload_n (j := j6_tell) (pc := 23) rfl rfl dX6_tell_23 ?_
  refine g_X6_22 (j := j6_tell) (pc := 24) rfl dX6_tell_24 ?_
  refine sn_iconst (j := j6_tell) (pc := 27) 0 rfl dX6_tell_27 ?_
  refine p_X6_66 (j := j6_tell) (pc := 28) rfl dX6_tell_28 (fun M => ?_)
  refine sn_iload_n (j := j6_tell) (pc := 31) rfl rfl dX6_tell_31 ?_
  refine sn_iconst (j := j6_tell) (pc := 32) (-1) rfl dX6_tell_32 ?_
  refine sn_icmp_ne (j := j6_tell) (pc := 33) 38 rfl dX6_tell_33 ?_ ?_
  · refine sn_aload_n (j := j6_tell) (pc := 38) rfl rfl dX6_tell_38 ?_
    refine g_X6_12 (j := j6_tell) (pc := 39) rfl dX6_tell_39 (fun d_5 => ?_)
    refine Snd.ite fun hd_5 => ?_
    refine sn_astore_n (j := j6_tell) (pc := 42) rfl (by decide) (lo' := [some (.ref 1), some (.int r_4), some (.ref d_5)]) rfl dX6_tell_42 ?_
    refine sn_aload_n (j := j6_tell) (pc := 43) rfl rfl dX6_tell_43 ?_
    refine sn_aload_n (j := j6_tell) (pc := 44) rfl rfl dX6_tell_44 ?_
    refine g_X6_16 (j := j6_tell) (pc := 45) rfl dX6_tell_45 (fun d_6 => ?_)
    refine Snd.ite fun hd_6 => ?_
    refine p_X6_12 (j := j6_tell) (pc := 48) rfl dX6_tell_48 (fun M => ?_)
    refine sn_aload_n (j := j6_tell) (pc := 51) rfl rfl dX6_tell_51 ?_
    refine sn_aload_n (j := j6_tell) (pc := 52) rfl rfl dX6_tell_52 ?_
    refine p_X6_16 (j := j6_tell) (pc := 53) rfl dX6_tell_53 (fun M => ?_)
    refine sn_aload_n (j := j6_tell) (pc := 56) rfl rfl dX6_tell_56 ?_
    refine sn_iconst (j := j6_tell) (pc := 57) 0 rfl dX6_tell_57 ?_
    refine p_X6_62 (j := j6_tell) (pc := 58) (by decide) rfl dX6_tell_58 (fun M => ?_)
    refine sn_iload_n (j := j6_tell) (pc := 61) rfl rfl dX6_tell_61 ?_
    exact sn_iret (j := j6_tell) (pc := 62) rfl dX6_tell_62
  · refine sn_iconst (j := j6_tell) (pc := 36) (-1) rfl dX6_tell_36 ?_
    exact sn_iret (j := j6_tell) (pc := 37) rfl dX6_tell_37

abbrev j6_fault : mm_J := (yX6_fault, cX6_fault, 1, (some .int), 0)
theorem dX6_fault_0 : decode cX6_fault 0 = .ok (.aload_n 0, 1) := by decide +kernel
theorem dX6_fault_1 : decode cX6_fault 1 = .ok (.getfield 31, 3) := by decide +kernel
theorem dX6_fault_4 : decode cX6_fault 4 = .ok (.getfield 81, 3) := by decide +kernel
theorem dX6_fault_7 : decode cX6_fault 7 = .ok (.ireturn, 1) := by decide +kernel
def f6_fault  (M : mm_M) : Option (Int32 × mm_M) :=
  bI (mI M 22 1) (fun v_1 => some (v_1, M))
set_option maxHeartbeats 2000000 in
theorem s6_fault  (M : mm_M) : Snd injI j6_fault mm_X0 0 [some (.ref 1)] [] M (f6_fault  M) := by
  refine Snd.wk (lo' := [some (.ref 1)]) ?_ (by simp [mm_le])
  unfold f6_fault
  refine sn_aload_n (j := j6_fault) (pc := 0) rfl rfl dX6_fault_0 ?_
  refine g_X6_31 (j := j6_fault) (pc := 1) rfl dX6_fault_1 ?_
  refine g_X6_81 (j := j6_fault) (pc := 4) rfl dX6_fault_4 ?_
  refine Snd.bI (fun v_1 => ?_)
  exact sn_iret (j := j6_fault) (pc := 7) rfl dX6_fault_7

abbrev j6_set : mm_J := (yX6_set, cX6_set, 4, (some .boolean), 2)
theorem dX6_set_0 : decode cX6_set 0 = .ok (.iload_n 1, 1) := by decide +kernel
theorem dX6_set_1 : decode cX6_set 1 = .ok (.iconst 3, 1) := by decide +kernel
theorem dX6_set_2 : decode cX6_set 2 = .ok (.if_icmp .ge 15, 3) := by decide +kernel
theorem dX6_set_5 : decode cX6_set 5 = .ok (.aload_n 0, 1) := by decide +kernel
theorem dX6_set_6 : decode cX6_set 6 = .ok (.getfield 12, 3) := by decide +kernel
theorem dX6_set_9 : decode cX6_set 9 = .ok (.iload_n 1, 1) := by decide +kernel
theorem dX6_set_10 : decode cX6_set 10 = .ok (.iload_n 2, 1) := by decide +kernel
theorem dX6_set_11 : decode cX6_set 11 = .ok (.invokevirtual 84, 3) := by decide +kernel
theorem dX6_set_14 : decode cX6_set 14 = .ok (.goto 14, 3) := by decide +kernel
theorem dX6_set_17 : decode cX6_set 17 = .ok (.aload_n 0, 1) := by decide +kernel
theorem dX6_set_18 : decode cX6_set 18 = .ok (.getfield 12, 3) := by decide +kernel
theorem dX6_set_21 : decode cX6_set 21 = .ok (.iload_n 1, 1) := by decide +kernel
theorem dX6_set_22 : decode cX6_set 22 = .ok (.iconst 3, 1) := by decide +kernel
theorem dX6_set_23 : decode cX6_set 23 = .ok (.isub, 1) := by decide +kernel
theorem dX6_set_24 : decode cX6_set 24 = .ok (.iload_n 2, 1) := by decide +kernel
theorem dX6_set_25 : decode cX6_set 25 = .ok (.invokevirtual 88, 3) := by decide +kernel
theorem dX6_set_28 : decode cX6_set 28 = .ok (.istore_n 3, 1) := by decide +kernel
theorem dX6_set_29 : decode cX6_set 29 = .ok (.iload_n 3, 1) := by decide +kernel
theorem dX6_set_30 : decode cX6_set 30 = .ok (.ifCond .eq 8, 3) := by decide +kernel
theorem dX6_set_33 : decode cX6_set 33 = .ok (.aload_n 0, 1) := by decide +kernel
theorem dX6_set_34 : decode cX6_set 34 = .ok (.iconst 0, 1) := by decide +kernel
theorem dX6_set_35 : decode cX6_set 35 = .ok (.putfield 62, 3) := by decide +kernel
theorem dX6_set_38 : decode cX6_set 38 = .ok (.iload_n 3, 1) := by decide +kernel
theorem dX6_set_39 : decode cX6_set 39 = .ok (.ireturn, 1) := by decide +kernel
def l6_set_38  (x3 : Int32) (M : mm_M) : Option (Int32 × mm_M) :=
  rZ x3 M
set_option maxHeartbeats 2000000 in
theorem sl6_set_38   (x3 : Int32)  (M : mm_M) : Snd injI j6_set mm_X0 38 [none, none, none, some (.int x3)] [] M (l6_set_38  x3 M) := by
  unfold l6_set_38
  refine sn_iload_n (j := j6_set) (pc := 38) rfl rfl dX6_set_38 ?_
  exact sn_zret (j := j6_set) (pc := 39) rfl dX6_set_39
def l6_set_28  (s0 : Int32) (M : mm_M) : Option (Int32 × mm_M) :=
  if s0 = 0 then (l6_set_38 s0 M) else (bM (sI M 1 8 0) (fun M => l6_set_38 s0 M))
set_option maxHeartbeats 2000000 in
theorem sl6_set_28   (s0 : Int32)  (M : mm_M) : Snd injI j6_set mm_X0 28 [some (.ref 1), none, none, none] [.int s0] M (l6_set_28  s0 M) := by
  unfold l6_set_28
  refine sn_istore_n (j := j6_set) (pc := 28) rfl (by decide) (lo' := [some (.ref 1), none, none, some (.int s0)]) rfl dX6_set_28 ?_
  refine sn_iload_n (j := j6_set) (pc := 29) rfl rfl dX6_set_29 ?_
  refine sn_if_eq (j := j6_set) (pc := 30) 38 rfl dX6_set_30 ?_ ?_
  · exact Snd.wk (sl6_set_38 s0 M) (by simp [mm_le])
  · refine sn_aload_n (j := j6_set) (pc := 33) rfl rfl dX6_set_33 ?_
    refine sn_iconst (j := j6_set) (pc := 34) 0 rfl dX6_set_34 ?_
    refine p_X6_62 (j := j6_set) (pc := 35) (by decide) rfl dX6_set_35 (fun M => ?_)
    exact Snd.wk (sl6_set_38 s0 M) (by simp [mm_le])
def f6_set (x1 : Int32) (x2 : Int32) (M : mm_M) : Option (Int32 × mm_M) :=
  if 3 ≤ x1 then (bN (mNow M) (fun d_1 => if isD d_1 = true then (cI (f0_changePrice d_1 (x1 - 3) x2 M) (fun r_2 M => l6_set_28 r_2 M)) else none)) else (bN (mNow M) (fun d_3 => if isD d_3 = true then (cI (f0_changeSetting d_3 x1 x2 M) (fun r_4 M => l6_set_28 r_4 M)) else none))
set_option maxHeartbeats 2000000 in
theorem s6_set (x1 : Int32) (x2 : Int32) (M : mm_M) : Snd injI j6_set mm_X0 0 [some (.ref 1), some (.int x1), some (.int x2)] [] M (f6_set x1 x2 M) := by
  refine Snd.wk (lo' := [some (.ref 1), some (.int x1), some (.int x2), none]) ?_ (by simp [mm_le])
  unfold f6_set
  refine sn_iload_n (j := j6_set) (pc := 0) rfl rfl dX6_set_0 ?_
  refine sn_iconst (j := j6_set) (pc := 1) 3 rfl dX6_set_1 ?_
  refine sn_icmp_ge (j := j6_set) (pc := 2) 17 rfl dX6_set_2 ?_ ?_
  · refine sn_aload_n (j := j6_set) (pc := 17) rfl rfl dX6_set_17 ?_
    refine g_X6_12 (j := j6_set) (pc := 18) rfl dX6_set_18 (fun d_1 => ?_)
    refine Snd.ite fun hd_1 => ?_
    refine sn_iload_n (j := j6_set) (pc := 21) rfl rfl dX6_set_21 ?_
    refine sn_iconst (j := j6_set) (pc := 22) 3 rfl dX6_set_22 ?_
    refine sn_isub (j := j6_set) (pc := 23) dX6_set_23 ?_
    refine sn_iload_n (j := j6_set) (pc := 24) rfl rfl dX6_set_24 ?_
    refine sn_callV (j := j6_set) (pc := 25) (jc := j0_changePrice) (As := [.int (x1 - 3), .int x2]) (s0_changePrice d_1 (x1 - 3) x2 M) mm_hvI (by simp [Value.category]) (Nat.le_of_ble_eq_true rfl) q0_changePrice rfl (by decide) rfl (isD_obj hd_1) (isD_pos hd_1) w_ml_X6_88 w_im_X0_changePrice w_se_X0_changePrice rfl (Nat.le_of_ble_eq_true rfl) dX6_set_25 ?_
    rintro ⟨r_2, M⟩
    show Snd injI j6_set mm_X0 28 [some (.ref 1), some (.int x1), some (.int x2), none] [.int r_2] M _
    exact Snd.wk (sl6_set_28 r_2 M) (by simp [mm_le])
  · refine sn_aload_n (j := j6_set) (pc := 5) rfl rfl dX6_set_5 ?_
    refine g_X6_12 (j := j6_set) (pc := 6) rfl dX6_set_6 (fun d_3 => ?_)
    refine Snd.ite fun hd_3 => ?_
    refine sn_iload_n (j := j6_set) (pc := 9) rfl rfl dX6_set_9 ?_
    refine sn_iload_n (j := j6_set) (pc := 10) rfl rfl dX6_set_10 ?_
    refine sn_callV (j := j6_set) (pc := 11) (jc := j0_changeSetting) (As := [.int x1, .int x2]) (s0_changeSetting d_3 x1 x2 M) mm_hvI (by simp [Value.category]) (Nat.le_of_ble_eq_true rfl) q0_changeSetting rfl (by decide) rfl (isD_obj hd_3) (isD_pos hd_3) w_ml_X6_84 w_im_X0_changeSetting w_se_X0_changeSetting rfl (Nat.le_of_ble_eq_true rfl) dX6_set_11 ?_
    rintro ⟨r_4, M⟩
    show Snd injI j6_set mm_X0 14 [some (.ref 1), some (.int x1), some (.int x2), none] [.int r_4] M _
    refine sn_goto (j := j6_set) (pc := 14) 28 rfl dX6_set_14 ?_
    exact Snd.wk (sl6_set_28 r_4 M) (by simp [mm_le])

abbrev j6_bus : mm_J := (yX6_bus, cX6_bus, 8, (some .int), 2)
theorem dX6_bus_0 : decode cX6_bus 0 = .ok (.aload_n 0, 1) := by decide +kernel
theorem dX6_bus_1 : decode cX6_bus 1 = .ok (.getfield 12, 3) := by decide +kernel
theorem dX6_bus_4 : decode cX6_bus 4 = .ok (.iconst 0, 1) := by decide +kernel
theorem dX6_bus_5 : decode cX6_bus 5 = .ok (.iload_n 1, 1) := by decide +kernel
theorem dX6_bus_6 : decode cX6_bus 6 = .ok (.invokevirtual 91, 3) := by decide +kernel
theorem dX6_bus_9 : decode cX6_bus 9 = .ok (.ifCond .eq 70, 3) := by decide +kernel
theorem dX6_bus_12 : decode cX6_bus 12 = .ok (.aload_n 0, 1) := by decide +kernel
theorem dX6_bus_13 : decode cX6_bus 13 = .ok (.getfield 12, 3) := by decide +kernel
theorem dX6_bus_16 : decode cX6_bus 16 = .ok (.iconst 1, 1) := by decide +kernel
theorem dX6_bus_17 : decode cX6_bus 17 = .ok (.iload_n 2, 1) := by decide +kernel
theorem dX6_bus_18 : decode cX6_bus 18 = .ok (.invokevirtual 91, 3) := by decide +kernel
theorem dX6_bus_21 : decode cX6_bus 21 = .ok (.ifCond .eq 58, 3) := by decide +kernel
theorem dX6_bus_24 : decode cX6_bus 24 = .ok (.aload_n 0, 1) := by decide +kernel
theorem dX6_bus_25 : decode cX6_bus 25 = .ok (.getfield 12, 3) := by decide +kernel
theorem dX6_bus_28 : decode cX6_bus 28 = .ok (.iconst 2, 1) := by decide +kernel
theorem dX6_bus_29 : decode cX6_bus 29 = .ok (.iload_n 3, 1) := by decide +kernel
theorem dX6_bus_30 : decode cX6_bus 30 = .ok (.invokevirtual 91, 3) := by decide +kernel
theorem dX6_bus_33 : decode cX6_bus 33 = .ok (.ifCond .eq 46, 3) := by decide +kernel
theorem dX6_bus_36 : decode cX6_bus 36 = .ok (.aload_n 0, 1) := by decide +kernel
theorem dX6_bus_37 : decode cX6_bus 37 = .ok (.getfield 12, 3) := by decide +kernel
theorem dX6_bus_40 : decode cX6_bus 40 = .ok (.iconst 3, 1) := by decide +kernel
theorem dX6_bus_41 : decode cX6_bus 41 = .ok (.iload 4, 2) := by decide +kernel
theorem dX6_bus_43 : decode cX6_bus 43 = .ok (.invokevirtual 91, 3) := by decide +kernel
theorem dX6_bus_46 : decode cX6_bus 46 = .ok (.ifCond .eq 33, 3) := by decide +kernel
theorem dX6_bus_49 : decode cX6_bus 49 = .ok (.aload_n 0, 1) := by decide +kernel
theorem dX6_bus_50 : decode cX6_bus 50 = .ok (.getfield 12, 3) := by decide +kernel
theorem dX6_bus_53 : decode cX6_bus 53 = .ok (.iconst 4, 1) := by decide +kernel
theorem dX6_bus_54 : decode cX6_bus 54 = .ok (.iload 5, 2) := by decide +kernel
theorem dX6_bus_56 : decode cX6_bus 56 = .ok (.invokevirtual 91, 3) := by decide +kernel
theorem dX6_bus_59 : decode cX6_bus 59 = .ok (.ifCond .eq 20, 3) := by decide +kernel
theorem dX6_bus_62 : decode cX6_bus 62 = .ok (.aload_n 0, 1) := by decide +kernel
theorem dX6_bus_63 : decode cX6_bus 63 = .ok (.getfield 12, 3) := by decide +kernel
theorem dX6_bus_66 : decode cX6_bus 66 = .ok (.iconst 5, 1) := by decide +kernel
theorem dX6_bus_67 : decode cX6_bus 67 = .ok (.iload 6, 2) := by decide +kernel
theorem dX6_bus_69 : decode cX6_bus 69 = .ok (.invokevirtual 91, 3) := by decide +kernel
theorem dX6_bus_72 : decode cX6_bus 72 = .ok (.ifCond .eq 7, 3) := by decide +kernel
theorem dX6_bus_75 : decode cX6_bus 75 = .ok (.iconst 1, 1) := by decide +kernel
theorem dX6_bus_76 : decode cX6_bus 76 = .ok (.goto 4, 3) := by decide +kernel
theorem dX6_bus_79 : decode cX6_bus 79 = .ok (.iconst 0, 1) := by decide +kernel
theorem dX6_bus_80 : decode cX6_bus 80 = .ok (.istore 7, 2) := by decide +kernel
theorem dX6_bus_82 : decode cX6_bus 82 = .ok (.iload 7, 2) := by decide +kernel
theorem dX6_bus_84 : decode cX6_bus 84 = .ok (.ifCond .ne 5, 3) := by decide +kernel
theorem dX6_bus_87 : decode cX6_bus 87 = .ok (.iconst (-1), 1) := by decide +kernel
theorem dX6_bus_88 : decode cX6_bus 88 = .ok (.ireturn, 1) := by decide +kernel
theorem dX6_bus_89 : decode cX6_bus 89 = .ok (.aload_n 0, 1) := by decide +kernel
theorem dX6_bus_90 : decode cX6_bus 90 = .ok (.getfield 12, 3) := by decide +kernel
theorem dX6_bus_93 : decode cX6_bus 93 = .ok (.getfield 94, 3) := by decide +kernel
theorem dX6_bus_96 : decode cX6_bus 96 = .ok (.iconst 4, 1) := by decide +kernel
theorem dX6_bus_97 : decode cX6_bus 97 = .ok (.if_icmp .lt 6, 3) := by decide +kernel
theorem dX6_bus_100 : decode cX6_bus 100 = .ok (.bipush (-2), 2) := by decide +kernel
theorem dX6_bus_102 : decode cX6_bus 102 = .ok (.ireturn, 1) := by decide +kernel
theorem dX6_bus_103 : decode cX6_bus 103 = .ok (.aload_n 0, 1) := by decide +kernel
theorem dX6_bus_104 : decode cX6_bus 104 = .ok (.getfield 12, 3) := by decide +kernel
theorem dX6_bus_107 : decode cX6_bus 107 = .ok (.invokevirtual 97, 3) := by decide +kernel
theorem dX6_bus_110 : decode cX6_bus 110 = .ok (.aload_n 0, 1) := by decide +kernel
theorem dX6_bus_111 : decode cX6_bus 111 = .ok (.iconst 0, 1) := by decide +kernel
theorem dX6_bus_112 : decode cX6_bus 112 = .ok (.putfield 62, 3) := by decide +kernel
theorem dX6_bus_115 : decode cX6_bus 115 = .ok (.aload_n 0, 1) := by decide +kernel
theorem dX6_bus_116 : decode cX6_bus 116 = .ok (.getfield 12, 3) := by decide +kernel
theorem dX6_bus_119 : decode cX6_bus 119 = .ok (.getfield 94, 3) := by decide +kernel
theorem dX6_bus_122 : decode cX6_bus 122 = .ok (.iconst 1, 1) := by decide +kernel
theorem dX6_bus_123 : decode cX6_bus 123 = .ok (.isub, 1) := by decide +kernel
theorem dX6_bus_124 : decode cX6_bus 124 = .ok (.ireturn, 1) := by decide +kernel
def l6_bus_80  (s0 : Int32) (M : mm_M) : Option (Int32 × mm_M) :=
  if s0 = 0 then (some ((-1), M)) else (bN (mNow M) (fun d_1 => if isD d_1 = true then (bI (mI M d_1 2) (fun v_2 => if v_2 < 4 then (bN (mNow M) (fun d_3 => if isD d_3 = true then (cV (f0_addOffered d_3 M) (fun M => bM (sI M 1 8 0) (fun M => bN (mNow M) (fun d_4 => if isD d_4 = true then (bI (mI M d_4 2) (fun v_5 => some (v_5 - 1, M))) else none)))) else none)) else (some ((-2), M)))) else none))
set_option maxHeartbeats 2000000 in
theorem sl6_bus_80   (s0 : Int32)  (M : mm_M) : Snd injI j6_bus mm_X0 80 [some (.ref 1), none, none, none, none, none, none, none] [.int s0] M (l6_bus_80  s0 M) := by
  unfold l6_bus_80
  refine sn_istore (j := j6_bus) (pc := 80) (by decide) (lo' := [some (.ref 1), none, none, none, none, none, none, some (.int s0)]) rfl dX6_bus_80 ?_
  refine sn_iload (j := j6_bus) (pc := 82) rfl dX6_bus_82 ?_
  refine sn_if_ne (j := j6_bus) (pc := 84) 89 rfl dX6_bus_84 ?_ ?_
  · refine sn_aload_n (j := j6_bus) (pc := 89) rfl rfl dX6_bus_89 ?_
    refine g_X6_12 (j := j6_bus) (pc := 90) rfl dX6_bus_90 (fun d_1 => ?_)
    refine Snd.ite fun hd_1 => ?_
    refine g_X6_94 (j := j6_bus) (pc := 93) hd_1 rfl dX6_bus_93 ?_
    refine Snd.bI (fun v_2 => ?_)
    refine sn_iconst (j := j6_bus) (pc := 96) 4 rfl dX6_bus_96 ?_
    refine sn_icmp_lt (j := j6_bus) (pc := 97) 103 rfl dX6_bus_97 ?_ ?_
    · refine sn_aload_n (j := j6_bus) (pc := 103) rfl rfl dX6_bus_103 ?_
      refine g_X6_12 (j := j6_bus) (pc := 104) rfl dX6_bus_104 (fun d_3 => ?_)
      refine Snd.ite fun hd_3 => ?_
      refine sn_callV (j := j6_bus) (pc := 107) (jc := j0_addOffered) (As := []) (s0_addOffered d_3 M) mm_hvV (by simp [Value.category]) (Nat.le_of_ble_eq_true rfl) q0_addOffered rfl (by decide) rfl (isD_obj hd_3) (isD_pos hd_3) w_ml_X6_97 w_im_X0_addOffered w_se_X0_addOffered rfl (Nat.le_of_ble_eq_true rfl) dX6_bus_107 ?_
      intro M
      show Snd injI j6_bus mm_X0 110 [some (.ref 1), none, none, none, none, none, none, some (.int s0)] [] M _
      refine sn_aload_n (j := j6_bus) (pc := 110) rfl rfl dX6_bus_110 ?_
      refine sn_iconst (j := j6_bus) (pc := 111) 0 rfl dX6_bus_111 ?_
      refine p_X6_62 (j := j6_bus) (pc := 112) (by decide) rfl dX6_bus_112 (fun M => ?_)
      refine sn_aload_n (j := j6_bus) (pc := 115) rfl rfl dX6_bus_115 ?_
      refine g_X6_12 (j := j6_bus) (pc := 116) rfl dX6_bus_116 (fun d_4 => ?_)
      refine Snd.ite fun hd_4 => ?_
      refine g_X6_94 (j := j6_bus) (pc := 119) hd_4 rfl dX6_bus_119 ?_
      refine Snd.bI (fun v_5 => ?_)
      refine sn_iconst (j := j6_bus) (pc := 122) 1 rfl dX6_bus_122 ?_
      refine sn_isub (j := j6_bus) (pc := 123) dX6_bus_123 ?_
      exact sn_iret (j := j6_bus) (pc := 124) rfl dX6_bus_124
    · refine sn_bipush (j := j6_bus) (pc := 100) (-2) rfl dX6_bus_100 ?_
      exact sn_iret (j := j6_bus) (pc := 102) rfl dX6_bus_102
  · refine sn_iconst (j := j6_bus) (pc := 87) (-1) rfl dX6_bus_87 ?_
    exact sn_iret (j := j6_bus) (pc := 88) rfl dX6_bus_88
def l6_bus_79   (M : mm_M) : Option (Int32 × mm_M) :=
  l6_bus_80 0 M
set_option maxHeartbeats 2000000 in
theorem sl6_bus_79     (M : mm_M) : Snd injI j6_bus mm_X0 79 [some (.ref 1), none, none, none, none, none, none, none] [] M (l6_bus_79   M) := by
  unfold l6_bus_79
  refine sn_iconst (j := j6_bus) (pc := 79) 0 rfl dX6_bus_79 ?_
  exact Snd.wk (sl6_bus_80 0 M) (by simp [mm_le])
def f6_bus (x1 : Int32) (x2 : Int32) (x3 : Int32) (x4 : Int32) (x5 : Int32) (x6 : Int32) (M : mm_M) : Option (Int32 × mm_M) :=
  bN (mNow M) (fun d_6 => if isD d_6 = true then (cI (f0_offer d_6 0 x1 M) (fun r_7 M => if r_7 = 0 then (l6_bus_79 M) else (bN (mNow M) (fun d_8 => if isD d_8 = true then (cI (f0_offer d_8 1 x2 M) (fun r_9 M => if r_9 = 0 then (l6_bus_79 M) else (bN (mNow M) (fun d_10 => if isD d_10 = true then (cI (f0_offer d_10 2 x3 M) (fun r_11 M => if r_11 = 0 then (l6_bus_79 M) else (bN (mNow M) (fun d_12 => if isD d_12 = true then (cI (f0_offer d_12 3 x4 M) (fun r_13 M => if r_13 = 0 then (l6_bus_79 M) else (bN (mNow M) (fun d_14 => if isD d_14 = true then (cI (f0_offer d_14 4 x5 M) (fun r_15 M => if r_15 = 0 then (l6_bus_79 M) else (bN (mNow M) (fun d_16 => if isD d_16 = true then (cI (f0_offer d_16 5 x6 M) (fun r_17 M => if r_17 = 0 then (l6_bus_79 M) else (l6_bus_80 1 M))) else none)))) else none)))) else none)))) else none)))) else none)))) else none)
set_option maxHeartbeats 2000000 in
theorem s6_bus (x1 : Int32) (x2 : Int32) (x3 : Int32) (x4 : Int32) (x5 : Int32) (x6 : Int32) (M : mm_M) : Snd injI j6_bus mm_X0 0 [some (.ref 1), some (.int x1), some (.int x2), some (.int x3), some (.int x4), some (.int x5), some (.int x6)] [] M (f6_bus x1 x2 x3 x4 x5 x6 M) := by
  refine Snd.wk (lo' := [some (.ref 1), some (.int x1), some (.int x2), some (.int x3), some (.int x4), some (.int x5), some (.int x6), none]) ?_ (by simp [mm_le])
  unfold f6_bus
  refine sn_aload_n (j := j6_bus) (pc := 0) rfl rfl dX6_bus_0 ?_
  refine g_X6_12 (j := j6_bus) (pc := 1) rfl dX6_bus_1 (fun d_6 => ?_)
  refine Snd.ite fun hd_6 => ?_
  refine sn_iconst (j := j6_bus) (pc := 4) 0 rfl dX6_bus_4 ?_
  refine sn_iload_n (j := j6_bus) (pc := 5) rfl rfl dX6_bus_5 ?_
  refine sn_callV (j := j6_bus) (pc := 6) (jc := j0_offer) (As := [.int 0, .int x1]) (s0_offer d_6 0 x1 M) mm_hvI (by simp [Value.category]) (Nat.le_of_ble_eq_true rfl) q0_offer rfl (by decide) rfl (isD_obj hd_6) (isD_pos hd_6) w_ml_X6_91 w_im_X0_offer w_se_X0_offer rfl (Nat.le_of_ble_eq_true rfl) dX6_bus_6 ?_
  rintro ⟨r_7, M⟩
  show Snd injI j6_bus mm_X0 9 [some (.ref 1), some (.int x1), some (.int x2), some (.int x3), some (.int x4), some (.int x5), some (.int x6), none] [.int r_7] M _
  refine sn_if_eq (j := j6_bus) (pc := 9) 79 rfl dX6_bus_9 ?_ ?_
  · exact Snd.wk (sl6_bus_79 M) (by simp [mm_le])
  · refine sn_aload_n (j := j6_bus) (pc := 12) rfl rfl dX6_bus_12 ?_
    refine g_X6_12 (j := j6_bus) (pc := 13) rfl dX6_bus_13 (fun d_8 => ?_)
    refine Snd.ite fun hd_8 => ?_
    refine sn_iconst (j := j6_bus) (pc := 16) 1 rfl dX6_bus_16 ?_
    refine sn_iload_n (j := j6_bus) (pc := 17) rfl rfl dX6_bus_17 ?_
    refine sn_callV (j := j6_bus) (pc := 18) (jc := j0_offer) (As := [.int 1, .int x2]) (s0_offer d_8 1 x2 M) mm_hvI (by simp [Value.category]) (Nat.le_of_ble_eq_true rfl) q0_offer rfl (by decide) rfl (isD_obj hd_8) (isD_pos hd_8) w_ml_X6_91 w_im_X0_offer w_se_X0_offer rfl (Nat.le_of_ble_eq_true rfl) dX6_bus_18 ?_
    rintro ⟨r_9, M⟩
    show Snd injI j6_bus mm_X0 21 [some (.ref 1), some (.int x1), some (.int x2), some (.int x3), some (.int x4), some (.int x5), some (.int x6), none] [.int r_9] M _
    refine sn_if_eq (j := j6_bus) (pc := 21) 79 rfl dX6_bus_21 ?_ ?_
    · exact Snd.wk (sl6_bus_79 M) (by simp [mm_le])
    · refine sn_aload_n (j := j6_bus) (pc := 24) rfl rfl dX6_bus_24 ?_
      refine g_X6_12 (j := j6_bus) (pc := 25) rfl dX6_bus_25 (fun d_10 => ?_)
      refine Snd.ite fun hd_10 => ?_
      refine sn_iconst (j := j6_bus) (pc := 28) 2 rfl dX6_bus_28 ?_
      refine sn_iload_n (j := j6_bus) (pc := 29) rfl rfl dX6_bus_29 ?_
      refine sn_callV (j := j6_bus) (pc := 30) (jc := j0_offer) (As := [.int 2, .int x3]) (s0_offer d_10 2 x3 M) mm_hvI (by simp [Value.category]) (Nat.le_of_ble_eq_true rfl) q0_offer rfl (by decide) rfl (isD_obj hd_10) (isD_pos hd_10) w_ml_X6_91 w_im_X0_offer w_se_X0_offer rfl (Nat.le_of_ble_eq_true rfl) dX6_bus_30 ?_
      rintro ⟨r_11, M⟩
      show Snd injI j6_bus mm_X0 33 [some (.ref 1), some (.int x1), some (.int x2), some (.int x3), some (.int x4), some (.int x5), some (.int x6), none] [.int r_11] M _
      refine sn_if_eq (j := j6_bus) (pc := 33) 79 rfl dX6_bus_33 ?_ ?_
      · exact Snd.wk (sl6_bus_79 M) (by simp [mm_le])
      · refine sn_aload_n (j := j6_bus) (pc := 36) rfl rfl dX6_bus_36 ?_
        refine g_X6_12 (j := j6_bus) (pc := 37) rfl dX6_bus_37 (fun d_12 => ?_)
        refine Snd.ite fun hd_12 => ?_
        refine sn_iconst (j := j6_bus) (pc := 40) 3 rfl dX6_bus_40 ?_
        refine sn_iload (j := j6_bus) (pc := 41) rfl dX6_bus_41 ?_
        refine sn_callV (j := j6_bus) (pc := 43) (jc := j0_offer) (As := [.int 3, .int x4]) (s0_offer d_12 3 x4 M) mm_hvI (by simp [Value.category]) (Nat.le_of_ble_eq_true rfl) q0_offer rfl (by decide) rfl (isD_obj hd_12) (isD_pos hd_12) w_ml_X6_91 w_im_X0_offer w_se_X0_offer rfl (Nat.le_of_ble_eq_true rfl) dX6_bus_43 ?_
        rintro ⟨r_13, M⟩
        show Snd injI j6_bus mm_X0 46 [some (.ref 1), some (.int x1), some (.int x2), some (.int x3), some (.int x4), some (.int x5), some (.int x6), none] [.int r_13] M _
        refine sn_if_eq (j := j6_bus) (pc := 46) 79 rfl dX6_bus_46 ?_ ?_
        · exact Snd.wk (sl6_bus_79 M) (by simp [mm_le])
        · refine sn_aload_n (j := j6_bus) (pc := 49) rfl rfl dX6_bus_49 ?_
          refine g_X6_12 (j := j6_bus) (pc := 50) rfl dX6_bus_50 (fun d_14 => ?_)
          refine Snd.ite fun hd_14 => ?_
          refine sn_iconst (j := j6_bus) (pc := 53) 4 rfl dX6_bus_53 ?_
          refine sn_iload (j := j6_bus) (pc := 54) rfl dX6_bus_54 ?_
          refine sn_callV (j := j6_bus) (pc := 56) (jc := j0_offer) (As := [.int 4, .int x5]) (s0_offer d_14 4 x5 M) mm_hvI (by simp [Value.category]) (Nat.le_of_ble_eq_true rfl) q0_offer rfl (by decide) rfl (isD_obj hd_14) (isD_pos hd_14) w_ml_X6_91 w_im_X0_offer w_se_X0_offer rfl (Nat.le_of_ble_eq_true rfl) dX6_bus_56 ?_
          rintro ⟨r_15, M⟩
          show Snd injI j6_bus mm_X0 59 [some (.ref 1), some (.int x1), some (.int x2), some (.int x3), some (.int x4), some (.int x5), some (.int x6), none] [.int r_15] M _
          refine sn_if_eq (j := j6_bus) (pc := 59) 79 rfl dX6_bus_59 ?_ ?_
          · exact Snd.wk (sl6_bus_79 M) (by simp [mm_le])
          · refine sn_aload_n (j := j6_bus) (pc := 62) rfl rfl dX6_bus_62 ?_
            refine g_X6_12 (j := j6_bus) (pc := 63) rfl dX6_bus_63 (fun d_16 => ?_)
            refine Snd.ite fun hd_16 => ?_
            refine sn_iconst (j := j6_bus) (pc := 66) 5 rfl dX6_bus_66 ?_
            refine sn_iload (j := j6_bus) (pc := 67) rfl dX6_bus_67 ?_
            refine sn_callV (j := j6_bus) (pc := 69) (jc := j0_offer) (As := [.int 5, .int x6]) (s0_offer d_16 5 x6 M) mm_hvI (by simp [Value.category]) (Nat.le_of_ble_eq_true rfl) q0_offer rfl (by decide) rfl (isD_obj hd_16) (isD_pos hd_16) w_ml_X6_91 w_im_X0_offer w_se_X0_offer rfl (Nat.le_of_ble_eq_true rfl) dX6_bus_69 ?_
            rintro ⟨r_17, M⟩
            show Snd injI j6_bus mm_X0 72 [some (.ref 1), some (.int x1), some (.int x2), some (.int x3), some (.int x4), some (.int x5), some (.int x6), none] [.int r_17] M _
            refine sn_if_eq (j := j6_bus) (pc := 72) 79 rfl dX6_bus_72 ?_ ?_
            · exact Snd.wk (sl6_bus_79 M) (by simp [mm_le])
            · refine sn_iconst (j := j6_bus) (pc := 75) 1 rfl dX6_bus_75 ?_
              refine sn_goto (j := j6_bus) (pc := 76) 80 rfl dX6_bus_76 ?_
              exact Snd.wk (sl6_bus_80 1 M) (by simp [mm_le])

abbrev j6_drop : mm_J := (yX6_drop, cX6_drop, 1, (some .int), 1)
theorem dX6_drop_0 : decode cX6_drop 0 = .ok (.aload_n 0, 1) := by decide +kernel
theorem dX6_drop_1 : decode cX6_drop 1 = .ok (.getfield 12, 3) := by decide +kernel
theorem dX6_drop_4 : decode cX6_drop 4 = .ok (.getfield 94, 3) := by decide +kernel
theorem dX6_drop_7 : decode cX6_drop 7 = .ok (.ifCond .ne 5, 3) := by decide +kernel
theorem dX6_drop_10 : decode cX6_drop 10 = .ok (.iconst (-1), 1) := by decide +kernel
theorem dX6_drop_11 : decode cX6_drop 11 = .ok (.ireturn, 1) := by decide +kernel
theorem dX6_drop_12 : decode cX6_drop 12 = .ok (.aload_n 0, 1) := by decide +kernel
theorem dX6_drop_13 : decode cX6_drop 13 = .ok (.getfield 12, 3) := by decide +kernel
theorem dX6_drop_16 : decode cX6_drop 16 = .ok (.invokevirtual 100, 3) := by decide +kernel
theorem dX6_drop_19 : decode cX6_drop 19 = .ok (.aload_n 0, 1) := by decide +kernel
theorem dX6_drop_20 : decode cX6_drop 20 = .ok (.iconst 0, 1) := by decide +kernel
theorem dX6_drop_21 : decode cX6_drop 21 = .ok (.putfield 62, 3) := by decide +kernel
theorem dX6_drop_24 : decode cX6_drop 24 = .ok (.aload_n 0, 1) := by decide +kernel
theorem dX6_drop_25 : decode cX6_drop 25 = .ok (.getfield 12, 3) := by decide +kernel
theorem dX6_drop_28 : decode cX6_drop 28 = .ok (.getfield 94, 3) := by decide +kernel
theorem dX6_drop_31 : decode cX6_drop 31 = .ok (.ireturn, 1) := by decide +kernel
def f6_drop  (M : mm_M) : Option (Int32 × mm_M) :=
  bN (mNow M) (fun d_1 => if isD d_1 = true then (bI (mI M d_1 2) (fun v_2 => if v_2 = 0 then (some ((-1), M)) else (bN (mNow M) (fun d_3 => if isD d_3 = true then (cV (f0_removeLast d_3 M) (fun M => bM (sI M 1 8 0) (fun M => bN (mNow M) (fun d_4 => if isD d_4 = true then (bI (mI M d_4 2) (fun v_5 => some (v_5, M))) else none)))) else none)))) else none)
set_option maxHeartbeats 2000000 in
theorem s6_drop  (M : mm_M) : Snd injI j6_drop mm_X0 0 [some (.ref 1)] [] M (f6_drop  M) := by
  refine Snd.wk (lo' := [some (.ref 1)]) ?_ (by simp [mm_le])
  unfold f6_drop
  refine sn_aload_n (j := j6_drop) (pc := 0) rfl rfl dX6_drop_0 ?_
  refine g_X6_12 (j := j6_drop) (pc := 1) rfl dX6_drop_1 (fun d_1 => ?_)
  refine Snd.ite fun hd_1 => ?_
  refine g_X6_94 (j := j6_drop) (pc := 4) hd_1 rfl dX6_drop_4 ?_
  refine Snd.bI (fun v_2 => ?_)
  refine sn_if_ne (j := j6_drop) (pc := 7) 12 rfl dX6_drop_7 ?_ ?_
  · refine sn_aload_n (j := j6_drop) (pc := 12) rfl rfl dX6_drop_12 ?_
    refine g_X6_12 (j := j6_drop) (pc := 13) rfl dX6_drop_13 (fun d_3 => ?_)
    refine Snd.ite fun hd_3 => ?_
    refine sn_callV (j := j6_drop) (pc := 16) (jc := j0_removeLast) (As := []) (s0_removeLast d_3 M) mm_hvV (by simp [Value.category]) (Nat.le_of_ble_eq_true rfl) q0_removeLast rfl (by decide) rfl (isD_obj hd_3) (isD_pos hd_3) w_ml_X6_100 w_im_X0_removeLast w_se_X0_removeLast rfl (Nat.le_of_ble_eq_true rfl) dX6_drop_16 ?_
    intro M
    show Snd injI j6_drop mm_X0 19 [some (.ref 1)] [] M _
    refine sn_aload_n (j := j6_drop) (pc := 19) rfl rfl dX6_drop_19 ?_
    refine sn_iconst (j := j6_drop) (pc := 20) 0 rfl dX6_drop_20 ?_
    refine p_X6_62 (j := j6_drop) (pc := 21) (by decide) rfl dX6_drop_21 (fun M => ?_)
    refine sn_aload_n (j := j6_drop) (pc := 24) rfl rfl dX6_drop_24 ?_
    refine g_X6_12 (j := j6_drop) (pc := 25) rfl dX6_drop_25 (fun d_4 => ?_)
    refine Snd.ite fun hd_4 => ?_
    refine g_X6_94 (j := j6_drop) (pc := 28) hd_4 rfl dX6_drop_28 ?_
    refine Snd.bI (fun v_5 => ?_)
    exact sn_iret (j := j6_drop) (pc := 31) rfl dX6_drop_31
  · refine sn_iconst (j := j6_drop) (pc := 10) (-1) rfl dX6_drop_10 ?_
    exact sn_iret (j := j6_drop) (pc := 11) rfl dX6_drop_11

abbrev j6_charge : mm_J := (yX6_charge, cX6_charge, 5, (some .boolean), 1)
theorem dX6_charge_0 : decode cX6_charge 0 = .ok (.aload_n 0, 1) := by decide +kernel
theorem dX6_charge_1 : decode cX6_charge 1 = .ok (.getfield 12, 3) := by decide +kernel
theorem dX6_charge_4 : decode cX6_charge 4 = .ok (.iload_n 1, 1) := by decide +kernel
theorem dX6_charge_5 : decode cX6_charge 5 = .ok (.invokevirtual 103, 3) := by decide +kernel
theorem dX6_charge_8 : decode cX6_charge 8 = .ok (.ifCond .eq 14, 3) := by decide +kernel
theorem dX6_charge_11 : decode cX6_charge 11 = .ok (.aload_n 0, 1) := by decide +kernel
theorem dX6_charge_12 : decode cX6_charge 12 = .ok (.getfield 12, 3) := by decide +kernel
theorem dX6_charge_15 : decode cX6_charge 15 = .ok (.iload_n 2, 1) := by decide +kernel
theorem dX6_charge_16 : decode cX6_charge 16 = .ok (.invokevirtual 107, 3) := by decide +kernel
theorem dX6_charge_19 : decode cX6_charge 19 = .ok (.ifCond .ne 5, 3) := by decide +kernel
theorem dX6_charge_22 : decode cX6_charge 22 = .ok (.iconst 0, 1) := by decide +kernel
theorem dX6_charge_23 : decode cX6_charge 23 = .ok (.ireturn, 1) := by decide +kernel
theorem dX6_charge_24 : decode cX6_charge 24 = .ok (.iconst 1, 1) := by decide +kernel
theorem dX6_charge_25 : decode cX6_charge 25 = .ok (.iload_n 2, 1) := by decide +kernel
theorem dX6_charge_26 : decode cX6_charge 26 = .ok (.ishl, 1) := by decide +kernel
theorem dX6_charge_27 : decode cX6_charge 27 = .ok (.istore 4, 2) := by decide +kernel
theorem dX6_charge_29 : decode cX6_charge 29 = .ok (.aload_n 0, 1) := by decide +kernel
theorem dX6_charge_30 : decode cX6_charge 30 = .ok (.getfield 12, 3) := by decide +kernel
theorem dX6_charge_33 : decode cX6_charge 33 = .ok (.getfield 110, 3) := by decide +kernel
theorem dX6_charge_36 : decode cX6_charge 36 = .ok (.iload_n 1, 1) := by decide +kernel
theorem dX6_charge_37 : decode cX6_charge 37 = .ok (.iaload, 1) := by decide +kernel
theorem dX6_charge_38 : decode cX6_charge 38 = .ok (.iload 4, 2) := by decide +kernel
theorem dX6_charge_40 : decode cX6_charge 40 = .ok (.iand, 1) := by decide +kernel
theorem dX6_charge_41 : decode cX6_charge 41 = .ok (.ifCond .eq 7, 3) := by decide +kernel
theorem dX6_charge_44 : decode cX6_charge 44 = .ok (.iconst 1, 1) := by decide +kernel
theorem dX6_charge_45 : decode cX6_charge 45 = .ok (.goto 4, 3) := by decide +kernel
theorem dX6_charge_48 : decode cX6_charge 48 = .ok (.iconst 0, 1) := by decide +kernel
theorem dX6_charge_49 : decode cX6_charge 49 = .ok (.iload_n 3, 1) := by decide +kernel
theorem dX6_charge_50 : decode cX6_charge 50 = .ok (.if_icmp .ne 5, 3) := by decide +kernel
theorem dX6_charge_53 : decode cX6_charge 53 = .ok (.iconst 0, 1) := by decide +kernel
theorem dX6_charge_54 : decode cX6_charge 54 = .ok (.ireturn, 1) := by decide +kernel
theorem dX6_charge_55 : decode cX6_charge 55 = .ok (.aload_n 0, 1) := by decide +kernel
theorem dX6_charge_56 : decode cX6_charge 56 = .ok (.getfield 12, 3) := by decide +kernel
theorem dX6_charge_59 : decode cX6_charge 59 = .ok (.getfield 110, 3) := by decide +kernel
theorem dX6_charge_62 : decode cX6_charge 62 = .ok (.iload_n 1, 1) := by decide +kernel
theorem dX6_charge_63 : decode cX6_charge 63 = .ok (.dup2, 1) := by decide +kernel
theorem dX6_charge_64 : decode cX6_charge 64 = .ok (.iaload, 1) := by decide +kernel
theorem dX6_charge_65 : decode cX6_charge 65 = .ok (.iload 4, 2) := by decide +kernel
theorem dX6_charge_67 : decode cX6_charge 67 = .ok (.ixor, 1) := by decide +kernel
theorem dX6_charge_68 : decode cX6_charge 68 = .ok (.iastore, 1) := by decide +kernel
theorem dX6_charge_69 : decode cX6_charge 69 = .ok (.iconst 1, 1) := by decide +kernel
theorem dX6_charge_70 : decode cX6_charge 70 = .ok (.ireturn, 1) := by decide +kernel
def l6_charge_49  (x1 : Int32) (x3 : Int32) (x4 : Int32) (s0 : Int32) (M : mm_M) : Option (Int32 × mm_M) :=
  if s0 = x3 then (rZ 0 M) else (bN (mNow M) (fun d_1 => if isD d_1 = true then (aI (d_1 + 3) 8 x1 M (fun w_2 => uI (d_1 + 3) 8 x1 (w_2 ^^^ x4) M (fun M => rZ 1 M))) else none))
set_option maxHeartbeats 2000000 in
theorem sl6_charge_49   (x1 : Int32) (x3 : Int32) (x4 : Int32) (s0 : Int32)  (M : mm_M) : Snd injI j6_charge mm_X0 49 [some (.ref 1), some (.int x1), none, some (.int x3), some (.int x4)] [.int s0] M (l6_charge_49  x1 x3 x4 s0 M) := by
  unfold l6_charge_49
  refine sn_iload_n (j := j6_charge) (pc := 49) rfl rfl dX6_charge_49 ?_
  refine sn_icmp_ne (j := j6_charge) (pc := 50) 55 rfl dX6_charge_50 ?_ ?_
  · refine sn_aload_n (j := j6_charge) (pc := 55) rfl rfl dX6_charge_55 ?_
    refine g_X6_12 (j := j6_charge) (pc := 56) rfl dX6_charge_56 (fun d_1 => ?_)
    refine Snd.ite fun hd_1 => ?_
    refine g_X6_110 (j := j6_charge) (pc := 59) hd_1 rfl dX6_charge_59 ?_
    refine sn_iload_n (j := j6_charge) (pc := 62) rfl rfl dX6_charge_62 ?_
    refine sn_dup2 (j := j6_charge) (pc := 63) rfl rfl dX6_charge_63 ?_
    refine sn_iald (j := j6_charge) (pc := 64) (isD_a3 hd_1) (isD_p3 hd_1) dX6_charge_64 (fun w_2 => ?_)
    refine sn_iload (j := j6_charge) (pc := 65) rfl dX6_charge_65 ?_
    refine sn_ixor (j := j6_charge) (pc := 67) dX6_charge_67 ?_
    refine sn_iast (j := j6_charge) (pc := 68) (isD_a3 hd_1) (isD_p3 hd_1) dX6_charge_68 (fun M => ?_)
    refine sn_iconst (j := j6_charge) (pc := 69) 1 rfl dX6_charge_69 ?_
    exact sn_zret (j := j6_charge) (pc := 70) rfl dX6_charge_70
  · refine sn_iconst (j := j6_charge) (pc := 53) 0 rfl dX6_charge_53 ?_
    exact sn_zret (j := j6_charge) (pc := 54) rfl dX6_charge_54
def l6_charge_22   (M : mm_M) : Option (Int32 × mm_M) :=
  rZ 0 M
set_option maxHeartbeats 2000000 in
theorem sl6_charge_22     (M : mm_M) : Snd injI j6_charge mm_X0 22 [none, none, none, none, none] [] M (l6_charge_22   M) := by
  unfold l6_charge_22
  refine sn_iconst (j := j6_charge) (pc := 22) 0 rfl dX6_charge_22 ?_
  exact sn_zret (j := j6_charge) (pc := 23) rfl dX6_charge_23
def f6_charge (x1 : Int32) (x2 : Int32) (x3 : Int32) (M : mm_M) : Option (Int32 × mm_M) :=
  bN (mNow M) (fun d_3 => if isD d_3 = true then (cI (f0_hasSlot d_3 x1 M) (fun r_4 M => if r_4 = 0 then (l6_charge_22 M) else (bN (mNow M) (fun d_5 => if isD d_5 = true then (cI (f0_hasBus d_5 x2 M) (fun r_6 M => if r_6 = 0 then (l6_charge_22 M) else (bI (1 <<< (x2 &&& 31)) (fun x4_7 => bN (mNow M) (fun d_8 => if isD d_8 = true then (aI (d_8 + 3) 8 x1 M (fun w_9 => if (w_9 &&& x4_7) = 0 then (l6_charge_49 x1 x3 x4_7 0 M) else (l6_charge_49 x1 x3 x4_7 1 M))) else none))))) else none)))) else none)
set_option maxHeartbeats 2000000 in
theorem s6_charge (x1 : Int32) (x2 : Int32) (x3 : Int32) (M : mm_M) : Snd injI j6_charge mm_X0 0 [some (.ref 1), some (.int x1), some (.int x2), some (.int x3)] [] M (f6_charge x1 x2 x3 M) := by
  refine Snd.wk (lo' := [some (.ref 1), some (.int x1), some (.int x2), some (.int x3), none]) ?_ (by simp [mm_le])
  unfold f6_charge
  refine sn_aload_n (j := j6_charge) (pc := 0) rfl rfl dX6_charge_0 ?_
  refine g_X6_12 (j := j6_charge) (pc := 1) rfl dX6_charge_1 (fun d_3 => ?_)
  refine Snd.ite fun hd_3 => ?_
  refine sn_iload_n (j := j6_charge) (pc := 4) rfl rfl dX6_charge_4 ?_
  refine sn_callV (j := j6_charge) (pc := 5) (jc := j0_hasSlot) (As := [.int x1]) (s0_hasSlot d_3 x1 M) mm_hvI (by simp [Value.category]) (Nat.le_of_ble_eq_true rfl) q0_hasSlot rfl (by decide) rfl (isD_obj hd_3) (isD_pos hd_3) w_ml_X6_103 w_im_X0_hasSlot w_se_X0_hasSlot rfl (Nat.le_of_ble_eq_true rfl) dX6_charge_5 ?_
  rintro ⟨r_4, M⟩
  show Snd injI j6_charge mm_X0 8 [some (.ref 1), some (.int x1), some (.int x2), some (.int x3), none] [.int r_4] M _
  refine sn_if_eq (j := j6_charge) (pc := 8) 22 rfl dX6_charge_8 ?_ ?_
  · exact Snd.wk (sl6_charge_22 M) (by simp [mm_le])
  · refine sn_aload_n (j := j6_charge) (pc := 11) rfl rfl dX6_charge_11 ?_
    refine g_X6_12 (j := j6_charge) (pc := 12) rfl dX6_charge_12 (fun d_5 => ?_)
    refine Snd.ite fun hd_5 => ?_
    refine sn_iload_n (j := j6_charge) (pc := 15) rfl rfl dX6_charge_15 ?_
    refine sn_callV (j := j6_charge) (pc := 16) (jc := j0_hasBus) (As := [.int x2]) (s0_hasBus d_5 x2 M) mm_hvI (by simp [Value.category]) (Nat.le_of_ble_eq_true rfl) q0_hasBus rfl (by decide) rfl (isD_obj hd_5) (isD_pos hd_5) w_ml_X6_107 w_im_X0_hasBus w_se_X0_hasBus rfl (Nat.le_of_ble_eq_true rfl) dX6_charge_16 ?_
    rintro ⟨r_6, M⟩
    show Snd injI j6_charge mm_X0 19 [some (.ref 1), some (.int x1), some (.int x2), some (.int x3), none] [.int r_6] M _
    refine sn_if_ne (j := j6_charge) (pc := 19) 24 rfl dX6_charge_19 ?_ ?_
    · refine sn_iconst (j := j6_charge) (pc := 24) 1 rfl dX6_charge_24 ?_
      refine sn_iload_n (j := j6_charge) (pc := 25) rfl rfl dX6_charge_25 ?_
      refine sn_ishl (j := j6_charge) (pc := 26) dX6_charge_26 ?_
      refine sn_istoreB (j := j6_charge) (pc := 27) (fun x4_7 => [some (.ref 1), some (.int x1), some (.int x2), some (.int x3), some (.int x4_7)]) (by decide) (fun _ => rfl) dX6_charge_27 (fun x4_7 => ?_)
      refine sn_aload_n (j := j6_charge) (pc := 29) rfl rfl dX6_charge_29 ?_
      refine g_X6_12 (j := j6_charge) (pc := 30) rfl dX6_charge_30 (fun d_8 => ?_)
      refine Snd.ite fun hd_8 => ?_
      refine g_X6_110 (j := j6_charge) (pc := 33) hd_8 rfl dX6_charge_33 ?_
      refine sn_iload_n (j := j6_charge) (pc := 36) rfl rfl dX6_charge_36 ?_
      refine sn_iald (j := j6_charge) (pc := 37) (isD_a3 hd_8) (isD_p3 hd_8) dX6_charge_37 (fun w_9 => ?_)
      refine sn_iload (j := j6_charge) (pc := 38) rfl dX6_charge_38 ?_
      refine sn_iand (j := j6_charge) (pc := 40) dX6_charge_40 ?_
      refine sn_if_eq (j := j6_charge) (pc := 41) 48 rfl dX6_charge_41 ?_ ?_
      · refine sn_iconst (j := j6_charge) (pc := 48) 0 rfl dX6_charge_48 ?_
        exact Snd.wk (sl6_charge_49 x1 x3 x4_7 0 M) (by simp [mm_le])
      · refine sn_iconst (j := j6_charge) (pc := 44) 1 rfl dX6_charge_44 ?_
        refine sn_goto (j := j6_charge) (pc := 45) 49 rfl dX6_charge_45 ?_
        exact Snd.wk (sl6_charge_49 x1 x3 x4_7 1 M) (by simp [mm_le])
    · exact Snd.wk (sl6_charge_22 M) (by simp [mm_le])

abbrev j6_clear : mm_J := (yX6_clear, cX6_clear, 1, (some .int), 4)
theorem dX6_clear_0 : decode cX6_clear 0 = .ok (.aload_n 0, 1) := by decide +kernel
theorem dX6_clear_1 : decode cX6_clear 1 = .ok (.getfield 38, 3) := by decide +kernel
theorem dX6_clear_4 : decode cX6_clear 4 = .ok (.aload_n 0, 1) := by decide +kernel
theorem dX6_clear_5 : decode cX6_clear 5 = .ok (.getfield 12, 3) := by decide +kernel
theorem dX6_clear_8 : decode cX6_clear 8 = .ok (.aload_n 0, 1) := by decide +kernel
theorem dX6_clear_9 : decode cX6_clear 9 = .ok (.getfield 12, 3) := by decide +kernel
theorem dX6_clear_12 : decode cX6_clear 12 = .ok (.getfield 110, 3) := by decide +kernel
theorem dX6_clear_15 : decode cX6_clear 15 = .ok (.invokevirtual 113, 3) := by decide +kernel
theorem dX6_clear_18 : decode cX6_clear 18 = .ok (.aload_n 0, 1) := by decide +kernel
theorem dX6_clear_19 : decode cX6_clear 19 = .ok (.getfield 12, 3) := by decide +kernel
theorem dX6_clear_22 : decode cX6_clear 22 = .ok (.getfield 110, 3) := by decide +kernel
theorem dX6_clear_25 : decode cX6_clear 25 = .ok (.iconst 0, 1) := by decide +kernel
theorem dX6_clear_26 : decode cX6_clear 26 = .ok (.invokestatic 117, 3) := by decide +kernel
theorem dX6_clear_29 : decode cX6_clear 29 = .ok (.aload_n 0, 1) := by decide +kernel
theorem dX6_clear_30 : decode cX6_clear 30 = .ok (.getfield 38, 3) := by decide +kernel
theorem dX6_clear_33 : decode cX6_clear 33 = .ok (.getfield 123, 3) := by decide +kernel
theorem dX6_clear_36 : decode cX6_clear 36 = .ok (.ireturn, 1) := by decide +kernel
def f6_clear  (M : mm_M) : Option (Int32 × mm_M) :=
  bN (mNow M) (fun d_1 => if isD d_1 = true then (bN (mNow M) (fun d_2 => if isD d_2 = true then (cV (f1_weigh d_1 (d_2 + 3) M) (fun M => bN (mNow M) (fun d_3 => if isD d_3 = true then (cV (fJ_fill_53178 (d_3 + 3) 0 M) (fun M => bI (mI M 23 3) (fun v_4 => some (v_4, M)))) else none))) else none)) else none)
set_option maxHeartbeats 2000000 in
theorem s6_clear  (M : mm_M) : Snd injI j6_clear mm_X0 0 [some (.ref 1)] [] M (f6_clear  M) := by
  refine Snd.wk (lo' := [some (.ref 1)]) ?_ (by simp [mm_le])
  unfold f6_clear
  refine sn_aload_n (j := j6_clear) (pc := 0) rfl rfl dX6_clear_0 ?_
  refine g_X6_38 (j := j6_clear) (pc := 1) rfl dX6_clear_1 ?_
  refine sn_aload_n (j := j6_clear) (pc := 4) rfl rfl dX6_clear_4 ?_
  refine g_X6_12 (j := j6_clear) (pc := 5) rfl dX6_clear_5 (fun d_1 => ?_)
  refine Snd.ite fun hd_1 => ?_
  refine sn_aload_n (j := j6_clear) (pc := 8) rfl rfl dX6_clear_8 ?_
  refine g_X6_12 (j := j6_clear) (pc := 9) rfl dX6_clear_9 (fun d_2 => ?_)
  refine Snd.ite fun hd_2 => ?_
  refine g_X6_110 (j := j6_clear) (pc := 12) hd_2 rfl dX6_clear_12 ?_
  refine sn_callV (j := j6_clear) (pc := 15) (jc := j1_weigh) (As := [.ref d_1, .ref (d_2 + 3)]) (s1_weigh d_1 (d_2 + 3) M) mm_hvV (by simp [Value.category]) (Nat.le_of_ble_eq_true rfl) q1_weigh rfl (by decide) rfl rfl ⟨by decide, by decide⟩ w_ml_X6_113 w_im_X1_weigh w_se_X1_weigh rfl (Nat.le_of_ble_eq_true rfl) dX6_clear_15 ?_
  intro M
  show Snd injI j6_clear mm_X0 18 [some (.ref 1)] [] M _
  refine sn_aload_n (j := j6_clear) (pc := 18) rfl rfl dX6_clear_18 ?_
  refine g_X6_12 (j := j6_clear) (pc := 19) rfl dX6_clear_19 (fun d_3 => ?_)
  refine Snd.ite fun hd_3 => ?_
  refine g_X6_110 (j := j6_clear) (pc := 22) hd_3 rfl dX6_clear_22 ?_
  refine sn_iconst (j := j6_clear) (pc := 25) 0 rfl dX6_clear_25 ?_
  refine sn_callS (j := j6_clear) (pc := 26) (jc := jJ_fill_53178) (As := [.ref (d_3 + 3), .int 0]) (sJ_fill_53178 (d_3 + 3) 0 M) mm_hvV (by simp [Value.category]) (Nat.le_of_ble_eq_true rfl) qJ_fill_53178 rfl (by decide) w_ml_X6_117 w_st_J7_fill_53178 rfl (Nat.le_of_ble_eq_true rfl) dX6_clear_26 ?_
  intro M
  show Snd injI j6_clear mm_X0 29 [some (.ref 1)] [] M _
  refine sn_aload_n (j := j6_clear) (pc := 29) rfl rfl dX6_clear_29 ?_
  refine g_X6_38 (j := j6_clear) (pc := 30) rfl dX6_clear_30 ?_
  refine g_X6_123 (j := j6_clear) (pc := 33) rfl dX6_clear_33 ?_
  refine Snd.bI (fun v_4 => ?_)
  exact sn_iret (j := j6_clear) (pc := 36) rfl dX6_clear_36

abbrev j6_count : mm_J := (yX6_count, cX6_count, 2, (some .int), 1)
theorem dX6_count_0 : decode cX6_count 0 = .ok (.iload_n 1, 1) := by decide +kernel
theorem dX6_count_1 : decode cX6_count 1 = .ok (.tableswitch 105 0 6 #[43, 51, 59, 67, 77, 87, 97], 43) := by decide +kernel
theorem dX6_count_44 : decode cX6_count 44 = .ok (.aload_n 0, 1) := by decide +kernel
theorem dX6_count_45 : decode cX6_count 45 = .ok (.getfield 12, 3) := by decide +kernel
theorem dX6_count_48 : decode cX6_count 48 = .ok (.getfield 126, 3) := by decide +kernel
theorem dX6_count_51 : decode cX6_count 51 = .ok (.ireturn, 1) := by decide +kernel
theorem dX6_count_52 : decode cX6_count 52 = .ok (.aload_n 0, 1) := by decide +kernel
theorem dX6_count_53 : decode cX6_count 53 = .ok (.getfield 12, 3) := by decide +kernel
theorem dX6_count_56 : decode cX6_count 56 = .ok (.getfield 94, 3) := by decide +kernel
theorem dX6_count_59 : decode cX6_count 59 = .ok (.ireturn, 1) := by decide +kernel
theorem dX6_count_60 : decode cX6_count 60 = .ok (.aload_n 0, 1) := by decide +kernel
theorem dX6_count_61 : decode cX6_count 61 = .ok (.getfield 12, 3) := by decide +kernel
theorem dX6_count_64 : decode cX6_count 64 = .ok (.getfield 129, 3) := by decide +kernel
theorem dX6_count_67 : decode cX6_count 67 = .ok (.ireturn, 1) := by decide +kernel
theorem dX6_count_68 : decode cX6_count 68 = .ok (.aload_n 0, 1) := by decide +kernel
theorem dX6_count_69 : decode cX6_count 69 = .ok (.getfield 12, 3) := by decide +kernel
theorem dX6_count_72 : decode cX6_count 72 = .ok (.getfield 132, 3) := by decide +kernel
theorem dX6_count_75 : decode cX6_count 75 = .ok (.iconst 0, 1) := by decide +kernel
theorem dX6_count_76 : decode cX6_count 76 = .ok (.iaload, 1) := by decide +kernel
theorem dX6_count_77 : decode cX6_count 77 = .ok (.ireturn, 1) := by decide +kernel
theorem dX6_count_78 : decode cX6_count 78 = .ok (.aload_n 0, 1) := by decide +kernel
theorem dX6_count_79 : decode cX6_count 79 = .ok (.getfield 12, 3) := by decide +kernel
theorem dX6_count_82 : decode cX6_count 82 = .ok (.getfield 132, 3) := by decide +kernel
theorem dX6_count_85 : decode cX6_count 85 = .ok (.iconst 1, 1) := by decide +kernel
theorem dX6_count_86 : decode cX6_count 86 = .ok (.iaload, 1) := by decide +kernel
theorem dX6_count_87 : decode cX6_count 87 = .ok (.ireturn, 1) := by decide +kernel
theorem dX6_count_88 : decode cX6_count 88 = .ok (.aload_n 0, 1) := by decide +kernel
theorem dX6_count_89 : decode cX6_count 89 = .ok (.getfield 12, 3) := by decide +kernel
theorem dX6_count_92 : decode cX6_count 92 = .ok (.getfield 132, 3) := by decide +kernel
theorem dX6_count_95 : decode cX6_count 95 = .ok (.iconst 2, 1) := by decide +kernel
theorem dX6_count_96 : decode cX6_count 96 = .ok (.iaload, 1) := by decide +kernel
theorem dX6_count_97 : decode cX6_count 97 = .ok (.ireturn, 1) := by decide +kernel
theorem dX6_count_98 : decode cX6_count 98 = .ok (.aload_n 0, 1) := by decide +kernel
theorem dX6_count_99 : decode cX6_count 99 = .ok (.getfield 22, 3) := by decide +kernel
theorem dX6_count_102 : decode cX6_count 102 = .ok (.getfield 66, 3) := by decide +kernel
theorem dX6_count_105 : decode cX6_count 105 = .ok (.ireturn, 1) := by decide +kernel
theorem dX6_count_106 : decode cX6_count 106 = .ok (.iload_n 1, 1) := by decide +kernel
theorem dX6_count_107 : decode cX6_count 107 = .ok (.bipush 10, 2) := by decide +kernel
theorem dX6_count_109 : decode cX6_count 109 = .ok (.if_icmp .lt 17, 3) := by decide +kernel
theorem dX6_count_112 : decode cX6_count 112 = .ok (.aload_n 0, 1) := by decide +kernel
theorem dX6_count_113 : decode cX6_count 113 = .ok (.getfield 12, 3) := by decide +kernel
theorem dX6_count_116 : decode cX6_count 116 = .ok (.iload_n 1, 1) := by decide +kernel
theorem dX6_count_117 : decode cX6_count 117 = .ok (.bipush 10, 2) := by decide +kernel
theorem dX6_count_119 : decode cX6_count 119 = .ok (.isub, 1) := by decide +kernel
theorem dX6_count_120 : decode cX6_count 120 = .ok (.invokevirtual 103, 3) := by decide +kernel
theorem dX6_count_123 : decode cX6_count 123 = .ok (.ifCond .ne 5, 3) := by decide +kernel
theorem dX6_count_126 : decode cX6_count 126 = .ok (.iconst (-1), 1) := by decide +kernel
theorem dX6_count_127 : decode cX6_count 127 = .ok (.ireturn, 1) := by decide +kernel
theorem dX6_count_128 : decode cX6_count 128 = .ok (.aload_n 0, 1) := by decide +kernel
theorem dX6_count_129 : decode cX6_count 129 = .ok (.getfield 12, 3) := by decide +kernel
theorem dX6_count_132 : decode cX6_count 132 = .ok (.getfield 135, 3) := by decide +kernel
theorem dX6_count_135 : decode cX6_count 135 = .ok (.iload_n 1, 1) := by decide +kernel
theorem dX6_count_136 : decode cX6_count 136 = .ok (.bipush 10, 2) := by decide +kernel
theorem dX6_count_138 : decode cX6_count 138 = .ok (.isub, 1) := by decide +kernel
theorem dX6_count_139 : decode cX6_count 139 = .ok (.iaload, 1) := by decide +kernel
theorem dX6_count_140 : decode cX6_count 140 = .ok (.ireturn, 1) := by decide +kernel
def l6_count_126   (M : mm_M) : Option (Int32 × mm_M) :=
  some ((-1), M)
set_option maxHeartbeats 2000000 in
theorem sl6_count_126     (M : mm_M) : Snd injI j6_count mm_X0 126 [none, none] [] M (l6_count_126   M) := by
  unfold l6_count_126
  refine sn_iconst (j := j6_count) (pc := 126) (-1) rfl dX6_count_126 ?_
  exact sn_iret (j := j6_count) (pc := 127) rfl dX6_count_127
def f6_count (x1 : Int32) (M : mm_M) : Option (Int32 × mm_M) :=
  if x1 = 0 then (bN (mNow M) (fun d_2 => if isD d_2 = true then (bI (mI M d_2 0) (fun v_3 => some (v_3, M))) else none)) else (if x1 = 1 then (bN (mNow M) (fun d_4 => if isD d_4 = true then (bI (mI M d_4 2) (fun v_5 => some (v_5, M))) else none)) else (if x1 = 2 then (bN (mNow M) (fun d_6 => if isD d_6 = true then (bI (mI M d_6 1) (fun v_7 => some (v_7, M))) else none)) else (if x1 = 3 then (bN (mNow M) (fun d_8 => if isD d_8 = true then (aI (d_8 + 1) 3 0 M (fun w_9 => some (w_9, M))) else none)) else (if x1 = 4 then (bN (mNow M) (fun d_10 => if isD d_10 = true then (aI (d_10 + 1) 3 1 M (fun w_11 => some (w_11, M))) else none)) else (if x1 = 5 then (bN (mNow M) (fun d_12 => if isD d_12 = true then (aI (d_12 + 1) 3 2 M (fun w_13 => some (w_13, M))) else none)) else (if x1 = 6 then (bI (mI M 20 1) (fun v_14 => some (v_14, M))) else (if x1 < 10 then (l6_count_126 M) else (bN (mNow M) (fun d_15 => if isD d_15 = true then (cI (f0_hasSlot d_15 (x1 - 10) M) (fun r_16 M => if r_16 = 0 then (l6_count_126 M) else (bN (mNow M) (fun d_17 => if isD d_17 = true then (aI (d_17 + 2) 8 (x1 - 10) M (fun w_18 => some (w_18, M))) else none)))) else none)))))))))
set_option maxHeartbeats 2000000 in
theorem s6_count (x1 : Int32) (M : mm_M) : Snd injI j6_count mm_X0 0 [some (.ref 1), some (.int x1)] [] M (f6_count x1 M) := by
  refine Snd.wk (lo' := [some (.ref 1), some (.int x1)]) ?_ (by simp [mm_le])
  unfold f6_count
  refine sn_iload_n (j := j6_count) (pc := 0) rfl rfl dX6_count_0 ?_
  refine Snd.ifc (fun hx_1_0 => ?_) (fun hx_1_0 => ?_)
  · refine sn_tbl (j := j6_count) (pc := 1) 44 hx_1_0 rfl dX6_count_1 (by decide) (by decide) rfl rfl ?_
    refine sn_aload_n (j := j6_count) (pc := 44) rfl rfl dX6_count_44 ?_
    refine g_X6_12 (j := j6_count) (pc := 45) rfl dX6_count_45 (fun d_2 => ?_)
    refine Snd.ite fun hd_2 => ?_
    refine g_X6_126 (j := j6_count) (pc := 48) hd_2 rfl dX6_count_48 ?_
    refine Snd.bI (fun v_3 => ?_)
    exact sn_iret (j := j6_count) (pc := 51) rfl dX6_count_51
  refine Snd.ifc (fun hx_1_1 => ?_) (fun hx_1_1 => ?_)
  · refine sn_tbl (j := j6_count) (pc := 1) 52 hx_1_1 rfl dX6_count_1 (by decide) (by decide) rfl rfl ?_
    refine sn_aload_n (j := j6_count) (pc := 52) rfl rfl dX6_count_52 ?_
    refine g_X6_12 (j := j6_count) (pc := 53) rfl dX6_count_53 (fun d_4 => ?_)
    refine Snd.ite fun hd_4 => ?_
    refine g_X6_94 (j := j6_count) (pc := 56) hd_4 rfl dX6_count_56 ?_
    refine Snd.bI (fun v_5 => ?_)
    exact sn_iret (j := j6_count) (pc := 59) rfl dX6_count_59
  refine Snd.ifc (fun hx_1_2 => ?_) (fun hx_1_2 => ?_)
  · refine sn_tbl (j := j6_count) (pc := 1) 60 hx_1_2 rfl dX6_count_1 (by decide) (by decide) rfl rfl ?_
    refine sn_aload_n (j := j6_count) (pc := 60) rfl rfl dX6_count_60 ?_
    refine g_X6_12 (j := j6_count) (pc := 61) rfl dX6_count_61 (fun d_6 => ?_)
    refine Snd.ite fun hd_6 => ?_
    refine g_X6_129 (j := j6_count) (pc := 64) hd_6 rfl dX6_count_64 ?_
    refine Snd.bI (fun v_7 => ?_)
    exact sn_iret (j := j6_count) (pc := 67) rfl dX6_count_67
  refine Snd.ifc (fun hx_1_3 => ?_) (fun hx_1_3 => ?_)
  · refine sn_tbl (j := j6_count) (pc := 1) 68 hx_1_3 rfl dX6_count_1 (by decide) (by decide) rfl rfl ?_
    refine sn_aload_n (j := j6_count) (pc := 68) rfl rfl dX6_count_68 ?_
    refine g_X6_12 (j := j6_count) (pc := 69) rfl dX6_count_69 (fun d_8 => ?_)
    refine Snd.ite fun hd_8 => ?_
    refine g_X6_132 (j := j6_count) (pc := 72) hd_8 rfl dX6_count_72 ?_
    refine sn_iconst (j := j6_count) (pc := 75) 0 rfl dX6_count_75 ?_
    refine sn_iald (j := j6_count) (pc := 76) (isD_a1 hd_8) (isD_p1 hd_8) dX6_count_76 (fun w_9 => ?_)
    exact sn_iret (j := j6_count) (pc := 77) rfl dX6_count_77
  refine Snd.ifc (fun hx_1_4 => ?_) (fun hx_1_4 => ?_)
  · refine sn_tbl (j := j6_count) (pc := 1) 78 hx_1_4 rfl dX6_count_1 (by decide) (by decide) rfl rfl ?_
    refine sn_aload_n (j := j6_count) (pc := 78) rfl rfl dX6_count_78 ?_
    refine g_X6_12 (j := j6_count) (pc := 79) rfl dX6_count_79 (fun d_10 => ?_)
    refine Snd.ite fun hd_10 => ?_
    refine g_X6_132 (j := j6_count) (pc := 82) hd_10 rfl dX6_count_82 ?_
    refine sn_iconst (j := j6_count) (pc := 85) 1 rfl dX6_count_85 ?_
    refine sn_iald (j := j6_count) (pc := 86) (isD_a1 hd_10) (isD_p1 hd_10) dX6_count_86 (fun w_11 => ?_)
    exact sn_iret (j := j6_count) (pc := 87) rfl dX6_count_87
  refine Snd.ifc (fun hx_1_5 => ?_) (fun hx_1_5 => ?_)
  · refine sn_tbl (j := j6_count) (pc := 1) 88 hx_1_5 rfl dX6_count_1 (by decide) (by decide) rfl rfl ?_
    refine sn_aload_n (j := j6_count) (pc := 88) rfl rfl dX6_count_88 ?_
    refine g_X6_12 (j := j6_count) (pc := 89) rfl dX6_count_89 (fun d_12 => ?_)
    refine Snd.ite fun hd_12 => ?_
    refine g_X6_132 (j := j6_count) (pc := 92) hd_12 rfl dX6_count_92 ?_
    refine sn_iconst (j := j6_count) (pc := 95) 2 rfl dX6_count_95 ?_
    refine sn_iald (j := j6_count) (pc := 96) (isD_a1 hd_12) (isD_p1 hd_12) dX6_count_96 (fun w_13 => ?_)
    exact sn_iret (j := j6_count) (pc := 97) rfl dX6_count_97
  refine Snd.ifc (fun hx_1_6 => ?_) (fun hx_1_6 => ?_)
  · refine sn_tbl (j := j6_count) (pc := 1) 98 hx_1_6 rfl dX6_count_1 (by decide) (by decide) rfl rfl ?_
    refine sn_aload_n (j := j6_count) (pc := 98) rfl rfl dX6_count_98 ?_
    refine g_X6_22 (j := j6_count) (pc := 99) rfl dX6_count_99 ?_
    refine g_X6_66 (j := j6_count) (pc := 102) rfl dX6_count_102 ?_
    refine Snd.bI (fun v_14 => ?_)
    exact sn_iret (j := j6_count) (pc := 105) rfl dX6_count_105
  refine sn_tblO (j := j6_count) (pc := 1) 106 dX6_count_1 (by have := lv_neT hx_1_0 (show (0 : Int32).toInt = 0 from rfl); have := lv_neT hx_1_1 (show (1 : Int32).toInt = 1 from rfl); have := lv_neT hx_1_2 (show (2 : Int32).toInt = 2 from rfl); have := lv_neT hx_1_3 (show (3 : Int32).toInt = 3 from rfl); have := lv_neT hx_1_4 (show (4 : Int32).toInt = 4 from rfl); have := lv_neT hx_1_5 (show (5 : Int32).toInt = 5 from rfl); have := lv_neT hx_1_6 (show (6 : Int32).toInt = 6 from rfl); omega) rfl ?_
  refine sn_iload_n (j := j6_count) (pc := 106) rfl rfl dX6_count_106 ?_
  refine sn_bipush (j := j6_count) (pc := 107) 10 rfl dX6_count_107 ?_
  refine sn_icmp_lt (j := j6_count) (pc := 109) 126 rfl dX6_count_109 ?_ ?_
  · exact Snd.wk (sl6_count_126 M) (by simp [mm_le])
  · refine sn_aload_n (j := j6_count) (pc := 112) rfl rfl dX6_count_112 ?_
    refine g_X6_12 (j := j6_count) (pc := 113) rfl dX6_count_113 (fun d_15 => ?_)
    refine Snd.ite fun hd_15 => ?_
    refine sn_iload_n (j := j6_count) (pc := 116) rfl rfl dX6_count_116 ?_
    refine sn_bipush (j := j6_count) (pc := 117) 10 rfl dX6_count_117 ?_
    refine sn_isub (j := j6_count) (pc := 119) dX6_count_119 ?_
    refine sn_callV (j := j6_count) (pc := 120) (jc := j0_hasSlot) (As := [.int (x1 - 10)]) (s0_hasSlot d_15 (x1 - 10) M) mm_hvI (by simp [Value.category]) (Nat.le_of_ble_eq_true rfl) q0_hasSlot rfl (by decide) rfl (isD_obj hd_15) (isD_pos hd_15) w_ml_X6_103 w_im_X0_hasSlot w_se_X0_hasSlot rfl (Nat.le_of_ble_eq_true rfl) dX6_count_120 ?_
    rintro ⟨r_16, M⟩
    show Snd injI j6_count mm_X0 123 [some (.ref 1), some (.int x1)] [.int r_16] M _
    refine sn_if_ne (j := j6_count) (pc := 123) 128 rfl dX6_count_123 ?_ ?_
    · refine sn_aload_n (j := j6_count) (pc := 128) rfl rfl dX6_count_128 ?_
      refine g_X6_12 (j := j6_count) (pc := 129) rfl dX6_count_129 (fun d_17 => ?_)
      refine Snd.ite fun hd_17 => ?_
      refine g_X6_135 (j := j6_count) (pc := 132) hd_17 rfl dX6_count_132 ?_
      refine sn_iload_n (j := j6_count) (pc := 135) rfl rfl dX6_count_135 ?_
      refine sn_bipush (j := j6_count) (pc := 136) 10 rfl dX6_count_136 ?_
      refine sn_isub (j := j6_count) (pc := 138) dX6_count_138 ?_
      refine sn_iald (j := j6_count) (pc := 139) (isD_a2 hd_17) (isD_p2 hd_17) dX6_count_139 (fun w_18 => ?_)
      exact sn_iret (j := j6_count) (pc := 140) rfl dX6_count_140
    · exact Snd.wk (sl6_count_126 M) (by simp [mm_le])

abbrev j6_curve : mm_J := (yX6_curve, cX6_curve, 4, (some .int), 1)
theorem dX6_curve_0 : decode cX6_curve 0 = .ok (.aload_n 0, 1) := by decide +kernel
theorem dX6_curve_1 : decode cX6_curve 1 = .ok (.getfield 12, 3) := by decide +kernel
theorem dX6_curve_4 : decode cX6_curve 4 = .ok (.iload_n 1, 1) := by decide +kernel
theorem dX6_curve_5 : decode cX6_curve 5 = .ok (.invokevirtual 149, 3) := by decide +kernel
theorem dX6_curve_8 : decode cX6_curve 8 = .ok (.ifCond .ne 5, 3) := by decide +kernel
theorem dX6_curve_11 : decode cX6_curve 11 = .ok (.iconst (-1), 1) := by decide +kernel
theorem dX6_curve_12 : decode cX6_curve 12 = .ok (.ireturn, 1) := by decide +kernel
theorem dX6_curve_13 : decode cX6_curve 13 = .ok (.iload_n 2, 1) := by decide +kernel
theorem dX6_curve_14 : decode cX6_curve 14 = .ok (.iconst (-1), 1) := by decide +kernel
theorem dX6_curve_15 : decode cX6_curve 15 = .ok (.if_icmp .ne 21, 3) := by decide +kernel
theorem dX6_curve_18 : decode cX6_curve 18 = .ok (.iload_n 3, 1) := by decide +kernel
theorem dX6_curve_19 : decode cX6_curve 19 = .ok (.ifCond .ne 15, 3) := by decide +kernel
theorem dX6_curve_22 : decode cX6_curve 22 = .ok (.aload_n 0, 1) := by decide +kernel
theorem dX6_curve_23 : decode cX6_curve 23 = .ok (.getfield 12, 3) := by decide +kernel
theorem dX6_curve_26 : decode cX6_curve 26 = .ok (.getfield 152, 3) := by decide +kernel
theorem dX6_curve_29 : decode cX6_curve 29 = .ok (.iload_n 1, 1) := by decide +kernel
theorem dX6_curve_30 : decode cX6_curve 30 = .ok (.iaload, 1) := by decide +kernel
theorem dX6_curve_31 : decode cX6_curve 31 = .ok (.goto 4, 3) := by decide +kernel
theorem dX6_curve_34 : decode cX6_curve 34 = .ok (.iconst (-1), 1) := by decide +kernel
theorem dX6_curve_35 : decode cX6_curve 35 = .ok (.ireturn, 1) := by decide +kernel
theorem dX6_curve_36 : decode cX6_curve 36 = .ok (.iload_n 2, 1) := by decide +kernel
theorem dX6_curve_37 : decode cX6_curve 37 = .ok (.ifCond .lt 16, 3) := by decide +kernel
theorem dX6_curve_40 : decode cX6_curve 40 = .ok (.iload_n 2, 1) := by decide +kernel
theorem dX6_curve_41 : decode cX6_curve 41 = .ok (.aload_n 0, 1) := by decide +kernel
theorem dX6_curve_42 : decode cX6_curve 42 = .ok (.getfield 12, 3) := by decide +kernel
theorem dX6_curve_45 : decode cX6_curve 45 = .ok (.getfield 152, 3) := by decide +kernel
theorem dX6_curve_48 : decode cX6_curve 48 = .ok (.iload_n 1, 1) := by decide +kernel
theorem dX6_curve_49 : decode cX6_curve 49 = .ok (.iaload, 1) := by decide +kernel
theorem dX6_curve_50 : decode cX6_curve 50 = .ok (.if_icmp .lt 5, 3) := by decide +kernel
theorem dX6_curve_53 : decode cX6_curve 53 = .ok (.iconst (-1), 1) := by decide +kernel
theorem dX6_curve_54 : decode cX6_curve 54 = .ok (.ireturn, 1) := by decide +kernel
theorem dX6_curve_55 : decode cX6_curve 55 = .ok (.iload_n 3, 1) := by decide +kernel
theorem dX6_curve_56 : decode cX6_curve 56 = .ok (.lookupswitch 56 #[(0, 28), (1, 42)], 28) := by decide +kernel
theorem dX6_curve_84 : decode cX6_curve 84 = .ok (.aload_n 0, 1) := by decide +kernel
theorem dX6_curve_85 : decode cX6_curve 85 = .ok (.getfield 12, 3) := by decide +kernel
theorem dX6_curve_88 : decode cX6_curve 88 = .ok (.getfield 155, 3) := by decide +kernel
theorem dX6_curve_91 : decode cX6_curve 91 = .ok (.iload_n 1, 1) := by decide +kernel
theorem dX6_curve_92 : decode cX6_curve 92 = .ok (.iconst 4, 1) := by decide +kernel
theorem dX6_curve_93 : decode cX6_curve 93 = .ok (.imul, 1) := by decide +kernel
theorem dX6_curve_94 : decode cX6_curve 94 = .ok (.iload_n 2, 1) := by decide +kernel
theorem dX6_curve_95 : decode cX6_curve 95 = .ok (.iadd, 1) := by decide +kernel
theorem dX6_curve_96 : decode cX6_curve 96 = .ok (.iaload, 1) := by decide +kernel
theorem dX6_curve_97 : decode cX6_curve 97 = .ok (.ireturn, 1) := by decide +kernel
theorem dX6_curve_98 : decode cX6_curve 98 = .ok (.aload_n 0, 1) := by decide +kernel
theorem dX6_curve_99 : decode cX6_curve 99 = .ok (.getfield 12, 3) := by decide +kernel
theorem dX6_curve_102 : decode cX6_curve 102 = .ok (.getfield 158, 3) := by decide +kernel
theorem dX6_curve_105 : decode cX6_curve 105 = .ok (.iload_n 1, 1) := by decide +kernel
theorem dX6_curve_106 : decode cX6_curve 106 = .ok (.iconst 4, 1) := by decide +kernel
theorem dX6_curve_107 : decode cX6_curve 107 = .ok (.imul, 1) := by decide +kernel
theorem dX6_curve_108 : decode cX6_curve 108 = .ok (.iload_n 2, 1) := by decide +kernel
theorem dX6_curve_109 : decode cX6_curve 109 = .ok (.iadd, 1) := by decide +kernel
theorem dX6_curve_110 : decode cX6_curve 110 = .ok (.iaload, 1) := by decide +kernel
theorem dX6_curve_111 : decode cX6_curve 111 = .ok (.ireturn, 1) := by decide +kernel
theorem dX6_curve_112 : decode cX6_curve 112 = .ok (.iconst (-1), 1) := by decide +kernel
theorem dX6_curve_113 : decode cX6_curve 113 = .ok (.ireturn, 1) := by decide +kernel
def l6_curve_53   (M : mm_M) : Option (Int32 × mm_M) :=
  some ((-1), M)
set_option maxHeartbeats 2000000 in
theorem sl6_curve_53     (M : mm_M) : Snd injI j6_curve mm_X0 53 [none, none, none, none] [] M (l6_curve_53   M) := by
  unfold l6_curve_53
  refine sn_iconst (j := j6_curve) (pc := 53) (-1) rfl dX6_curve_53 ?_
  exact sn_iret (j := j6_curve) (pc := 54) rfl dX6_curve_54
def l6_curve_35  (s0 : Int32) (M : mm_M) : Option (Int32 × mm_M) :=
  some (s0, M)
set_option maxHeartbeats 2000000 in
theorem sl6_curve_35   (s0 : Int32)  (M : mm_M) : Snd injI j6_curve mm_X0 35 [none, none, none, none] [.int s0] M (l6_curve_35  s0 M) := by
  unfold l6_curve_35
  exact sn_iret (j := j6_curve) (pc := 35) rfl dX6_curve_35
def f6_curve (x1 : Int32) (x2 : Int32) (x3 : Int32) (M : mm_M) : Option (Int32 × mm_M) :=
  bN (mNow M) (fun d_1 => if isD d_1 = true then (cI (f0_hasCurve d_1 x1 M) (fun r_2 M => if r_2 = 0 then (some ((-1), M)) else (if x2 = (-1) then (if x3 = 0 then (bN (mNow M) (fun d_10 => if isD d_10 = true then (aI (d_10 + 4) 4 x1 M (fun w_11 => l6_curve_35 w_11 M)) else none)) else (l6_curve_35 (-1) M)) else (if x2 < 0 then (l6_curve_53 M) else (bN (mNow M) (fun d_3 => if isD d_3 = true then (aI (d_3 + 4) 4 x1 M (fun w_4 => if x2 < w_4 then (if x3 = 0 then (bN (mNow M) (fun d_6 => if isD d_6 = true then (aI (d_6 + 5) 16 ((x1 * 4) + x2) M (fun w_7 => some (w_7, M))) else none)) else (if x3 = 1 then (bN (mNow M) (fun d_8 => if isD d_8 = true then (aI (d_8 + 6) 16 ((x1 * 4) + x2) M (fun w_9 => some (w_9, M))) else none)) else (some ((-1), M)))) else (l6_curve_53 M))) else none)))))) else none)
set_option maxHeartbeats 2000000 in
theorem s6_curve (x1 : Int32) (x2 : Int32) (x3 : Int32) (M : mm_M) : Snd injI j6_curve mm_X0 0 [some (.ref 1), some (.int x1), some (.int x2), some (.int x3)] [] M (f6_curve x1 x2 x3 M) := by
  refine Snd.wk (lo' := [some (.ref 1), some (.int x1), some (.int x2), some (.int x3)]) ?_ (by simp [mm_le])
  unfold f6_curve
  refine sn_aload_n (j := j6_curve) (pc := 0) rfl rfl dX6_curve_0 ?_
  refine g_X6_12 (j := j6_curve) (pc := 1) rfl dX6_curve_1 (fun d_1 => ?_)
  refine Snd.ite fun hd_1 => ?_
  refine sn_iload_n (j := j6_curve) (pc := 4) rfl rfl dX6_curve_4 ?_
  refine sn_callV (j := j6_curve) (pc := 5) (jc := j0_hasCurve) (As := [.int x1]) (s0_hasCurve d_1 x1 M) mm_hvI (by simp [Value.category]) (Nat.le_of_ble_eq_true rfl) q0_hasCurve rfl (by decide) rfl (isD_obj hd_1) (isD_pos hd_1) w_ml_X6_149 w_im_X0_hasCurve w_se_X0_hasCurve rfl (Nat.le_of_ble_eq_true rfl) dX6_curve_5 ?_
  rintro ⟨r_2, M⟩
  show Snd injI j6_curve mm_X0 8 [some (.ref 1), some (.int x1), some (.int x2), some (.int x3)] [.int r_2] M _
  refine sn_if_ne (j := j6_curve) (pc := 8) 13 rfl dX6_curve_8 ?_ ?_
  · refine sn_iload_n (j := j6_curve) (pc := 13) rfl rfl dX6_curve_13 ?_
    refine sn_iconst (j := j6_curve) (pc := 14) (-1) rfl dX6_curve_14 ?_
    refine sn_icmp_ne (j := j6_curve) (pc := 15) 36 rfl dX6_curve_15 ?_ ?_
    · refine sn_iload_n (j := j6_curve) (pc := 36) rfl rfl dX6_curve_36 ?_
      refine sn_if_lt (j := j6_curve) (pc := 37) 53 rfl dX6_curve_37 ?_ ?_
      · exact Snd.wk (sl6_curve_53 M) (by simp [mm_le])
      · refine sn_iload_n (j := j6_curve) (pc := 40) rfl rfl dX6_curve_40 ?_
        refine sn_aload_n (j := j6_curve) (pc := 41) rfl rfl dX6_curve_41 ?_
        refine g_X6_12 (j := j6_curve) (pc := 42) rfl dX6_curve_42 (fun d_3 => ?_)
        refine Snd.ite fun hd_3 => ?_
        refine g_X6_152 (j := j6_curve) (pc := 45) hd_3 rfl dX6_curve_45 ?_
        refine sn_iload_n (j := j6_curve) (pc := 48) rfl rfl dX6_curve_48 ?_
        refine sn_iald (j := j6_curve) (pc := 49) (isD_a4 hd_3) (isD_p4 hd_3) dX6_curve_49 (fun w_4 => ?_)
        refine sn_icmp_lt (j := j6_curve) (pc := 50) 55 rfl dX6_curve_50 ?_ ?_
        · refine sn_iload_n (j := j6_curve) (pc := 55) rfl rfl dX6_curve_55 ?_
          refine Snd.ifc (fun hx_5_0 => ?_) (fun hx_5_0 => ?_)
          · refine sn_lkp (j := j6_curve) (pc := 56) 84 dX6_curve_56 (by decide) (by rw [hx_5_0]) rfl ?_
            refine sn_aload_n (j := j6_curve) (pc := 84) rfl rfl dX6_curve_84 ?_
            refine g_X6_12 (j := j6_curve) (pc := 85) rfl dX6_curve_85 (fun d_6 => ?_)
            refine Snd.ite fun hd_6 => ?_
            refine g_X6_155 (j := j6_curve) (pc := 88) hd_6 rfl dX6_curve_88 ?_
            refine sn_iload_n (j := j6_curve) (pc := 91) rfl rfl dX6_curve_91 ?_
            refine sn_iconst (j := j6_curve) (pc := 92) 4 rfl dX6_curve_92 ?_
            refine sn_imul (j := j6_curve) (pc := 93) dX6_curve_93 ?_
            refine sn_iload_n (j := j6_curve) (pc := 94) rfl rfl dX6_curve_94 ?_
            refine sn_iadd (j := j6_curve) (pc := 95) dX6_curve_95 ?_
            refine sn_iald (j := j6_curve) (pc := 96) (isD_a5 hd_6) (isD_p5 hd_6) dX6_curve_96 (fun w_7 => ?_)
            exact sn_iret (j := j6_curve) (pc := 97) rfl dX6_curve_97
          refine Snd.ifc (fun hx_5_1 => ?_) (fun hx_5_1 => ?_)
          · refine sn_lkp (j := j6_curve) (pc := 56) 98 dX6_curve_56 (by decide) (by rw [hx_5_1]) rfl ?_
            refine sn_aload_n (j := j6_curve) (pc := 98) rfl rfl dX6_curve_98 ?_
            refine g_X6_12 (j := j6_curve) (pc := 99) rfl dX6_curve_99 (fun d_8 => ?_)
            refine Snd.ite fun hd_8 => ?_
            refine g_X6_158 (j := j6_curve) (pc := 102) hd_8 rfl dX6_curve_102 ?_
            refine sn_iload_n (j := j6_curve) (pc := 105) rfl rfl dX6_curve_105 ?_
            refine sn_iconst (j := j6_curve) (pc := 106) 4 rfl dX6_curve_106 ?_
            refine sn_imul (j := j6_curve) (pc := 107) dX6_curve_107 ?_
            refine sn_iload_n (j := j6_curve) (pc := 108) rfl rfl dX6_curve_108 ?_
            refine sn_iadd (j := j6_curve) (pc := 109) dX6_curve_109 ?_
            refine sn_iald (j := j6_curve) (pc := 110) (isD_a6 hd_8) (isD_p6 hd_8) dX6_curve_110 (fun w_9 => ?_)
            exact sn_iret (j := j6_curve) (pc := 111) rfl dX6_curve_111
          refine sn_lkp (j := j6_curve) (pc := 56) 112 dX6_curve_56 (by decide) ((lv_osw hx_5_0 (show (0 : Int32).toInt = 0 from rfl)).trans ((lv_osw hx_5_1 (show (1 : Int32).toInt = 1 from rfl)).trans rfl)) rfl ?_
          refine sn_iconst (j := j6_curve) (pc := 112) (-1) rfl dX6_curve_112 ?_
          exact sn_iret (j := j6_curve) (pc := 113) rfl dX6_curve_113
        · exact Snd.wk (sl6_curve_53 M) (by simp [mm_le])
    · refine sn_iload_n (j := j6_curve) (pc := 18) rfl rfl dX6_curve_18 ?_
      refine sn_if_ne (j := j6_curve) (pc := 19) 34 rfl dX6_curve_19 ?_ ?_
      · refine sn_iconst (j := j6_curve) (pc := 34) (-1) rfl dX6_curve_34 ?_
        exact Snd.wk (sl6_curve_35 (-1) M) (by simp [mm_le])
      · refine sn_aload_n (j := j6_curve) (pc := 22) rfl rfl dX6_curve_22 ?_
        refine g_X6_12 (j := j6_curve) (pc := 23) rfl dX6_curve_23 (fun d_10 => ?_)
        refine Snd.ite fun hd_10 => ?_
        refine g_X6_152 (j := j6_curve) (pc := 26) hd_10 rfl dX6_curve_26 ?_
        refine sn_iload_n (j := j6_curve) (pc := 29) rfl rfl dX6_curve_29 ?_
        refine sn_iald (j := j6_curve) (pc := 30) (isD_a4 hd_10) (isD_p4 hd_10) dX6_curve_30 (fun w_11 => ?_)
        refine sn_goto (j := j6_curve) (pc := 31) 35 rfl dX6_curve_31 ?_
        exact Snd.wk (sl6_curve_35 w_11 M) (by simp [mm_le])
  · refine sn_iconst (j := j6_curve) (pc := 11) (-1) rfl dX6_curve_11 ?_
    exact sn_iret (j := j6_curve) (pc := 12) rfl dX6_curve_12

abbrev j6_takes : mm_J := (yX6_takes, cX6_takes, 3, (some .int), 2)
theorem dX6_takes_0 : decode cX6_takes 0 = .ok (.aload_n 0, 1) := by decide +kernel
theorem dX6_takes_1 : decode cX6_takes 1 = .ok (.getfield 12, 3) := by decide +kernel
theorem dX6_takes_4 : decode cX6_takes 4 = .ok (.iload_n 1, 1) := by decide +kernel
theorem dX6_takes_5 : decode cX6_takes 5 = .ok (.iload_n 2, 1) := by decide +kernel
theorem dX6_takes_6 : decode cX6_takes 6 = .ok (.invokevirtual 161, 3) := by decide +kernel
theorem dX6_takes_9 : decode cX6_takes 9 = .ok (.ifCond .ne 5, 3) := by decide +kernel
theorem dX6_takes_12 : decode cX6_takes 12 = .ok (.iconst (-1), 1) := by decide +kernel
theorem dX6_takes_13 : decode cX6_takes 13 = .ok (.ireturn, 1) := by decide +kernel
theorem dX6_takes_14 : decode cX6_takes 14 = .ok (.aload_n 0, 1) := by decide +kernel
theorem dX6_takes_15 : decode cX6_takes 15 = .ok (.getfield 12, 3) := by decide +kernel
theorem dX6_takes_18 : decode cX6_takes 18 = .ok (.iload_n 1, 1) := by decide +kernel
theorem dX6_takes_19 : decode cX6_takes 19 = .ok (.iload_n 2, 1) := by decide +kernel
theorem dX6_takes_20 : decode cX6_takes 20 = .ok (.aload_n 0, 1) := by decide +kernel
theorem dX6_takes_21 : decode cX6_takes 21 = .ok (.getfield 12, 3) := by decide +kernel
theorem dX6_takes_24 : decode cX6_takes 24 = .ok (.getfield 132, 3) := by decide +kernel
theorem dX6_takes_27 : decode cX6_takes 27 = .ok (.iconst 1, 1) := by decide +kernel
theorem dX6_takes_28 : decode cX6_takes 28 = .ok (.iaload, 1) := by decide +kernel
theorem dX6_takes_29 : decode cX6_takes 29 = .ok (.invokevirtual 164, 3) := by decide +kernel
theorem dX6_takes_32 : decode cX6_takes 32 = .ok (.ireturn, 1) := by decide +kernel
def f6_takes (x1 : Int32) (x2 : Int32) (M : mm_M) : Option (Int32 × mm_M) :=
  bN (mNow M) (fun d_1 => if isD d_1 = true then (cI (f0_hasLevel d_1 x1 x2 M) (fun r_2 M => if r_2 = 0 then (some ((-1), M)) else (bN (mNow M) (fun d_3 => if isD d_3 = true then (bN (mNow M) (fun d_4 => if isD d_4 = true then (aI (d_4 + 1) 3 1 M (fun w_5 => cI (f0_gain d_3 x1 x2 w_5 M) (fun r_6 M => some (r_6, M)))) else none)) else none)))) else none)
set_option maxHeartbeats 2000000 in
theorem s6_takes (x1 : Int32) (x2 : Int32) (M : mm_M) : Snd injI j6_takes mm_X0 0 [some (.ref 1), some (.int x1), some (.int x2)] [] M (f6_takes x1 x2 M) := by
  refine Snd.wk (lo' := [some (.ref 1), some (.int x1), some (.int x2)]) ?_ (by simp [mm_le])
  unfold f6_takes
  refine sn_aload_n (j := j6_takes) (pc := 0) rfl rfl dX6_takes_0 ?_
  refine g_X6_12 (j := j6_takes) (pc := 1) rfl dX6_takes_1 (fun d_1 => ?_)
  refine Snd.ite fun hd_1 => ?_
  refine sn_iload_n (j := j6_takes) (pc := 4) rfl rfl dX6_takes_4 ?_
  refine sn_iload_n (j := j6_takes) (pc := 5) rfl rfl dX6_takes_5 ?_
  refine sn_callV (j := j6_takes) (pc := 6) (jc := j0_hasLevel) (As := [.int x1, .int x2]) (s0_hasLevel d_1 x1 x2 M) mm_hvI (by simp [Value.category]) (Nat.le_of_ble_eq_true rfl) q0_hasLevel rfl (by decide) rfl (isD_obj hd_1) (isD_pos hd_1) w_ml_X6_161 w_im_X0_hasLevel w_se_X0_hasLevel rfl (Nat.le_of_ble_eq_true rfl) dX6_takes_6 ?_
  rintro ⟨r_2, M⟩
  show Snd injI j6_takes mm_X0 9 [some (.ref 1), some (.int x1), some (.int x2)] [.int r_2] M _
  refine sn_if_ne (j := j6_takes) (pc := 9) 14 rfl dX6_takes_9 ?_ ?_
  · refine sn_aload_n (j := j6_takes) (pc := 14) rfl rfl dX6_takes_14 ?_
    refine g_X6_12 (j := j6_takes) (pc := 15) rfl dX6_takes_15 (fun d_3 => ?_)
    refine Snd.ite fun hd_3 => ?_
    refine sn_iload_n (j := j6_takes) (pc := 18) rfl rfl dX6_takes_18 ?_
    refine sn_iload_n (j := j6_takes) (pc := 19) rfl rfl dX6_takes_19 ?_
    refine sn_aload_n (j := j6_takes) (pc := 20) rfl rfl dX6_takes_20 ?_
    refine g_X6_12 (j := j6_takes) (pc := 21) rfl dX6_takes_21 (fun d_4 => ?_)
    refine Snd.ite fun hd_4 => ?_
    refine g_X6_132 (j := j6_takes) (pc := 24) hd_4 rfl dX6_takes_24 ?_
    refine sn_iconst (j := j6_takes) (pc := 27) 1 rfl dX6_takes_27 ?_
    refine sn_iald (j := j6_takes) (pc := 28) (isD_a1 hd_4) (isD_p1 hd_4) dX6_takes_28 (fun w_5 => ?_)
    refine sn_callV (j := j6_takes) (pc := 29) (jc := j0_gain) (As := [.int x1, .int x2, .int w_5]) (s0_gain d_3 x1 x2 w_5 M) mm_hvI (by simp [Value.category]) (Nat.le_of_ble_eq_true rfl) q0_gain rfl (by decide) rfl (isD_obj hd_3) (isD_pos hd_3) w_ml_X6_164 w_im_X0_gain w_se_X0_gain rfl (Nat.le_of_ble_eq_true rfl) dX6_takes_29 ?_
    rintro ⟨r_6, M⟩
    show Snd injI j6_takes mm_X0 32 [some (.ref 1), some (.int x1), some (.int x2)] [.int r_6] M _
    exact sn_iret (j := j6_takes) (pc := 32) rfl dX6_takes_32
  · refine sn_iconst (j := j6_takes) (pc := 12) (-1) rfl dX6_takes_12 ?_
    exact sn_iret (j := j6_takes) (pc := 13) rfl dX6_takes_13
