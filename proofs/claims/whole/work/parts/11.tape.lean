abbrev j5_isDigit : mm_J := (yX5_isDigit, cX5_isDigit, 2, (some .boolean), 0)
theorem dX5_isDigit_0 : decode cX5_isDigit 0 = .ok (.aload_n 0, 1) := by decide +kernel
theorem dX5_isDigit_1 : decode cX5_isDigit 1 = .ok (.getfield 9, 3) := by decide +kernel
theorem dX5_isDigit_4 : decode cX5_isDigit 4 = .ok (.iload_n 1, 1) := by decide +kernel
theorem dX5_isDigit_5 : decode cX5_isDigit 5 = .ok (.baload, 1) := by decide +kernel
theorem dX5_isDigit_6 : decode cX5_isDigit 6 = .ok (.bipush 48, 2) := by decide +kernel
theorem dX5_isDigit_8 : decode cX5_isDigit 8 = .ok (.if_icmp .lt 18, 3) := by decide +kernel
theorem dX5_isDigit_11 : decode cX5_isDigit 11 = .ok (.aload_n 0, 1) := by decide +kernel
theorem dX5_isDigit_12 : decode cX5_isDigit 12 = .ok (.getfield 9, 3) := by decide +kernel
theorem dX5_isDigit_15 : decode cX5_isDigit 15 = .ok (.iload_n 1, 1) := by decide +kernel
theorem dX5_isDigit_16 : decode cX5_isDigit 16 = .ok (.baload, 1) := by decide +kernel
theorem dX5_isDigit_17 : decode cX5_isDigit 17 = .ok (.bipush 57, 2) := by decide +kernel
theorem dX5_isDigit_19 : decode cX5_isDigit 19 = .ok (.if_icmp .gt 7, 3) := by decide +kernel
theorem dX5_isDigit_22 : decode cX5_isDigit 22 = .ok (.iconst 1, 1) := by decide +kernel
theorem dX5_isDigit_23 : decode cX5_isDigit 23 = .ok (.goto 4, 3) := by decide +kernel
theorem dX5_isDigit_26 : decode cX5_isDigit 26 = .ok (.iconst 0, 1) := by decide +kernel
theorem dX5_isDigit_27 : decode cX5_isDigit 27 = .ok (.ireturn, 1) := by decide +kernel
def l5_isDigit_27  (s0 : Int32) (M : mm_M) : Option (Int32 × mm_M) :=
  rZ s0 M
set_option maxHeartbeats 2000000 in
theorem sl5_isDigit_27   (s0 : Int32)  (M : mm_M) : Snd injI j5_isDigit mm_X0 27 [none, none] [.int s0] M (l5_isDigit_27  s0 M) := by
  unfold l5_isDigit_27
  exact sn_zret (j := j5_isDigit) (pc := 27) rfl dX5_isDigit_27
def l5_isDigit_26   (M : mm_M) : Option (Int32 × mm_M) :=
  l5_isDigit_27 0 M
set_option maxHeartbeats 2000000 in
theorem sl5_isDigit_26     (M : mm_M) : Snd injI j5_isDigit mm_X0 26 [none, none] [] M (l5_isDigit_26   M) := by
  unfold l5_isDigit_26
  refine sn_iconst (j := j5_isDigit) (pc := 26) 0 rfl dX5_isDigit_26 ?_
  exact Snd.wk (sl5_isDigit_27 0 M) (by simp [mm_le])
def f5_isDigit (x1 : Int32) (M : mm_M) : Option (Int32 × mm_M) :=
  aI 21 400 x1 M (fun w_1 => if w_1 < 48 then (l5_isDigit_26 M) else (aI 21 400 x1 M (fun w_2 => if 57 < w_2 then (l5_isDigit_26 M) else (l5_isDigit_27 1 M))))
set_option maxHeartbeats 2000000 in
theorem s5_isDigit (x1 : Int32) (M : mm_M) : Snd injI j5_isDigit mm_X0 0 [some (.ref 20), some (.int x1)] [] M (f5_isDigit x1 M) := by
  refine Snd.wk (lo' := [some (.ref 20), some (.int x1)]) ?_ (by simp [mm_le])
  unfold f5_isDigit
  refine sn_aload_n (j := j5_isDigit) (pc := 0) rfl rfl dX5_isDigit_0 ?_
  refine g_X5_9 (j := j5_isDigit) (pc := 1) rfl dX5_isDigit_1 ?_
  refine sn_iload_n (j := j5_isDigit) (pc := 4) rfl rfl dX5_isDigit_4 ?_
  refine sn_bald (j := j5_isDigit) (pc := 5) rfl ⟨by decide, by decide⟩ dX5_isDigit_5 (fun w_1 => ?_)
  refine sn_bipush (j := j5_isDigit) (pc := 6) 48 rfl dX5_isDigit_6 ?_
  refine sn_icmp_lt (j := j5_isDigit) (pc := 8) 26 rfl dX5_isDigit_8 ?_ ?_
  · exact Snd.wk (sl5_isDigit_26 M) (by simp [mm_le])
  · refine sn_aload_n (j := j5_isDigit) (pc := 11) rfl rfl dX5_isDigit_11 ?_
    refine g_X5_9 (j := j5_isDigit) (pc := 12) rfl dX5_isDigit_12 ?_
    refine sn_iload_n (j := j5_isDigit) (pc := 15) rfl rfl dX5_isDigit_15 ?_
    refine sn_bald (j := j5_isDigit) (pc := 16) rfl ⟨by decide, by decide⟩ dX5_isDigit_16 (fun w_2 => ?_)
    refine sn_bipush (j := j5_isDigit) (pc := 17) 57 rfl dX5_isDigit_17 ?_
    refine sn_icmp_gt (j := j5_isDigit) (pc := 19) 26 rfl dX5_isDigit_19 ?_ ?_
    · exact Snd.wk (sl5_isDigit_26 M) (by simp [mm_le])
    · refine sn_iconst (j := j5_isDigit) (pc := 22) 1 rfl dX5_isDigit_22 ?_
      refine sn_goto (j := j5_isDigit) (pc := 23) 27 rfl dX5_isDigit_23 ?_
      exact Snd.wk (sl5_isDigit_27 1 M) (by simp [mm_le])

abbrev j5_readNumber : mm_J := (yX5_readNumber, cX5_readNumber, 1, none, 1)
theorem dX5_readNumber_0 : decode cX5_readNumber 0 = .ok (.aload_n 0, 1) := by decide +kernel
theorem dX5_readNumber_1 : decode cX5_readNumber 1 = .ok (.iconst 2, 1) := by decide +kernel
theorem dX5_readNumber_2 : decode cX5_readNumber 2 = .ok (.putfield 19, 3) := by decide +kernel
theorem dX5_readNumber_5 : decode cX5_readNumber 5 = .ok (.aload_n 0, 1) := by decide +kernel
theorem dX5_readNumber_6 : decode cX5_readNumber 6 = .ok (.iconst 0, 1) := by decide +kernel
theorem dX5_readNumber_7 : decode cX5_readNumber 7 = .ok (.putfield 25, 3) := by decide +kernel
theorem dX5_readNumber_10 : decode cX5_readNumber 10 = .ok (.aload_n 0, 1) := by decide +kernel
theorem dX5_readNumber_11 : decode cX5_readNumber 11 = .ok (.getfield 28, 3) := by decide +kernel
theorem dX5_readNumber_14 : decode cX5_readNumber 14 = .ok (.aload_n 0, 1) := by decide +kernel
theorem dX5_readNumber_15 : decode cX5_readNumber 15 = .ok (.getfield 15, 3) := by decide +kernel
theorem dX5_readNumber_18 : decode cX5_readNumber 18 = .ok (.if_icmp .ge 64, 3) := by decide +kernel
theorem dX5_readNumber_21 : decode cX5_readNumber 21 = .ok (.aload_n 0, 1) := by decide +kernel
theorem dX5_readNumber_22 : decode cX5_readNumber 22 = .ok (.aload_n 0, 1) := by decide +kernel
theorem dX5_readNumber_23 : decode cX5_readNumber 23 = .ok (.getfield 28, 3) := by decide +kernel
theorem dX5_readNumber_26 : decode cX5_readNumber 26 = .ok (.invokevirtual 34, 3) := by decide +kernel
theorem dX5_readNumber_29 : decode cX5_readNumber 29 = .ok (.ifCond .eq 53, 3) := by decide +kernel
theorem dX5_readNumber_32 : decode cX5_readNumber 32 = .ok (.aload_n 0, 1) := by decide +kernel
theorem dX5_readNumber_33 : decode cX5_readNumber 33 = .ok (.getfield 28, 3) := by decide +kernel
theorem dX5_readNumber_36 : decode cX5_readNumber 36 = .ok (.aload_n 0, 1) := by decide +kernel
theorem dX5_readNumber_37 : decode cX5_readNumber 37 = .ok (.getfield 22, 3) := by decide +kernel
theorem dX5_readNumber_40 : decode cX5_readNumber 40 = .ok (.isub, 1) := by decide +kernel
theorem dX5_readNumber_41 : decode cX5_readNumber 41 = .ok (.iconst 4, 1) := by decide +kernel
theorem dX5_readNumber_42 : decode cX5_readNumber 42 = .ok (.if_icmp .ge 27, 3) := by decide +kernel
theorem dX5_readNumber_45 : decode cX5_readNumber 45 = .ok (.aload_n 0, 1) := by decide +kernel
theorem dX5_readNumber_46 : decode cX5_readNumber 46 = .ok (.aload_n 0, 1) := by decide +kernel
theorem dX5_readNumber_47 : decode cX5_readNumber 47 = .ok (.getfield 25, 3) := by decide +kernel
theorem dX5_readNumber_50 : decode cX5_readNumber 50 = .ok (.bipush 10, 2) := by decide +kernel
theorem dX5_readNumber_52 : decode cX5_readNumber 52 = .ok (.imul, 1) := by decide +kernel
theorem dX5_readNumber_53 : decode cX5_readNumber 53 = .ok (.aload_n 0, 1) := by decide +kernel
theorem dX5_readNumber_54 : decode cX5_readNumber 54 = .ok (.getfield 9, 3) := by decide +kernel
theorem dX5_readNumber_57 : decode cX5_readNumber 57 = .ok (.aload_n 0, 1) := by decide +kernel
theorem dX5_readNumber_58 : decode cX5_readNumber 58 = .ok (.getfield 28, 3) := by decide +kernel
theorem dX5_readNumber_61 : decode cX5_readNumber 61 = .ok (.baload, 1) := by decide +kernel
theorem dX5_readNumber_62 : decode cX5_readNumber 62 = .ok (.iadd, 1) := by decide +kernel
theorem dX5_readNumber_63 : decode cX5_readNumber 63 = .ok (.bipush 48, 2) := by decide +kernel
theorem dX5_readNumber_65 : decode cX5_readNumber 65 = .ok (.isub, 1) := by decide +kernel
theorem dX5_readNumber_66 : decode cX5_readNumber 66 = .ok (.putfield 25, 3) := by decide +kernel
theorem dX5_readNumber_69 : decode cX5_readNumber 69 = .ok (.aload_n 0, 1) := by decide +kernel
theorem dX5_readNumber_70 : decode cX5_readNumber 70 = .ok (.dup, 1) := by decide +kernel
theorem dX5_readNumber_71 : decode cX5_readNumber 71 = .ok (.getfield 28, 3) := by decide +kernel
theorem dX5_readNumber_74 : decode cX5_readNumber 74 = .ok (.iconst 1, 1) := by decide +kernel
theorem dX5_readNumber_75 : decode cX5_readNumber 75 = .ok (.iadd, 1) := by decide +kernel
theorem dX5_readNumber_76 : decode cX5_readNumber 76 = .ok (.putfield 28, 3) := by decide +kernel
theorem dX5_readNumber_79 : decode cX5_readNumber 79 = .ok (.goto (-69), 3) := by decide +kernel
theorem dX5_readNumber_82 : decode cX5_readNumber 82 = .ok (.aload_n 0, 1) := by decide +kernel
theorem dX5_readNumber_83 : decode cX5_readNumber 83 = .ok (.getfield 28, 3) := by decide +kernel
theorem dX5_readNumber_86 : decode cX5_readNumber 86 = .ok (.aload_n 0, 1) := by decide +kernel
theorem dX5_readNumber_87 : decode cX5_readNumber 87 = .ok (.getfield 22, 3) := by decide +kernel
theorem dX5_readNumber_90 : decode cX5_readNumber 90 = .ok (.isub, 1) := by decide +kernel
theorem dX5_readNumber_91 : decode cX5_readNumber 91 = .ok (.iconst 4, 1) := by decide +kernel
theorem dX5_readNumber_92 : decode cX5_readNumber 92 = .ok (.if_icmp .le 8, 3) := by decide +kernel
theorem dX5_readNumber_95 : decode cX5_readNumber 95 = .ok (.aload_n 0, 1) := by decide +kernel
theorem dX5_readNumber_96 : decode cX5_readNumber 96 = .ok (.iconst (-1), 1) := by decide +kernel
theorem dX5_readNumber_97 : decode cX5_readNumber 97 = .ok (.putfield 25, 3) := by decide +kernel
theorem dX5_readNumber_100 : decode cX5_readNumber 100 = .ok (.return_, 1) := by decide +kernel
def l5_readNumber_100   (M : mm_M) : Option (mm_M) :=
  some M
set_option maxHeartbeats 2000000 in
theorem sl5_readNumber_100     (M : mm_M) : Snd injV j5_readNumber mm_X0 100 [none] [] M (l5_readNumber_100   M) := by
  unfold l5_readNumber_100
  exact sn_vret (j := j5_readNumber) (pc := 100) rfl dX5_readNumber_100
def l5_readNumber_82   (M : mm_M) : Option (mm_M) :=
  bI (mI M 20 5) (fun v_1 => bI (mI M 20 3) (fun v_2 => if (v_1 - v_2) ≤ 4 then (l5_readNumber_100 M) else (bM (sI M 20 4 (-1)) (fun M => l5_readNumber_100 M))))
set_option maxHeartbeats 2000000 in
theorem sl5_readNumber_82     (M : mm_M) : Snd injV j5_readNumber mm_X0 82 [some (.ref 20)] [] M (l5_readNumber_82   M) := by
  unfold l5_readNumber_82
  refine sn_aload_n (j := j5_readNumber) (pc := 82) rfl rfl dX5_readNumber_82 ?_
  refine g_X5_28 (j := j5_readNumber) (pc := 83) rfl dX5_readNumber_83 ?_
  refine Snd.bI (fun v_1 => ?_)
  refine sn_aload_n (j := j5_readNumber) (pc := 86) rfl rfl dX5_readNumber_86 ?_
  refine g_X5_22 (j := j5_readNumber) (pc := 87) rfl dX5_readNumber_87 ?_
  refine Snd.bI (fun v_2 => ?_)
  refine sn_isub (j := j5_readNumber) (pc := 90) dX5_readNumber_90 ?_
  refine sn_iconst (j := j5_readNumber) (pc := 91) 4 rfl dX5_readNumber_91 ?_
  refine sn_icmp_le (j := j5_readNumber) (pc := 92) 100 rfl dX5_readNumber_92 ?_ ?_
  · exact Snd.wk (sl5_readNumber_100 M) (by simp [mm_le])
  · refine sn_aload_n (j := j5_readNumber) (pc := 95) rfl rfl dX5_readNumber_95 ?_
    refine sn_iconst (j := j5_readNumber) (pc := 96) (-1) rfl dX5_readNumber_96 ?_
    refine p_X5_25 (j := j5_readNumber) (pc := 97) rfl dX5_readNumber_97 (fun M => ?_)
    exact Snd.wk (sl5_readNumber_100 M) (by simp [mm_le])
def l5_readNumber_69 (rec10 : mm_M → Option (mm_M))  (M : mm_M) : Option (mm_M) :=
  bI (mI M 20 5) (fun v_3 => bM (sI M 20 5 (v_3 + 1)) (fun M => rec10 M))
set_option maxHeartbeats 2000000 in
theorem sl5_readNumber_69 (rec10 : mm_M → Option (mm_M)) (hrec10 : ∀  (M : mm_M), Snd injV j5_readNumber mm_X0 10 [some (.ref 20)] [] M (rec10  M))   (M : mm_M) : Snd injV j5_readNumber mm_X0 69 [some (.ref 20)] [] M (l5_readNumber_69 rec10  M) := by
  unfold l5_readNumber_69
  refine sn_aload_n (j := j5_readNumber) (pc := 69) rfl rfl dX5_readNumber_69 ?_
  refine sn_dup (j := j5_readNumber) (pc := 70) rfl dX5_readNumber_70 ?_
  refine g_X5_28 (j := j5_readNumber) (pc := 71) rfl dX5_readNumber_71 ?_
  refine Snd.bI (fun v_3 => ?_)
  refine sn_iconst (j := j5_readNumber) (pc := 74) 1 rfl dX5_readNumber_74 ?_
  refine sn_iadd (j := j5_readNumber) (pc := 75) dX5_readNumber_75 ?_
  refine p_X5_28 (j := j5_readNumber) (pc := 76) rfl dX5_readNumber_76 (fun M => ?_)
  refine sn_goto (j := j5_readNumber) (pc := 79) 10 rfl dX5_readNumber_79 ?_
  exact Snd.wk (hrec10 M ) (by simp [mm_le])
def b5_readNumber_10  (rec10 : mm_M → Option (mm_M))  (M : mm_M) : Option (mm_M) :=
  bI (mI M 20 5) (fun v_4 => bI (mI M 20 1) (fun v_5 => if v_5 ≤ v_4 then (l5_readNumber_82 M) else (bI (mI M 20 5) (fun v_6 => cI (f5_isDigit v_6 M) (fun r_7 M => if r_7 = 0 then (l5_readNumber_82 M) else (bI (mI M 20 5) (fun v_8 => bI (mI M 20 3) (fun v_9 => if 4 ≤ (v_8 - v_9) then (l5_readNumber_69 rec10 M) else (bI (mI M 20 4) (fun v_10 => bI (mI M 20 5) (fun v_11 => aI 21 400 v_11 M (fun w_12 => bM (sI M 20 4 (((v_10 * 10) + w_12) - 48)) (fun M => l5_readNumber_69 rec10 M)))))))))))))
set_option maxHeartbeats 2000000 in
theorem sb5_readNumber_10   (rec10 : mm_M → Option (mm_M)) (hrec10 : ∀  (M : mm_M), Snd injV j5_readNumber mm_X0 10 [some (.ref 20)] [] M (rec10  M))   (M : mm_M) : Snd injV j5_readNumber mm_X0 10 [some (.ref 20)] [] M (b5_readNumber_10  rec10  M) := by
  unfold b5_readNumber_10
  refine sn_aload_n (j := j5_readNumber) (pc := 10) rfl rfl dX5_readNumber_10 ?_
  refine g_X5_28 (j := j5_readNumber) (pc := 11) rfl dX5_readNumber_11 ?_
  refine Snd.bI (fun v_4 => ?_)
  refine sn_aload_n (j := j5_readNumber) (pc := 14) rfl rfl dX5_readNumber_14 ?_
  refine g_X5_15 (j := j5_readNumber) (pc := 15) rfl dX5_readNumber_15 ?_
  refine Snd.bI (fun v_5 => ?_)
  refine sn_icmp_ge (j := j5_readNumber) (pc := 18) 82 rfl dX5_readNumber_18 ?_ ?_
  · exact Snd.wk (sl5_readNumber_82 M) (by simp [mm_le])
  · refine sn_aload_n (j := j5_readNumber) (pc := 21) rfl rfl dX5_readNumber_21 ?_
    refine sn_aload_n (j := j5_readNumber) (pc := 22) rfl rfl dX5_readNumber_22 ?_
    refine g_X5_28 (j := j5_readNumber) (pc := 23) rfl dX5_readNumber_23 ?_
    refine Snd.bI (fun v_6 => ?_)
    refine sn_callV (j := j5_readNumber) (pc := 26) (jc := j5_isDigit) (As := [.int v_6]) (s5_isDigit v_6 M) mm_hvI (by simp [Value.category]) (Nat.le_of_ble_eq_true rfl) q5_isDigit rfl (by decide) rfl rfl ⟨by decide, by decide⟩ w_ml_X5_34 w_im_X5_isDigit w_se_X5_isDigit rfl (Nat.le_of_ble_eq_true rfl) dX5_readNumber_26 ?_
    rintro ⟨r_7, M⟩
    show Snd injV j5_readNumber mm_X0 29 [some (.ref 20)] [.int r_7] M _
    refine sn_if_eq (j := j5_readNumber) (pc := 29) 82 rfl dX5_readNumber_29 ?_ ?_
    · exact Snd.wk (sl5_readNumber_82 M) (by simp [mm_le])
    · refine sn_aload_n (j := j5_readNumber) (pc := 32) rfl rfl dX5_readNumber_32 ?_
      refine g_X5_28 (j := j5_readNumber) (pc := 33) rfl dX5_readNumber_33 ?_
      refine Snd.bI (fun v_8 => ?_)
      refine sn_aload_n (j := j5_readNumber) (pc := 36) rfl rfl dX5_readNumber_36 ?_
      refine g_X5_22 (j := j5_readNumber) (pc := 37) rfl dX5_readNumber_37 ?_
      refine Snd.bI (fun v_9 => ?_)
      refine sn_isub (j := j5_readNumber) (pc := 40) dX5_readNumber_40 ?_
      refine sn_iconst (j := j5_readNumber) (pc := 41) 4 rfl dX5_readNumber_41 ?_
      refine sn_icmp_ge (j := j5_readNumber) (pc := 42) 69 rfl dX5_readNumber_42 ?_ ?_
      · exact Snd.wk (sl5_readNumber_69 rec10 hrec10 M) (by simp [mm_le])
      · refine sn_aload_n (j := j5_readNumber) (pc := 45) rfl rfl dX5_readNumber_45 ?_
        refine sn_aload_n (j := j5_readNumber) (pc := 46) rfl rfl dX5_readNumber_46 ?_
        refine g_X5_25 (j := j5_readNumber) (pc := 47) rfl dX5_readNumber_47 ?_
        refine Snd.bI (fun v_10 => ?_)
        refine sn_bipush (j := j5_readNumber) (pc := 50) 10 rfl dX5_readNumber_50 ?_
        refine sn_imul (j := j5_readNumber) (pc := 52) dX5_readNumber_52 ?_
        refine sn_aload_n (j := j5_readNumber) (pc := 53) rfl rfl dX5_readNumber_53 ?_
        refine g_X5_9 (j := j5_readNumber) (pc := 54) rfl dX5_readNumber_54 ?_
        refine sn_aload_n (j := j5_readNumber) (pc := 57) rfl rfl dX5_readNumber_57 ?_
        refine g_X5_28 (j := j5_readNumber) (pc := 58) rfl dX5_readNumber_58 ?_
        refine Snd.bI (fun v_11 => ?_)
        refine sn_bald (j := j5_readNumber) (pc := 61) rfl ⟨by decide, by decide⟩ dX5_readNumber_61 (fun w_12 => ?_)
        refine sn_iadd (j := j5_readNumber) (pc := 62) dX5_readNumber_62 ?_
        refine sn_bipush (j := j5_readNumber) (pc := 63) 48 rfl dX5_readNumber_63 ?_
        refine sn_isub (j := j5_readNumber) (pc := 65) dX5_readNumber_65 ?_
        refine p_X5_25 (j := j5_readNumber) (pc := 66) rfl dX5_readNumber_66 (fun M => ?_)
        exact Snd.wk (sl5_readNumber_69 rec10 hrec10 M) (by simp [mm_le])
def l5_readNumber_10  : Nat → mm_M → Option (mm_M)
  | 0 => fun  _ => none
  | n + 1 => fun  M => b5_readNumber_10  (l5_readNumber_10  n)  M
theorem sl5_readNumber_10   : ∀ (n : Nat)   (M : mm_M), Snd injV j5_readNumber mm_X0 10 [some (.ref 20)] [] M (l5_readNumber_10  n  M)
  | 0 => fun   _ => Snd.none
  | n + 1 => fun   M => sb5_readNumber_10   (l5_readNumber_10  n) (fun  M  => sl5_readNumber_10   n   M)   M
def f5_readNumber  (M : mm_M) : Option (mm_M) :=
  bM (sI M 20 2 2) (fun M => bM (sI M 20 4 0) (fun M => l5_readNumber_10 FU M))
set_option maxHeartbeats 2000000 in
theorem s5_readNumber  (M : mm_M) : Snd injV j5_readNumber mm_X0 0 [some (.ref 20)] [] M (f5_readNumber  M) := by
  refine Snd.wk (lo' := [some (.ref 20)]) ?_ (by simp [mm_le])
  unfold f5_readNumber
  refine sn_aload_n (j := j5_readNumber) (pc := 0) rfl rfl dX5_readNumber_0 ?_
  refine sn_iconst (j := j5_readNumber) (pc := 1) 2 rfl dX5_readNumber_1 ?_
  refine p_X5_19 (j := j5_readNumber) (pc := 2) rfl dX5_readNumber_2 (fun M => ?_)
  refine sn_aload_n (j := j5_readNumber) (pc := 5) rfl rfl dX5_readNumber_5 ?_
  refine sn_iconst (j := j5_readNumber) (pc := 6) 0 rfl dX5_readNumber_6 ?_
  refine p_X5_25 (j := j5_readNumber) (pc := 7) rfl dX5_readNumber_7 (fun M => ?_)
  exact Snd.wk (sl5_readNumber_10 FU M) (by simp [mm_le])

abbrev j5_isLetter : mm_J := (yX5_isLetter, cX5_isLetter, 2, (some .boolean), 0)
theorem dX5_isLetter_0 : decode cX5_isLetter 0 = .ok (.aload_n 0, 1) := by decide +kernel
theorem dX5_isLetter_1 : decode cX5_isLetter 1 = .ok (.getfield 9, 3) := by decide +kernel
theorem dX5_isLetter_4 : decode cX5_isLetter 4 = .ok (.iload_n 1, 1) := by decide +kernel
theorem dX5_isLetter_5 : decode cX5_isLetter 5 = .ok (.baload, 1) := by decide +kernel
theorem dX5_isLetter_6 : decode cX5_isLetter 6 = .ok (.bipush 97, 2) := by decide +kernel
theorem dX5_isLetter_8 : decode cX5_isLetter 8 = .ok (.if_icmp .lt 18, 3) := by decide +kernel
theorem dX5_isLetter_11 : decode cX5_isLetter 11 = .ok (.aload_n 0, 1) := by decide +kernel
theorem dX5_isLetter_12 : decode cX5_isLetter 12 = .ok (.getfield 9, 3) := by decide +kernel
theorem dX5_isLetter_15 : decode cX5_isLetter 15 = .ok (.iload_n 1, 1) := by decide +kernel
theorem dX5_isLetter_16 : decode cX5_isLetter 16 = .ok (.baload, 1) := by decide +kernel
theorem dX5_isLetter_17 : decode cX5_isLetter 17 = .ok (.bipush 122, 2) := by decide +kernel
theorem dX5_isLetter_19 : decode cX5_isLetter 19 = .ok (.if_icmp .gt 7, 3) := by decide +kernel
theorem dX5_isLetter_22 : decode cX5_isLetter 22 = .ok (.iconst 1, 1) := by decide +kernel
theorem dX5_isLetter_23 : decode cX5_isLetter 23 = .ok (.goto 4, 3) := by decide +kernel
theorem dX5_isLetter_26 : decode cX5_isLetter 26 = .ok (.iconst 0, 1) := by decide +kernel
theorem dX5_isLetter_27 : decode cX5_isLetter 27 = .ok (.ireturn, 1) := by decide +kernel
def l5_isLetter_27  (s0 : Int32) (M : mm_M) : Option (Int32 × mm_M) :=
  rZ s0 M
set_option maxHeartbeats 2000000 in
theorem sl5_isLetter_27   (s0 : Int32)  (M : mm_M) : Snd injI j5_isLetter mm_X0 27 [none, none] [.int s0] M (l5_isLetter_27  s0 M) := by
  unfold l5_isLetter_27
  exact sn_zret (j := j5_isLetter) (pc := 27) rfl dX5_isLetter_27
def l5_isLetter_26   (M : mm_M) : Option (Int32 × mm_M) :=
  l5_isLetter_27 0 M
set_option maxHeartbeats 2000000 in
theorem sl5_isLetter_26     (M : mm_M) : Snd injI j5_isLetter mm_X0 26 [none, none] [] M (l5_isLetter_26   M) := by
  unfold l5_isLetter_26
  refine sn_iconst (j := j5_isLetter) (pc := 26) 0 rfl dX5_isLetter_26 ?_
  exact Snd.wk (sl5_isLetter_27 0 M) (by simp [mm_le])
def f5_isLetter (x1 : Int32) (M : mm_M) : Option (Int32 × mm_M) :=
  aI 21 400 x1 M (fun w_1 => if w_1 < 97 then (l5_isLetter_26 M) else (aI 21 400 x1 M (fun w_2 => if 122 < w_2 then (l5_isLetter_26 M) else (l5_isLetter_27 1 M))))
set_option maxHeartbeats 2000000 in
theorem s5_isLetter (x1 : Int32) (M : mm_M) : Snd injI j5_isLetter mm_X0 0 [some (.ref 20), some (.int x1)] [] M (f5_isLetter x1 M) := by
  refine Snd.wk (lo' := [some (.ref 20), some (.int x1)]) ?_ (by simp [mm_le])
  unfold f5_isLetter
  refine sn_aload_n (j := j5_isLetter) (pc := 0) rfl rfl dX5_isLetter_0 ?_
  refine g_X5_9 (j := j5_isLetter) (pc := 1) rfl dX5_isLetter_1 ?_
  refine sn_iload_n (j := j5_isLetter) (pc := 4) rfl rfl dX5_isLetter_4 ?_
  refine sn_bald (j := j5_isLetter) (pc := 5) rfl ⟨by decide, by decide⟩ dX5_isLetter_5 (fun w_1 => ?_)
  refine sn_bipush (j := j5_isLetter) (pc := 6) 97 rfl dX5_isLetter_6 ?_
  refine sn_icmp_lt (j := j5_isLetter) (pc := 8) 26 rfl dX5_isLetter_8 ?_ ?_
  · exact Snd.wk (sl5_isLetter_26 M) (by simp [mm_le])
  · refine sn_aload_n (j := j5_isLetter) (pc := 11) rfl rfl dX5_isLetter_11 ?_
    refine g_X5_9 (j := j5_isLetter) (pc := 12) rfl dX5_isLetter_12 ?_
    refine sn_iload_n (j := j5_isLetter) (pc := 15) rfl rfl dX5_isLetter_15 ?_
    refine sn_bald (j := j5_isLetter) (pc := 16) rfl ⟨by decide, by decide⟩ dX5_isLetter_16 (fun w_2 => ?_)
    refine sn_bipush (j := j5_isLetter) (pc := 17) 122 rfl dX5_isLetter_17 ?_
    refine sn_icmp_gt (j := j5_isLetter) (pc := 19) 26 rfl dX5_isLetter_19 ?_ ?_
    · exact Snd.wk (sl5_isLetter_26 M) (by simp [mm_le])
    · refine sn_iconst (j := j5_isLetter) (pc := 22) 1 rfl dX5_isLetter_22 ?_
      refine sn_goto (j := j5_isLetter) (pc := 23) 27 rfl dX5_isLetter_23 ?_
      exact Snd.wk (sl5_isLetter_27 1 M) (by simp [mm_le])

abbrev j5_readWord : mm_J := (yX5_readWord, cX5_readWord, 1, none, 1)
theorem dX5_readWord_0 : decode cX5_readWord 0 = .ok (.aload_n 0, 1) := by decide +kernel
theorem dX5_readWord_1 : decode cX5_readWord 1 = .ok (.iconst 1, 1) := by decide +kernel
theorem dX5_readWord_2 : decode cX5_readWord 2 = .ok (.putfield 19, 3) := by decide +kernel
theorem dX5_readWord_5 : decode cX5_readWord 5 = .ok (.aload_n 0, 1) := by decide +kernel
theorem dX5_readWord_6 : decode cX5_readWord 6 = .ok (.getfield 28, 3) := by decide +kernel
theorem dX5_readWord_9 : decode cX5_readWord 9 = .ok (.aload_n 0, 1) := by decide +kernel
theorem dX5_readWord_10 : decode cX5_readWord 10 = .ok (.getfield 15, 3) := by decide +kernel
theorem dX5_readWord_13 : decode cX5_readWord 13 = .ok (.if_icmp .ge 27, 3) := by decide +kernel
theorem dX5_readWord_16 : decode cX5_readWord 16 = .ok (.aload_n 0, 1) := by decide +kernel
theorem dX5_readWord_17 : decode cX5_readWord 17 = .ok (.aload_n 0, 1) := by decide +kernel
theorem dX5_readWord_18 : decode cX5_readWord 18 = .ok (.getfield 28, 3) := by decide +kernel
theorem dX5_readWord_21 : decode cX5_readWord 21 = .ok (.invokevirtual 41, 3) := by decide +kernel
theorem dX5_readWord_24 : decode cX5_readWord 24 = .ok (.ifCond .eq 16, 3) := by decide +kernel
theorem dX5_readWord_27 : decode cX5_readWord 27 = .ok (.aload_n 0, 1) := by decide +kernel
theorem dX5_readWord_28 : decode cX5_readWord 28 = .ok (.dup, 1) := by decide +kernel
theorem dX5_readWord_29 : decode cX5_readWord 29 = .ok (.getfield 28, 3) := by decide +kernel
theorem dX5_readWord_32 : decode cX5_readWord 32 = .ok (.iconst 1, 1) := by decide +kernel
theorem dX5_readWord_33 : decode cX5_readWord 33 = .ok (.iadd, 1) := by decide +kernel
theorem dX5_readWord_34 : decode cX5_readWord 34 = .ok (.putfield 28, 3) := by decide +kernel
theorem dX5_readWord_37 : decode cX5_readWord 37 = .ok (.goto (-32), 3) := by decide +kernel
theorem dX5_readWord_40 : decode cX5_readWord 40 = .ok (.return_, 1) := by decide +kernel
def l5_readWord_40   (M : mm_M) : Option (mm_M) :=
  some M
set_option maxHeartbeats 2000000 in
theorem sl5_readWord_40     (M : mm_M) : Snd injV j5_readWord mm_X0 40 [none] [] M (l5_readWord_40   M) := by
  unfold l5_readWord_40
  exact sn_vret (j := j5_readWord) (pc := 40) rfl dX5_readWord_40
def b5_readWord_5  (rec5 : mm_M → Option (mm_M))  (M : mm_M) : Option (mm_M) :=
  bI (mI M 20 5) (fun v_1 => bI (mI M 20 1) (fun v_2 => if v_2 ≤ v_1 then (l5_readWord_40 M) else (bI (mI M 20 5) (fun v_3 => cI (f5_isLetter v_3 M) (fun r_4 M => if r_4 = 0 then (l5_readWord_40 M) else (bI (mI M 20 5) (fun v_5 => bM (sI M 20 5 (v_5 + 1)) (fun M => rec5 M))))))))
set_option maxHeartbeats 2000000 in
theorem sb5_readWord_5   (rec5 : mm_M → Option (mm_M)) (hrec5 : ∀  (M : mm_M), Snd injV j5_readWord mm_X0 5 [some (.ref 20)] [] M (rec5  M))   (M : mm_M) : Snd injV j5_readWord mm_X0 5 [some (.ref 20)] [] M (b5_readWord_5  rec5  M) := by
  unfold b5_readWord_5
  refine sn_aload_n (j := j5_readWord) (pc := 5) rfl rfl dX5_readWord_5 ?_
  refine g_X5_28 (j := j5_readWord) (pc := 6) rfl dX5_readWord_6 ?_
  refine Snd.bI (fun v_1 => ?_)
  refine sn_aload_n (j := j5_readWord) (pc := 9) rfl rfl dX5_readWord_9 ?_
  refine g_X5_15 (j := j5_readWord) (pc := 10) rfl dX5_readWord_10 ?_
  refine Snd.bI (fun v_2 => ?_)
  refine sn_icmp_ge (j := j5_readWord) (pc := 13) 40 rfl dX5_readWord_13 ?_ ?_
  · exact Snd.wk (sl5_readWord_40 M) (by simp [mm_le])
  · refine sn_aload_n (j := j5_readWord) (pc := 16) rfl rfl dX5_readWord_16 ?_
    refine sn_aload_n (j := j5_readWord) (pc := 17) rfl rfl dX5_readWord_17 ?_
    refine g_X5_28 (j := j5_readWord) (pc := 18) rfl dX5_readWord_18 ?_
    refine Snd.bI (fun v_3 => ?_)
    refine sn_callV (j := j5_readWord) (pc := 21) (jc := j5_isLetter) (As := [.int v_3]) (s5_isLetter v_3 M) mm_hvI (by simp [Value.category]) (Nat.le_of_ble_eq_true rfl) q5_isLetter rfl (by decide) rfl rfl ⟨by decide, by decide⟩ w_ml_X5_41 w_im_X5_isLetter w_se_X5_isLetter rfl (Nat.le_of_ble_eq_true rfl) dX5_readWord_21 ?_
    rintro ⟨r_4, M⟩
    show Snd injV j5_readWord mm_X0 24 [some (.ref 20)] [.int r_4] M _
    refine sn_if_eq (j := j5_readWord) (pc := 24) 40 rfl dX5_readWord_24 ?_ ?_
    · exact Snd.wk (sl5_readWord_40 M) (by simp [mm_le])
    · refine sn_aload_n (j := j5_readWord) (pc := 27) rfl rfl dX5_readWord_27 ?_
      refine sn_dup (j := j5_readWord) (pc := 28) rfl dX5_readWord_28 ?_
      refine g_X5_28 (j := j5_readWord) (pc := 29) rfl dX5_readWord_29 ?_
      refine Snd.bI (fun v_5 => ?_)
      refine sn_iconst (j := j5_readWord) (pc := 32) 1 rfl dX5_readWord_32 ?_
      refine sn_iadd (j := j5_readWord) (pc := 33) dX5_readWord_33 ?_
      refine p_X5_28 (j := j5_readWord) (pc := 34) rfl dX5_readWord_34 (fun M => ?_)
      refine sn_goto (j := j5_readWord) (pc := 37) 5 rfl dX5_readWord_37 ?_
      exact Snd.wk (hrec5 M ) (by simp [mm_le])
def l5_readWord_5  : Nat → mm_M → Option (mm_M)
  | 0 => fun  _ => none
  | n + 1 => fun  M => b5_readWord_5  (l5_readWord_5  n)  M
theorem sl5_readWord_5   : ∀ (n : Nat)   (M : mm_M), Snd injV j5_readWord mm_X0 5 [some (.ref 20)] [] M (l5_readWord_5  n  M)
  | 0 => fun   _ => Snd.none
  | n + 1 => fun   M => sb5_readWord_5   (l5_readWord_5  n) (fun  M  => sl5_readWord_5   n   M)   M
def f5_readWord  (M : mm_M) : Option (mm_M) :=
  bM (sI M 20 2 1) (fun M => l5_readWord_5 FU M)
set_option maxHeartbeats 2000000 in
theorem s5_readWord  (M : mm_M) : Snd injV j5_readWord mm_X0 0 [some (.ref 20)] [] M (f5_readWord  M) := by
  refine Snd.wk (lo' := [some (.ref 20)]) ?_ (by simp [mm_le])
  unfold f5_readWord
  refine sn_aload_n (j := j5_readWord) (pc := 0) rfl rfl dX5_readWord_0 ?_
  refine sn_iconst (j := j5_readWord) (pc := 1) 1 rfl dX5_readWord_1 ?_
  refine p_X5_19 (j := j5_readWord) (pc := 2) rfl dX5_readWord_2 (fun M => ?_)
  exact Snd.wk (sl5_readWord_5 FU M) (by simp [mm_le])

abbrev j5_step : mm_J := (yX5_step, cX5_step, 1, none, 2)
theorem dX5_step_0 : decode cX5_step 0 = .ok (.aload_n 0, 1) := by decide +kernel
theorem dX5_step_1 : decode cX5_step 1 = .ok (.getfield 28, 3) := by decide +kernel
theorem dX5_step_4 : decode cX5_step 4 = .ok (.aload_n 0, 1) := by decide +kernel
theorem dX5_step_5 : decode cX5_step 5 = .ok (.getfield 15, 3) := by decide +kernel
theorem dX5_step_8 : decode cX5_step 8 = .ok (.if_icmp .ge 44, 3) := by decide +kernel
theorem dX5_step_11 : decode cX5_step 11 = .ok (.aload_n 0, 1) := by decide +kernel
theorem dX5_step_12 : decode cX5_step 12 = .ok (.getfield 9, 3) := by decide +kernel
theorem dX5_step_15 : decode cX5_step 15 = .ok (.aload_n 0, 1) := by decide +kernel
theorem dX5_step_16 : decode cX5_step 16 = .ok (.getfield 28, 3) := by decide +kernel
theorem dX5_step_19 : decode cX5_step 19 = .ok (.baload, 1) := by decide +kernel
theorem dX5_step_20 : decode cX5_step 20 = .ok (.bipush 32, 2) := by decide +kernel
theorem dX5_step_22 : decode cX5_step 22 = .ok (.if_icmp .eq 17, 3) := by decide +kernel
theorem dX5_step_25 : decode cX5_step 25 = .ok (.aload_n 0, 1) := by decide +kernel
theorem dX5_step_26 : decode cX5_step 26 = .ok (.getfield 9, 3) := by decide +kernel
theorem dX5_step_29 : decode cX5_step 29 = .ok (.aload_n 0, 1) := by decide +kernel
theorem dX5_step_30 : decode cX5_step 30 = .ok (.getfield 28, 3) := by decide +kernel
theorem dX5_step_33 : decode cX5_step 33 = .ok (.baload, 1) := by decide +kernel
theorem dX5_step_34 : decode cX5_step 34 = .ok (.bipush 10, 2) := by decide +kernel
theorem dX5_step_36 : decode cX5_step 36 = .ok (.if_icmp .ne 16, 3) := by decide +kernel
theorem dX5_step_39 : decode cX5_step 39 = .ok (.aload_n 0, 1) := by decide +kernel
theorem dX5_step_40 : decode cX5_step 40 = .ok (.dup, 1) := by decide +kernel
theorem dX5_step_41 : decode cX5_step 41 = .ok (.getfield 28, 3) := by decide +kernel
theorem dX5_step_44 : decode cX5_step 44 = .ok (.iconst 1, 1) := by decide +kernel
theorem dX5_step_45 : decode cX5_step 45 = .ok (.iadd, 1) := by decide +kernel
theorem dX5_step_46 : decode cX5_step 46 = .ok (.putfield 28, 3) := by decide +kernel
theorem dX5_step_49 : decode cX5_step 49 = .ok (.goto (-49), 3) := by decide +kernel
theorem dX5_step_52 : decode cX5_step 52 = .ok (.aload_n 0, 1) := by decide +kernel
theorem dX5_step_53 : decode cX5_step 53 = .ok (.aload_n 0, 1) := by decide +kernel
theorem dX5_step_54 : decode cX5_step 54 = .ok (.getfield 28, 3) := by decide +kernel
theorem dX5_step_57 : decode cX5_step 57 = .ok (.putfield 22, 3) := by decide +kernel
theorem dX5_step_60 : decode cX5_step 60 = .ok (.aload_n 0, 1) := by decide +kernel
theorem dX5_step_61 : decode cX5_step 61 = .ok (.getfield 28, 3) := by decide +kernel
theorem dX5_step_64 : decode cX5_step 64 = .ok (.aload_n 0, 1) := by decide +kernel
theorem dX5_step_65 : decode cX5_step 65 = .ok (.getfield 15, 3) := by decide +kernel
theorem dX5_step_68 : decode cX5_step 68 = .ok (.if_icmp .lt 11, 3) := by decide +kernel
theorem dX5_step_71 : decode cX5_step 71 = .ok (.aload_n 0, 1) := by decide +kernel
theorem dX5_step_72 : decode cX5_step 72 = .ok (.iconst 0, 1) := by decide +kernel
theorem dX5_step_73 : decode cX5_step 73 = .ok (.putfield 19, 3) := by decide +kernel
theorem dX5_step_76 : decode cX5_step 76 = .ok (.goto 54, 3) := by decide +kernel
theorem dX5_step_79 : decode cX5_step 79 = .ok (.aload_n 0, 1) := by decide +kernel
theorem dX5_step_80 : decode cX5_step 80 = .ok (.aload_n 0, 1) := by decide +kernel
theorem dX5_step_81 : decode cX5_step 81 = .ok (.getfield 28, 3) := by decide +kernel
theorem dX5_step_84 : decode cX5_step 84 = .ok (.invokevirtual 34, 3) := by decide +kernel
theorem dX5_step_87 : decode cX5_step 87 = .ok (.ifCond .eq 10, 3) := by decide +kernel
theorem dX5_step_90 : decode cX5_step 90 = .ok (.aload_n 0, 1) := by decide +kernel
theorem dX5_step_91 : decode cX5_step 91 = .ok (.invokevirtual 38, 3) := by decide +kernel
theorem dX5_step_94 : decode cX5_step 94 = .ok (.goto 36, 3) := by decide +kernel
theorem dX5_step_97 : decode cX5_step 97 = .ok (.aload_n 0, 1) := by decide +kernel
theorem dX5_step_98 : decode cX5_step 98 = .ok (.aload_n 0, 1) := by decide +kernel
theorem dX5_step_99 : decode cX5_step 99 = .ok (.getfield 28, 3) := by decide +kernel
theorem dX5_step_102 : decode cX5_step 102 = .ok (.invokevirtual 41, 3) := by decide +kernel
theorem dX5_step_105 : decode cX5_step 105 = .ok (.ifCond .eq 10, 3) := by decide +kernel
theorem dX5_step_108 : decode cX5_step 108 = .ok (.aload_n 0, 1) := by decide +kernel
theorem dX5_step_109 : decode cX5_step 109 = .ok (.invokevirtual 44, 3) := by decide +kernel
theorem dX5_step_112 : decode cX5_step 112 = .ok (.goto 18, 3) := by decide +kernel
theorem dX5_step_115 : decode cX5_step 115 = .ok (.aload_n 0, 1) := by decide +kernel
theorem dX5_step_116 : decode cX5_step 116 = .ok (.iconst 3, 1) := by decide +kernel
theorem dX5_step_117 : decode cX5_step 117 = .ok (.putfield 19, 3) := by decide +kernel
theorem dX5_step_120 : decode cX5_step 120 = .ok (.aload_n 0, 1) := by decide +kernel
theorem dX5_step_121 : decode cX5_step 121 = .ok (.dup, 1) := by decide +kernel
theorem dX5_step_122 : decode cX5_step 122 = .ok (.getfield 28, 3) := by decide +kernel
theorem dX5_step_125 : decode cX5_step 125 = .ok (.iconst 1, 1) := by decide +kernel
theorem dX5_step_126 : decode cX5_step 126 = .ok (.iadd, 1) := by decide +kernel
theorem dX5_step_127 : decode cX5_step 127 = .ok (.putfield 28, 3) := by decide +kernel
theorem dX5_step_130 : decode cX5_step 130 = .ok (.return_, 1) := by decide +kernel
def l5_step_130   (M : mm_M) : Option (mm_M) :=
  some M
set_option maxHeartbeats 2000000 in
theorem sl5_step_130     (M : mm_M) : Snd injV j5_step mm_X0 130 [none] [] M (l5_step_130   M) := by
  unfold l5_step_130
  exact sn_vret (j := j5_step) (pc := 130) rfl dX5_step_130
def l5_step_52   (M : mm_M) : Option (mm_M) :=
  bI (mI M 20 5) (fun v_1 => bM (sI M 20 3 v_1) (fun M => bI (mI M 20 5) (fun v_2 => bI (mI M 20 1) (fun v_3 => if v_2 < v_3 then (bI (mI M 20 5) (fun v_4 => cI (f5_isDigit v_4 M) (fun r_5 M => if r_5 = 0 then (bI (mI M 20 5) (fun v_6 => cI (f5_isLetter v_6 M) (fun r_7 M => if r_7 = 0 then (bM (sI M 20 2 3) (fun M => bI (mI M 20 5) (fun v_8 => bM (sI M 20 5 (v_8 + 1)) (fun M => l5_step_130 M)))) else (cV (f5_readWord M) (fun M => l5_step_130 M))))) else (cV (f5_readNumber M) (fun M => l5_step_130 M))))) else (bM (sI M 20 2 0) (fun M => l5_step_130 M))))))
set_option maxHeartbeats 2000000 in
theorem sl5_step_52     (M : mm_M) : Snd injV j5_step mm_X0 52 [some (.ref 20)] [] M (l5_step_52   M) := by
  unfold l5_step_52
  refine sn_aload_n (j := j5_step) (pc := 52) rfl rfl dX5_step_52 ?_
  refine sn_aload_n (j := j5_step) (pc := 53) rfl rfl dX5_step_53 ?_
  refine g_X5_28 (j := j5_step) (pc := 54) rfl dX5_step_54 ?_
  refine Snd.bI (fun v_1 => ?_)
  refine p_X5_22 (j := j5_step) (pc := 57) rfl dX5_step_57 (fun M => ?_)
  refine sn_aload_n (j := j5_step) (pc := 60) rfl rfl dX5_step_60 ?_
  refine g_X5_28 (j := j5_step) (pc := 61) rfl dX5_step_61 ?_
  refine Snd.bI (fun v_2 => ?_)
  refine sn_aload_n (j := j5_step) (pc := 64) rfl rfl dX5_step_64 ?_
  refine g_X5_15 (j := j5_step) (pc := 65) rfl dX5_step_65 ?_
  refine Snd.bI (fun v_3 => ?_)
  refine sn_icmp_lt (j := j5_step) (pc := 68) 79 rfl dX5_step_68 ?_ ?_
  · refine sn_aload_n (j := j5_step) (pc := 79) rfl rfl dX5_step_79 ?_
    refine sn_aload_n (j := j5_step) (pc := 80) rfl rfl dX5_step_80 ?_
    refine g_X5_28 (j := j5_step) (pc := 81) rfl dX5_step_81 ?_
    refine Snd.bI (fun v_4 => ?_)
    refine sn_callV (j := j5_step) (pc := 84) (jc := j5_isDigit) (As := [.int v_4]) (s5_isDigit v_4 M) mm_hvI (by simp [Value.category]) (Nat.le_of_ble_eq_true rfl) q5_isDigit rfl (by decide) rfl rfl ⟨by decide, by decide⟩ w_ml_X5_34 w_im_X5_isDigit w_se_X5_isDigit rfl (Nat.le_of_ble_eq_true rfl) dX5_step_84 ?_
    rintro ⟨r_5, M⟩
    show Snd injV j5_step mm_X0 87 [some (.ref 20)] [.int r_5] M _
    refine sn_if_eq (j := j5_step) (pc := 87) 97 rfl dX5_step_87 ?_ ?_
    · refine sn_aload_n (j := j5_step) (pc := 97) rfl rfl dX5_step_97 ?_
      refine sn_aload_n (j := j5_step) (pc := 98) rfl rfl dX5_step_98 ?_
      refine g_X5_28 (j := j5_step) (pc := 99) rfl dX5_step_99 ?_
      refine Snd.bI (fun v_6 => ?_)
      refine sn_callV (j := j5_step) (pc := 102) (jc := j5_isLetter) (As := [.int v_6]) (s5_isLetter v_6 M) mm_hvI (by simp [Value.category]) (Nat.le_of_ble_eq_true rfl) q5_isLetter rfl (by decide) rfl rfl ⟨by decide, by decide⟩ w_ml_X5_41 w_im_X5_isLetter w_se_X5_isLetter rfl (Nat.le_of_ble_eq_true rfl) dX5_step_102 ?_
      rintro ⟨r_7, M⟩
      show Snd injV j5_step mm_X0 105 [some (.ref 20)] [.int r_7] M _
      refine sn_if_eq (j := j5_step) (pc := 105) 115 rfl dX5_step_105 ?_ ?_
      · refine sn_aload_n (j := j5_step) (pc := 115) rfl rfl dX5_step_115 ?_
        refine sn_iconst (j := j5_step) (pc := 116) 3 rfl dX5_step_116 ?_
        refine p_X5_19 (j := j5_step) (pc := 117) rfl dX5_step_117 (fun M => ?_)
        refine sn_aload_n (j := j5_step) (pc := 120) rfl rfl dX5_step_120 ?_
        refine sn_dup (j := j5_step) (pc := 121) rfl dX5_step_121 ?_
        refine g_X5_28 (j := j5_step) (pc := 122) rfl dX5_step_122 ?_
        refine Snd.bI (fun v_8 => ?_)
        refine sn_iconst (j := j5_step) (pc := 125) 1 rfl dX5_step_125 ?_
        refine sn_iadd (j := j5_step) (pc := 126) dX5_step_126 ?_
        refine p_X5_28 (j := j5_step) (pc := 127) rfl dX5_step_127 (fun M => ?_)
        exact Snd.wk (sl5_step_130 M) (by simp [mm_le])
      · refine sn_aload_n (j := j5_step) (pc := 108) rfl rfl dX5_step_108 ?_
        refine sn_callV (j := j5_step) (pc := 109) (jc := j5_readWord) (As := []) (s5_readWord M) mm_hvV (by simp [Value.category]) (Nat.le_of_ble_eq_true rfl) q5_readWord rfl (by decide) rfl rfl ⟨by decide, by decide⟩ w_ml_X5_44 w_im_X5_readWord w_se_X5_readWord rfl (Nat.le_of_ble_eq_true rfl) dX5_step_109 ?_
        intro M
        show Snd injV j5_step mm_X0 112 [some (.ref 20)] [] M _
        refine sn_goto (j := j5_step) (pc := 112) 130 rfl dX5_step_112 ?_
        exact Snd.wk (sl5_step_130 M) (by simp [mm_le])
    · refine sn_aload_n (j := j5_step) (pc := 90) rfl rfl dX5_step_90 ?_
      refine sn_callV (j := j5_step) (pc := 91) (jc := j5_readNumber) (As := []) (s5_readNumber M) mm_hvV (by simp [Value.category]) (Nat.le_of_ble_eq_true rfl) q5_readNumber rfl (by decide) rfl rfl ⟨by decide, by decide⟩ w_ml_X5_38 w_im_X5_readNumber w_se_X5_readNumber rfl (Nat.le_of_ble_eq_true rfl) dX5_step_91 ?_
      intro M
      show Snd injV j5_step mm_X0 94 [some (.ref 20)] [] M _
      refine sn_goto (j := j5_step) (pc := 94) 130 rfl dX5_step_94 ?_
      exact Snd.wk (sl5_step_130 M) (by simp [mm_le])
  · refine sn_aload_n (j := j5_step) (pc := 71) rfl rfl dX5_step_71 ?_
    refine sn_iconst (j := j5_step) (pc := 72) 0 rfl dX5_step_72 ?_
    refine p_X5_19 (j := j5_step) (pc := 73) rfl dX5_step_73 (fun M => ?_)
    refine sn_goto (j := j5_step) (pc := 76) 130 rfl dX5_step_76 ?_
    exact Snd.wk (sl5_step_130 M) (by simp [mm_le])
def l5_step_39 (rec0 : mm_M → Option (mm_M))  (M : mm_M) : Option (mm_M) :=
  bI (mI M 20 5) (fun v_9 => bM (sI M 20 5 (v_9 + 1)) (fun M => rec0 M))
set_option maxHeartbeats 2000000 in
theorem sl5_step_39 (rec0 : mm_M → Option (mm_M)) (hrec0 : ∀  (M : mm_M), Snd injV j5_step mm_X0 0 [some (.ref 20)] [] M (rec0  M))   (M : mm_M) : Snd injV j5_step mm_X0 39 [some (.ref 20)] [] M (l5_step_39 rec0  M) := by
  unfold l5_step_39
  refine sn_aload_n (j := j5_step) (pc := 39) rfl rfl dX5_step_39 ?_
  refine sn_dup (j := j5_step) (pc := 40) rfl dX5_step_40 ?_
  refine g_X5_28 (j := j5_step) (pc := 41) rfl dX5_step_41 ?_
  refine Snd.bI (fun v_9 => ?_)
  refine sn_iconst (j := j5_step) (pc := 44) 1 rfl dX5_step_44 ?_
  refine sn_iadd (j := j5_step) (pc := 45) dX5_step_45 ?_
  refine p_X5_28 (j := j5_step) (pc := 46) rfl dX5_step_46 (fun M => ?_)
  refine sn_goto (j := j5_step) (pc := 49) 0 rfl dX5_step_49 ?_
  exact Snd.wk (hrec0 M ) (by simp [mm_le])
def b5_step_0  (rec0 : mm_M → Option (mm_M))  (M : mm_M) : Option (mm_M) :=
  bI (mI M 20 5) (fun v_10 => bI (mI M 20 1) (fun v_11 => if v_11 ≤ v_10 then (l5_step_52 M) else (bI (mI M 20 5) (fun v_12 => aI 21 400 v_12 M (fun w_13 => if w_13 = 32 then (l5_step_39 rec0 M) else (bI (mI M 20 5) (fun v_14 => aI 21 400 v_14 M (fun w_15 => if w_15 = 10 then (l5_step_39 rec0 M) else (l5_step_52 M)))))))))
set_option maxHeartbeats 2000000 in
theorem sb5_step_0   (rec0 : mm_M → Option (mm_M)) (hrec0 : ∀  (M : mm_M), Snd injV j5_step mm_X0 0 [some (.ref 20)] [] M (rec0  M))   (M : mm_M) : Snd injV j5_step mm_X0 0 [some (.ref 20)] [] M (b5_step_0  rec0  M) := by
  unfold b5_step_0
  refine sn_aload_n (j := j5_step) (pc := 0) rfl rfl dX5_step_0 ?_
  refine g_X5_28 (j := j5_step) (pc := 1) rfl dX5_step_1 ?_
  refine Snd.bI (fun v_10 => ?_)
  refine sn_aload_n (j := j5_step) (pc := 4) rfl rfl dX5_step_4 ?_
  refine g_X5_15 (j := j5_step) (pc := 5) rfl dX5_step_5 ?_
  refine Snd.bI (fun v_11 => ?_)
  refine sn_icmp_ge (j := j5_step) (pc := 8) 52 rfl dX5_step_8 ?_ ?_
  · exact Snd.wk (sl5_step_52 M) (by simp [mm_le])
  · refine sn_aload_n (j := j5_step) (pc := 11) rfl rfl dX5_step_11 ?_
    refine g_X5_9 (j := j5_step) (pc := 12) rfl dX5_step_12 ?_
    refine sn_aload_n (j := j5_step) (pc := 15) rfl rfl dX5_step_15 ?_
    refine g_X5_28 (j := j5_step) (pc := 16) rfl dX5_step_16 ?_
    refine Snd.bI (fun v_12 => ?_)
    refine sn_bald (j := j5_step) (pc := 19) rfl ⟨by decide, by decide⟩ dX5_step_19 (fun w_13 => ?_)
    refine sn_bipush (j := j5_step) (pc := 20) 32 rfl dX5_step_20 ?_
    refine sn_icmp_eq (j := j5_step) (pc := 22) 39 rfl dX5_step_22 ?_ ?_
    · exact Snd.wk (sl5_step_39 rec0 hrec0 M) (by simp [mm_le])
    · refine sn_aload_n (j := j5_step) (pc := 25) rfl rfl dX5_step_25 ?_
      refine g_X5_9 (j := j5_step) (pc := 26) rfl dX5_step_26 ?_
      refine sn_aload_n (j := j5_step) (pc := 29) rfl rfl dX5_step_29 ?_
      refine g_X5_28 (j := j5_step) (pc := 30) rfl dX5_step_30 ?_
      refine Snd.bI (fun v_14 => ?_)
      refine sn_bald (j := j5_step) (pc := 33) rfl ⟨by decide, by decide⟩ dX5_step_33 (fun w_15 => ?_)
      refine sn_bipush (j := j5_step) (pc := 34) 10 rfl dX5_step_34 ?_
      refine sn_icmp_ne (j := j5_step) (pc := 36) 52 rfl dX5_step_36 ?_ ?_
      · exact Snd.wk (sl5_step_52 M) (by simp [mm_le])
      · exact Snd.wk (sl5_step_39 rec0 hrec0 M) (by simp [mm_le])
def l5_step_0  : Nat → mm_M → Option (mm_M)
  | 0 => fun  _ => none
  | n + 1 => fun  M => b5_step_0  (l5_step_0  n)  M
theorem sl5_step_0   : ∀ (n : Nat)   (M : mm_M), Snd injV j5_step mm_X0 0 [some (.ref 20)] [] M (l5_step_0  n  M)
  | 0 => fun   _ => Snd.none
  | n + 1 => fun   M => sb5_step_0   (l5_step_0  n) (fun  M  => sl5_step_0   n   M)   M
def f5_step  (M : mm_M) : Option (mm_M) :=
  l5_step_0 FU M
set_option maxHeartbeats 2000000 in
theorem s5_step  (M : mm_M) : Snd injV j5_step mm_X0 0 [some (.ref 20)] [] M (f5_step  M) := by
  refine Snd.wk (lo' := [some (.ref 20)]) ?_ (by simp [mm_le])
  unfold f5_step
  exact Snd.wk (sl5_step_0 FU M) (by simp [mm_le])

abbrev j5_rewind : mm_J := (yX5_rewind, cX5_rewind, 1, none, 3)
theorem dX5_rewind_0 : decode cX5_rewind 0 = .ok (.aload_n 0, 1) := by decide +kernel
theorem dX5_rewind_1 : decode cX5_rewind 1 = .ok (.iconst 0, 1) := by decide +kernel
theorem dX5_rewind_2 : decode cX5_rewind 2 = .ok (.putfield 28, 3) := by decide +kernel
theorem dX5_rewind_5 : decode cX5_rewind 5 = .ok (.aload_n 0, 1) := by decide +kernel
theorem dX5_rewind_6 : decode cX5_rewind 6 = .ok (.invokevirtual 31, 3) := by decide +kernel
theorem dX5_rewind_9 : decode cX5_rewind 9 = .ok (.return_, 1) := by decide +kernel
def f5_rewind  (M : mm_M) : Option (mm_M) :=
  bM (sI M 20 5 0) (fun M => cV (f5_step M) (fun M => some M))
set_option maxHeartbeats 2000000 in
theorem s5_rewind  (M : mm_M) : Snd injV j5_rewind mm_X0 0 [some (.ref 20)] [] M (f5_rewind  M) := by
  refine Snd.wk (lo' := [some (.ref 20)]) ?_ (by simp [mm_le])
  unfold f5_rewind
  refine sn_aload_n (j := j5_rewind) (pc := 0) rfl rfl dX5_rewind_0 ?_
  refine sn_iconst (j := j5_rewind) (pc := 1) 0 rfl dX5_rewind_1 ?_
  refine p_X5_28 (j := j5_rewind) (pc := 2) rfl dX5_rewind_2 (fun M => ?_)
  refine sn_aload_n (j := j5_rewind) (pc := 5) rfl rfl dX5_rewind_5 ?_
  refine sn_callV (j := j5_rewind) (pc := 6) (jc := j5_step) (As := []) (s5_step M) mm_hvV (by simp [Value.category]) (Nat.le_of_ble_eq_true rfl) q5_step rfl (by decide) rfl rfl ⟨by decide, by decide⟩ w_ml_X5_31 w_im_X5_step w_se_X5_step rfl (Nat.le_of_ble_eq_true rfl) dX5_rewind_6 ?_
  intro M
  show Snd injV j5_rewind mm_X0 9 [some (.ref 20)] [] M _
  exact sn_vret (j := j5_rewind) (pc := 9) rfl dX5_rewind_9

abbrev j5_isSemicolon : mm_J := (yX5_isSemicolon, cX5_isSemicolon, 1, (some .boolean), 0)
theorem dX5_isSemicolon_0 : decode cX5_isSemicolon 0 = .ok (.aload_n 0, 1) := by decide +kernel
theorem dX5_isSemicolon_1 : decode cX5_isSemicolon 1 = .ok (.getfield 19, 3) := by decide +kernel
theorem dX5_isSemicolon_4 : decode cX5_isSemicolon 4 = .ok (.iconst 3, 1) := by decide +kernel
theorem dX5_isSemicolon_5 : decode cX5_isSemicolon 5 = .ok (.if_icmp .ne 32, 3) := by decide +kernel
theorem dX5_isSemicolon_8 : decode cX5_isSemicolon 8 = .ok (.aload_n 0, 1) := by decide +kernel
theorem dX5_isSemicolon_9 : decode cX5_isSemicolon 9 = .ok (.getfield 22, 3) := by decide +kernel
theorem dX5_isSemicolon_12 : decode cX5_isSemicolon 12 = .ok (.aload_n 0, 1) := by decide +kernel
theorem dX5_isSemicolon_13 : decode cX5_isSemicolon 13 = .ok (.getfield 15, 3) := by decide +kernel
theorem dX5_isSemicolon_16 : decode cX5_isSemicolon 16 = .ok (.if_icmp .ge 21, 3) := by decide +kernel
theorem dX5_isSemicolon_19 : decode cX5_isSemicolon 19 = .ok (.aload_n 0, 1) := by decide +kernel
theorem dX5_isSemicolon_20 : decode cX5_isSemicolon 20 = .ok (.getfield 9, 3) := by decide +kernel
theorem dX5_isSemicolon_23 : decode cX5_isSemicolon 23 = .ok (.aload_n 0, 1) := by decide +kernel
theorem dX5_isSemicolon_24 : decode cX5_isSemicolon 24 = .ok (.getfield 22, 3) := by decide +kernel
theorem dX5_isSemicolon_27 : decode cX5_isSemicolon 27 = .ok (.baload, 1) := by decide +kernel
theorem dX5_isSemicolon_28 : decode cX5_isSemicolon 28 = .ok (.bipush 59, 2) := by decide +kernel
theorem dX5_isSemicolon_30 : decode cX5_isSemicolon 30 = .ok (.if_icmp .ne 7, 3) := by decide +kernel
theorem dX5_isSemicolon_33 : decode cX5_isSemicolon 33 = .ok (.iconst 1, 1) := by decide +kernel
theorem dX5_isSemicolon_34 : decode cX5_isSemicolon 34 = .ok (.goto 4, 3) := by decide +kernel
theorem dX5_isSemicolon_37 : decode cX5_isSemicolon 37 = .ok (.iconst 0, 1) := by decide +kernel
theorem dX5_isSemicolon_38 : decode cX5_isSemicolon 38 = .ok (.ireturn, 1) := by decide +kernel
def l5_isSemicolon_38  (s0 : Int32) (M : mm_M) : Option (Int32 × mm_M) :=
  rZ s0 M
set_option maxHeartbeats 2000000 in
theorem sl5_isSemicolon_38   (s0 : Int32)  (M : mm_M) : Snd injI j5_isSemicolon mm_X0 38 [none] [.int s0] M (l5_isSemicolon_38  s0 M) := by
  unfold l5_isSemicolon_38
  exact sn_zret (j := j5_isSemicolon) (pc := 38) rfl dX5_isSemicolon_38
def l5_isSemicolon_37   (M : mm_M) : Option (Int32 × mm_M) :=
  l5_isSemicolon_38 0 M
set_option maxHeartbeats 2000000 in
theorem sl5_isSemicolon_37     (M : mm_M) : Snd injI j5_isSemicolon mm_X0 37 [none] [] M (l5_isSemicolon_37   M) := by
  unfold l5_isSemicolon_37
  refine sn_iconst (j := j5_isSemicolon) (pc := 37) 0 rfl dX5_isSemicolon_37 ?_
  exact Snd.wk (sl5_isSemicolon_38 0 M) (by simp [mm_le])
def f5_isSemicolon  (M : mm_M) : Option (Int32 × mm_M) :=
  bI (mI M 20 2) (fun v_1 => if v_1 = 3 then (bI (mI M 20 3) (fun v_2 => bI (mI M 20 1) (fun v_3 => if v_3 ≤ v_2 then (l5_isSemicolon_37 M) else (bI (mI M 20 3) (fun v_4 => aI 21 400 v_4 M (fun w_5 => if w_5 = 59 then (l5_isSemicolon_38 1 M) else (l5_isSemicolon_37 M))))))) else (l5_isSemicolon_37 M))
set_option maxHeartbeats 2000000 in
theorem s5_isSemicolon  (M : mm_M) : Snd injI j5_isSemicolon mm_X0 0 [some (.ref 20)] [] M (f5_isSemicolon  M) := by
  refine Snd.wk (lo' := [some (.ref 20)]) ?_ (by simp [mm_le])
  unfold f5_isSemicolon
  refine sn_aload_n (j := j5_isSemicolon) (pc := 0) rfl rfl dX5_isSemicolon_0 ?_
  refine g_X5_19 (j := j5_isSemicolon) (pc := 1) rfl dX5_isSemicolon_1 ?_
  refine Snd.bI (fun v_1 => ?_)
  refine sn_iconst (j := j5_isSemicolon) (pc := 4) 3 rfl dX5_isSemicolon_4 ?_
  refine sn_icmp_ne (j := j5_isSemicolon) (pc := 5) 37 rfl dX5_isSemicolon_5 ?_ ?_
  · exact Snd.wk (sl5_isSemicolon_37 M) (by simp [mm_le])
  · refine sn_aload_n (j := j5_isSemicolon) (pc := 8) rfl rfl dX5_isSemicolon_8 ?_
    refine g_X5_22 (j := j5_isSemicolon) (pc := 9) rfl dX5_isSemicolon_9 ?_
    refine Snd.bI (fun v_2 => ?_)
    refine sn_aload_n (j := j5_isSemicolon) (pc := 12) rfl rfl dX5_isSemicolon_12 ?_
    refine g_X5_15 (j := j5_isSemicolon) (pc := 13) rfl dX5_isSemicolon_13 ?_
    refine Snd.bI (fun v_3 => ?_)
    refine sn_icmp_ge (j := j5_isSemicolon) (pc := 16) 37 rfl dX5_isSemicolon_16 ?_ ?_
    · exact Snd.wk (sl5_isSemicolon_37 M) (by simp [mm_le])
    · refine sn_aload_n (j := j5_isSemicolon) (pc := 19) rfl rfl dX5_isSemicolon_19 ?_
      refine g_X5_9 (j := j5_isSemicolon) (pc := 20) rfl dX5_isSemicolon_20 ?_
      refine sn_aload_n (j := j5_isSemicolon) (pc := 23) rfl rfl dX5_isSemicolon_23 ?_
      refine g_X5_22 (j := j5_isSemicolon) (pc := 24) rfl dX5_isSemicolon_24 ?_
      refine Snd.bI (fun v_4 => ?_)
      refine sn_bald (j := j5_isSemicolon) (pc := 27) rfl ⟨by decide, by decide⟩ dX5_isSemicolon_27 (fun w_5 => ?_)
      refine sn_bipush (j := j5_isSemicolon) (pc := 28) 59 rfl dX5_isSemicolon_28 ?_
      refine sn_icmp_ne (j := j5_isSemicolon) (pc := 30) 37 rfl dX5_isSemicolon_30 ?_ ?_
      · exact Snd.wk (sl5_isSemicolon_37 M) (by simp [mm_le])
      · refine sn_iconst (j := j5_isSemicolon) (pc := 33) 1 rfl dX5_isSemicolon_33 ?_
        refine sn_goto (j := j5_isSemicolon) (pc := 34) 38 rfl dX5_isSemicolon_34 ?_
        exact Snd.wk (sl5_isSemicolon_38 1 M) (by simp [mm_le])

abbrev j5_append : mm_J := (yX5_append, cX5_append, 3, none, 0)
theorem dX5_append_0 : decode cX5_append 0 = .ok (.bipush 24, 2) := by decide +kernel
theorem dX5_append_2 : decode cX5_append 2 = .ok (.istore_n 2, 1) := by decide +kernel
theorem dX5_append_3 : decode cX5_append 3 = .ok (.iload_n 2, 1) := by decide +kernel
theorem dX5_append_4 : decode cX5_append 4 = .ok (.ifCond .lt 42, 3) := by decide +kernel
theorem dX5_append_7 : decode cX5_append 7 = .ok (.aload_n 0, 1) := by decide +kernel
theorem dX5_append_8 : decode cX5_append 8 = .ok (.getfield 15, 3) := by decide +kernel
theorem dX5_append_11 : decode cX5_append 11 = .ok (.sipush 400, 3) := by decide +kernel
theorem dX5_append_14 : decode cX5_append 14 = .ok (.if_icmp .ge 32, 3) := by decide +kernel
theorem dX5_append_17 : decode cX5_append 17 = .ok (.aload_n 0, 1) := by decide +kernel
theorem dX5_append_18 : decode cX5_append 18 = .ok (.getfield 9, 3) := by decide +kernel
theorem dX5_append_21 : decode cX5_append 21 = .ok (.aload_n 0, 1) := by decide +kernel
theorem dX5_append_22 : decode cX5_append 22 = .ok (.getfield 15, 3) := by decide +kernel
theorem dX5_append_25 : decode cX5_append 25 = .ok (.iload_n 1, 1) := by decide +kernel
theorem dX5_append_26 : decode cX5_append 26 = .ok (.iload_n 2, 1) := by decide +kernel
theorem dX5_append_27 : decode cX5_append 27 = .ok (.iushr, 1) := by decide +kernel
theorem dX5_append_28 : decode cX5_append 28 = .ok (.i2b, 1) := by decide +kernel
theorem dX5_append_29 : decode cX5_append 29 = .ok (.bastore, 1) := by decide +kernel
theorem dX5_append_30 : decode cX5_append 30 = .ok (.aload_n 0, 1) := by decide +kernel
theorem dX5_append_31 : decode cX5_append 31 = .ok (.dup, 1) := by decide +kernel
theorem dX5_append_32 : decode cX5_append 32 = .ok (.getfield 15, 3) := by decide +kernel
theorem dX5_append_35 : decode cX5_append 35 = .ok (.iconst 1, 1) := by decide +kernel
theorem dX5_append_36 : decode cX5_append 36 = .ok (.iadd, 1) := by decide +kernel
theorem dX5_append_37 : decode cX5_append 37 = .ok (.putfield 15, 3) := by decide +kernel
theorem dX5_append_40 : decode cX5_append 40 = .ok (.iinc 2 (-8), 3) := by decide +kernel
theorem dX5_append_43 : decode cX5_append 43 = .ok (.goto (-40), 3) := by decide +kernel
theorem dX5_append_46 : decode cX5_append 46 = .ok (.return_, 1) := by decide +kernel
def l5_append_46   (M : mm_M) : Option (mm_M) :=
  some M
set_option maxHeartbeats 2000000 in
theorem sl5_append_46     (M : mm_M) : Snd injV j5_append mm_X0 46 [none, none, none] [] M (l5_append_46   M) := by
  unfold l5_append_46
  exact sn_vret (j := j5_append) (pc := 46) rfl dX5_append_46
def b5_append_3  (rec3 : Int32 → Int32 → mm_M → Option (mm_M)) (x1 : Int32) (x2 : Int32) (M : mm_M) : Option (mm_M) :=
  if x2 < 0 then (l5_append_46 M) else (bI (mI M 20 1) (fun v_1 => if 400 ≤ v_1 then (l5_append_46 M) else (bI (mI M 20 1) (fun v_2 => uB 21 400 v_2 (((x1.toUInt32 >>> (x2.toUInt32 &&& Int32.toUInt32 31)).toInt32).toInt8.toInt32) M (fun M => bI (mI M 20 1) (fun v_3 => bM (sI M 20 1 (v_3 + 1)) (fun M => rec3 x1 (x2 + (-8)) M)))))))
set_option maxHeartbeats 2000000 in
theorem sb5_append_3   (rec3 : Int32 → Int32 → mm_M → Option (mm_M)) (hrec3 : ∀ (x1 : Int32) (x2 : Int32) (M : mm_M), Snd injV j5_append mm_X0 3 [some (.ref 20), some (.int x1), some (.int x2)] [] M (rec3 x1 x2 M)) (x1 : Int32) (x2 : Int32)  (M : mm_M) : Snd injV j5_append mm_X0 3 [some (.ref 20), some (.int x1), some (.int x2)] [] M (b5_append_3  rec3 x1 x2 M) := by
  unfold b5_append_3
  refine sn_iload_n (j := j5_append) (pc := 3) rfl rfl dX5_append_3 ?_
  refine sn_if_lt (j := j5_append) (pc := 4) 46 rfl dX5_append_4 ?_ ?_
  · exact Snd.wk (sl5_append_46 M) (by simp [mm_le])
  · refine sn_aload_n (j := j5_append) (pc := 7) rfl rfl dX5_append_7 ?_
    refine g_X5_15 (j := j5_append) (pc := 8) rfl dX5_append_8 ?_
    refine Snd.bI (fun v_1 => ?_)
    refine sn_sipush (j := j5_append) (pc := 11) 400 rfl dX5_append_11 ?_
    refine sn_icmp_ge (j := j5_append) (pc := 14) 46 rfl dX5_append_14 ?_ ?_
    · exact Snd.wk (sl5_append_46 M) (by simp [mm_le])
    · refine sn_aload_n (j := j5_append) (pc := 17) rfl rfl dX5_append_17 ?_
      refine g_X5_9 (j := j5_append) (pc := 18) rfl dX5_append_18 ?_
      refine sn_aload_n (j := j5_append) (pc := 21) rfl rfl dX5_append_21 ?_
      refine g_X5_15 (j := j5_append) (pc := 22) rfl dX5_append_22 ?_
      refine Snd.bI (fun v_2 => ?_)
      refine sn_iload_n (j := j5_append) (pc := 25) rfl rfl dX5_append_25 ?_
      refine sn_iload_n (j := j5_append) (pc := 26) rfl rfl dX5_append_26 ?_
      refine sn_iushr (j := j5_append) (pc := 27) dX5_append_27 ?_
      refine sn_i2b (j := j5_append) (pc := 28) dX5_append_28 ?_
      refine sn_bast (j := j5_append) (pc := 29) rfl ⟨by decide, by decide⟩ dX5_append_29 (fun M => ?_)
      refine sn_aload_n (j := j5_append) (pc := 30) rfl rfl dX5_append_30 ?_
      refine sn_dup (j := j5_append) (pc := 31) rfl dX5_append_31 ?_
      refine g_X5_15 (j := j5_append) (pc := 32) rfl dX5_append_32 ?_
      refine Snd.bI (fun v_3 => ?_)
      refine sn_iconst (j := j5_append) (pc := 35) 1 rfl dX5_append_35 ?_
      refine sn_iadd (j := j5_append) (pc := 36) dX5_append_36 ?_
      refine p_X5_15 (j := j5_append) (pc := 37) rfl dX5_append_37 (fun M => ?_)
      refine sn_iinc (j := j5_append) (pc := 40) (-8) rfl (by decide) rfl (lo' := [some (.ref 20), some (.int x1), some (.int (x2 + (-8)))]) rfl dX5_append_40 ?_
      refine sn_goto (j := j5_append) (pc := 43) 3 rfl dX5_append_43 ?_
      exact Snd.wk (hrec3 x1 (x2 + (-8)) M ) (by simp [mm_le])
def l5_append_3  : Nat → Int32 → Int32 → mm_M → Option (mm_M)
  | 0 => fun _ _ _ => none
  | n + 1 => fun x1 x2 M => b5_append_3  (l5_append_3  n) x1 x2 M
theorem sl5_append_3   : ∀ (n : Nat) (x1 : Int32) (x2 : Int32)  (M : mm_M), Snd injV j5_append mm_X0 3 [some (.ref 20), some (.int x1), some (.int x2)] [] M (l5_append_3  n x1 x2 M)
  | 0 => fun _ _  _ => Snd.none
  | n + 1 => fun x1 x2  M => sb5_append_3   (l5_append_3  n) (fun x1 x2 M  => sl5_append_3   n x1 x2  M) x1 x2  M
def f5_append (x1 : Int32) (M : mm_M) : Option (mm_M) :=
  l5_append_3 FU x1 24 M
set_option maxHeartbeats 2000000 in
theorem s5_append (x1 : Int32) (M : mm_M) : Snd injV j5_append mm_X0 0 [some (.ref 20), some (.int x1)] [] M (f5_append x1 M) := by
  refine Snd.wk (lo' := [some (.ref 20), some (.int x1), none]) ?_ (by simp [mm_le])
  unfold f5_append
  refine sn_bipush (j := j5_append) (pc := 0) 24 rfl dX5_append_0 ?_
  refine sn_istore_n (j := j5_append) (pc := 2) rfl (by decide) (lo' := [some (.ref 20), some (.int x1), some (.int 24)]) rfl dX5_append_2 ?_
  exact Snd.wk (sl5_append_3 FU x1 24 M) (by simp [mm_le])
