abbrev j6_latest : mm_J := (yX6_latest, cX6_latest, 3, (some .int), 6)
theorem dX6_latest_0 : decode cX6_latest 0 = .ok (.aload_n 0, 1) := by decide +kernel
theorem dX6_latest_1 : decode cX6_latest 1 = .ok (.getfield 12, 3) := by decide +kernel
theorem dX6_latest_4 : decode cX6_latest 4 = .ok (.iload_n 1, 1) := by decide +kernel
theorem dX6_latest_5 : decode cX6_latest 5 = .ok (.invokevirtual 107, 3) := by decide +kernel
theorem dX6_latest_8 : decode cX6_latest 8 = .ok (.ifCond .ne 5, 3) := by decide +kernel
theorem dX6_latest_11 : decode cX6_latest 11 = .ok (.iconst (-1), 1) := by decide +kernel
theorem dX6_latest_12 : decode cX6_latest 12 = .ok (.ireturn, 1) := by decide +kernel
theorem dX6_latest_13 : decode cX6_latest 13 = .ok (.iconst 0, 1) := by decide +kernel
theorem dX6_latest_14 : decode cX6_latest 14 = .ok (.istore_n 2, 1) := by decide +kernel
theorem dX6_latest_15 : decode cX6_latest 15 = .ok (.iload_n 2, 1) := by decide +kernel
theorem dX6_latest_16 : decode cX6_latest 16 = .ok (.bipush 8, 2) := by decide +kernel
theorem dX6_latest_18 : decode cX6_latest 18 = .ok (.if_icmp .gt 33, 3) := by decide +kernel
theorem dX6_latest_21 : decode cX6_latest 21 = .ok (.aload_n 0, 1) := by decide +kernel
theorem dX6_latest_22 : decode cX6_latest 22 = .ok (.iload_n 1, 1) := by decide +kernel
theorem dX6_latest_23 : decode cX6_latest 23 = .ok (.iload_n 2, 1) := by decide +kernel
theorem dX6_latest_24 : decode cX6_latest 24 = .ok (.invokevirtual 196, 3) := by decide +kernel
theorem dX6_latest_27 : decode cX6_latest 27 = .ok (.bipush (-2), 2) := by decide +kernel
theorem dX6_latest_29 : decode cX6_latest 29 = .ok (.if_icmp .ne 16, 3) := by decide +kernel
theorem dX6_latest_32 : decode cX6_latest 32 = .ok (.iload_n 2, 1) := by decide +kernel
theorem dX6_latest_33 : decode cX6_latest 33 = .ok (.ifCond .ne 8, 3) := by decide +kernel
theorem dX6_latest_36 : decode cX6_latest 36 = .ok (.bipush (-2), 2) := by decide +kernel
theorem dX6_latest_38 : decode cX6_latest 38 = .ok (.goto 6, 3) := by decide +kernel
theorem dX6_latest_41 : decode cX6_latest 41 = .ok (.iload_n 2, 1) := by decide +kernel
theorem dX6_latest_42 : decode cX6_latest 42 = .ok (.iconst 1, 1) := by decide +kernel
theorem dX6_latest_43 : decode cX6_latest 43 = .ok (.isub, 1) := by decide +kernel
theorem dX6_latest_44 : decode cX6_latest 44 = .ok (.ireturn, 1) := by decide +kernel
theorem dX6_latest_45 : decode cX6_latest 45 = .ok (.iinc 2 1, 3) := by decide +kernel
theorem dX6_latest_48 : decode cX6_latest 48 = .ok (.goto (-33), 3) := by decide +kernel
theorem dX6_latest_51 : decode cX6_latest 51 = .ok (.bipush 8, 2) := by decide +kernel
theorem dX6_latest_53 : decode cX6_latest 53 = .ok (.ireturn, 1) := by decide +kernel
def l6_latest_44  (s0 : Int32) (M : mm_M) : Option (Int32 × mm_M) :=
  some (s0, M)
set_option maxHeartbeats 2000000 in
theorem sl6_latest_44   (s0 : Int32)  (M : mm_M) : Snd injI j6_latest mm_X0 44 [none, none, none] [.int s0] M (l6_latest_44  s0 M) := by
  unfold l6_latest_44
  exact sn_iret (j := j6_latest) (pc := 44) rfl dX6_latest_44
def b6_latest_15  (rec15 : Int32 → Int32 → mm_M → Option (Int32 × mm_M)) (x1 : Int32) (x2 : Int32) (M : mm_M) : Option (Int32 × mm_M) :=
  if 8 < x2 then (some (8, M)) else (cI (f6_costIfLate x1 x2 M) (fun r_1 M => if r_1 = (-2) then (if x2 = 0 then (l6_latest_44 (-2) M) else (l6_latest_44 (x2 - 1) M)) else (rec15 x1 (x2 + 1) M)))
set_option maxHeartbeats 2000000 in
theorem sb6_latest_15   (rec15 : Int32 → Int32 → mm_M → Option (Int32 × mm_M)) (hrec15 : ∀ (x1 : Int32) (x2 : Int32) (M : mm_M), Snd injI j6_latest mm_X0 15 [some (.ref 1), some (.int x1), some (.int x2)] [] M (rec15 x1 x2 M)) (x1 : Int32) (x2 : Int32)  (M : mm_M) : Snd injI j6_latest mm_X0 15 [some (.ref 1), some (.int x1), some (.int x2)] [] M (b6_latest_15  rec15 x1 x2 M) := by
  unfold b6_latest_15
  refine sn_iload_n (j := j6_latest) (pc := 15) rfl rfl dX6_latest_15 ?_
  refine sn_bipush (j := j6_latest) (pc := 16) 8 rfl dX6_latest_16 ?_
  refine sn_icmp_gt (j := j6_latest) (pc := 18) 51 rfl dX6_latest_18 ?_ ?_
  · refine sn_bipush (j := j6_latest) (pc := 51) 8 rfl dX6_latest_51 ?_
    exact sn_iret (j := j6_latest) (pc := 53) rfl dX6_latest_53
  · refine sn_aload_n (j := j6_latest) (pc := 21) rfl rfl dX6_latest_21 ?_
    refine sn_iload_n (j := j6_latest) (pc := 22) rfl rfl dX6_latest_22 ?_
    refine sn_iload_n (j := j6_latest) (pc := 23) rfl rfl dX6_latest_23 ?_
    refine sn_callV (j := j6_latest) (pc := 24) (jc := j6_costIfLate) (As := [.int x1, .int x2]) (s6_costIfLate x1 x2 M) mm_hvI (by simp [Value.category]) (Nat.le_of_ble_eq_true rfl) q6_costIfLate rfl (by decide) rfl rfl ⟨by decide, by decide⟩ w_ml_X6_196 w_im_X6_costIfLate w_se_X6_costIfLate rfl (Nat.le_of_ble_eq_true rfl) dX6_latest_24 ?_
    rintro ⟨r_1, M⟩
    show Snd injI j6_latest mm_X0 27 [some (.ref 1), some (.int x1), some (.int x2)] [.int r_1] M _
    refine sn_bipush (j := j6_latest) (pc := 27) (-2) rfl dX6_latest_27 ?_
    refine sn_icmp_ne (j := j6_latest) (pc := 29) 45 rfl dX6_latest_29 ?_ ?_
    · refine sn_iinc (j := j6_latest) (pc := 45) 1 rfl (by decide) rfl (lo' := [some (.ref 1), some (.int x1), some (.int (x2 + 1))]) rfl dX6_latest_45 ?_
      refine sn_goto (j := j6_latest) (pc := 48) 15 rfl dX6_latest_48 ?_
      exact Snd.wk (hrec15 x1 (x2 + 1) M ) (by simp [mm_le])
    · refine sn_iload_n (j := j6_latest) (pc := 32) rfl rfl dX6_latest_32 ?_
      refine sn_if_ne (j := j6_latest) (pc := 33) 41 rfl dX6_latest_33 ?_ ?_
      · refine sn_iload_n (j := j6_latest) (pc := 41) rfl rfl dX6_latest_41 ?_
        refine sn_iconst (j := j6_latest) (pc := 42) 1 rfl dX6_latest_42 ?_
        refine sn_isub (j := j6_latest) (pc := 43) dX6_latest_43 ?_
        exact Snd.wk (sl6_latest_44 (x2 - 1) M) (by simp [mm_le])
      · refine sn_bipush (j := j6_latest) (pc := 36) (-2) rfl dX6_latest_36 ?_
        refine sn_goto (j := j6_latest) (pc := 38) 44 rfl dX6_latest_38 ?_
        exact Snd.wk (sl6_latest_44 (-2) M) (by simp [mm_le])
def l6_latest_15  : Nat → Int32 → Int32 → mm_M → Option (Int32 × mm_M)
  | 0 => fun _ _ _ => none
  | n + 1 => fun x1 x2 M => b6_latest_15  (l6_latest_15  n) x1 x2 M
theorem sl6_latest_15   : ∀ (n : Nat) (x1 : Int32) (x2 : Int32)  (M : mm_M), Snd injI j6_latest mm_X0 15 [some (.ref 1), some (.int x1), some (.int x2)] [] M (l6_latest_15  n x1 x2 M)
  | 0 => fun _ _  _ => Snd.none
  | n + 1 => fun x1 x2  M => sb6_latest_15   (l6_latest_15  n) (fun x1 x2 M  => sl6_latest_15   n x1 x2  M) x1 x2  M
def f6_latest (x1 : Int32) (M : mm_M) : Option (Int32 × mm_M) :=
  bN (mNow M) (fun d_2 => if isD d_2 = true then (cI (f0_hasBus d_2 x1 M) (fun r_3 M => if r_3 = 0 then (some ((-1), M)) else (l6_latest_15 FU x1 0 M))) else none)
set_option maxHeartbeats 2000000 in
theorem s6_latest (x1 : Int32) (M : mm_M) : Snd injI j6_latest mm_X0 0 [some (.ref 1), some (.int x1)] [] M (f6_latest x1 M) := by
  refine Snd.wk (lo' := [some (.ref 1), some (.int x1), none]) ?_ (by simp [mm_le])
  unfold f6_latest
  refine sn_aload_n (j := j6_latest) (pc := 0) rfl rfl dX6_latest_0 ?_
  refine g_X6_12 (j := j6_latest) (pc := 1) rfl dX6_latest_1 (fun d_2 => ?_)
  refine Snd.ite fun hd_2 => ?_
  refine sn_iload_n (j := j6_latest) (pc := 4) rfl rfl dX6_latest_4 ?_
  refine sn_callV (j := j6_latest) (pc := 5) (jc := j0_hasBus) (As := [.int x1]) (s0_hasBus d_2 x1 M) mm_hvI (by simp [Value.category]) (Nat.le_of_ble_eq_true rfl) q0_hasBus rfl (by decide) rfl (isD_obj hd_2) (isD_pos hd_2) w_ml_X6_107 w_im_X0_hasBus w_se_X0_hasBus rfl (Nat.le_of_ble_eq_true rfl) dX6_latest_5 ?_
  rintro ⟨r_3, M⟩
  show Snd injI j6_latest mm_X0 8 [some (.ref 1), some (.int x1), none] [.int r_3] M _
  refine sn_if_ne (j := j6_latest) (pc := 8) 13 rfl dX6_latest_8 ?_ ?_
  · refine sn_iconst (j := j6_latest) (pc := 13) 0 rfl dX6_latest_13 ?_
    refine sn_istore_n (j := j6_latest) (pc := 14) rfl (by decide) (lo' := [some (.ref 1), some (.int x1), some (.int 0)]) rfl dX6_latest_14 ?_
    exact Snd.wk (sl6_latest_15 FU x1 0 M) (by simp [mm_le])
  · refine sn_iconst (j := j6_latest) (pc := 11) (-1) rfl dX6_latest_11 ?_
    exact sn_iret (j := j6_latest) (pc := 12) rfl dX6_latest_12

abbrev j6_costIfSet : mm_J := (yX6_costIfSet, cX6_costIfSet, 3, (some .int), 5)
theorem dX6_costIfSet_0 : decode cX6_costIfSet 0 = .ok (.aload_n 0, 1) := by decide +kernel
theorem dX6_costIfSet_1 : decode cX6_costIfSet 1 = .ok (.getfield 47, 3) := by decide +kernel
theorem dX6_costIfSet_4 : decode cX6_costIfSet 4 = .ok (.aload_n 0, 1) := by decide +kernel
theorem dX6_costIfSet_5 : decode cX6_costIfSet 5 = .ok (.getfield 12, 3) := by decide +kernel
theorem dX6_costIfSet_8 : decode cX6_costIfSet 8 = .ok (.invokevirtual 218, 3) := by decide +kernel
theorem dX6_costIfSet_11 : decode cX6_costIfSet 11 = .ok (.aload_n 0, 1) := by decide +kernel
theorem dX6_costIfSet_12 : decode cX6_costIfSet 12 = .ok (.getfield 47, 3) := by decide +kernel
theorem dX6_costIfSet_15 : decode cX6_costIfSet 15 = .ok (.getfield 248, 3) := by decide +kernel
theorem dX6_costIfSet_18 : decode cX6_costIfSet 18 = .ok (.iload_n 1, 1) := by decide +kernel
theorem dX6_costIfSet_19 : decode cX6_costIfSet 19 = .ok (.iload_n 2, 1) := by decide +kernel
theorem dX6_costIfSet_20 : decode cX6_costIfSet 20 = .ok (.iastore, 1) := by decide +kernel
theorem dX6_costIfSet_21 : decode cX6_costIfSet 21 = .ok (.aload_n 0, 1) := by decide +kernel
theorem dX6_costIfSet_22 : decode cX6_costIfSet 22 = .ok (.getfield 47, 3) := by decide +kernel
theorem dX6_costIfSet_25 : decode cX6_costIfSet 25 = .ok (.invokevirtual 224, 3) := by decide +kernel
theorem dX6_costIfSet_28 : decode cX6_costIfSet 28 = .ok (.ireturn, 1) := by decide +kernel
def f6_costIfSet (x1 : Int32) (x2 : Int32) (M : mm_M) : Option (Int32 × mm_M) :=
  bN (mNow M) (fun d_1 => if isD d_1 = true then (cV (f2_lookAt d_1 M) (fun M => uI 27 3 x1 x2 M (fun M => cI (f2_costIfReady M) (fun r_2 M => some (r_2, M))))) else none)
set_option maxHeartbeats 2000000 in
theorem s6_costIfSet (x1 : Int32) (x2 : Int32) (M : mm_M) : Snd injI j6_costIfSet mm_X0 0 [some (.ref 1), some (.int x1), some (.int x2)] [] M (f6_costIfSet x1 x2 M) := by
  refine Snd.wk (lo' := [some (.ref 1), some (.int x1), some (.int x2)]) ?_ (by simp [mm_le])
  unfold f6_costIfSet
  refine sn_aload_n (j := j6_costIfSet) (pc := 0) rfl rfl dX6_costIfSet_0 ?_
  refine g_X6_47 (j := j6_costIfSet) (pc := 1) rfl dX6_costIfSet_1 ?_
  refine sn_aload_n (j := j6_costIfSet) (pc := 4) rfl rfl dX6_costIfSet_4 ?_
  refine g_X6_12 (j := j6_costIfSet) (pc := 5) rfl dX6_costIfSet_5 (fun d_1 => ?_)
  refine Snd.ite fun hd_1 => ?_
  refine sn_callV (j := j6_costIfSet) (pc := 8) (jc := j2_lookAt) (As := [.ref d_1]) (s2_lookAt d_1 M) mm_hvV (by simp [Value.category]) (Nat.le_of_ble_eq_true rfl) q2_lookAt rfl (by decide) rfl rfl ⟨by decide, by decide⟩ w_ml_X6_218 w_im_X2_lookAt w_se_X2_lookAt rfl (Nat.le_of_ble_eq_true rfl) dX6_costIfSet_8 ?_
  intro M
  show Snd injI j6_costIfSet mm_X0 11 [some (.ref 1), some (.int x1), some (.int x2)] [] M _
  refine sn_aload_n (j := j6_costIfSet) (pc := 11) rfl rfl dX6_costIfSet_11 ?_
  refine g_X6_47 (j := j6_costIfSet) (pc := 12) rfl dX6_costIfSet_12 ?_
  refine g_X6_248 (j := j6_costIfSet) (pc := 15) rfl dX6_costIfSet_15 ?_
  refine sn_iload_n (j := j6_costIfSet) (pc := 18) rfl rfl dX6_costIfSet_18 ?_
  refine sn_iload_n (j := j6_costIfSet) (pc := 19) rfl rfl dX6_costIfSet_19 ?_
  refine sn_iast (j := j6_costIfSet) (pc := 20) rfl ⟨by decide, by decide⟩ dX6_costIfSet_20 (fun M => ?_)
  refine sn_aload_n (j := j6_costIfSet) (pc := 21) rfl rfl dX6_costIfSet_21 ?_
  refine g_X6_47 (j := j6_costIfSet) (pc := 22) rfl dX6_costIfSet_22 ?_
  refine sn_callV (j := j6_costIfSet) (pc := 25) (jc := j2_costIfReady) (As := []) (s2_costIfReady M) mm_hvI (by simp [Value.category]) (Nat.le_of_ble_eq_true rfl) q2_costIfReady rfl (by decide) rfl rfl ⟨by decide, by decide⟩ w_ml_X6_224 w_im_X2_costIfReady w_se_X2_costIfReady rfl (Nat.le_of_ble_eq_true rfl) dX6_costIfSet_25 ?_
  rintro ⟨r_2, M⟩
  show Snd injI j6_costIfSet mm_X0 28 [some (.ref 1), some (.int x1), some (.int x2)] [.int r_2] M _
  exact sn_iret (j := j6_costIfSet) (pc := 28) rfl dX6_costIfSet_28

abbrev j6_were : mm_J := (yX6_were, cX6_were, 3, (some .int), 6)
theorem dX6_were_0 : decode cX6_were 0 = .ok (.iload_n 1, 1) := by decide +kernel
theorem dX6_were_1 : decode cX6_were 1 = .ok (.iload_n 2, 1) := by decide +kernel
theorem dX6_were_2 : decode cX6_were 2 = .ok (.invokestatic 199, 3) := by decide +kernel
theorem dX6_were_5 : decode cX6_were 5 = .ok (.ifCond .ne 5, 3) := by decide +kernel
theorem dX6_were_8 : decode cX6_were 8 = .ok (.iconst (-1), 1) := by decide +kernel
theorem dX6_were_9 : decode cX6_were 9 = .ok (.ireturn, 1) := by decide +kernel
theorem dX6_were_10 : decode cX6_were 10 = .ok (.aload_n 0, 1) := by decide +kernel
theorem dX6_were_11 : decode cX6_were 11 = .ok (.iload_n 1, 1) := by decide +kernel
theorem dX6_were_12 : decode cX6_were 12 = .ok (.iload_n 2, 1) := by decide +kernel
theorem dX6_were_13 : decode cX6_were 13 = .ok (.invokevirtual 202, 3) := by decide +kernel
theorem dX6_were_16 : decode cX6_were 16 = .ok (.ireturn, 1) := by decide +kernel
def f6_were (x1 : Int32) (x2 : Int32) (M : mm_M) : Option (Int32 × mm_M) :=
  cI (f0_settingCanBe x1 x2 M) (fun r_1 M => if r_1 = 0 then (some ((-1), M)) else (cI (f6_costIfSet x1 x2 M) (fun r_2 M => some (r_2, M))))
set_option maxHeartbeats 2000000 in
theorem s6_were (x1 : Int32) (x2 : Int32) (M : mm_M) : Snd injI j6_were mm_X0 0 [some (.ref 1), some (.int x1), some (.int x2)] [] M (f6_were x1 x2 M) := by
  refine Snd.wk (lo' := [some (.ref 1), some (.int x1), some (.int x2)]) ?_ (by simp [mm_le])
  unfold f6_were
  refine sn_iload_n (j := j6_were) (pc := 0) rfl rfl dX6_were_0 ?_
  refine sn_iload_n (j := j6_were) (pc := 1) rfl rfl dX6_were_1 ?_
  refine sn_callS (j := j6_were) (pc := 2) (jc := j0_settingCanBe) (As := [.int x1, .int x2]) (s0_settingCanBe x1 x2 M) mm_hvI (by simp [Value.category]) (Nat.le_of_ble_eq_true rfl) q0_settingCanBe rfl (by decide) w_ml_X6_199 w_st_X0_settingCanBe rfl (Nat.le_of_ble_eq_true rfl) dX6_were_2 ?_
  rintro ⟨r_1, M⟩
  show Snd injI j6_were mm_X0 5 [some (.ref 1), some (.int x1), some (.int x2)] [.int r_1] M _
  refine sn_if_ne (j := j6_were) (pc := 5) 10 rfl dX6_were_5 ?_ ?_
  · refine sn_aload_n (j := j6_were) (pc := 10) rfl rfl dX6_were_10 ?_
    refine sn_iload_n (j := j6_were) (pc := 11) rfl rfl dX6_were_11 ?_
    refine sn_iload_n (j := j6_were) (pc := 12) rfl rfl dX6_were_12 ?_
    refine sn_callV (j := j6_were) (pc := 13) (jc := j6_costIfSet) (As := [.int x1, .int x2]) (s6_costIfSet x1 x2 M) mm_hvI (by simp [Value.category]) (Nat.le_of_ble_eq_true rfl) q6_costIfSet rfl (by decide) rfl rfl ⟨by decide, by decide⟩ w_ml_X6_202 w_im_X6_costIfSet w_se_X6_costIfSet rfl (Nat.le_of_ble_eq_true rfl) dX6_were_13 ?_
    rintro ⟨r_2, M⟩
    show Snd injI j6_were mm_X0 16 [some (.ref 1), some (.int x1), some (.int x2)] [.int r_2] M _
    exact sn_iret (j := j6_were) (pc := 16) rfl dX6_were_16
  · refine sn_iconst (j := j6_were) (pc := 8) (-1) rfl dX6_were_8 ?_
    exact sn_iret (j := j6_were) (pc := 9) rfl dX6_were_9

abbrev j6_firstReady : mm_J := (yX6_firstReady, cX6_firstReady, 4, (some .int), 6)
theorem dX6_firstReady_0 : decode cX6_firstReady 0 = .ok (.iconst 1, 1) := by decide +kernel
theorem dX6_firstReady_1 : decode cX6_firstReady 1 = .ok (.istore_n 3, 1) := by decide +kernel
theorem dX6_firstReady_2 : decode cX6_firstReady 2 = .ok (.iload_n 3, 1) := by decide +kernel
theorem dX6_firstReady_3 : decode cX6_firstReady 3 = .ok (.iload_n 2, 1) := by decide +kernel
theorem dX6_firstReady_4 : decode cX6_firstReady 4 = .ok (.if_icmp .gt 22, 3) := by decide +kernel
theorem dX6_firstReady_7 : decode cX6_firstReady 7 = .ok (.aload_n 0, 1) := by decide +kernel
theorem dX6_firstReady_8 : decode cX6_firstReady 8 = .ok (.iload_n 1, 1) := by decide +kernel
theorem dX6_firstReady_9 : decode cX6_firstReady 9 = .ok (.iload_n 3, 1) := by decide +kernel
theorem dX6_firstReady_10 : decode cX6_firstReady 10 = .ok (.invokevirtual 202, 3) := by decide +kernel
theorem dX6_firstReady_13 : decode cX6_firstReady 13 = .ok (.bipush (-2), 2) := by decide +kernel
theorem dX6_firstReady_15 : decode cX6_firstReady 15 = .ok (.if_icmp .eq 5, 3) := by decide +kernel
theorem dX6_firstReady_18 : decode cX6_firstReady 18 = .ok (.iload_n 3, 1) := by decide +kernel
theorem dX6_firstReady_19 : decode cX6_firstReady 19 = .ok (.ireturn, 1) := by decide +kernel
theorem dX6_firstReady_20 : decode cX6_firstReady 20 = .ok (.iinc 3 1, 3) := by decide +kernel
theorem dX6_firstReady_23 : decode cX6_firstReady 23 = .ok (.goto (-21), 3) := by decide +kernel
theorem dX6_firstReady_26 : decode cX6_firstReady 26 = .ok (.iconst (-1), 1) := by decide +kernel
theorem dX6_firstReady_27 : decode cX6_firstReady 27 = .ok (.ireturn, 1) := by decide +kernel
def b6_firstReady_2  (rec2 : Int32 → Int32 → Int32 → mm_M → Option (Int32 × mm_M)) (x1 : Int32) (x2 : Int32) (x3 : Int32) (M : mm_M) : Option (Int32 × mm_M) :=
  if x2 < x3 then (some ((-1), M)) else (cI (f6_costIfSet x1 x3 M) (fun r_1 M => if r_1 = (-2) then (rec2 x1 x2 (x3 + 1) M) else (some (x3, M))))
set_option maxHeartbeats 2000000 in
theorem sb6_firstReady_2   (rec2 : Int32 → Int32 → Int32 → mm_M → Option (Int32 × mm_M)) (hrec2 : ∀ (x1 : Int32) (x2 : Int32) (x3 : Int32) (M : mm_M), Snd injI j6_firstReady mm_X0 2 [some (.ref 1), some (.int x1), some (.int x2), some (.int x3)] [] M (rec2 x1 x2 x3 M)) (x1 : Int32) (x2 : Int32) (x3 : Int32)  (M : mm_M) : Snd injI j6_firstReady mm_X0 2 [some (.ref 1), some (.int x1), some (.int x2), some (.int x3)] [] M (b6_firstReady_2  rec2 x1 x2 x3 M) := by
  unfold b6_firstReady_2
  refine sn_iload_n (j := j6_firstReady) (pc := 2) rfl rfl dX6_firstReady_2 ?_
  refine sn_iload_n (j := j6_firstReady) (pc := 3) rfl rfl dX6_firstReady_3 ?_
  refine sn_icmp_gt (j := j6_firstReady) (pc := 4) 26 rfl dX6_firstReady_4 ?_ ?_
  · refine sn_iconst (j := j6_firstReady) (pc := 26) (-1) rfl dX6_firstReady_26 ?_
    exact sn_iret (j := j6_firstReady) (pc := 27) rfl dX6_firstReady_27
  · refine sn_aload_n (j := j6_firstReady) (pc := 7) rfl rfl dX6_firstReady_7 ?_
    refine sn_iload_n (j := j6_firstReady) (pc := 8) rfl rfl dX6_firstReady_8 ?_
    refine sn_iload_n (j := j6_firstReady) (pc := 9) rfl rfl dX6_firstReady_9 ?_
    refine sn_callV (j := j6_firstReady) (pc := 10) (jc := j6_costIfSet) (As := [.int x1, .int x3]) (s6_costIfSet x1 x3 M) mm_hvI (by simp [Value.category]) (Nat.le_of_ble_eq_true rfl) q6_costIfSet rfl (by decide) rfl rfl ⟨by decide, by decide⟩ w_ml_X6_202 w_im_X6_costIfSet w_se_X6_costIfSet rfl (Nat.le_of_ble_eq_true rfl) dX6_firstReady_10 ?_
    rintro ⟨r_1, M⟩
    show Snd injI j6_firstReady mm_X0 13 [some (.ref 1), some (.int x1), some (.int x2), some (.int x3)] [.int r_1] M _
    refine sn_bipush (j := j6_firstReady) (pc := 13) (-2) rfl dX6_firstReady_13 ?_
    refine sn_icmp_eq (j := j6_firstReady) (pc := 15) 20 rfl dX6_firstReady_15 ?_ ?_
    · refine sn_iinc (j := j6_firstReady) (pc := 20) 1 rfl (by decide) rfl (lo' := [some (.ref 1), some (.int x1), some (.int x2), some (.int (x3 + 1))]) rfl dX6_firstReady_20 ?_
      refine sn_goto (j := j6_firstReady) (pc := 23) 2 rfl dX6_firstReady_23 ?_
      exact Snd.wk (hrec2 x1 x2 (x3 + 1) M ) (by simp [mm_le])
    · refine sn_iload_n (j := j6_firstReady) (pc := 18) rfl rfl dX6_firstReady_18 ?_
      exact sn_iret (j := j6_firstReady) (pc := 19) rfl dX6_firstReady_19
def l6_firstReady_2  : Nat → Int32 → Int32 → Int32 → mm_M → Option (Int32 × mm_M)
  | 0 => fun _ _ _ _ => none
  | n + 1 => fun x1 x2 x3 M => b6_firstReady_2  (l6_firstReady_2  n) x1 x2 x3 M
theorem sl6_firstReady_2   : ∀ (n : Nat) (x1 : Int32) (x2 : Int32) (x3 : Int32)  (M : mm_M), Snd injI j6_firstReady mm_X0 2 [some (.ref 1), some (.int x1), some (.int x2), some (.int x3)] [] M (l6_firstReady_2  n x1 x2 x3 M)
  | 0 => fun _ _ _  _ => Snd.none
  | n + 1 => fun x1 x2 x3  M => sb6_firstReady_2   (l6_firstReady_2  n) (fun x1 x2 x3 M  => sl6_firstReady_2   n x1 x2 x3  M) x1 x2 x3  M
def f6_firstReady (x1 : Int32) (x2 : Int32) (M : mm_M) : Option (Int32 × mm_M) :=
  l6_firstReady_2 FU x1 x2 1 M
set_option maxHeartbeats 2000000 in
theorem s6_firstReady (x1 : Int32) (x2 : Int32) (M : mm_M) : Snd injI j6_firstReady mm_X0 0 [some (.ref 1), some (.int x1), some (.int x2)] [] M (f6_firstReady x1 x2 M) := by
  refine Snd.wk (lo' := [some (.ref 1), some (.int x1), some (.int x2), none]) ?_ (by simp [mm_le])
  unfold f6_firstReady
  refine sn_iconst (j := j6_firstReady) (pc := 0) 1 rfl dX6_firstReady_0 ?_
  refine sn_istore_n (j := j6_firstReady) (pc := 1) rfl (by decide) (lo' := [some (.ref 1), some (.int x1), some (.int x2), some (.int 1)]) rfl dX6_firstReady_1 ?_
  exact Snd.wk (sl6_firstReady_2 FU x1 x2 1 M) (by simp [mm_le])

abbrev j6_leastLimit : mm_J := (yX6_leastLimit, cX6_leastLimit, 5, (some .int), 6)
theorem dX6_leastLimit_0 : decode cX6_leastLimit 0 = .ok (.getstatic 205, 3) := by decide +kernel
theorem dX6_leastLimit_3 : decode cX6_leastLimit 3 = .ok (.iconst 2, 1) := by decide +kernel
theorem dX6_leastLimit_4 : decode cX6_leastLimit 4 = .ok (.iaload, 1) := by decide +kernel
theorem dX6_leastLimit_5 : decode cX6_leastLimit 5 = .ok (.istore_n 1, 1) := by decide +kernel
theorem dX6_leastLimit_6 : decode cX6_leastLimit 6 = .ok (.aload_n 0, 1) := by decide +kernel
theorem dX6_leastLimit_7 : decode cX6_leastLimit 7 = .ok (.iconst 2, 1) := by decide +kernel
theorem dX6_leastLimit_8 : decode cX6_leastLimit 8 = .ok (.iload_n 1, 1) := by decide +kernel
theorem dX6_leastLimit_9 : decode cX6_leastLimit 9 = .ok (.invokevirtual 202, 3) := by decide +kernel
theorem dX6_leastLimit_12 : decode cX6_leastLimit 12 = .ok (.bipush (-2), 2) := by decide +kernel
theorem dX6_leastLimit_14 : decode cX6_leastLimit 14 = .ok (.if_icmp .ne 5, 3) := by decide +kernel
theorem dX6_leastLimit_17 : decode cX6_leastLimit 17 = .ok (.iconst (-1), 1) := by decide +kernel
theorem dX6_leastLimit_18 : decode cX6_leastLimit 18 = .ok (.ireturn, 1) := by decide +kernel
theorem dX6_leastLimit_19 : decode cX6_leastLimit 19 = .ok (.iconst 1, 1) := by decide +kernel
theorem dX6_leastLimit_20 : decode cX6_leastLimit 20 = .ok (.istore_n 2, 1) := by decide +kernel
theorem dX6_leastLimit_21 : decode cX6_leastLimit 21 = .ok (.iconst 0, 1) := by decide +kernel
theorem dX6_leastLimit_22 : decode cX6_leastLimit 22 = .ok (.istore_n 3, 1) := by decide +kernel
theorem dX6_leastLimit_23 : decode cX6_leastLimit 23 = .ok (.iload_n 3, 1) := by decide +kernel
theorem dX6_leastLimit_24 : decode cX6_leastLimit 24 = .ok (.getstatic 205, 3) := by decide +kernel
theorem dX6_leastLimit_27 : decode cX6_leastLimit 27 = .ok (.iconst 2, 1) := by decide +kernel
theorem dX6_leastLimit_28 : decode cX6_leastLimit 28 = .ok (.iaload, 1) := by decide +kernel
theorem dX6_leastLimit_29 : decode cX6_leastLimit 29 = .ok (.if_icmp .ge 44, 3) := by decide +kernel
theorem dX6_leastLimit_32 : decode cX6_leastLimit 32 = .ok (.iload_n 2, 1) := by decide +kernel
theorem dX6_leastLimit_33 : decode cX6_leastLimit 33 = .ok (.iload_n 1, 1) := by decide +kernel
theorem dX6_leastLimit_34 : decode cX6_leastLimit 34 = .ok (.if_icmp .ge 39, 3) := by decide +kernel
theorem dX6_leastLimit_37 : decode cX6_leastLimit 37 = .ok (.iload_n 2, 1) := by decide +kernel
theorem dX6_leastLimit_38 : decode cX6_leastLimit 38 = .ok (.iload_n 1, 1) := by decide +kernel
theorem dX6_leastLimit_39 : decode cX6_leastLimit 39 = .ok (.iadd, 1) := by decide +kernel
theorem dX6_leastLimit_40 : decode cX6_leastLimit 40 = .ok (.iconst 2, 1) := by decide +kernel
theorem dX6_leastLimit_41 : decode cX6_leastLimit 41 = .ok (.idiv, 1) := by decide +kernel
theorem dX6_leastLimit_42 : decode cX6_leastLimit 42 = .ok (.istore 4, 2) := by decide +kernel
theorem dX6_leastLimit_44 : decode cX6_leastLimit 44 = .ok (.aload_n 0, 1) := by decide +kernel
theorem dX6_leastLimit_45 : decode cX6_leastLimit 45 = .ok (.iconst 2, 1) := by decide +kernel
theorem dX6_leastLimit_46 : decode cX6_leastLimit 46 = .ok (.iload 4, 2) := by decide +kernel
theorem dX6_leastLimit_48 : decode cX6_leastLimit 48 = .ok (.invokevirtual 202, 3) := by decide +kernel
theorem dX6_leastLimit_51 : decode cX6_leastLimit 51 = .ok (.bipush (-2), 2) := by decide +kernel
theorem dX6_leastLimit_53 : decode cX6_leastLimit 53 = .ok (.if_icmp .ne 11, 3) := by decide +kernel
theorem dX6_leastLimit_56 : decode cX6_leastLimit 56 = .ok (.iload 4, 2) := by decide +kernel
theorem dX6_leastLimit_58 : decode cX6_leastLimit 58 = .ok (.iconst 1, 1) := by decide +kernel
theorem dX6_leastLimit_59 : decode cX6_leastLimit 59 = .ok (.iadd, 1) := by decide +kernel
theorem dX6_leastLimit_60 : decode cX6_leastLimit 60 = .ok (.istore_n 2, 1) := by decide +kernel
theorem dX6_leastLimit_61 : decode cX6_leastLimit 61 = .ok (.goto 6, 3) := by decide +kernel
theorem dX6_leastLimit_64 : decode cX6_leastLimit 64 = .ok (.iload 4, 2) := by decide +kernel
theorem dX6_leastLimit_66 : decode cX6_leastLimit 66 = .ok (.istore_n 1, 1) := by decide +kernel
theorem dX6_leastLimit_67 : decode cX6_leastLimit 67 = .ok (.iinc 3 1, 3) := by decide +kernel
theorem dX6_leastLimit_70 : decode cX6_leastLimit 70 = .ok (.goto (-47), 3) := by decide +kernel
theorem dX6_leastLimit_73 : decode cX6_leastLimit 73 = .ok (.iload_n 1, 1) := by decide +kernel
theorem dX6_leastLimit_74 : decode cX6_leastLimit 74 = .ok (.ireturn, 1) := by decide +kernel
def l6_leastLimit_73  (x1 : Int32) (M : mm_M) : Option (Int32 × mm_M) :=
  some (x1, M)
set_option maxHeartbeats 2000000 in
theorem sl6_leastLimit_73   (x1 : Int32)  (M : mm_M) : Snd injI j6_leastLimit mm_X0 73 [none, some (.int x1), none, none, none] [] M (l6_leastLimit_73  x1 M) := by
  unfold l6_leastLimit_73
  refine sn_iload_n (j := j6_leastLimit) (pc := 73) rfl rfl dX6_leastLimit_73 ?_
  exact sn_iret (j := j6_leastLimit) (pc := 74) rfl dX6_leastLimit_74
def l6_leastLimit_67 (rec23 : Int32 → Int32 → Int32 → mm_M → Option (Int32 × mm_M)) (x1 : Int32) (x2 : Int32) (x3 : Int32) (M : mm_M) : Option (Int32 × mm_M) :=
  rec23 x1 x2 (x3 + 1) M
set_option maxHeartbeats 2000000 in
theorem sl6_leastLimit_67 (rec23 : Int32 → Int32 → Int32 → mm_M → Option (Int32 × mm_M)) (hrec23 : ∀ (x1 : Int32) (x2 : Int32) (x3 : Int32) (M : mm_M), Snd injI j6_leastLimit mm_X0 23 [some (.ref 1), some (.int x1), some (.int x2), some (.int x3), none] [] M (rec23 x1 x2 x3 M)) (x1 : Int32) (x2 : Int32) (x3 : Int32)  (M : mm_M) : Snd injI j6_leastLimit mm_X0 67 [some (.ref 1), some (.int x1), some (.int x2), some (.int x3), none] [] M (l6_leastLimit_67 rec23 x1 x2 x3 M) := by
  unfold l6_leastLimit_67
  refine sn_iinc (j := j6_leastLimit) (pc := 67) 1 rfl (by decide) rfl (lo' := [some (.ref 1), some (.int x1), some (.int x2), some (.int (x3 + 1)), none]) rfl dX6_leastLimit_67 ?_
  refine sn_goto (j := j6_leastLimit) (pc := 70) 23 rfl dX6_leastLimit_70 ?_
  exact Snd.wk (hrec23 x1 x2 (x3 + 1) M ) (by simp [mm_le])
def b6_leastLimit_23  (rec23 : Int32 → Int32 → Int32 → mm_M → Option (Int32 × mm_M)) (x1 : Int32) (x2 : Int32) (x3 : Int32) (M : mm_M) : Option (Int32 × mm_M) :=
  aT 0 3 2 (fun w_1 => if w_1 ≤ x3 then (l6_leastLimit_73 x1 M) else (if x1 ≤ x2 then (l6_leastLimit_73 x1 M) else (bI ((x2 + x1) / 2) (fun x4_2 => cI (f6_costIfSet 2 x4_2 M) (fun r_3 M => if r_3 = (-2) then (bI (x4_2 + 1) (fun x2_4 => l6_leastLimit_67 rec23 x1 x2_4 x3 M)) else (l6_leastLimit_67 rec23 x4_2 x2 x3 M))))))
set_option maxHeartbeats 2000000 in
theorem sb6_leastLimit_23   (rec23 : Int32 → Int32 → Int32 → mm_M → Option (Int32 × mm_M)) (hrec23 : ∀ (x1 : Int32) (x2 : Int32) (x3 : Int32) (M : mm_M), Snd injI j6_leastLimit mm_X0 23 [some (.ref 1), some (.int x1), some (.int x2), some (.int x3), none] [] M (rec23 x1 x2 x3 M)) (x1 : Int32) (x2 : Int32) (x3 : Int32)  (M : mm_M) : Snd injI j6_leastLimit mm_X0 23 [some (.ref 1), some (.int x1), some (.int x2), some (.int x3), none] [] M (b6_leastLimit_23  rec23 x1 x2 x3 M) := by
  unfold b6_leastLimit_23
  refine sn_iload_n (j := j6_leastLimit) (pc := 23) rfl rfl dX6_leastLimit_23 ?_
  refine sn_gst (j := j6_leastLimit) (pc := 24) (t := 0) mm_Z0 rfl w_fl_X6_205 dX6_leastLimit_24 ?_
  refine sn_iconst (j := j6_leastLimit) (pc := 27) 2 rfl dX6_leastLimit_27 ?_
  refine sn_tald (j := j6_leastLimit) (pc := 28) (t := 0) mm_T0 dX6_leastLimit_28 (fun w_1 => ?_)
  refine sn_icmp_ge (j := j6_leastLimit) (pc := 29) 73 rfl dX6_leastLimit_29 ?_ ?_
  · exact Snd.wk (sl6_leastLimit_73 x1 M) (by simp [mm_le])
  · refine sn_iload_n (j := j6_leastLimit) (pc := 32) rfl rfl dX6_leastLimit_32 ?_
    refine sn_iload_n (j := j6_leastLimit) (pc := 33) rfl rfl dX6_leastLimit_33 ?_
    refine sn_icmp_ge (j := j6_leastLimit) (pc := 34) 73 rfl dX6_leastLimit_34 ?_ ?_
    · exact Snd.wk (sl6_leastLimit_73 x1 M) (by simp [mm_le])
    · refine sn_iload_n (j := j6_leastLimit) (pc := 37) rfl rfl dX6_leastLimit_37 ?_
      refine sn_iload_n (j := j6_leastLimit) (pc := 38) rfl rfl dX6_leastLimit_38 ?_
      refine sn_iadd (j := j6_leastLimit) (pc := 39) dX6_leastLimit_39 ?_
      refine sn_iconst (j := j6_leastLimit) (pc := 40) 2 rfl dX6_leastLimit_40 ?_
      refine sn_idiv (j := j6_leastLimit) (pc := 41) (by decide) dX6_leastLimit_41 ?_
      refine sn_istoreB (j := j6_leastLimit) (pc := 42) (fun x4_2 => [some (.ref 1), some (.int x1), some (.int x2), some (.int x3), some (.int x4_2)]) (by decide) (fun _ => rfl) dX6_leastLimit_42 (fun x4_2 => ?_)
      refine sn_aload_n (j := j6_leastLimit) (pc := 44) rfl rfl dX6_leastLimit_44 ?_
      refine sn_iconst (j := j6_leastLimit) (pc := 45) 2 rfl dX6_leastLimit_45 ?_
      refine sn_iload (j := j6_leastLimit) (pc := 46) rfl dX6_leastLimit_46 ?_
      refine sn_callV (j := j6_leastLimit) (pc := 48) (jc := j6_costIfSet) (As := [.int 2, .int x4_2]) (s6_costIfSet 2 x4_2 M) mm_hvI (by simp [Value.category]) (Nat.le_of_ble_eq_true rfl) q6_costIfSet rfl (by decide) rfl rfl ⟨by decide, by decide⟩ w_ml_X6_202 w_im_X6_costIfSet w_se_X6_costIfSet rfl (Nat.le_of_ble_eq_true rfl) dX6_leastLimit_48 ?_
      rintro ⟨r_3, M⟩
      show Snd injI j6_leastLimit mm_X0 51 [some (.ref 1), some (.int x1), some (.int x2), some (.int x3), some (.int x4_2)] [.int r_3] M _
      refine sn_bipush (j := j6_leastLimit) (pc := 51) (-2) rfl dX6_leastLimit_51 ?_
      refine sn_icmp_ne (j := j6_leastLimit) (pc := 53) 64 rfl dX6_leastLimit_53 ?_ ?_
      · refine sn_iload (j := j6_leastLimit) (pc := 64) rfl dX6_leastLimit_64 ?_
        refine sn_istore_n (j := j6_leastLimit) (pc := 66) rfl (by decide) (lo' := [some (.ref 1), some (.int x4_2), some (.int x2), some (.int x3), some (.int x4_2)]) rfl dX6_leastLimit_66 ?_
        exact Snd.wk (sl6_leastLimit_67 rec23 hrec23 x4_2 x2 x3 M) (by simp [mm_le])
      · refine sn_iload (j := j6_leastLimit) (pc := 56) rfl dX6_leastLimit_56 ?_
        refine sn_iconst (j := j6_leastLimit) (pc := 58) 1 rfl dX6_leastLimit_58 ?_
        refine sn_iadd (j := j6_leastLimit) (pc := 59) dX6_leastLimit_59 ?_
        refine sn_istoreB_n (j := j6_leastLimit) (pc := 60) rfl (fun x2_4 => [some (.ref 1), some (.int x1), some (.int x2_4), some (.int x3), some (.int x4_2)]) (by decide) (fun _ => rfl) dX6_leastLimit_60 (fun x2_4 => ?_)
        refine sn_goto (j := j6_leastLimit) (pc := 61) 67 rfl dX6_leastLimit_61 ?_
        exact Snd.wk (sl6_leastLimit_67 rec23 hrec23 x1 x2_4 x3 M) (by simp [mm_le])
def l6_leastLimit_23  : Nat → Int32 → Int32 → Int32 → mm_M → Option (Int32 × mm_M)
  | 0 => fun _ _ _ _ => none
  | n + 1 => fun x1 x2 x3 M => b6_leastLimit_23  (l6_leastLimit_23  n) x1 x2 x3 M
theorem sl6_leastLimit_23   : ∀ (n : Nat) (x1 : Int32) (x2 : Int32) (x3 : Int32)  (M : mm_M), Snd injI j6_leastLimit mm_X0 23 [some (.ref 1), some (.int x1), some (.int x2), some (.int x3), none] [] M (l6_leastLimit_23  n x1 x2 x3 M)
  | 0 => fun _ _ _  _ => Snd.none
  | n + 1 => fun x1 x2 x3  M => sb6_leastLimit_23   (l6_leastLimit_23  n) (fun x1 x2 x3 M  => sl6_leastLimit_23   n x1 x2 x3  M) x1 x2 x3  M
def f6_leastLimit  (M : mm_M) : Option (Int32 × mm_M) :=
  aT 0 3 2 (fun w_5 => cI (f6_costIfSet 2 w_5 M) (fun r_6 M => if r_6 = (-2) then (some ((-1), M)) else (l6_leastLimit_23 FU w_5 1 0 M)))
set_option maxHeartbeats 2000000 in
theorem s6_leastLimit  (M : mm_M) : Snd injI j6_leastLimit mm_X0 0 [some (.ref 1)] [] M (f6_leastLimit  M) := by
  refine Snd.wk (lo' := [some (.ref 1), none, none, none, none]) ?_ (by simp [mm_le])
  unfold f6_leastLimit
  refine sn_gst (j := j6_leastLimit) (pc := 0) (t := 0) mm_Z0 rfl w_fl_X6_205 dX6_leastLimit_0 ?_
  refine sn_iconst (j := j6_leastLimit) (pc := 3) 2 rfl dX6_leastLimit_3 ?_
  refine sn_tald (j := j6_leastLimit) (pc := 4) (t := 0) mm_T0 dX6_leastLimit_4 (fun w_5 => ?_)
  refine sn_istore_n (j := j6_leastLimit) (pc := 5) rfl (by decide) (lo' := [some (.ref 1), some (.int w_5), none, none, none]) rfl dX6_leastLimit_5 ?_
  refine sn_aload_n (j := j6_leastLimit) (pc := 6) rfl rfl dX6_leastLimit_6 ?_
  refine sn_iconst (j := j6_leastLimit) (pc := 7) 2 rfl dX6_leastLimit_7 ?_
  refine sn_iload_n (j := j6_leastLimit) (pc := 8) rfl rfl dX6_leastLimit_8 ?_
  refine sn_callV (j := j6_leastLimit) (pc := 9) (jc := j6_costIfSet) (As := [.int 2, .int w_5]) (s6_costIfSet 2 w_5 M) mm_hvI (by simp [Value.category]) (Nat.le_of_ble_eq_true rfl) q6_costIfSet rfl (by decide) rfl rfl ⟨by decide, by decide⟩ w_ml_X6_202 w_im_X6_costIfSet w_se_X6_costIfSet rfl (Nat.le_of_ble_eq_true rfl) dX6_leastLimit_9 ?_
  rintro ⟨r_6, M⟩
  show Snd injI j6_leastLimit mm_X0 12 [some (.ref 1), some (.int w_5), none, none, none] [.int r_6] M _
  refine sn_bipush (j := j6_leastLimit) (pc := 12) (-2) rfl dX6_leastLimit_12 ?_
  refine sn_icmp_ne (j := j6_leastLimit) (pc := 14) 19 rfl dX6_leastLimit_14 ?_ ?_
  · refine sn_iconst (j := j6_leastLimit) (pc := 19) 1 rfl dX6_leastLimit_19 ?_
    refine sn_istore_n (j := j6_leastLimit) (pc := 20) rfl (by decide) (lo' := [some (.ref 1), some (.int w_5), some (.int 1), none, none]) rfl dX6_leastLimit_20 ?_
    refine sn_iconst (j := j6_leastLimit) (pc := 21) 0 rfl dX6_leastLimit_21 ?_
    refine sn_istore_n (j := j6_leastLimit) (pc := 22) rfl (by decide) (lo' := [some (.ref 1), some (.int w_5), some (.int 1), some (.int 0), none]) rfl dX6_leastLimit_22 ?_
    exact Snd.wk (sl6_leastLimit_23 FU w_5 1 0 M) (by simp [mm_le])
  · refine sn_iconst (j := j6_leastLimit) (pc := 17) (-1) rfl dX6_leastLimit_17 ?_
    exact sn_iret (j := j6_leastLimit) (pc := 18) rfl dX6_leastLimit_18

abbrev j6_least : mm_J := (yX6_least, cX6_least, 2, (some .int), 7)
theorem dX6_least_0 : decode cX6_least 0 = .ok (.iload_n 1, 1) := by decide +kernel
theorem dX6_least_1 : decode cX6_least 1 = .ok (.tableswitch 56 0 2 #[27, 38, 51], 27) := by decide +kernel
theorem dX6_least_28 : decode cX6_least 28 = .ok (.aload_n 0, 1) := by decide +kernel
theorem dX6_least_29 : decode cX6_least 29 = .ok (.iconst 0, 1) := by decide +kernel
theorem dX6_least_30 : decode cX6_least 30 = .ok (.getstatic 205, 3) := by decide +kernel
theorem dX6_least_33 : decode cX6_least 33 = .ok (.iconst 0, 1) := by decide +kernel
theorem dX6_least_34 : decode cX6_least 34 = .ok (.iaload, 1) := by decide +kernel
theorem dX6_least_35 : decode cX6_least 35 = .ok (.invokevirtual 208, 3) := by decide +kernel
theorem dX6_least_38 : decode cX6_least 38 = .ok (.ireturn, 1) := by decide +kernel
theorem dX6_least_39 : decode cX6_least 39 = .ok (.aload_n 0, 1) := by decide +kernel
theorem dX6_least_40 : decode cX6_least 40 = .ok (.iconst 1, 1) := by decide +kernel
theorem dX6_least_41 : decode cX6_least 41 = .ok (.aload_n 0, 1) := by decide +kernel
theorem dX6_least_42 : decode cX6_least 42 = .ok (.getfield 12, 3) := by decide +kernel
theorem dX6_least_45 : decode cX6_least 45 = .ok (.invokevirtual 211, 3) := by decide +kernel
theorem dX6_least_48 : decode cX6_least 48 = .ok (.invokevirtual 208, 3) := by decide +kernel
theorem dX6_least_51 : decode cX6_least 51 = .ok (.ireturn, 1) := by decide +kernel
theorem dX6_least_52 : decode cX6_least 52 = .ok (.aload_n 0, 1) := by decide +kernel
theorem dX6_least_53 : decode cX6_least 53 = .ok (.invokevirtual 215, 3) := by decide +kernel
theorem dX6_least_56 : decode cX6_least 56 = .ok (.ireturn, 1) := by decide +kernel
theorem dX6_least_57 : decode cX6_least 57 = .ok (.iconst (-1), 1) := by decide +kernel
theorem dX6_least_58 : decode cX6_least 58 = .ok (.ireturn, 1) := by decide +kernel
def f6_least (x1 : Int32) (M : mm_M) : Option (Int32 × mm_M) :=
  if x1 = 0 then (aT 0 3 0 (fun w_2 => cI (f6_firstReady 0 w_2 M) (fun r_3 M => some (r_3, M)))) else (if x1 = 1 then (bN (mNow M) (fun d_4 => if isD d_4 = true then (cI (f0_topRate d_4 M) (fun r_5 M => cI (f6_firstReady 1 r_5 M) (fun r_6 M => some (r_6, M)))) else none)) else (if x1 = 2 then (cI (f6_leastLimit M) (fun r_7 M => some (r_7, M))) else (some ((-1), M))))
set_option maxHeartbeats 2000000 in
theorem s6_least (x1 : Int32) (M : mm_M) : Snd injI j6_least mm_X0 0 [some (.ref 1), some (.int x1)] [] M (f6_least x1 M) := by
  refine Snd.wk (lo' := [some (.ref 1), some (.int x1)]) ?_ (by simp [mm_le])
  unfold f6_least
  refine sn_iload_n (j := j6_least) (pc := 0) rfl rfl dX6_least_0 ?_
  refine Snd.ifc (fun hx_1_0 => ?_) (fun hx_1_0 => ?_)
  · refine sn_tbl (j := j6_least) (pc := 1) 28 hx_1_0 rfl dX6_least_1 (by decide) (by decide) rfl rfl ?_
    refine sn_aload_n (j := j6_least) (pc := 28) rfl rfl dX6_least_28 ?_
    refine sn_iconst (j := j6_least) (pc := 29) 0 rfl dX6_least_29 ?_
    refine sn_gst (j := j6_least) (pc := 30) (t := 0) mm_Z0 rfl w_fl_X6_205 dX6_least_30 ?_
    refine sn_iconst (j := j6_least) (pc := 33) 0 rfl dX6_least_33 ?_
    refine sn_tald (j := j6_least) (pc := 34) (t := 0) mm_T0 dX6_least_34 (fun w_2 => ?_)
    refine sn_callV (j := j6_least) (pc := 35) (jc := j6_firstReady) (As := [.int 0, .int w_2]) (s6_firstReady 0 w_2 M) mm_hvI (by simp [Value.category]) (Nat.le_of_ble_eq_true rfl) q6_firstReady rfl (by decide) rfl rfl ⟨by decide, by decide⟩ w_ml_X6_208 w_im_X6_firstReady w_se_X6_firstReady rfl (Nat.le_of_ble_eq_true rfl) dX6_least_35 ?_
    rintro ⟨r_3, M⟩
    show Snd injI j6_least mm_X0 38 [some (.ref 1), some (.int x1)] [.int r_3] M _
    exact sn_iret (j := j6_least) (pc := 38) rfl dX6_least_38
  refine Snd.ifc (fun hx_1_1 => ?_) (fun hx_1_1 => ?_)
  · refine sn_tbl (j := j6_least) (pc := 1) 39 hx_1_1 rfl dX6_least_1 (by decide) (by decide) rfl rfl ?_
    refine sn_aload_n (j := j6_least) (pc := 39) rfl rfl dX6_least_39 ?_
    refine sn_iconst (j := j6_least) (pc := 40) 1 rfl dX6_least_40 ?_
    refine sn_aload_n (j := j6_least) (pc := 41) rfl rfl dX6_least_41 ?_
    refine g_X6_12 (j := j6_least) (pc := 42) rfl dX6_least_42 (fun d_4 => ?_)
    refine Snd.ite fun hd_4 => ?_
    refine sn_callV (j := j6_least) (pc := 45) (jc := j0_topRate) (As := []) (s0_topRate d_4 M) mm_hvI (by simp [Value.category]) (Nat.le_of_ble_eq_true rfl) q0_topRate rfl (by decide) rfl (isD_obj hd_4) (isD_pos hd_4) w_ml_X6_211 w_im_X0_topRate w_se_X0_topRate rfl (Nat.le_of_ble_eq_true rfl) dX6_least_45 ?_
    rintro ⟨r_5, M⟩
    show Snd injI j6_least mm_X0 48 [some (.ref 1), some (.int x1)] [.int r_5, .int 1, .ref 1] M _
    refine sn_callV (j := j6_least) (pc := 48) (jc := j6_firstReady) (As := [.int 1, .int r_5]) (s6_firstReady 1 r_5 M) mm_hvI (by simp [Value.category]) (Nat.le_of_ble_eq_true rfl) q6_firstReady rfl (by decide) rfl rfl ⟨by decide, by decide⟩ w_ml_X6_208 w_im_X6_firstReady w_se_X6_firstReady rfl (Nat.le_of_ble_eq_true rfl) dX6_least_48 ?_
    rintro ⟨r_6, M⟩
    show Snd injI j6_least mm_X0 51 [some (.ref 1), some (.int x1)] [.int r_6] M _
    exact sn_iret (j := j6_least) (pc := 51) rfl dX6_least_51
  refine Snd.ifc (fun hx_1_2 => ?_) (fun hx_1_2 => ?_)
  · refine sn_tbl (j := j6_least) (pc := 1) 52 hx_1_2 rfl dX6_least_1 (by decide) (by decide) rfl rfl ?_
    refine sn_aload_n (j := j6_least) (pc := 52) rfl rfl dX6_least_52 ?_
    refine sn_callV (j := j6_least) (pc := 53) (jc := j6_leastLimit) (As := []) (s6_leastLimit M) mm_hvI (by simp [Value.category]) (Nat.le_of_ble_eq_true rfl) q6_leastLimit rfl (by decide) rfl rfl ⟨by decide, by decide⟩ w_ml_X6_215 w_im_X6_leastLimit w_se_X6_leastLimit rfl (Nat.le_of_ble_eq_true rfl) dX6_least_53 ?_
    rintro ⟨r_7, M⟩
    show Snd injI j6_least mm_X0 56 [some (.ref 1), some (.int x1)] [.int r_7] M _
    exact sn_iret (j := j6_least) (pc := 56) rfl dX6_least_56
  refine sn_tblO (j := j6_least) (pc := 1) 57 dX6_least_1 (by have := lv_neT hx_1_0 (show (0 : Int32).toInt = 0 from rfl); have := lv_neT hx_1_1 (show (1 : Int32).toInt = 1 from rfl); have := lv_neT hx_1_2 (show (2 : Int32).toInt = 2 from rfl); omega) rfl ?_
  refine sn_iconst (j := j6_least) (pc := 57) (-1) rfl dX6_least_57 ?_
  exact sn_iret (j := j6_least) (pc := 58) rfl dX6_least_58

abbrev j6_without : mm_J := (yX6_without, cX6_without, 2, (some .int), 5)
theorem dX6_without_0 : decode cX6_without 0 = .ok (.iload_n 1, 1) := by decide +kernel
theorem dX6_without_1 : decode cX6_without 1 = .ok (.ifCond .lt 16, 3) := by decide +kernel
theorem dX6_without_4 : decode cX6_without 4 = .ok (.iload_n 1, 1) := by decide +kernel
theorem dX6_without_5 : decode cX6_without 5 = .ok (.iconst 1, 1) := by decide +kernel
theorem dX6_without_6 : decode cX6_without 6 = .ok (.aload_n 0, 1) := by decide +kernel
theorem dX6_without_7 : decode cX6_without 7 = .ok (.getfield 12, 3) := by decide +kernel
theorem dX6_without_10 : decode cX6_without 10 = .ok (.getfield 94, 3) := by decide +kernel
theorem dX6_without_13 : decode cX6_without 13 = .ok (.ishl, 1) := by decide +kernel
theorem dX6_without_14 : decode cX6_without 14 = .ok (.if_icmp .lt 5, 3) := by decide +kernel
theorem dX6_without_17 : decode cX6_without 17 = .ok (.iconst (-1), 1) := by decide +kernel
theorem dX6_without_18 : decode cX6_without 18 = .ok (.ireturn, 1) := by decide +kernel
theorem dX6_without_19 : decode cX6_without 19 = .ok (.aload_n 0, 1) := by decide +kernel
theorem dX6_without_20 : decode cX6_without 20 = .ok (.getfield 47, 3) := by decide +kernel
theorem dX6_without_23 : decode cX6_without 23 = .ok (.aload_n 0, 1) := by decide +kernel
theorem dX6_without_24 : decode cX6_without 24 = .ok (.getfield 12, 3) := by decide +kernel
theorem dX6_without_27 : decode cX6_without 27 = .ok (.invokevirtual 218, 3) := by decide +kernel
theorem dX6_without_30 : decode cX6_without 30 = .ok (.aload_n 0, 1) := by decide +kernel
theorem dX6_without_31 : decode cX6_without 31 = .ok (.getfield 47, 3) := by decide +kernel
theorem dX6_without_34 : decode cX6_without 34 = .ok (.iload_n 1, 1) := by decide +kernel
theorem dX6_without_35 : decode cX6_without 35 = .ok (.putfield 221, 3) := by decide +kernel
theorem dX6_without_38 : decode cX6_without 38 = .ok (.aload_n 0, 1) := by decide +kernel
theorem dX6_without_39 : decode cX6_without 39 = .ok (.getfield 47, 3) := by decide +kernel
theorem dX6_without_42 : decode cX6_without 42 = .ok (.invokevirtual 224, 3) := by decide +kernel
theorem dX6_without_45 : decode cX6_without 45 = .ok (.ireturn, 1) := by decide +kernel
def l6_without_17   (M : mm_M) : Option (Int32 × mm_M) :=
  some ((-1), M)
set_option maxHeartbeats 2000000 in
theorem sl6_without_17     (M : mm_M) : Snd injI j6_without mm_X0 17 [none, none] [] M (l6_without_17   M) := by
  unfold l6_without_17
  refine sn_iconst (j := j6_without) (pc := 17) (-1) rfl dX6_without_17 ?_
  exact sn_iret (j := j6_without) (pc := 18) rfl dX6_without_18
def f6_without (x1 : Int32) (M : mm_M) : Option (Int32 × mm_M) :=
  if x1 < 0 then (l6_without_17 M) else (bN (mNow M) (fun d_1 => if isD d_1 = true then (bI (mI M d_1 2) (fun v_2 => if x1 < (1 <<< (v_2 &&& 31)) then (bN (mNow M) (fun d_3 => if isD d_3 = true then (cV (f2_lookAt d_3 M) (fun M => bM (sI M 26 2 x1) (fun M => cI (f2_costIfReady M) (fun r_4 M => some (r_4, M))))) else none)) else (l6_without_17 M))) else none))
set_option maxHeartbeats 2000000 in
theorem s6_without (x1 : Int32) (M : mm_M) : Snd injI j6_without mm_X0 0 [some (.ref 1), some (.int x1)] [] M (f6_without x1 M) := by
  refine Snd.wk (lo' := [some (.ref 1), some (.int x1)]) ?_ (by simp [mm_le])
  unfold f6_without
  refine sn_iload_n (j := j6_without) (pc := 0) rfl rfl dX6_without_0 ?_
  refine sn_if_lt (j := j6_without) (pc := 1) 17 rfl dX6_without_1 ?_ ?_
  · exact Snd.wk (sl6_without_17 M) (by simp [mm_le])
  · refine sn_iload_n (j := j6_without) (pc := 4) rfl rfl dX6_without_4 ?_
    refine sn_iconst (j := j6_without) (pc := 5) 1 rfl dX6_without_5 ?_
    refine sn_aload_n (j := j6_without) (pc := 6) rfl rfl dX6_without_6 ?_
    refine g_X6_12 (j := j6_without) (pc := 7) rfl dX6_without_7 (fun d_1 => ?_)
    refine Snd.ite fun hd_1 => ?_
    refine g_X6_94 (j := j6_without) (pc := 10) hd_1 rfl dX6_without_10 ?_
    refine Snd.bI (fun v_2 => ?_)
    refine sn_ishl (j := j6_without) (pc := 13) dX6_without_13 ?_
    refine sn_icmp_lt (j := j6_without) (pc := 14) 19 rfl dX6_without_14 ?_ ?_
    · refine sn_aload_n (j := j6_without) (pc := 19) rfl rfl dX6_without_19 ?_
      refine g_X6_47 (j := j6_without) (pc := 20) rfl dX6_without_20 ?_
      refine sn_aload_n (j := j6_without) (pc := 23) rfl rfl dX6_without_23 ?_
      refine g_X6_12 (j := j6_without) (pc := 24) rfl dX6_without_24 (fun d_3 => ?_)
      refine Snd.ite fun hd_3 => ?_
      refine sn_callV (j := j6_without) (pc := 27) (jc := j2_lookAt) (As := [.ref d_3]) (s2_lookAt d_3 M) mm_hvV (by simp [Value.category]) (Nat.le_of_ble_eq_true rfl) q2_lookAt rfl (by decide) rfl rfl ⟨by decide, by decide⟩ w_ml_X6_218 w_im_X2_lookAt w_se_X2_lookAt rfl (Nat.le_of_ble_eq_true rfl) dX6_without_27 ?_
      intro M
      show Snd injI j6_without mm_X0 30 [some (.ref 1), some (.int x1)] [] M _
      refine sn_aload_n (j := j6_without) (pc := 30) rfl rfl dX6_without_30 ?_
      refine g_X6_47 (j := j6_without) (pc := 31) rfl dX6_without_31 ?_
      refine sn_iload_n (j := j6_without) (pc := 34) rfl rfl dX6_without_34 ?_
      refine p_X6_221 (j := j6_without) (pc := 35) rfl dX6_without_35 (fun M => ?_)
      refine sn_aload_n (j := j6_without) (pc := 38) rfl rfl dX6_without_38 ?_
      refine g_X6_47 (j := j6_without) (pc := 39) rfl dX6_without_39 ?_
      refine sn_callV (j := j6_without) (pc := 42) (jc := j2_costIfReady) (As := []) (s2_costIfReady M) mm_hvI (by simp [Value.category]) (Nat.le_of_ble_eq_true rfl) q2_costIfReady rfl (by decide) rfl rfl ⟨by decide, by decide⟩ w_ml_X6_224 w_im_X2_costIfReady w_se_X2_costIfReady rfl (Nat.le_of_ble_eq_true rfl) dX6_without_42 ?_
      rintro ⟨r_4, M⟩
      show Snd injI j6_without mm_X0 45 [some (.ref 1), some (.int x1)] [.int r_4] M _
      exact sn_iret (j := j6_without) (pc := 45) rfl dX6_without_45
    · exact Snd.wk (sl6_without_17 M) (by simp [mm_le])

abbrev j6_isRule : mm_J := (yX6_isRule, cX6_isRule, 1, (some .boolean), 0)
theorem dX6_isRule_0 : decode cX6_isRule 0 = .ok (.iload_n 0, 1) := by decide +kernel
theorem dX6_isRule_1 : decode cX6_isRule 1 = .ok (.ifCond .lt 12, 3) := by decide +kernel
theorem dX6_isRule_4 : decode cX6_isRule 4 = .ok (.iload_n 0, 1) := by decide +kernel
theorem dX6_isRule_5 : decode cX6_isRule 5 = .ok (.iconst 4, 1) := by decide +kernel
theorem dX6_isRule_6 : decode cX6_isRule 6 = .ok (.if_icmp .ge 7, 3) := by decide +kernel
theorem dX6_isRule_9 : decode cX6_isRule 9 = .ok (.iconst 1, 1) := by decide +kernel
theorem dX6_isRule_10 : decode cX6_isRule 10 = .ok (.goto 4, 3) := by decide +kernel
theorem dX6_isRule_13 : decode cX6_isRule 13 = .ok (.iconst 0, 1) := by decide +kernel
theorem dX6_isRule_14 : decode cX6_isRule 14 = .ok (.ireturn, 1) := by decide +kernel
def l6_isRule_14  (s0 : Int32) (M : mm_M) : Option (Int32 × mm_M) :=
  rZ s0 M
set_option maxHeartbeats 2000000 in
theorem sl6_isRule_14   (s0 : Int32)  (M : mm_M) : Snd injI j6_isRule mm_X0 14 [none] [.int s0] M (l6_isRule_14  s0 M) := by
  unfold l6_isRule_14
  exact sn_zret (j := j6_isRule) (pc := 14) rfl dX6_isRule_14
def l6_isRule_13   (M : mm_M) : Option (Int32 × mm_M) :=
  l6_isRule_14 0 M
set_option maxHeartbeats 2000000 in
theorem sl6_isRule_13     (M : mm_M) : Snd injI j6_isRule mm_X0 13 [none] [] M (l6_isRule_13   M) := by
  unfold l6_isRule_13
  refine sn_iconst (j := j6_isRule) (pc := 13) 0 rfl dX6_isRule_13 ?_
  exact Snd.wk (sl6_isRule_14 0 M) (by simp [mm_le])
def f6_isRule (x0 : Int32) (M : mm_M) : Option (Int32 × mm_M) :=
  if x0 < 0 then (l6_isRule_13 M) else (if 4 ≤ x0 then (l6_isRule_13 M) else (l6_isRule_14 1 M))
set_option maxHeartbeats 2000000 in
theorem s6_isRule (x0 : Int32) (M : mm_M) : Snd injI j6_isRule mm_X0 0 [some (.int x0)] [] M (f6_isRule x0 M) := by
  refine Snd.wk (lo' := [some (.int x0)]) ?_ (by simp [mm_le])
  unfold f6_isRule
  refine sn_iload_n (j := j6_isRule) (pc := 0) rfl rfl dX6_isRule_0 ?_
  refine sn_if_lt (j := j6_isRule) (pc := 1) 13 rfl dX6_isRule_1 ?_ ?_
  · exact Snd.wk (sl6_isRule_13 M) (by simp [mm_le])
  · refine sn_iload_n (j := j6_isRule) (pc := 4) rfl rfl dX6_isRule_4 ?_
    refine sn_iconst (j := j6_isRule) (pc := 5) 4 rfl dX6_isRule_5 ?_
    refine sn_icmp_ge (j := j6_isRule) (pc := 6) 13 rfl dX6_isRule_6 ?_ ?_
    · exact Snd.wk (sl6_isRule_13 M) (by simp [mm_le])
    · refine sn_iconst (j := j6_isRule) (pc := 9) 1 rfl dX6_isRule_9 ?_
      refine sn_goto (j := j6_isRule) (pc := 10) 14 rfl dX6_isRule_10 ?_
      exact Snd.wk (sl6_isRule_14 1 M) (by simp [mm_le])

abbrev j6_rule : mm_J := (yX6_rule, cX6_rule, 3, (some .int), 6)
theorem dX6_rule_0 : decode cX6_rule 0 = .ok (.iload_n 1, 1) := by decide +kernel
theorem dX6_rule_1 : decode cX6_rule 1 = .ok (.invokestatic 227, 3) := by decide +kernel
theorem dX6_rule_4 : decode cX6_rule 4 = .ok (.ifCond .ne 5, 3) := by decide +kernel
theorem dX6_rule_7 : decode cX6_rule 7 = .ok (.iconst (-1), 1) := by decide +kernel
theorem dX6_rule_8 : decode cX6_rule 8 = .ok (.ireturn, 1) := by decide +kernel
theorem dX6_rule_9 : decode cX6_rule 9 = .ok (.aload_n 0, 1) := by decide +kernel
theorem dX6_rule_10 : decode cX6_rule 10 = .ok (.getfield 54, 3) := by decide +kernel
theorem dX6_rule_13 : decode cX6_rule 13 = .ok (.aload_n 0, 1) := by decide +kernel
theorem dX6_rule_14 : decode cX6_rule 14 = .ok (.getfield 12, 3) := by decide +kernel
theorem dX6_rule_17 : decode cX6_rule 17 = .ok (.iload_n 1, 1) := by decide +kernel
theorem dX6_rule_18 : decode cX6_rule 18 = .ok (.invokevirtual 230, 3) := by decide +kernel
theorem dX6_rule_21 : decode cX6_rule 21 = .ok (.iload_n 2, 1) := by decide +kernel
theorem dX6_rule_22 : decode cX6_rule 22 = .ok (.bipush 10, 2) := by decide +kernel
theorem dX6_rule_24 : decode cX6_rule 24 = .ok (.if_icmp .lt 34, 3) := by decide +kernel
theorem dX6_rule_27 : decode cX6_rule 27 = .ok (.aload_n 0, 1) := by decide +kernel
theorem dX6_rule_28 : decode cX6_rule 28 = .ok (.getfield 12, 3) := by decide +kernel
theorem dX6_rule_31 : decode cX6_rule 31 = .ok (.iload_n 2, 1) := by decide +kernel
theorem dX6_rule_32 : decode cX6_rule 32 = .ok (.bipush 10, 2) := by decide +kernel
theorem dX6_rule_34 : decode cX6_rule 34 = .ok (.isub, 1) := by decide +kernel
theorem dX6_rule_35 : decode cX6_rule 35 = .ok (.invokevirtual 103, 3) := by decide +kernel
theorem dX6_rule_38 : decode cX6_rule 38 = .ok (.ifCond .eq 18, 3) := by decide +kernel
theorem dX6_rule_41 : decode cX6_rule 41 = .ok (.aload_n 0, 1) := by decide +kernel
theorem dX6_rule_42 : decode cX6_rule 42 = .ok (.getfield 54, 3) := by decide +kernel
theorem dX6_rule_45 : decode cX6_rule 45 = .ok (.getfield 234, 3) := by decide +kernel
theorem dX6_rule_48 : decode cX6_rule 48 = .ok (.iload_n 2, 1) := by decide +kernel
theorem dX6_rule_49 : decode cX6_rule 49 = .ok (.bipush 10, 2) := by decide +kernel
theorem dX6_rule_51 : decode cX6_rule 51 = .ok (.isub, 1) := by decide +kernel
theorem dX6_rule_52 : decode cX6_rule 52 = .ok (.iaload, 1) := by decide +kernel
theorem dX6_rule_53 : decode cX6_rule 53 = .ok (.goto 4, 3) := by decide +kernel
theorem dX6_rule_56 : decode cX6_rule 56 = .ok (.iconst (-1), 1) := by decide +kernel
theorem dX6_rule_57 : decode cX6_rule 57 = .ok (.ireturn, 1) := by decide +kernel
theorem dX6_rule_58 : decode cX6_rule 58 = .ok (.aload_n 0, 1) := by decide +kernel
theorem dX6_rule_59 : decode cX6_rule 59 = .ok (.getfield 38, 3) := by decide +kernel
theorem dX6_rule_62 : decode cX6_rule 62 = .ok (.aload_n 0, 1) := by decide +kernel
theorem dX6_rule_63 : decode cX6_rule 63 = .ok (.getfield 12, 3) := by decide +kernel
theorem dX6_rule_66 : decode cX6_rule 66 = .ok (.aload_n 0, 1) := by decide +kernel
theorem dX6_rule_67 : decode cX6_rule 67 = .ok (.getfield 54, 3) := by decide +kernel
theorem dX6_rule_70 : decode cX6_rule 70 = .ok (.getfield 234, 3) := by decide +kernel
theorem dX6_rule_73 : decode cX6_rule 73 = .ok (.invokevirtual 113, 3) := by decide +kernel
theorem dX6_rule_76 : decode cX6_rule 76 = .ok (.aload_n 0, 1) := by decide +kernel
theorem dX6_rule_77 : decode cX6_rule 77 = .ok (.getfield 38, 3) := by decide +kernel
theorem dX6_rule_80 : decode cX6_rule 80 = .ok (.iload_n 2, 1) := by decide +kernel
theorem dX6_rule_81 : decode cX6_rule 81 = .ok (.invokevirtual 181, 3) := by decide +kernel
theorem dX6_rule_84 : decode cX6_rule 84 = .ok (.ireturn, 1) := by decide +kernel
def l6_rule_57  (s0 : Int32) (M : mm_M) : Option (Int32 × mm_M) :=
  some (s0, M)
set_option maxHeartbeats 2000000 in
theorem sl6_rule_57   (s0 : Int32)  (M : mm_M) : Snd injI j6_rule mm_X0 57 [none, none, none] [.int s0] M (l6_rule_57  s0 M) := by
  unfold l6_rule_57
  exact sn_iret (j := j6_rule) (pc := 57) rfl dX6_rule_57
def f6_rule (x1 : Int32) (x2 : Int32) (M : mm_M) : Option (Int32 × mm_M) :=
  cI (f6_isRule x1 M) (fun r_1 M => if r_1 = 0 then (some ((-1), M)) else (bN (mNow M) (fun d_2 => if isD d_2 = true then (cV (f4_make d_2 x1 M) (fun M => if x2 < 10 then (bN (mNow M) (fun d_3 => if isD d_3 = true then (cV (f1_weigh d_3 42 M) (fun M => cI (f1_figure x2 M) (fun r_4 M => some (r_4, M)))) else none)) else (bN (mNow M) (fun d_5 => if isD d_5 = true then (cI (f0_hasSlot d_5 (x2 - 10) M) (fun r_6 M => if r_6 = 0 then (l6_rule_57 (-1) M) else (aI 42 8 (x2 - 10) M (fun w_7 => l6_rule_57 w_7 M)))) else none)))) else none)))
set_option maxHeartbeats 2000000 in
theorem s6_rule (x1 : Int32) (x2 : Int32) (M : mm_M) : Snd injI j6_rule mm_X0 0 [some (.ref 1), some (.int x1), some (.int x2)] [] M (f6_rule x1 x2 M) := by
  refine Snd.wk (lo' := [some (.ref 1), some (.int x1), some (.int x2)]) ?_ (by simp [mm_le])
  unfold f6_rule
  refine sn_iload_n (j := j6_rule) (pc := 0) rfl rfl dX6_rule_0 ?_
  refine sn_callS (j := j6_rule) (pc := 1) (jc := j6_isRule) (As := [.int x1]) (s6_isRule x1 M) mm_hvI (by simp [Value.category]) (Nat.le_of_ble_eq_true rfl) q6_isRule rfl (by decide) w_ml_X6_227 w_st_X6_isRule rfl (Nat.le_of_ble_eq_true rfl) dX6_rule_1 ?_
  rintro ⟨r_1, M⟩
  show Snd injI j6_rule mm_X0 4 [some (.ref 1), some (.int x1), some (.int x2)] [.int r_1] M _
  refine sn_if_ne (j := j6_rule) (pc := 4) 9 rfl dX6_rule_4 ?_ ?_
  · refine sn_aload_n (j := j6_rule) (pc := 9) rfl rfl dX6_rule_9 ?_
    refine g_X6_54 (j := j6_rule) (pc := 10) rfl dX6_rule_10 ?_
    refine sn_aload_n (j := j6_rule) (pc := 13) rfl rfl dX6_rule_13 ?_
    refine g_X6_12 (j := j6_rule) (pc := 14) rfl dX6_rule_14 (fun d_2 => ?_)
    refine Snd.ite fun hd_2 => ?_
    refine sn_iload_n (j := j6_rule) (pc := 17) rfl rfl dX6_rule_17 ?_
    refine sn_callV (j := j6_rule) (pc := 18) (jc := j4_make) (As := [.ref d_2, .int x1]) (s4_make d_2 x1 M) mm_hvV (by simp [Value.category]) (Nat.le_of_ble_eq_true rfl) q4_make rfl (by decide) rfl rfl ⟨by decide, by decide⟩ w_ml_X6_230 w_im_X4_make w_se_X4_make rfl (Nat.le_of_ble_eq_true rfl) dX6_rule_18 ?_
    intro M
    show Snd injI j6_rule mm_X0 21 [some (.ref 1), some (.int x1), some (.int x2)] [] M _
    refine sn_iload_n (j := j6_rule) (pc := 21) rfl rfl dX6_rule_21 ?_
    refine sn_bipush (j := j6_rule) (pc := 22) 10 rfl dX6_rule_22 ?_
    refine sn_icmp_lt (j := j6_rule) (pc := 24) 58 rfl dX6_rule_24 ?_ ?_
    · refine sn_aload_n (j := j6_rule) (pc := 58) rfl rfl dX6_rule_58 ?_
      refine g_X6_38 (j := j6_rule) (pc := 59) rfl dX6_rule_59 ?_
      refine sn_aload_n (j := j6_rule) (pc := 62) rfl rfl dX6_rule_62 ?_
      refine g_X6_12 (j := j6_rule) (pc := 63) rfl dX6_rule_63 (fun d_3 => ?_)
      refine Snd.ite fun hd_3 => ?_
      refine sn_aload_n (j := j6_rule) (pc := 66) rfl rfl dX6_rule_66 ?_
      refine g_X6_54 (j := j6_rule) (pc := 67) rfl dX6_rule_67 ?_
      refine g_X6_234 (j := j6_rule) (pc := 70) rfl dX6_rule_70 ?_
      refine sn_callV (j := j6_rule) (pc := 73) (jc := j1_weigh) (As := [.ref d_3, .ref 42]) (s1_weigh d_3 42 M) mm_hvV (by simp [Value.category]) (Nat.le_of_ble_eq_true rfl) q1_weigh rfl (by decide) rfl rfl ⟨by decide, by decide⟩ w_ml_X6_113 w_im_X1_weigh w_se_X1_weigh rfl (Nat.le_of_ble_eq_true rfl) dX6_rule_73 ?_
      intro M
      show Snd injI j6_rule mm_X0 76 [some (.ref 1), some (.int x1), some (.int x2)] [] M _
      refine sn_aload_n (j := j6_rule) (pc := 76) rfl rfl dX6_rule_76 ?_
      refine g_X6_38 (j := j6_rule) (pc := 77) rfl dX6_rule_77 ?_
      refine sn_iload_n (j := j6_rule) (pc := 80) rfl rfl dX6_rule_80 ?_
      refine sn_callV (j := j6_rule) (pc := 81) (jc := j1_figure) (As := [.int x2]) (s1_figure x2 M) mm_hvI (by simp [Value.category]) (Nat.le_of_ble_eq_true rfl) q1_figure rfl (by decide) rfl rfl ⟨by decide, by decide⟩ w_ml_X6_181 w_im_X1_figure w_se_X1_figure rfl (Nat.le_of_ble_eq_true rfl) dX6_rule_81 ?_
      rintro ⟨r_4, M⟩
      show Snd injI j6_rule mm_X0 84 [some (.ref 1), some (.int x1), some (.int x2)] [.int r_4] M _
      exact sn_iret (j := j6_rule) (pc := 84) rfl dX6_rule_84
    · refine sn_aload_n (j := j6_rule) (pc := 27) rfl rfl dX6_rule_27 ?_
      refine g_X6_12 (j := j6_rule) (pc := 28) rfl dX6_rule_28 (fun d_5 => ?_)
      refine Snd.ite fun hd_5 => ?_
      refine sn_iload_n (j := j6_rule) (pc := 31) rfl rfl dX6_rule_31 ?_
      refine sn_bipush (j := j6_rule) (pc := 32) 10 rfl dX6_rule_32 ?_
      refine sn_isub (j := j6_rule) (pc := 34) dX6_rule_34 ?_
      refine sn_callV (j := j6_rule) (pc := 35) (jc := j0_hasSlot) (As := [.int (x2 - 10)]) (s0_hasSlot d_5 (x2 - 10) M) mm_hvI (by simp [Value.category]) (Nat.le_of_ble_eq_true rfl) q0_hasSlot rfl (by decide) rfl (isD_obj hd_5) (isD_pos hd_5) w_ml_X6_103 w_im_X0_hasSlot w_se_X0_hasSlot rfl (Nat.le_of_ble_eq_true rfl) dX6_rule_35 ?_
      rintro ⟨r_6, M⟩
      show Snd injI j6_rule mm_X0 38 [some (.ref 1), some (.int x1), some (.int x2)] [.int r_6] M _
      refine sn_if_eq (j := j6_rule) (pc := 38) 56 rfl dX6_rule_38 ?_ ?_
      · refine sn_iconst (j := j6_rule) (pc := 56) (-1) rfl dX6_rule_56 ?_
        exact Snd.wk (sl6_rule_57 (-1) M) (by simp [mm_le])
      · refine sn_aload_n (j := j6_rule) (pc := 41) rfl rfl dX6_rule_41 ?_
        refine g_X6_54 (j := j6_rule) (pc := 42) rfl dX6_rule_42 ?_
        refine g_X6_234 (j := j6_rule) (pc := 45) rfl dX6_rule_45 ?_
        refine sn_iload_n (j := j6_rule) (pc := 48) rfl rfl dX6_rule_48 ?_
        refine sn_bipush (j := j6_rule) (pc := 49) 10 rfl dX6_rule_49 ?_
        refine sn_isub (j := j6_rule) (pc := 51) dX6_rule_51 ?_
        refine sn_iald (j := j6_rule) (pc := 52) rfl ⟨by decide, by decide⟩ dX6_rule_52 (fun w_7 => ?_)
        refine sn_goto (j := j6_rule) (pc := 53) 57 rfl dX6_rule_53 ?_
        exact Snd.wk (sl6_rule_57 w_7 M) (by simp [mm_le])
  · refine sn_iconst (j := j6_rule) (pc := 7) (-1) rfl dX6_rule_7 ?_
    exact sn_iret (j := j6_rule) (pc := 8) rfl dX6_rule_8

abbrev j6_takeRule : mm_J := (yX6_takeRule, cX6_takeRule, 2, (some .int), 6)
theorem dX6_takeRule_0 : decode cX6_takeRule 0 = .ok (.iload_n 1, 1) := by decide +kernel
theorem dX6_takeRule_1 : decode cX6_takeRule 1 = .ok (.invokestatic 227, 3) := by decide +kernel
theorem dX6_takeRule_4 : decode cX6_takeRule 4 = .ok (.ifCond .ne 5, 3) := by decide +kernel
theorem dX6_takeRule_7 : decode cX6_takeRule 7 = .ok (.iconst (-1), 1) := by decide +kernel
theorem dX6_takeRule_8 : decode cX6_takeRule 8 = .ok (.ireturn, 1) := by decide +kernel
theorem dX6_takeRule_9 : decode cX6_takeRule 9 = .ok (.aload_n 0, 1) := by decide +kernel
theorem dX6_takeRule_10 : decode cX6_takeRule 10 = .ok (.getfield 54, 3) := by decide +kernel
theorem dX6_takeRule_13 : decode cX6_takeRule 13 = .ok (.aload_n 0, 1) := by decide +kernel
theorem dX6_takeRule_14 : decode cX6_takeRule 14 = .ok (.getfield 12, 3) := by decide +kernel
theorem dX6_takeRule_17 : decode cX6_takeRule 17 = .ok (.iload_n 1, 1) := by decide +kernel
theorem dX6_takeRule_18 : decode cX6_takeRule 18 = .ok (.invokevirtual 230, 3) := by decide +kernel
theorem dX6_takeRule_21 : decode cX6_takeRule 21 = .ok (.aload_n 0, 1) := by decide +kernel
theorem dX6_takeRule_22 : decode cX6_takeRule 22 = .ok (.aload_n 0, 1) := by decide +kernel
theorem dX6_takeRule_23 : decode cX6_takeRule 23 = .ok (.getfield 54, 3) := by decide +kernel
theorem dX6_takeRule_26 : decode cX6_takeRule 26 = .ok (.getfield 234, 3) := by decide +kernel
theorem dX6_takeRule_29 : decode cX6_takeRule 29 = .ok (.invokevirtual 192, 3) := by decide +kernel
theorem dX6_takeRule_32 : decode cX6_takeRule 32 = .ok (.ireturn, 1) := by decide +kernel
def f6_takeRule (x1 : Int32) (M : mm_M) : Option (Int32 × mm_M) :=
  cI (f6_isRule x1 M) (fun r_1 M => if r_1 = 0 then (some ((-1), M)) else (bN (mNow M) (fun d_2 => if isD d_2 = true then (cV (f4_make d_2 x1 M) (fun M => cI (f6_adopt 42 M) (fun r_3 M => some (r_3, M)))) else none)))
set_option maxHeartbeats 2000000 in
theorem s6_takeRule (x1 : Int32) (M : mm_M) : Snd injI j6_takeRule mm_X0 0 [some (.ref 1), some (.int x1)] [] M (f6_takeRule x1 M) := by
  refine Snd.wk (lo' := [some (.ref 1), some (.int x1)]) ?_ (by simp [mm_le])
  unfold f6_takeRule
  refine sn_iload_n (j := j6_takeRule) (pc := 0) rfl rfl dX6_takeRule_0 ?_
  refine sn_callS (j := j6_takeRule) (pc := 1) (jc := j6_isRule) (As := [.int x1]) (s6_isRule x1 M) mm_hvI (by simp [Value.category]) (Nat.le_of_ble_eq_true rfl) q6_isRule rfl (by decide) w_ml_X6_227 w_st_X6_isRule rfl (Nat.le_of_ble_eq_true rfl) dX6_takeRule_1 ?_
  rintro ⟨r_1, M⟩
  show Snd injI j6_takeRule mm_X0 4 [some (.ref 1), some (.int x1)] [.int r_1] M _
  refine sn_if_ne (j := j6_takeRule) (pc := 4) 9 rfl dX6_takeRule_4 ?_ ?_
  · refine sn_aload_n (j := j6_takeRule) (pc := 9) rfl rfl dX6_takeRule_9 ?_
    refine g_X6_54 (j := j6_takeRule) (pc := 10) rfl dX6_takeRule_10 ?_
    refine sn_aload_n (j := j6_takeRule) (pc := 13) rfl rfl dX6_takeRule_13 ?_
    refine g_X6_12 (j := j6_takeRule) (pc := 14) rfl dX6_takeRule_14 (fun d_2 => ?_)
    refine Snd.ite fun hd_2 => ?_
    refine sn_iload_n (j := j6_takeRule) (pc := 17) rfl rfl dX6_takeRule_17 ?_
    refine sn_callV (j := j6_takeRule) (pc := 18) (jc := j4_make) (As := [.ref d_2, .int x1]) (s4_make d_2 x1 M) mm_hvV (by simp [Value.category]) (Nat.le_of_ble_eq_true rfl) q4_make rfl (by decide) rfl rfl ⟨by decide, by decide⟩ w_ml_X6_230 w_im_X4_make w_se_X4_make rfl (Nat.le_of_ble_eq_true rfl) dX6_takeRule_18 ?_
    intro M
    show Snd injI j6_takeRule mm_X0 21 [some (.ref 1), some (.int x1)] [] M _
    refine sn_aload_n (j := j6_takeRule) (pc := 21) rfl rfl dX6_takeRule_21 ?_
    refine sn_aload_n (j := j6_takeRule) (pc := 22) rfl rfl dX6_takeRule_22 ?_
    refine g_X6_54 (j := j6_takeRule) (pc := 23) rfl dX6_takeRule_23 ?_
    refine g_X6_234 (j := j6_takeRule) (pc := 26) rfl dX6_takeRule_26 ?_
    refine sn_callV (j := j6_takeRule) (pc := 29) (jc := j6_adopt) (As := [.ref 42]) (s6_adopt 42 M) mm_hvI (by simp [Value.category]) (Nat.le_of_ble_eq_true rfl) q6_adopt rfl (by decide) rfl rfl ⟨by decide, by decide⟩ w_ml_X6_192 w_im_X6_adopt w_se_X6_adopt rfl (Nat.le_of_ble_eq_true rfl) dX6_takeRule_29 ?_
    rintro ⟨r_3, M⟩
    show Snd injI j6_takeRule mm_X0 32 [some (.ref 1), some (.int x1)] [.int r_3] M _
    exact sn_iret (j := j6_takeRule) (pc := 32) rfl dX6_takeRule_32
  · refine sn_iconst (j := j6_takeRule) (pc := 7) (-1) rfl dX6_takeRule_7 ?_
    exact sn_iret (j := j6_takeRule) (pc := 8) rfl dX6_takeRule_8

abbrev j6_bestRule : mm_J := (yX6_bestRule, cX6_bestRule, 6, (some .int), 6)
theorem dX6_bestRule_0 : decode cX6_bestRule 0 = .ok (.iconst 0, 1) := by decide +kernel
theorem dX6_bestRule_1 : decode cX6_bestRule 1 = .ok (.istore_n 1, 1) := by decide +kernel
theorem dX6_bestRule_2 : decode cX6_bestRule 2 = .ok (.iconst 0, 1) := by decide +kernel
theorem dX6_bestRule_3 : decode cX6_bestRule 3 = .ok (.istore_n 2, 1) := by decide +kernel
theorem dX6_bestRule_4 : decode cX6_bestRule 4 = .ok (.iconst 0, 1) := by decide +kernel
theorem dX6_bestRule_5 : decode cX6_bestRule 5 = .ok (.istore_n 3, 1) := by decide +kernel
theorem dX6_bestRule_6 : decode cX6_bestRule 6 = .ok (.iconst 0, 1) := by decide +kernel
theorem dX6_bestRule_7 : decode cX6_bestRule 7 = .ok (.istore 4, 2) := by decide +kernel
theorem dX6_bestRule_9 : decode cX6_bestRule 9 = .ok (.iload 4, 2) := by decide +kernel
theorem dX6_bestRule_11 : decode cX6_bestRule 11 = .ok (.iconst 4, 1) := by decide +kernel
theorem dX6_bestRule_12 : decode cX6_bestRule 12 = .ok (.if_icmp .ge 109, 3) := by decide +kernel
theorem dX6_bestRule_15 : decode cX6_bestRule 15 = .ok (.aload_n 0, 1) := by decide +kernel
theorem dX6_bestRule_16 : decode cX6_bestRule 16 = .ok (.getfield 54, 3) := by decide +kernel
theorem dX6_bestRule_19 : decode cX6_bestRule 19 = .ok (.aload_n 0, 1) := by decide +kernel
theorem dX6_bestRule_20 : decode cX6_bestRule 20 = .ok (.getfield 12, 3) := by decide +kernel
theorem dX6_bestRule_23 : decode cX6_bestRule 23 = .ok (.iload 4, 2) := by decide +kernel
theorem dX6_bestRule_25 : decode cX6_bestRule 25 = .ok (.invokevirtual 230, 3) := by decide +kernel
theorem dX6_bestRule_28 : decode cX6_bestRule 28 = .ok (.aload_n 0, 1) := by decide +kernel
theorem dX6_bestRule_29 : decode cX6_bestRule 29 = .ok (.getfield 38, 3) := by decide +kernel
theorem dX6_bestRule_32 : decode cX6_bestRule 32 = .ok (.aload_n 0, 1) := by decide +kernel
theorem dX6_bestRule_33 : decode cX6_bestRule 33 = .ok (.getfield 12, 3) := by decide +kernel
theorem dX6_bestRule_36 : decode cX6_bestRule 36 = .ok (.aload_n 0, 1) := by decide +kernel
theorem dX6_bestRule_37 : decode cX6_bestRule 37 = .ok (.getfield 54, 3) := by decide +kernel
theorem dX6_bestRule_40 : decode cX6_bestRule 40 = .ok (.getfield 234, 3) := by decide +kernel
theorem dX6_bestRule_43 : decode cX6_bestRule 43 = .ok (.invokevirtual 113, 3) := by decide +kernel
theorem dX6_bestRule_46 : decode cX6_bestRule 46 = .ok (.aload_n 0, 1) := by decide +kernel
theorem dX6_bestRule_47 : decode cX6_bestRule 47 = .ok (.getfield 38, 3) := by decide +kernel
theorem dX6_bestRule_50 : decode cX6_bestRule 50 = .ok (.getfield 235, 3) := by decide +kernel
theorem dX6_bestRule_53 : decode cX6_bestRule 53 = .ok (.iload_n 2, 1) := by decide +kernel
theorem dX6_bestRule_54 : decode cX6_bestRule 54 = .ok (.if_icmp .lt 25, 3) := by decide +kernel
theorem dX6_bestRule_57 : decode cX6_bestRule 57 = .ok (.aload_n 0, 1) := by decide +kernel
theorem dX6_bestRule_58 : decode cX6_bestRule 58 = .ok (.getfield 38, 3) := by decide +kernel
theorem dX6_bestRule_61 : decode cX6_bestRule 61 = .ok (.getfield 235, 3) := by decide +kernel
theorem dX6_bestRule_64 : decode cX6_bestRule 64 = .ok (.iload_n 2, 1) := by decide +kernel
theorem dX6_bestRule_65 : decode cX6_bestRule 65 = .ok (.if_icmp .ne 18, 3) := by decide +kernel
theorem dX6_bestRule_68 : decode cX6_bestRule 68 = .ok (.aload_n 0, 1) := by decide +kernel
theorem dX6_bestRule_69 : decode cX6_bestRule 69 = .ok (.getfield 38, 3) := by decide +kernel
theorem dX6_bestRule_72 : decode cX6_bestRule 72 = .ok (.getfield 238, 3) := by decide +kernel
theorem dX6_bestRule_75 : decode cX6_bestRule 75 = .ok (.iload_n 3, 1) := by decide +kernel
theorem dX6_bestRule_76 : decode cX6_bestRule 76 = .ok (.if_icmp .ge 7, 3) := by decide +kernel
theorem dX6_bestRule_79 : decode cX6_bestRule 79 = .ok (.iconst 1, 1) := by decide +kernel
theorem dX6_bestRule_80 : decode cX6_bestRule 80 = .ok (.goto 4, 3) := by decide +kernel
theorem dX6_bestRule_83 : decode cX6_bestRule 83 = .ok (.iconst 0, 1) := by decide +kernel
theorem dX6_bestRule_84 : decode cX6_bestRule 84 = .ok (.istore 5, 2) := by decide +kernel
theorem dX6_bestRule_86 : decode cX6_bestRule 86 = .ok (.iload 4, 2) := by decide +kernel
theorem dX6_bestRule_88 : decode cX6_bestRule 88 = .ok (.ifCond .eq 8, 3) := by decide +kernel
theorem dX6_bestRule_91 : decode cX6_bestRule 91 = .ok (.iload 5, 2) := by decide +kernel
theorem dX6_bestRule_93 : decode cX6_bestRule 93 = .ok (.ifCond .eq 22, 3) := by decide +kernel
theorem dX6_bestRule_96 : decode cX6_bestRule 96 = .ok (.iload 4, 2) := by decide +kernel
theorem dX6_bestRule_98 : decode cX6_bestRule 98 = .ok (.istore_n 1, 1) := by decide +kernel
theorem dX6_bestRule_99 : decode cX6_bestRule 99 = .ok (.aload_n 0, 1) := by decide +kernel
theorem dX6_bestRule_100 : decode cX6_bestRule 100 = .ok (.getfield 38, 3) := by decide +kernel
theorem dX6_bestRule_103 : decode cX6_bestRule 103 = .ok (.getfield 235, 3) := by decide +kernel
theorem dX6_bestRule_106 : decode cX6_bestRule 106 = .ok (.istore_n 2, 1) := by decide +kernel
theorem dX6_bestRule_107 : decode cX6_bestRule 107 = .ok (.aload_n 0, 1) := by decide +kernel
theorem dX6_bestRule_108 : decode cX6_bestRule 108 = .ok (.getfield 38, 3) := by decide +kernel
theorem dX6_bestRule_111 : decode cX6_bestRule 111 = .ok (.getfield 238, 3) := by decide +kernel
theorem dX6_bestRule_114 : decode cX6_bestRule 114 = .ok (.istore_n 3, 1) := by decide +kernel
theorem dX6_bestRule_115 : decode cX6_bestRule 115 = .ok (.iinc 4 1, 3) := by decide +kernel
theorem dX6_bestRule_118 : decode cX6_bestRule 118 = .ok (.goto (-109), 3) := by decide +kernel
theorem dX6_bestRule_121 : decode cX6_bestRule 121 = .ok (.iload_n 1, 1) := by decide +kernel
theorem dX6_bestRule_122 : decode cX6_bestRule 122 = .ok (.ireturn, 1) := by decide +kernel
def l6_bestRule_115 (rec9 : Int32 → Int32 → Int32 → Int32 → mm_M → Option (Int32 × mm_M)) (x1 : Int32) (x2 : Int32) (x3 : Int32) (x4 : Int32) (M : mm_M) : Option (Int32 × mm_M) :=
  rec9 x1 x2 x3 (x4 + 1) M
set_option maxHeartbeats 2000000 in
theorem sl6_bestRule_115 (rec9 : Int32 → Int32 → Int32 → Int32 → mm_M → Option (Int32 × mm_M)) (hrec9 : ∀ (x1 : Int32) (x2 : Int32) (x3 : Int32) (x4 : Int32) (M : mm_M), Snd injI j6_bestRule mm_X0 9 [some (.ref 1), some (.int x1), some (.int x2), some (.int x3), some (.int x4), none] [] M (rec9 x1 x2 x3 x4 M)) (x1 : Int32) (x2 : Int32) (x3 : Int32) (x4 : Int32)  (M : mm_M) : Snd injI j6_bestRule mm_X0 115 [some (.ref 1), some (.int x1), some (.int x2), some (.int x3), some (.int x4), none] [] M (l6_bestRule_115 rec9 x1 x2 x3 x4 M) := by
  unfold l6_bestRule_115
  refine sn_iinc (j := j6_bestRule) (pc := 115) 1 rfl (by decide) rfl (lo' := [some (.ref 1), some (.int x1), some (.int x2), some (.int x3), some (.int (x4 + 1)), none]) rfl dX6_bestRule_115 ?_
  refine sn_goto (j := j6_bestRule) (pc := 118) 9 rfl dX6_bestRule_118 ?_
  exact Snd.wk (hrec9 x1 x2 x3 (x4 + 1) M ) (by simp [mm_le])
def l6_bestRule_96 (rec9 : Int32 → Int32 → Int32 → Int32 → mm_M → Option (Int32 × mm_M)) (x4 : Int32) (M : mm_M) : Option (Int32 × mm_M) :=
  bI (mI M 23 4) (fun v_1 => bI (mI M 23 2) (fun v_2 => l6_bestRule_115 rec9 x4 v_1 v_2 x4 M))
set_option maxHeartbeats 2000000 in
theorem sl6_bestRule_96 (rec9 : Int32 → Int32 → Int32 → Int32 → mm_M → Option (Int32 × mm_M)) (hrec9 : ∀ (x1 : Int32) (x2 : Int32) (x3 : Int32) (x4 : Int32) (M : mm_M), Snd injI j6_bestRule mm_X0 9 [some (.ref 1), some (.int x1), some (.int x2), some (.int x3), some (.int x4), none] [] M (rec9 x1 x2 x3 x4 M)) (x4 : Int32)  (M : mm_M) : Snd injI j6_bestRule mm_X0 96 [some (.ref 1), none, none, none, some (.int x4), none] [] M (l6_bestRule_96 rec9 x4 M) := by
  unfold l6_bestRule_96
  refine sn_iload (j := j6_bestRule) (pc := 96) rfl dX6_bestRule_96 ?_
  refine sn_istore_n (j := j6_bestRule) (pc := 98) rfl (by decide) (lo' := [some (.ref 1), some (.int x4), none, none, some (.int x4), none]) rfl dX6_bestRule_98 ?_
  refine sn_aload_n (j := j6_bestRule) (pc := 99) rfl rfl dX6_bestRule_99 ?_
  refine g_X6_38 (j := j6_bestRule) (pc := 100) rfl dX6_bestRule_100 ?_
  refine g_X6_235 (j := j6_bestRule) (pc := 103) rfl dX6_bestRule_103 ?_
  refine Snd.bI (fun v_1 => ?_)
  refine sn_istore_n (j := j6_bestRule) (pc := 106) rfl (by decide) (lo' := [some (.ref 1), some (.int x4), some (.int v_1), none, some (.int x4), none]) rfl dX6_bestRule_106 ?_
  refine sn_aload_n (j := j6_bestRule) (pc := 107) rfl rfl dX6_bestRule_107 ?_
  refine g_X6_38 (j := j6_bestRule) (pc := 108) rfl dX6_bestRule_108 ?_
  refine g_X6_238 (j := j6_bestRule) (pc := 111) rfl dX6_bestRule_111 ?_
  refine Snd.bI (fun v_2 => ?_)
  refine sn_istore_n (j := j6_bestRule) (pc := 114) rfl (by decide) (lo' := [some (.ref 1), some (.int x4), some (.int v_1), some (.int v_2), some (.int x4), none]) rfl dX6_bestRule_114 ?_
  exact Snd.wk (sl6_bestRule_115 rec9 hrec9 x4 v_1 v_2 x4 M) (by simp [mm_le])
def l6_bestRule_84 (rec9 : Int32 → Int32 → Int32 → Int32 → mm_M → Option (Int32 × mm_M)) (x1 : Int32) (x2 : Int32) (x3 : Int32) (x4 : Int32) (s0 : Int32) (M : mm_M) : Option (Int32 × mm_M) :=
  if x4 = 0 then (l6_bestRule_96 rec9 x4 M) else (if s0 = 0 then (l6_bestRule_115 rec9 x1 x2 x3 x4 M) else (l6_bestRule_96 rec9 x4 M))
set_option maxHeartbeats 2000000 in
theorem sl6_bestRule_84 (rec9 : Int32 → Int32 → Int32 → Int32 → mm_M → Option (Int32 × mm_M)) (hrec9 : ∀ (x1 : Int32) (x2 : Int32) (x3 : Int32) (x4 : Int32) (M : mm_M), Snd injI j6_bestRule mm_X0 9 [some (.ref 1), some (.int x1), some (.int x2), some (.int x3), some (.int x4), none] [] M (rec9 x1 x2 x3 x4 M)) (x1 : Int32) (x2 : Int32) (x3 : Int32) (x4 : Int32) (s0 : Int32)  (M : mm_M) : Snd injI j6_bestRule mm_X0 84 [some (.ref 1), some (.int x1), some (.int x2), some (.int x3), some (.int x4), none] [.int s0] M (l6_bestRule_84 rec9 x1 x2 x3 x4 s0 M) := by
  unfold l6_bestRule_84
  refine sn_istore (j := j6_bestRule) (pc := 84) (by decide) (lo' := [some (.ref 1), some (.int x1), some (.int x2), some (.int x3), some (.int x4), some (.int s0)]) rfl dX6_bestRule_84 ?_
  refine sn_iload (j := j6_bestRule) (pc := 86) rfl dX6_bestRule_86 ?_
  refine sn_if_eq (j := j6_bestRule) (pc := 88) 96 rfl dX6_bestRule_88 ?_ ?_
  · exact Snd.wk (sl6_bestRule_96 rec9 hrec9 x4 M) (by simp [mm_le])
  · refine sn_iload (j := j6_bestRule) (pc := 91) rfl dX6_bestRule_91 ?_
    refine sn_if_eq (j := j6_bestRule) (pc := 93) 115 rfl dX6_bestRule_93 ?_ ?_
    · exact Snd.wk (sl6_bestRule_115 rec9 hrec9 x1 x2 x3 x4 M) (by simp [mm_le])
    · exact Snd.wk (sl6_bestRule_96 rec9 hrec9 x4 M) (by simp [mm_le])
def l6_bestRule_83 (rec9 : Int32 → Int32 → Int32 → Int32 → mm_M → Option (Int32 × mm_M)) (x1 : Int32) (x2 : Int32) (x3 : Int32) (x4 : Int32) (M : mm_M) : Option (Int32 × mm_M) :=
  l6_bestRule_84 rec9 x1 x2 x3 x4 0 M
set_option maxHeartbeats 2000000 in
theorem sl6_bestRule_83 (rec9 : Int32 → Int32 → Int32 → Int32 → mm_M → Option (Int32 × mm_M)) (hrec9 : ∀ (x1 : Int32) (x2 : Int32) (x3 : Int32) (x4 : Int32) (M : mm_M), Snd injI j6_bestRule mm_X0 9 [some (.ref 1), some (.int x1), some (.int x2), some (.int x3), some (.int x4), none] [] M (rec9 x1 x2 x3 x4 M)) (x1 : Int32) (x2 : Int32) (x3 : Int32) (x4 : Int32)  (M : mm_M) : Snd injI j6_bestRule mm_X0 83 [some (.ref 1), some (.int x1), some (.int x2), some (.int x3), some (.int x4), none] [] M (l6_bestRule_83 rec9 x1 x2 x3 x4 M) := by
  unfold l6_bestRule_83
  refine sn_iconst (j := j6_bestRule) (pc := 83) 0 rfl dX6_bestRule_83 ?_
  exact Snd.wk (sl6_bestRule_84 rec9 hrec9 x1 x2 x3 x4 0 M) (by simp [mm_le])
def l6_bestRule_79 (rec9 : Int32 → Int32 → Int32 → Int32 → mm_M → Option (Int32 × mm_M)) (x1 : Int32) (x2 : Int32) (x3 : Int32) (x4 : Int32) (M : mm_M) : Option (Int32 × mm_M) :=
  l6_bestRule_84 rec9 x1 x2 x3 x4 1 M
set_option maxHeartbeats 2000000 in
theorem sl6_bestRule_79 (rec9 : Int32 → Int32 → Int32 → Int32 → mm_M → Option (Int32 × mm_M)) (hrec9 : ∀ (x1 : Int32) (x2 : Int32) (x3 : Int32) (x4 : Int32) (M : mm_M), Snd injI j6_bestRule mm_X0 9 [some (.ref 1), some (.int x1), some (.int x2), some (.int x3), some (.int x4), none] [] M (rec9 x1 x2 x3 x4 M)) (x1 : Int32) (x2 : Int32) (x3 : Int32) (x4 : Int32)  (M : mm_M) : Snd injI j6_bestRule mm_X0 79 [some (.ref 1), some (.int x1), some (.int x2), some (.int x3), some (.int x4), none] [] M (l6_bestRule_79 rec9 x1 x2 x3 x4 M) := by
  unfold l6_bestRule_79
  refine sn_iconst (j := j6_bestRule) (pc := 79) 1 rfl dX6_bestRule_79 ?_
  refine sn_goto (j := j6_bestRule) (pc := 80) 84 rfl dX6_bestRule_80 ?_
  exact Snd.wk (sl6_bestRule_84 rec9 hrec9 x1 x2 x3 x4 1 M) (by simp [mm_le])
def b6_bestRule_9  (rec9 : Int32 → Int32 → Int32 → Int32 → mm_M → Option (Int32 × mm_M)) (x1 : Int32) (x2 : Int32) (x3 : Int32) (x4 : Int32) (M : mm_M) : Option (Int32 × mm_M) :=
  if 4 ≤ x4 then (some (x1, M)) else (bN (mNow M) (fun d_3 => if isD d_3 = true then (cV (f4_make d_3 x4 M) (fun M => bN (mNow M) (fun d_4 => if isD d_4 = true then (cV (f1_weigh d_4 42 M) (fun M => bI (mI M 23 4) (fun v_5 => if v_5 < x2 then (l6_bestRule_79 rec9 x1 x2 x3 x4 M) else (bI (mI M 23 4) (fun v_6 => if v_6 = x2 then (bI (mI M 23 2) (fun v_7 => if x3 ≤ v_7 then (l6_bestRule_83 rec9 x1 x2 x3 x4 M) else (l6_bestRule_79 rec9 x1 x2 x3 x4 M))) else (l6_bestRule_83 rec9 x1 x2 x3 x4 M)))))) else none))) else none))
set_option maxHeartbeats 2000000 in
theorem sb6_bestRule_9   (rec9 : Int32 → Int32 → Int32 → Int32 → mm_M → Option (Int32 × mm_M)) (hrec9 : ∀ (x1 : Int32) (x2 : Int32) (x3 : Int32) (x4 : Int32) (M : mm_M), Snd injI j6_bestRule mm_X0 9 [some (.ref 1), some (.int x1), some (.int x2), some (.int x3), some (.int x4), none] [] M (rec9 x1 x2 x3 x4 M)) (x1 : Int32) (x2 : Int32) (x3 : Int32) (x4 : Int32)  (M : mm_M) : Snd injI j6_bestRule mm_X0 9 [some (.ref 1), some (.int x1), some (.int x2), some (.int x3), some (.int x4), none] [] M (b6_bestRule_9  rec9 x1 x2 x3 x4 M) := by
  unfold b6_bestRule_9
  refine sn_iload (j := j6_bestRule) (pc := 9) rfl dX6_bestRule_9 ?_
  refine sn_iconst (j := j6_bestRule) (pc := 11) 4 rfl dX6_bestRule_11 ?_
  refine sn_icmp_ge (j := j6_bestRule) (pc := 12) 121 rfl dX6_bestRule_12 ?_ ?_
  · refine sn_iload_n (j := j6_bestRule) (pc := 121) rfl rfl dX6_bestRule_121 ?_
    exact sn_iret (j := j6_bestRule) (pc := 122) rfl dX6_bestRule_122
  · refine sn_aload_n (j := j6_bestRule) (pc := 15) rfl rfl dX6_bestRule_15 ?_
    refine g_X6_54 (j := j6_bestRule) (pc := 16) rfl dX6_bestRule_16 ?_
    refine sn_aload_n (j := j6_bestRule) (pc := 19) rfl rfl dX6_bestRule_19 ?_
    refine g_X6_12 (j := j6_bestRule) (pc := 20) rfl dX6_bestRule_20 (fun d_3 => ?_)
    refine Snd.ite fun hd_3 => ?_
    refine sn_iload (j := j6_bestRule) (pc := 23) rfl dX6_bestRule_23 ?_
    refine sn_callV (j := j6_bestRule) (pc := 25) (jc := j4_make) (As := [.ref d_3, .int x4]) (s4_make d_3 x4 M) mm_hvV (by simp [Value.category]) (Nat.le_of_ble_eq_true rfl) q4_make rfl (by decide) rfl rfl ⟨by decide, by decide⟩ w_ml_X6_230 w_im_X4_make w_se_X4_make rfl (Nat.le_of_ble_eq_true rfl) dX6_bestRule_25 ?_
    intro M
    show Snd injI j6_bestRule mm_X0 28 [some (.ref 1), some (.int x1), some (.int x2), some (.int x3), some (.int x4), none] [] M _
    refine sn_aload_n (j := j6_bestRule) (pc := 28) rfl rfl dX6_bestRule_28 ?_
    refine g_X6_38 (j := j6_bestRule) (pc := 29) rfl dX6_bestRule_29 ?_
    refine sn_aload_n (j := j6_bestRule) (pc := 32) rfl rfl dX6_bestRule_32 ?_
    refine g_X6_12 (j := j6_bestRule) (pc := 33) rfl dX6_bestRule_33 (fun d_4 => ?_)
    refine Snd.ite fun hd_4 => ?_
    refine sn_aload_n (j := j6_bestRule) (pc := 36) rfl rfl dX6_bestRule_36 ?_
    refine g_X6_54 (j := j6_bestRule) (pc := 37) rfl dX6_bestRule_37 ?_
    refine g_X6_234 (j := j6_bestRule) (pc := 40) rfl dX6_bestRule_40 ?_
    refine sn_callV (j := j6_bestRule) (pc := 43) (jc := j1_weigh) (As := [.ref d_4, .ref 42]) (s1_weigh d_4 42 M) mm_hvV (by simp [Value.category]) (Nat.le_of_ble_eq_true rfl) q1_weigh rfl (by decide) rfl rfl ⟨by decide, by decide⟩ w_ml_X6_113 w_im_X1_weigh w_se_X1_weigh rfl (Nat.le_of_ble_eq_true rfl) dX6_bestRule_43 ?_
    intro M
    show Snd injI j6_bestRule mm_X0 46 [some (.ref 1), some (.int x1), some (.int x2), some (.int x3), some (.int x4), none] [] M _
    refine sn_aload_n (j := j6_bestRule) (pc := 46) rfl rfl dX6_bestRule_46 ?_
    refine g_X6_38 (j := j6_bestRule) (pc := 47) rfl dX6_bestRule_47 ?_
    refine g_X6_235 (j := j6_bestRule) (pc := 50) rfl dX6_bestRule_50 ?_
    refine Snd.bI (fun v_5 => ?_)
    refine sn_iload_n (j := j6_bestRule) (pc := 53) rfl rfl dX6_bestRule_53 ?_
    refine sn_icmp_lt (j := j6_bestRule) (pc := 54) 79 rfl dX6_bestRule_54 ?_ ?_
    · exact Snd.wk (sl6_bestRule_79 rec9 hrec9 x1 x2 x3 x4 M) (by simp [mm_le])
    · refine sn_aload_n (j := j6_bestRule) (pc := 57) rfl rfl dX6_bestRule_57 ?_
      refine g_X6_38 (j := j6_bestRule) (pc := 58) rfl dX6_bestRule_58 ?_
      refine g_X6_235 (j := j6_bestRule) (pc := 61) rfl dX6_bestRule_61 ?_
      refine Snd.bI (fun v_6 => ?_)
      refine sn_iload_n (j := j6_bestRule) (pc := 64) rfl rfl dX6_bestRule_64 ?_
      refine sn_icmp_ne (j := j6_bestRule) (pc := 65) 83 rfl dX6_bestRule_65 ?_ ?_
      · exact Snd.wk (sl6_bestRule_83 rec9 hrec9 x1 x2 x3 x4 M) (by simp [mm_le])
      · refine sn_aload_n (j := j6_bestRule) (pc := 68) rfl rfl dX6_bestRule_68 ?_
        refine g_X6_38 (j := j6_bestRule) (pc := 69) rfl dX6_bestRule_69 ?_
        refine g_X6_238 (j := j6_bestRule) (pc := 72) rfl dX6_bestRule_72 ?_
        refine Snd.bI (fun v_7 => ?_)
        refine sn_iload_n (j := j6_bestRule) (pc := 75) rfl rfl dX6_bestRule_75 ?_
        refine sn_icmp_ge (j := j6_bestRule) (pc := 76) 83 rfl dX6_bestRule_76 ?_ ?_
        · exact Snd.wk (sl6_bestRule_83 rec9 hrec9 x1 x2 x3 x4 M) (by simp [mm_le])
        · exact Snd.wk (sl6_bestRule_79 rec9 hrec9 x1 x2 x3 x4 M) (by simp [mm_le])
def l6_bestRule_9  : Nat → Int32 → Int32 → Int32 → Int32 → mm_M → Option (Int32 × mm_M)
  | 0 => fun _ _ _ _ _ => none
  | n + 1 => fun x1 x2 x3 x4 M => b6_bestRule_9  (l6_bestRule_9  n) x1 x2 x3 x4 M
theorem sl6_bestRule_9   : ∀ (n : Nat) (x1 : Int32) (x2 : Int32) (x3 : Int32) (x4 : Int32)  (M : mm_M), Snd injI j6_bestRule mm_X0 9 [some (.ref 1), some (.int x1), some (.int x2), some (.int x3), some (.int x4), none] [] M (l6_bestRule_9  n x1 x2 x3 x4 M)
  | 0 => fun _ _ _ _  _ => Snd.none
  | n + 1 => fun x1 x2 x3 x4  M => sb6_bestRule_9   (l6_bestRule_9  n) (fun x1 x2 x3 x4 M  => sl6_bestRule_9   n x1 x2 x3 x4  M) x1 x2 x3 x4  M
def f6_bestRule  (M : mm_M) : Option (Int32 × mm_M) :=
  l6_bestRule_9 FU 0 0 0 0 M
set_option maxHeartbeats 2000000 in
theorem s6_bestRule  (M : mm_M) : Snd injI j6_bestRule mm_X0 0 [some (.ref 1)] [] M (f6_bestRule  M) := by
  refine Snd.wk (lo' := [some (.ref 1), none, none, none, none, none]) ?_ (by simp [mm_le])
  unfold f6_bestRule
  refine sn_iconst (j := j6_bestRule) (pc := 0) 0 rfl dX6_bestRule_0 ?_
  refine sn_istore_n (j := j6_bestRule) (pc := 1) rfl (by decide) (lo' := [some (.ref 1), some (.int 0), none, none, none, none]) rfl dX6_bestRule_1 ?_
  refine sn_iconst (j := j6_bestRule) (pc := 2) 0 rfl dX6_bestRule_2 ?_
  refine sn_istore_n (j := j6_bestRule) (pc := 3) rfl (by decide) (lo' := [some (.ref 1), some (.int 0), some (.int 0), none, none, none]) rfl dX6_bestRule_3 ?_
  refine sn_iconst (j := j6_bestRule) (pc := 4) 0 rfl dX6_bestRule_4 ?_
  refine sn_istore_n (j := j6_bestRule) (pc := 5) rfl (by decide) (lo' := [some (.ref 1), some (.int 0), some (.int 0), some (.int 0), none, none]) rfl dX6_bestRule_5 ?_
  refine sn_iconst (j := j6_bestRule) (pc := 6) 0 rfl dX6_bestRule_6 ?_
  refine sn_istore (j := j6_bestRule) (pc := 7) (by decide) (lo' := [some (.ref 1), some (.int 0), some (.int 0), some (.int 0), some (.int 0), none]) rfl dX6_bestRule_7 ?_
  exact Snd.wk (sl6_bestRule_9 FU 0 0 0 0 M) (by simp [mm_le])
