abbrev j7_chargesOf : mm_J := (yX7_chargesOf, cX7_chargesOf, 3, (some .int), 1)
theorem dX7_chargesOf_0 : decode cX7_chargesOf 0 = .ok (.iconst 0, 1) := by decide +kernel
theorem dX7_chargesOf_1 : decode cX7_chargesOf 1 = .ok (.istore_n 1, 1) := by decide +kernel
theorem dX7_chargesOf_2 : decode cX7_chargesOf 2 = .ok (.iconst 0, 1) := by decide +kernel
theorem dX7_chargesOf_3 : decode cX7_chargesOf 3 = .ok (.istore_n 2, 1) := by decide +kernel
theorem dX7_chargesOf_4 : decode cX7_chargesOf 4 = .ok (.iload_n 2, 1) := by decide +kernel
theorem dX7_chargesOf_5 : decode cX7_chargesOf 5 = .ok (.aload_n 0, 1) := by decide +kernel
theorem dX7_chargesOf_6 : decode cX7_chargesOf 6 = .ok (.getfield 7, 3) := by decide +kernel
theorem dX7_chargesOf_9 : decode cX7_chargesOf 9 = .ok (.iconst 0, 1) := by decide +kernel
theorem dX7_chargesOf_10 : decode cX7_chargesOf 10 = .ok (.iaload, 1) := by decide +kernel
theorem dX7_chargesOf_11 : decode cX7_chargesOf 11 = .ok (.if_icmp .ge 24, 3) := by decide +kernel
theorem dX7_chargesOf_14 : decode cX7_chargesOf 14 = .ok (.iload_n 1, 1) := by decide +kernel
theorem dX7_chargesOf_15 : decode cX7_chargesOf 15 = .ok (.aload_n 0, 1) := by decide +kernel
theorem dX7_chargesOf_16 : decode cX7_chargesOf 16 = .ok (.getfield 7, 3) := by decide +kernel
theorem dX7_chargesOf_19 : decode cX7_chargesOf 19 = .ok (.bipush 74, 2) := by decide +kernel
theorem dX7_chargesOf_21 : decode cX7_chargesOf 21 = .ok (.iload_n 2, 1) := by decide +kernel
theorem dX7_chargesOf_22 : decode cX7_chargesOf 22 = .ok (.iadd, 1) := by decide +kernel
theorem dX7_chargesOf_23 : decode cX7_chargesOf 23 = .ok (.iaload, 1) := by decide +kernel
theorem dX7_chargesOf_24 : decode cX7_chargesOf 24 = .ok (.invokestatic 175, 3) := by decide +kernel
theorem dX7_chargesOf_27 : decode cX7_chargesOf 27 = .ok (.iadd, 1) := by decide +kernel
theorem dX7_chargesOf_28 : decode cX7_chargesOf 28 = .ok (.istore_n 1, 1) := by decide +kernel
theorem dX7_chargesOf_29 : decode cX7_chargesOf 29 = .ok (.iinc 2 1, 3) := by decide +kernel
theorem dX7_chargesOf_32 : decode cX7_chargesOf 32 = .ok (.goto (-28), 3) := by decide +kernel
theorem dX7_chargesOf_35 : decode cX7_chargesOf 35 = .ok (.iload_n 1, 1) := by decide +kernel
theorem dX7_chargesOf_36 : decode cX7_chargesOf 36 = .ok (.ireturn, 1) := by decide +kernel
def b7_chargesOf_4  (rec4 : Int32 → Int32 → mm_M → Option (Int32 × mm_M)) (x1 : Int32) (x2 : Int32) (M : mm_M) : Option (Int32 × mm_M) :=
  aI 47 82 0 M (fun w_1 => if w_1 ≤ x2 then (some (x1, M)) else (aI 47 82 (74 + x2) M (fun w_2 => cI (f7_bits w_2 M) (fun r_3 M => bI (x1 + r_3) (fun x1_4 => rec4 x1_4 (x2 + 1) M)))))
set_option maxHeartbeats 2000000 in
theorem sb7_chargesOf_4   (rec4 : Int32 → Int32 → mm_M → Option (Int32 × mm_M)) (hrec4 : ∀ (x1 : Int32) (x2 : Int32) (M : mm_M), Snd injI j7_chargesOf mm_X0 4 [some (.ref 46), some (.int x1), some (.int x2)] [] M (rec4 x1 x2 M)) (x1 : Int32) (x2 : Int32)  (M : mm_M) : Snd injI j7_chargesOf mm_X0 4 [some (.ref 46), some (.int x1), some (.int x2)] [] M (b7_chargesOf_4  rec4 x1 x2 M) := by
  unfold b7_chargesOf_4
  refine sn_iload_n (j := j7_chargesOf) (pc := 4) rfl rfl dX7_chargesOf_4 ?_
  refine sn_aload_n (j := j7_chargesOf) (pc := 5) rfl rfl dX7_chargesOf_5 ?_
  refine g_X7_7 (j := j7_chargesOf) (pc := 6) rfl dX7_chargesOf_6 ?_
  refine sn_iconst (j := j7_chargesOf) (pc := 9) 0 rfl dX7_chargesOf_9 ?_
  refine sn_iald (j := j7_chargesOf) (pc := 10) rfl ⟨by decide, by decide⟩ dX7_chargesOf_10 (fun w_1 => ?_)
  refine sn_icmp_ge (j := j7_chargesOf) (pc := 11) 35 rfl dX7_chargesOf_11 ?_ ?_
  · refine sn_iload_n (j := j7_chargesOf) (pc := 35) rfl rfl dX7_chargesOf_35 ?_
    exact sn_iret (j := j7_chargesOf) (pc := 36) rfl dX7_chargesOf_36
  · refine sn_iload_n (j := j7_chargesOf) (pc := 14) rfl rfl dX7_chargesOf_14 ?_
    refine sn_aload_n (j := j7_chargesOf) (pc := 15) rfl rfl dX7_chargesOf_15 ?_
    refine g_X7_7 (j := j7_chargesOf) (pc := 16) rfl dX7_chargesOf_16 ?_
    refine sn_bipush (j := j7_chargesOf) (pc := 19) 74 rfl dX7_chargesOf_19 ?_
    refine sn_iload_n (j := j7_chargesOf) (pc := 21) rfl rfl dX7_chargesOf_21 ?_
    refine sn_iadd (j := j7_chargesOf) (pc := 22) dX7_chargesOf_22 ?_
    refine sn_iald (j := j7_chargesOf) (pc := 23) rfl ⟨by decide, by decide⟩ dX7_chargesOf_23 (fun w_2 => ?_)
    refine sn_callS (j := j7_chargesOf) (pc := 24) (jc := j7_bits) (As := [.int w_2]) (s7_bits w_2 M) mm_hvI (by simp [Value.category]) (Nat.le_of_ble_eq_true rfl) q7_bits rfl (by decide) w_ml_X7_175 w_st_X7_bits rfl (Nat.le_of_ble_eq_true rfl) dX7_chargesOf_24 ?_
    rintro ⟨r_3, M⟩
    show Snd injI j7_chargesOf mm_X0 27 [some (.ref 46), some (.int x1), some (.int x2)] [.int r_3, .int x1] M _
    refine sn_iadd (j := j7_chargesOf) (pc := 27) dX7_chargesOf_27 ?_
    refine sn_istoreB_n (j := j7_chargesOf) (pc := 28) rfl (fun x1_4 => [some (.ref 46), some (.int x1_4), some (.int x2)]) (by decide) (fun _ => rfl) dX7_chargesOf_28 (fun x1_4 => ?_)
    refine sn_iinc (j := j7_chargesOf) (pc := 29) 1 rfl (by decide) rfl (lo' := [some (.ref 46), some (.int x1_4), some (.int (x2 + 1))]) rfl dX7_chargesOf_29 ?_
    refine sn_goto (j := j7_chargesOf) (pc := 32) 4 rfl dX7_chargesOf_32 ?_
    exact Snd.wk (hrec4 x1_4 (x2 + 1) M ) (by simp [mm_le])
def l7_chargesOf_4  : Nat → Int32 → Int32 → mm_M → Option (Int32 × mm_M)
  | 0 => fun _ _ _ => none
  | n + 1 => fun x1 x2 M => b7_chargesOf_4  (l7_chargesOf_4  n) x1 x2 M
theorem sl7_chargesOf_4   : ∀ (n : Nat) (x1 : Int32) (x2 : Int32)  (M : mm_M), Snd injI j7_chargesOf mm_X0 4 [some (.ref 46), some (.int x1), some (.int x2)] [] M (l7_chargesOf_4  n x1 x2 M)
  | 0 => fun _ _  _ => Snd.none
  | n + 1 => fun x1 x2  M => sb7_chargesOf_4   (l7_chargesOf_4  n) (fun x1 x2 M  => sl7_chargesOf_4   n x1 x2  M) x1 x2  M
def f7_chargesOf  (M : mm_M) : Option (Int32 × mm_M) :=
  l7_chargesOf_4 FU 0 0 M
set_option maxHeartbeats 2000000 in
theorem s7_chargesOf  (M : mm_M) : Snd injI j7_chargesOf mm_X0 0 [some (.ref 46)] [] M (f7_chargesOf  M) := by
  refine Snd.wk (lo' := [some (.ref 46), none, none]) ?_ (by simp [mm_le])
  unfold f7_chargesOf
  refine sn_iconst (j := j7_chargesOf) (pc := 0) 0 rfl dX7_chargesOf_0 ?_
  refine sn_istore_n (j := j7_chargesOf) (pc := 1) rfl (by decide) (lo' := [some (.ref 46), some (.int 0), none]) rfl dX7_chargesOf_1 ?_
  refine sn_iconst (j := j7_chargesOf) (pc := 2) 0 rfl dX7_chargesOf_2 ?_
  refine sn_istore_n (j := j7_chargesOf) (pc := 3) rfl (by decide) (lo' := [some (.ref 46), some (.int 0), some (.int 0)]) rfl dX7_chargesOf_3 ?_
  exact Snd.wk (sl7_chargesOf_4 FU 0 0 M) (by simp [mm_le])

abbrev j7_clear : mm_J := (yX7_clear, cX7_clear, 3, (some .int), 2)
theorem dX7_clear_0 : decode cX7_clear 0 = .ok (.aload_n 0, 1) := by decide +kernel
theorem dX7_clear_1 : decode cX7_clear 1 = .ok (.iconst 0, 1) := by decide +kernel
theorem dX7_clear_2 : decode cX7_clear 2 = .ok (.putfield 56, 3) := by decide +kernel
theorem dX7_clear_5 : decode cX7_clear 5 = .ok (.aload_n 0, 1) := by decide +kernel
theorem dX7_clear_6 : decode cX7_clear 6 = .ok (.invokevirtual 178, 3) := by decide +kernel
theorem dX7_clear_9 : decode cX7_clear 9 = .ok (.istore_n 1, 1) := by decide +kernel
theorem dX7_clear_10 : decode cX7_clear 10 = .ok (.iconst 0, 1) := by decide +kernel
theorem dX7_clear_11 : decode cX7_clear 11 = .ok (.istore_n 2, 1) := by decide +kernel
theorem dX7_clear_12 : decode cX7_clear 12 = .ok (.iload_n 2, 1) := by decide +kernel
theorem dX7_clear_13 : decode cX7_clear 13 = .ok (.bipush 8, 2) := by decide +kernel
theorem dX7_clear_15 : decode cX7_clear 15 = .ok (.if_icmp .ge 19, 3) := by decide +kernel
theorem dX7_clear_18 : decode cX7_clear 18 = .ok (.aload_n 0, 1) := by decide +kernel
theorem dX7_clear_19 : decode cX7_clear 19 = .ok (.getfield 7, 3) := by decide +kernel
theorem dX7_clear_22 : decode cX7_clear 22 = .ok (.bipush 74, 2) := by decide +kernel
theorem dX7_clear_24 : decode cX7_clear 24 = .ok (.iload_n 2, 1) := by decide +kernel
theorem dX7_clear_25 : decode cX7_clear 25 = .ok (.iadd, 1) := by decide +kernel
theorem dX7_clear_26 : decode cX7_clear 26 = .ok (.iconst 0, 1) := by decide +kernel
theorem dX7_clear_27 : decode cX7_clear 27 = .ok (.iastore, 1) := by decide +kernel
theorem dX7_clear_28 : decode cX7_clear 28 = .ok (.iinc 2 1, 3) := by decide +kernel
theorem dX7_clear_31 : decode cX7_clear 31 = .ok (.goto (-19), 3) := by decide +kernel
theorem dX7_clear_34 : decode cX7_clear 34 = .ok (.iload_n 1, 1) := by decide +kernel
theorem dX7_clear_35 : decode cX7_clear 35 = .ok (.ireturn, 1) := by decide +kernel
def b7_clear_12  (rec12 : Int32 → Int32 → mm_M → Option (Int32 × mm_M)) (x1 : Int32) (x2 : Int32) (M : mm_M) : Option (Int32 × mm_M) :=
  if 8 ≤ x2 then (some (x1, M)) else (uI 47 82 (74 + x2) 0 M (fun M => rec12 x1 (x2 + 1) M))
set_option maxHeartbeats 2000000 in
theorem sb7_clear_12   (rec12 : Int32 → Int32 → mm_M → Option (Int32 × mm_M)) (hrec12 : ∀ (x1 : Int32) (x2 : Int32) (M : mm_M), Snd injI j7_clear mm_X0 12 [some (.ref 46), some (.int x1), some (.int x2)] [] M (rec12 x1 x2 M)) (x1 : Int32) (x2 : Int32)  (M : mm_M) : Snd injI j7_clear mm_X0 12 [some (.ref 46), some (.int x1), some (.int x2)] [] M (b7_clear_12  rec12 x1 x2 M) := by
  unfold b7_clear_12
  refine sn_iload_n (j := j7_clear) (pc := 12) rfl rfl dX7_clear_12 ?_
  refine sn_bipush (j := j7_clear) (pc := 13) 8 rfl dX7_clear_13 ?_
  refine sn_icmp_ge (j := j7_clear) (pc := 15) 34 rfl dX7_clear_15 ?_ ?_
  · refine sn_iload_n (j := j7_clear) (pc := 34) rfl rfl dX7_clear_34 ?_
    exact sn_iret (j := j7_clear) (pc := 35) rfl dX7_clear_35
  · refine sn_aload_n (j := j7_clear) (pc := 18) rfl rfl dX7_clear_18 ?_
    refine g_X7_7 (j := j7_clear) (pc := 19) rfl dX7_clear_19 ?_
    refine sn_bipush (j := j7_clear) (pc := 22) 74 rfl dX7_clear_22 ?_
    refine sn_iload_n (j := j7_clear) (pc := 24) rfl rfl dX7_clear_24 ?_
    refine sn_iadd (j := j7_clear) (pc := 25) dX7_clear_25 ?_
    refine sn_iconst (j := j7_clear) (pc := 26) 0 rfl dX7_clear_26 ?_
    refine sn_iast (j := j7_clear) (pc := 27) rfl ⟨by decide, by decide⟩ dX7_clear_27 (fun M => ?_)
    refine sn_iinc (j := j7_clear) (pc := 28) 1 rfl (by decide) rfl (lo' := [some (.ref 46), some (.int x1), some (.int (x2 + 1))]) rfl dX7_clear_28 ?_
    refine sn_goto (j := j7_clear) (pc := 31) 12 rfl dX7_clear_31 ?_
    exact Snd.wk (hrec12 x1 (x2 + 1) M ) (by simp [mm_le])
def l7_clear_12  : Nat → Int32 → Int32 → mm_M → Option (Int32 × mm_M)
  | 0 => fun _ _ _ => none
  | n + 1 => fun x1 x2 M => b7_clear_12  (l7_clear_12  n) x1 x2 M
theorem sl7_clear_12   : ∀ (n : Nat) (x1 : Int32) (x2 : Int32)  (M : mm_M), Snd injI j7_clear mm_X0 12 [some (.ref 46), some (.int x1), some (.int x2)] [] M (l7_clear_12  n x1 x2 M)
  | 0 => fun _ _  _ => Snd.none
  | n + 1 => fun x1 x2  M => sb7_clear_12   (l7_clear_12  n) (fun x1 x2 M  => sl7_clear_12   n x1 x2  M) x1 x2  M
def f7_clear  (M : mm_M) : Option (Int32 × mm_M) :=
  bM (sI M 46 0 0) (fun M => cI (f7_chargesOf M) (fun r_1 M => l7_clear_12 FU r_1 0 M))
set_option maxHeartbeats 2000000 in
theorem s7_clear  (M : mm_M) : Snd injI j7_clear mm_X0 0 [some (.ref 46)] [] M (f7_clear  M) := by
  refine Snd.wk (lo' := [some (.ref 46), none, none]) ?_ (by simp [mm_le])
  unfold f7_clear
  refine sn_aload_n (j := j7_clear) (pc := 0) rfl rfl dX7_clear_0 ?_
  refine sn_iconst (j := j7_clear) (pc := 1) 0 rfl dX7_clear_1 ?_
  refine p_X7_56 (j := j7_clear) (pc := 2) rfl dX7_clear_2 (fun M => ?_)
  refine sn_aload_n (j := j7_clear) (pc := 5) rfl rfl dX7_clear_5 ?_
  refine sn_callV (j := j7_clear) (pc := 6) (jc := j7_chargesOf) (As := []) (s7_chargesOf M) mm_hvI (by simp [Value.category]) (Nat.le_of_ble_eq_true rfl) q7_chargesOf rfl (by decide) rfl rfl ⟨by decide, by decide⟩ w_ml_X7_178 w_im_X7_chargesOf w_se_X7_chargesOf rfl (Nat.le_of_ble_eq_true rfl) dX7_clear_6 ?_
  rintro ⟨r_1, M⟩
  show Snd injI j7_clear mm_X0 9 [some (.ref 46), none, none] [.int r_1] M _
  refine sn_istore_n (j := j7_clear) (pc := 9) rfl (by decide) (lo' := [some (.ref 46), some (.int r_1), none]) rfl dX7_clear_9 ?_
  refine sn_iconst (j := j7_clear) (pc := 10) 0 rfl dX7_clear_10 ?_
  refine sn_istore_n (j := j7_clear) (pc := 11) rfl (by decide) (lo' := [some (.ref 46), some (.int r_1), some (.int 0)]) rfl dX7_clear_11 ?_
  exact Snd.wk (sl7_clear_12 FU r_1 0 M) (by simp [mm_le])

abbrev j7_count : mm_J := (yX7_count, cX7_count, 2, (some .int), 1)
theorem dX7_count_0 : decode cX7_count 0 = .ok (.aload_n 0, 1) := by decide +kernel
theorem dX7_count_1 : decode cX7_count 1 = .ok (.iconst 0, 1) := by decide +kernel
theorem dX7_count_2 : decode cX7_count 2 = .ok (.putfield 56, 3) := by decide +kernel
theorem dX7_count_5 : decode cX7_count 5 = .ok (.iload_n 1, 1) := by decide +kernel
theorem dX7_count_6 : decode cX7_count 6 = .ok (.bipush 10, 2) := by decide +kernel
theorem dX7_count_8 : decode cX7_count 8 = .ok (.bipush 9, 2) := by decide +kernel
theorem dX7_count_10 : decode cX7_count 10 = .ok (.aload_n 0, 1) := by decide +kernel
theorem dX7_count_11 : decode cX7_count 11 = .ok (.getfield 7, 3) := by decide +kernel
theorem dX7_count_14 : decode cX7_count 14 = .ok (.iconst 0, 1) := by decide +kernel
theorem dX7_count_15 : decode cX7_count 15 = .ok (.iaload, 1) := by decide +kernel
theorem dX7_count_16 : decode cX7_count 16 = .ok (.iadd, 1) := by decide +kernel
theorem dX7_count_17 : decode cX7_count 17 = .ok (.invokestatic 60, 3) := by decide +kernel
theorem dX7_count_20 : decode cX7_count 20 = .ok (.ifCond .eq 16, 3) := by decide +kernel
theorem dX7_count_23 : decode cX7_count 23 = .ok (.aload_n 0, 1) := by decide +kernel
theorem dX7_count_24 : decode cX7_count 24 = .ok (.getfield 7, 3) := by decide +kernel
theorem dX7_count_27 : decode cX7_count 27 = .ok (.bipush 6, 2) := by decide +kernel
theorem dX7_count_29 : decode cX7_count 29 = .ok (.iload_n 1, 1) := by decide +kernel
theorem dX7_count_30 : decode cX7_count 30 = .ok (.iadd, 1) := by decide +kernel
theorem dX7_count_31 : decode cX7_count 31 = .ok (.bipush 10, 2) := by decide +kernel
theorem dX7_count_33 : decode cX7_count 33 = .ok (.isub, 1) := by decide +kernel
theorem dX7_count_34 : decode cX7_count 34 = .ok (.iaload, 1) := by decide +kernel
theorem dX7_count_35 : decode cX7_count 35 = .ok (.ireturn, 1) := by decide +kernel
theorem dX7_count_36 : decode cX7_count 36 = .ok (.iload_n 1, 1) := by decide +kernel
theorem dX7_count_37 : decode cX7_count 37 = .ok (.bipush 6, 2) := by decide +kernel
theorem dX7_count_39 : decode cX7_count 39 = .ok (.if_icmp .ne 10, 3) := by decide +kernel
theorem dX7_count_42 : decode cX7_count 42 = .ok (.aload_n 0, 1) := by decide +kernel
theorem dX7_count_43 : decode cX7_count 43 = .ok (.getfield 64, 3) := by decide +kernel
theorem dX7_count_46 : decode cX7_count 46 = .ok (.goto 22, 3) := by decide +kernel
theorem dX7_count_49 : decode cX7_count 49 = .ok (.iload_n 1, 1) := by decide +kernel
theorem dX7_count_50 : decode cX7_count 50 = .ok (.iconst 0, 1) := by decide +kernel
theorem dX7_count_51 : decode cX7_count 51 = .ok (.iconst 5, 1) := by decide +kernel
theorem dX7_count_52 : decode cX7_count 52 = .ok (.invokestatic 60, 3) := by decide +kernel
theorem dX7_count_55 : decode cX7_count 55 = .ok (.ifCond .eq 12, 3) := by decide +kernel
theorem dX7_count_58 : decode cX7_count 58 = .ok (.aload_n 0, 1) := by decide +kernel
theorem dX7_count_59 : decode cX7_count 59 = .ok (.getfield 7, 3) := by decide +kernel
theorem dX7_count_62 : decode cX7_count 62 = .ok (.iload_n 1, 1) := by decide +kernel
theorem dX7_count_63 : decode cX7_count 63 = .ok (.iaload, 1) := by decide +kernel
theorem dX7_count_64 : decode cX7_count 64 = .ok (.goto 4, 3) := by decide +kernel
theorem dX7_count_67 : decode cX7_count 67 = .ok (.iconst (-1), 1) := by decide +kernel
theorem dX7_count_68 : decode cX7_count 68 = .ok (.ireturn, 1) := by decide +kernel
def l7_count_68  (s0 : Int32) (M : mm_M) : Option (Int32 × mm_M) :=
  some (s0, M)
set_option maxHeartbeats 2000000 in
theorem sl7_count_68   (s0 : Int32)  (M : mm_M) : Snd injI j7_count mm_X0 68 [none, none] [.int s0] M (l7_count_68  s0 M) := by
  unfold l7_count_68
  exact sn_iret (j := j7_count) (pc := 68) rfl dX7_count_68
def f7_count (x1 : Int32) (M : mm_M) : Option (Int32 × mm_M) :=
  bM (sI M 46 0 0) (fun M => aI 47 82 0 M (fun w_1 => cI (f7_in x1 10 (9 + w_1) M) (fun r_2 M => if r_2 = 0 then (if x1 = 6 then (bI (mI M 46 4) (fun v_5 => l7_count_68 v_5 M)) else (cI (f7_in x1 0 5 M) (fun r_3 M => if r_3 = 0 then (l7_count_68 (-1) M) else (aI 47 82 x1 M (fun w_4 => l7_count_68 w_4 M))))) else (aI 47 82 ((6 + x1) - 10) M (fun w_6 => some (w_6, M))))))
set_option maxHeartbeats 2000000 in
theorem s7_count (x1 : Int32) (M : mm_M) : Snd injI j7_count mm_X0 0 [some (.ref 46), some (.int x1)] [] M (f7_count x1 M) := by
  refine Snd.wk (lo' := [some (.ref 46), some (.int x1)]) ?_ (by simp [mm_le])
  unfold f7_count
  refine sn_aload_n (j := j7_count) (pc := 0) rfl rfl dX7_count_0 ?_
  refine sn_iconst (j := j7_count) (pc := 1) 0 rfl dX7_count_1 ?_
  refine p_X7_56 (j := j7_count) (pc := 2) rfl dX7_count_2 (fun M => ?_)
  refine sn_iload_n (j := j7_count) (pc := 5) rfl rfl dX7_count_5 ?_
  refine sn_bipush (j := j7_count) (pc := 6) 10 rfl dX7_count_6 ?_
  refine sn_bipush (j := j7_count) (pc := 8) 9 rfl dX7_count_8 ?_
  refine sn_aload_n (j := j7_count) (pc := 10) rfl rfl dX7_count_10 ?_
  refine g_X7_7 (j := j7_count) (pc := 11) rfl dX7_count_11 ?_
  refine sn_iconst (j := j7_count) (pc := 14) 0 rfl dX7_count_14 ?_
  refine sn_iald (j := j7_count) (pc := 15) rfl ⟨by decide, by decide⟩ dX7_count_15 (fun w_1 => ?_)
  refine sn_iadd (j := j7_count) (pc := 16) dX7_count_16 ?_
  refine sn_callS (j := j7_count) (pc := 17) (jc := j7_in) (As := [.int x1, .int 10, .int (9 + w_1)]) (s7_in x1 10 (9 + w_1) M) mm_hvI (by simp [Value.category]) (Nat.le_of_ble_eq_true rfl) q7_in rfl (by decide) w_ml_X7_60 w_st_X7_in rfl (Nat.le_of_ble_eq_true rfl) dX7_count_17 ?_
  rintro ⟨r_2, M⟩
  show Snd injI j7_count mm_X0 20 [some (.ref 46), some (.int x1)] [.int r_2] M _
  refine sn_if_eq (j := j7_count) (pc := 20) 36 rfl dX7_count_20 ?_ ?_
  · refine sn_iload_n (j := j7_count) (pc := 36) rfl rfl dX7_count_36 ?_
    refine sn_bipush (j := j7_count) (pc := 37) 6 rfl dX7_count_37 ?_
    refine sn_icmp_ne (j := j7_count) (pc := 39) 49 rfl dX7_count_39 ?_ ?_
    · refine sn_iload_n (j := j7_count) (pc := 49) rfl rfl dX7_count_49 ?_
      refine sn_iconst (j := j7_count) (pc := 50) 0 rfl dX7_count_50 ?_
      refine sn_iconst (j := j7_count) (pc := 51) 5 rfl dX7_count_51 ?_
      refine sn_callS (j := j7_count) (pc := 52) (jc := j7_in) (As := [.int x1, .int 0, .int 5]) (s7_in x1 0 5 M) mm_hvI (by simp [Value.category]) (Nat.le_of_ble_eq_true rfl) q7_in rfl (by decide) w_ml_X7_60 w_st_X7_in rfl (Nat.le_of_ble_eq_true rfl) dX7_count_52 ?_
      rintro ⟨r_3, M⟩
      show Snd injI j7_count mm_X0 55 [some (.ref 46), some (.int x1)] [.int r_3] M _
      refine sn_if_eq (j := j7_count) (pc := 55) 67 rfl dX7_count_55 ?_ ?_
      · refine sn_iconst (j := j7_count) (pc := 67) (-1) rfl dX7_count_67 ?_
        exact Snd.wk (sl7_count_68 (-1) M) (by simp [mm_le])
      · refine sn_aload_n (j := j7_count) (pc := 58) rfl rfl dX7_count_58 ?_
        refine g_X7_7 (j := j7_count) (pc := 59) rfl dX7_count_59 ?_
        refine sn_iload_n (j := j7_count) (pc := 62) rfl rfl dX7_count_62 ?_
        refine sn_iald (j := j7_count) (pc := 63) rfl ⟨by decide, by decide⟩ dX7_count_63 (fun w_4 => ?_)
        refine sn_goto (j := j7_count) (pc := 64) 68 rfl dX7_count_64 ?_
        exact Snd.wk (sl7_count_68 w_4 M) (by simp [mm_le])
    · refine sn_aload_n (j := j7_count) (pc := 42) rfl rfl dX7_count_42 ?_
      refine g_X7_64 (j := j7_count) (pc := 43) rfl dX7_count_43 ?_
      refine Snd.bI (fun v_5 => ?_)
      refine sn_goto (j := j7_count) (pc := 46) 68 rfl dX7_count_46 ?_
      exact Snd.wk (sl7_count_68 v_5 M) (by simp [mm_le])
  · refine sn_aload_n (j := j7_count) (pc := 23) rfl rfl dX7_count_23 ?_
    refine g_X7_7 (j := j7_count) (pc := 24) rfl dX7_count_24 ?_
    refine sn_bipush (j := j7_count) (pc := 27) 6 rfl dX7_count_27 ?_
    refine sn_iload_n (j := j7_count) (pc := 29) rfl rfl dX7_count_29 ?_
    refine sn_iadd (j := j7_count) (pc := 30) dX7_count_30 ?_
    refine sn_bipush (j := j7_count) (pc := 31) 10 rfl dX7_count_31 ?_
    refine sn_isub (j := j7_count) (pc := 33) dX7_count_33 ?_
    refine sn_iald (j := j7_count) (pc := 34) rfl ⟨by decide, by decide⟩ dX7_count_34 (fun w_6 => ?_)
    exact sn_iret (j := j7_count) (pc := 35) rfl dX7_count_35

abbrev j7_told : mm_J := (yX7_told, cX7_told, 3, (some .int), 2)
theorem dX7_told_0 : decode cX7_told 0 = .ok (.aload_n 0, 1) := by decide +kernel
theorem dX7_told_1 : decode cX7_told 1 = .ok (.aload_n 0, 1) := by decide +kernel
theorem dX7_told_2 : decode cX7_told 2 = .ok (.iload_n 1, 1) := by decide +kernel
theorem dX7_told_3 : decode cX7_told 3 = .ok (.invokevirtual 172, 3) := by decide +kernel
theorem dX7_told_6 : decode cX7_told 6 = .ok (.ifCond .eq 16, 3) := by decide +kernel
theorem dX7_told_9 : decode cX7_told 9 = .ok (.iload_n 2, 1) := by decide +kernel
theorem dX7_told_10 : decode cX7_told 10 = .ok (.iconst 0, 1) := by decide +kernel
theorem dX7_told_11 : decode cX7_told 11 = .ok (.iconst 5, 1) := by decide +kernel
theorem dX7_told_12 : decode cX7_told 12 = .ok (.invokestatic 60, 3) := by decide +kernel
theorem dX7_told_15 : decode cX7_told 15 = .ok (.ifCond .eq 7, 3) := by decide +kernel
theorem dX7_told_18 : decode cX7_told 18 = .ok (.iconst 0, 1) := by decide +kernel
theorem dX7_told_19 : decode cX7_told 19 = .ok (.goto 4, 3) := by decide +kernel
theorem dX7_told_22 : decode cX7_told 22 = .ok (.iconst 1, 1) := by decide +kernel
theorem dX7_told_23 : decode cX7_told 23 = .ok (.putfield 56, 3) := by decide +kernel
theorem dX7_told_26 : decode cX7_told 26 = .ok (.aload_n 0, 1) := by decide +kernel
theorem dX7_told_27 : decode cX7_told 27 = .ok (.getfield 56, 3) := by decide +kernel
theorem dX7_told_30 : decode cX7_told 30 = .ok (.ifCond .le 7, 3) := by decide +kernel
theorem dX7_told_33 : decode cX7_told 33 = .ok (.iconst 0, 1) := by decide +kernel
theorem dX7_told_34 : decode cX7_told 34 = .ok (.goto 9, 3) := by decide +kernel
theorem dX7_told_37 : decode cX7_told 37 = .ok (.aload_n 0, 1) := by decide +kernel
theorem dX7_told_38 : decode cX7_told 38 = .ok (.iload_n 1, 1) := by decide +kernel
theorem dX7_told_39 : decode cX7_told 39 = .ok (.iload_n 2, 1) := by decide +kernel
theorem dX7_told_40 : decode cX7_told 40 = .ok (.invokevirtual 181, 3) := by decide +kernel
theorem dX7_told_43 : decode cX7_told 43 = .ok (.ireturn, 1) := by decide +kernel
def l7_told_43  (s0 : Int32) (M : mm_M) : Option (Int32 × mm_M) :=
  some (s0, M)
set_option maxHeartbeats 2000000 in
theorem sl7_told_43   (s0 : Int32)  (M : mm_M) : Snd injI j7_told mm_X0 43 [none, none, none] [.int s0] M (l7_told_43  s0 M) := by
  unfold l7_told_43
  exact sn_iret (j := j7_told) (pc := 43) rfl dX7_told_43
def l7_told_23  (x1 : Int32) (x2 : Int32) (s0 : Int32) (M : mm_M) : Option (Int32 × mm_M) :=
  bM (sI M 46 0 s0) (fun M => bI (mI M 46 0) (fun v_1 => if v_1 ≤ 0 then (cI (f7_of x1 x2 M) (fun r_2 M => l7_told_43 r_2 M)) else (l7_told_43 0 M)))
set_option maxHeartbeats 2000000 in
theorem sl7_told_23   (x1 : Int32) (x2 : Int32) (s0 : Int32)  (M : mm_M) : Snd injI j7_told mm_X0 23 [some (.ref 46), some (.int x1), some (.int x2)] [.int s0, .ref 46] M (l7_told_23  x1 x2 s0 M) := by
  unfold l7_told_23
  refine p_X7_56 (j := j7_told) (pc := 23) rfl dX7_told_23 (fun M => ?_)
  refine sn_aload_n (j := j7_told) (pc := 26) rfl rfl dX7_told_26 ?_
  refine g_X7_56 (j := j7_told) (pc := 27) rfl dX7_told_27 ?_
  refine Snd.bI (fun v_1 => ?_)
  refine sn_if_le (j := j7_told) (pc := 30) 37 rfl dX7_told_30 ?_ ?_
  · refine sn_aload_n (j := j7_told) (pc := 37) rfl rfl dX7_told_37 ?_
    refine sn_iload_n (j := j7_told) (pc := 38) rfl rfl dX7_told_38 ?_
    refine sn_iload_n (j := j7_told) (pc := 39) rfl rfl dX7_told_39 ?_
    refine sn_callV (j := j7_told) (pc := 40) (jc := j7_of) (As := [.int x1, .int x2]) (s7_of x1 x2 M) mm_hvI (by simp [Value.category]) (Nat.le_of_ble_eq_true rfl) q7_of rfl (by decide) rfl rfl ⟨by decide, by decide⟩ w_ml_X7_181 w_im_X7_of w_se_X7_of rfl (Nat.le_of_ble_eq_true rfl) dX7_told_40 ?_
    rintro ⟨r_2, M⟩
    show Snd injI j7_told mm_X0 43 [some (.ref 46), some (.int x1), some (.int x2)] [.int r_2] M _
    exact Snd.wk (sl7_told_43 r_2 M) (by simp [mm_le])
  · refine sn_iconst (j := j7_told) (pc := 33) 0 rfl dX7_told_33 ?_
    refine sn_goto (j := j7_told) (pc := 34) 43 rfl dX7_told_34 ?_
    exact Snd.wk (sl7_told_43 0 M) (by simp [mm_le])
def l7_told_22  (x1 : Int32) (x2 : Int32) (M : mm_M) : Option (Int32 × mm_M) :=
  l7_told_23 x1 x2 1 M
set_option maxHeartbeats 2000000 in
theorem sl7_told_22   (x1 : Int32) (x2 : Int32)  (M : mm_M) : Snd injI j7_told mm_X0 22 [some (.ref 46), some (.int x1), some (.int x2)] [.ref 46] M (l7_told_22  x1 x2 M) := by
  unfold l7_told_22
  refine sn_iconst (j := j7_told) (pc := 22) 1 rfl dX7_told_22 ?_
  exact Snd.wk (sl7_told_23 x1 x2 1 M) (by simp [mm_le])
def f7_told (x1 : Int32) (x2 : Int32) (M : mm_M) : Option (Int32 × mm_M) :=
  cI (f7_isBus x1 M) (fun r_3 M => if r_3 = 0 then (l7_told_22 x1 x2 M) else (cI (f7_in x2 0 5 M) (fun r_4 M => if r_4 = 0 then (l7_told_22 x1 x2 M) else (l7_told_23 x1 x2 0 M))))
set_option maxHeartbeats 2000000 in
theorem s7_told (x1 : Int32) (x2 : Int32) (M : mm_M) : Snd injI j7_told mm_X0 0 [some (.ref 46), some (.int x1), some (.int x2)] [] M (f7_told x1 x2 M) := by
  refine Snd.wk (lo' := [some (.ref 46), some (.int x1), some (.int x2)]) ?_ (by simp [mm_le])
  unfold f7_told
  refine sn_aload_n (j := j7_told) (pc := 0) rfl rfl dX7_told_0 ?_
  refine sn_aload_n (j := j7_told) (pc := 1) rfl rfl dX7_told_1 ?_
  refine sn_iload_n (j := j7_told) (pc := 2) rfl rfl dX7_told_2 ?_
  refine sn_callV (j := j7_told) (pc := 3) (jc := j7_isBus) (As := [.int x1]) (s7_isBus x1 M) mm_hvI (by simp [Value.category]) (Nat.le_of_ble_eq_true rfl) q7_isBus rfl (by decide) rfl rfl ⟨by decide, by decide⟩ w_ml_X7_172 w_im_X7_isBus w_se_X7_isBus rfl (Nat.le_of_ble_eq_true rfl) dX7_told_3 ?_
  rintro ⟨r_3, M⟩
  show Snd injI j7_told mm_X0 6 [some (.ref 46), some (.int x1), some (.int x2)] [.int r_3, .ref 46] M _
  refine sn_if_eq (j := j7_told) (pc := 6) 22 rfl dX7_told_6 ?_ ?_
  · exact Snd.wk (sl7_told_22 x1 x2 M) (by simp [mm_le])
  · refine sn_iload_n (j := j7_told) (pc := 9) rfl rfl dX7_told_9 ?_
    refine sn_iconst (j := j7_told) (pc := 10) 0 rfl dX7_told_10 ?_
    refine sn_iconst (j := j7_told) (pc := 11) 5 rfl dX7_told_11 ?_
    refine sn_callS (j := j7_told) (pc := 12) (jc := j7_in) (As := [.int x2, .int 0, .int 5]) (s7_in x2 0 5 M) mm_hvI (by simp [Value.category]) (Nat.le_of_ble_eq_true rfl) q7_in rfl (by decide) w_ml_X7_60 w_st_X7_in rfl (Nat.le_of_ble_eq_true rfl) dX7_told_12 ?_
    rintro ⟨r_4, M⟩
    show Snd injI j7_told mm_X0 15 [some (.ref 46), some (.int x1), some (.int x2)] [.int r_4, .ref 46] M _
    refine sn_if_eq (j := j7_told) (pc := 15) 22 rfl dX7_told_15 ?_ ?_
    · exact Snd.wk (sl7_told_22 x1 x2 M) (by simp [mm_le])
    · refine sn_iconst (j := j7_told) (pc := 18) 0 rfl dX7_told_18 ?_
      refine sn_goto (j := j7_told) (pc := 19) 23 rfl dX7_told_19 ?_
      exact Snd.wk (sl7_told_23 x1 x2 0 M) (by simp [mm_le])

abbrev j7_curve : mm_J := (yX7_curve, cX7_curve, 5, (some .int), 1)
theorem dX7_curve_0 : decode cX7_curve 0 = .ok (.aload_n 0, 1) := by decide +kernel
theorem dX7_curve_1 : decode cX7_curve 1 = .ok (.iconst 0, 1) := by decide +kernel
theorem dX7_curve_2 : decode cX7_curve 2 = .ok (.putfield 56, 3) := by decide +kernel
theorem dX7_curve_5 : decode cX7_curve 5 = .ok (.iload_n 1, 1) := by decide +kernel
theorem dX7_curve_6 : decode cX7_curve 6 = .ok (.iconst 0, 1) := by decide +kernel
theorem dX7_curve_7 : decode cX7_curve 7 = .ok (.aload_n 0, 1) := by decide +kernel
theorem dX7_curve_8 : decode cX7_curve 8 = .ok (.getfield 7, 3) := by decide +kernel
theorem dX7_curve_11 : decode cX7_curve 11 = .ok (.iconst 2, 1) := by decide +kernel
theorem dX7_curve_12 : decode cX7_curve 12 = .ok (.iaload, 1) := by decide +kernel
theorem dX7_curve_13 : decode cX7_curve 13 = .ok (.iconst 1, 1) := by decide +kernel
theorem dX7_curve_14 : decode cX7_curve 14 = .ok (.isub, 1) := by decide +kernel
theorem dX7_curve_15 : decode cX7_curve 15 = .ok (.invokestatic 60, 3) := by decide +kernel
theorem dX7_curve_18 : decode cX7_curve 18 = .ok (.ifCond .ne 5, 3) := by decide +kernel
theorem dX7_curve_21 : decode cX7_curve 21 = .ok (.iconst (-1), 1) := by decide +kernel
theorem dX7_curve_22 : decode cX7_curve 22 = .ok (.ireturn, 1) := by decide +kernel
theorem dX7_curve_23 : decode cX7_curve 23 = .ok (.bipush 14, 2) := by decide +kernel
theorem dX7_curve_25 : decode cX7_curve 25 = .ok (.bipush 9, 2) := by decide +kernel
theorem dX7_curve_27 : decode cX7_curve 27 = .ok (.iload_n 1, 1) := by decide +kernel
theorem dX7_curve_28 : decode cX7_curve 28 = .ok (.imul, 1) := by decide +kernel
theorem dX7_curve_29 : decode cX7_curve 29 = .ok (.iadd, 1) := by decide +kernel
theorem dX7_curve_30 : decode cX7_curve 30 = .ok (.istore 4, 2) := by decide +kernel
theorem dX7_curve_32 : decode cX7_curve 32 = .ok (.iload_n 2, 1) := by decide +kernel
theorem dX7_curve_33 : decode cX7_curve 33 = .ok (.iconst (-1), 1) := by decide +kernel
theorem dX7_curve_34 : decode cX7_curve 34 = .ok (.if_icmp .ne 19, 3) := by decide +kernel
theorem dX7_curve_37 : decode cX7_curve 37 = .ok (.iload_n 3, 1) := by decide +kernel
theorem dX7_curve_38 : decode cX7_curve 38 = .ok (.ifCond .ne 13, 3) := by decide +kernel
theorem dX7_curve_41 : decode cX7_curve 41 = .ok (.aload_n 0, 1) := by decide +kernel
theorem dX7_curve_42 : decode cX7_curve 42 = .ok (.getfield 7, 3) := by decide +kernel
theorem dX7_curve_45 : decode cX7_curve 45 = .ok (.iload 4, 2) := by decide +kernel
theorem dX7_curve_47 : decode cX7_curve 47 = .ok (.iaload, 1) := by decide +kernel
theorem dX7_curve_48 : decode cX7_curve 48 = .ok (.goto 4, 3) := by decide +kernel
theorem dX7_curve_51 : decode cX7_curve 51 = .ok (.iconst (-1), 1) := by decide +kernel
theorem dX7_curve_52 : decode cX7_curve 52 = .ok (.ireturn, 1) := by decide +kernel
theorem dX7_curve_53 : decode cX7_curve 53 = .ok (.iload_n 2, 1) := by decide +kernel
theorem dX7_curve_54 : decode cX7_curve 54 = .ok (.iconst 0, 1) := by decide +kernel
theorem dX7_curve_55 : decode cX7_curve 55 = .ok (.aload_n 0, 1) := by decide +kernel
theorem dX7_curve_56 : decode cX7_curve 56 = .ok (.getfield 7, 3) := by decide +kernel
theorem dX7_curve_59 : decode cX7_curve 59 = .ok (.iload 4, 2) := by decide +kernel
theorem dX7_curve_61 : decode cX7_curve 61 = .ok (.iaload, 1) := by decide +kernel
theorem dX7_curve_62 : decode cX7_curve 62 = .ok (.iconst 1, 1) := by decide +kernel
theorem dX7_curve_63 : decode cX7_curve 63 = .ok (.isub, 1) := by decide +kernel
theorem dX7_curve_64 : decode cX7_curve 64 = .ok (.invokestatic 60, 3) := by decide +kernel
theorem dX7_curve_67 : decode cX7_curve 67 = .ok (.ifCond .eq 30, 3) := by decide +kernel
theorem dX7_curve_70 : decode cX7_curve 70 = .ok (.iload_n 3, 1) := by decide +kernel
theorem dX7_curve_71 : decode cX7_curve 71 = .ok (.iconst 0, 1) := by decide +kernel
theorem dX7_curve_72 : decode cX7_curve 72 = .ok (.iconst 1, 1) := by decide +kernel
theorem dX7_curve_73 : decode cX7_curve 73 = .ok (.invokestatic 60, 3) := by decide +kernel
theorem dX7_curve_76 : decode cX7_curve 76 = .ok (.ifCond .eq 21, 3) := by decide +kernel
theorem dX7_curve_79 : decode cX7_curve 79 = .ok (.aload_n 0, 1) := by decide +kernel
theorem dX7_curve_80 : decode cX7_curve 80 = .ok (.getfield 7, 3) := by decide +kernel
theorem dX7_curve_83 : decode cX7_curve 83 = .ok (.iload 4, 2) := by decide +kernel
theorem dX7_curve_85 : decode cX7_curve 85 = .ok (.iconst 2, 1) := by decide +kernel
theorem dX7_curve_86 : decode cX7_curve 86 = .ok (.iload_n 2, 1) := by decide +kernel
theorem dX7_curve_87 : decode cX7_curve 87 = .ok (.imul, 1) := by decide +kernel
theorem dX7_curve_88 : decode cX7_curve 88 = .ok (.iadd, 1) := by decide +kernel
theorem dX7_curve_89 : decode cX7_curve 89 = .ok (.iconst 1, 1) := by decide +kernel
theorem dX7_curve_90 : decode cX7_curve 90 = .ok (.iadd, 1) := by decide +kernel
theorem dX7_curve_91 : decode cX7_curve 91 = .ok (.iload_n 3, 1) := by decide +kernel
theorem dX7_curve_92 : decode cX7_curve 92 = .ok (.iadd, 1) := by decide +kernel
theorem dX7_curve_93 : decode cX7_curve 93 = .ok (.iaload, 1) := by decide +kernel
theorem dX7_curve_94 : decode cX7_curve 94 = .ok (.goto 4, 3) := by decide +kernel
theorem dX7_curve_97 : decode cX7_curve 97 = .ok (.iconst (-1), 1) := by decide +kernel
theorem dX7_curve_98 : decode cX7_curve 98 = .ok (.ireturn, 1) := by decide +kernel
def l7_curve_98  (s0 : Int32) (M : mm_M) : Option (Int32 × mm_M) :=
  some (s0, M)
set_option maxHeartbeats 2000000 in
theorem sl7_curve_98   (s0 : Int32)  (M : mm_M) : Snd injI j7_curve mm_X0 98 [none, none, none, none, none] [.int s0] M (l7_curve_98  s0 M) := by
  unfold l7_curve_98
  exact sn_iret (j := j7_curve) (pc := 98) rfl dX7_curve_98
def l7_curve_97   (M : mm_M) : Option (Int32 × mm_M) :=
  l7_curve_98 (-1) M
set_option maxHeartbeats 2000000 in
theorem sl7_curve_97     (M : mm_M) : Snd injI j7_curve mm_X0 97 [none, none, none, none, none] [] M (l7_curve_97   M) := by
  unfold l7_curve_97
  refine sn_iconst (j := j7_curve) (pc := 97) (-1) rfl dX7_curve_97 ?_
  exact Snd.wk (sl7_curve_98 (-1) M) (by simp [mm_le])
def l7_curve_52  (s0 : Int32) (M : mm_M) : Option (Int32 × mm_M) :=
  some (s0, M)
set_option maxHeartbeats 2000000 in
theorem sl7_curve_52   (s0 : Int32)  (M : mm_M) : Snd injI j7_curve mm_X0 52 [none, none, none, none, none] [.int s0] M (l7_curve_52  s0 M) := by
  unfold l7_curve_52
  exact sn_iret (j := j7_curve) (pc := 52) rfl dX7_curve_52
def f7_curve (x1 : Int32) (x2 : Int32) (x3 : Int32) (M : mm_M) : Option (Int32 × mm_M) :=
  bM (sI M 46 0 0) (fun M => aI 47 82 2 M (fun w_1 => cI (f7_in x1 0 (w_1 - 1) M) (fun r_2 M => if r_2 = 0 then (some ((-1), M)) else (bI (14 + (9 * x1)) (fun x4_3 => if x2 = (-1) then (if x3 = 0 then (aI 47 82 x4_3 M (fun w_8 => l7_curve_52 w_8 M)) else (l7_curve_52 (-1) M)) else (aI 47 82 x4_3 M (fun w_4 => cI (f7_in x2 0 (w_4 - 1) M) (fun r_5 M => if r_5 = 0 then (l7_curve_97 M) else (cI (f7_in x3 0 1 M) (fun r_6 M => if r_6 = 0 then (l7_curve_97 M) else (aI 47 82 (((x4_3 + (2 * x2)) + 1) + x3) M (fun w_7 => l7_curve_98 w_7 M))))))))))))
set_option maxHeartbeats 2000000 in
theorem s7_curve (x1 : Int32) (x2 : Int32) (x3 : Int32) (M : mm_M) : Snd injI j7_curve mm_X0 0 [some (.ref 46), some (.int x1), some (.int x2), some (.int x3)] [] M (f7_curve x1 x2 x3 M) := by
  refine Snd.wk (lo' := [some (.ref 46), some (.int x1), some (.int x2), some (.int x3), none]) ?_ (by simp [mm_le])
  unfold f7_curve
  refine sn_aload_n (j := j7_curve) (pc := 0) rfl rfl dX7_curve_0 ?_
  refine sn_iconst (j := j7_curve) (pc := 1) 0 rfl dX7_curve_1 ?_
  refine p_X7_56 (j := j7_curve) (pc := 2) rfl dX7_curve_2 (fun M => ?_)
  refine sn_iload_n (j := j7_curve) (pc := 5) rfl rfl dX7_curve_5 ?_
  refine sn_iconst (j := j7_curve) (pc := 6) 0 rfl dX7_curve_6 ?_
  refine sn_aload_n (j := j7_curve) (pc := 7) rfl rfl dX7_curve_7 ?_
  refine g_X7_7 (j := j7_curve) (pc := 8) rfl dX7_curve_8 ?_
  refine sn_iconst (j := j7_curve) (pc := 11) 2 rfl dX7_curve_11 ?_
  refine sn_iald (j := j7_curve) (pc := 12) rfl ⟨by decide, by decide⟩ dX7_curve_12 (fun w_1 => ?_)
  refine sn_iconst (j := j7_curve) (pc := 13) 1 rfl dX7_curve_13 ?_
  refine sn_isub (j := j7_curve) (pc := 14) dX7_curve_14 ?_
  refine sn_callS (j := j7_curve) (pc := 15) (jc := j7_in) (As := [.int x1, .int 0, .int (w_1 - 1)]) (s7_in x1 0 (w_1 - 1) M) mm_hvI (by simp [Value.category]) (Nat.le_of_ble_eq_true rfl) q7_in rfl (by decide) w_ml_X7_60 w_st_X7_in rfl (Nat.le_of_ble_eq_true rfl) dX7_curve_15 ?_
  rintro ⟨r_2, M⟩
  show Snd injI j7_curve mm_X0 18 [some (.ref 46), some (.int x1), some (.int x2), some (.int x3), none] [.int r_2] M _
  refine sn_if_ne (j := j7_curve) (pc := 18) 23 rfl dX7_curve_18 ?_ ?_
  · refine sn_bipush (j := j7_curve) (pc := 23) 14 rfl dX7_curve_23 ?_
    refine sn_bipush (j := j7_curve) (pc := 25) 9 rfl dX7_curve_25 ?_
    refine sn_iload_n (j := j7_curve) (pc := 27) rfl rfl dX7_curve_27 ?_
    refine sn_imul (j := j7_curve) (pc := 28) dX7_curve_28 ?_
    refine sn_iadd (j := j7_curve) (pc := 29) dX7_curve_29 ?_
    refine sn_istoreB (j := j7_curve) (pc := 30) (fun x4_3 => [some (.ref 46), some (.int x1), some (.int x2), some (.int x3), some (.int x4_3)]) (by decide) (fun _ => rfl) dX7_curve_30 (fun x4_3 => ?_)
    refine sn_iload_n (j := j7_curve) (pc := 32) rfl rfl dX7_curve_32 ?_
    refine sn_iconst (j := j7_curve) (pc := 33) (-1) rfl dX7_curve_33 ?_
    refine sn_icmp_ne (j := j7_curve) (pc := 34) 53 rfl dX7_curve_34 ?_ ?_
    · refine sn_iload_n (j := j7_curve) (pc := 53) rfl rfl dX7_curve_53 ?_
      refine sn_iconst (j := j7_curve) (pc := 54) 0 rfl dX7_curve_54 ?_
      refine sn_aload_n (j := j7_curve) (pc := 55) rfl rfl dX7_curve_55 ?_
      refine g_X7_7 (j := j7_curve) (pc := 56) rfl dX7_curve_56 ?_
      refine sn_iload (j := j7_curve) (pc := 59) rfl dX7_curve_59 ?_
      refine sn_iald (j := j7_curve) (pc := 61) rfl ⟨by decide, by decide⟩ dX7_curve_61 (fun w_4 => ?_)
      refine sn_iconst (j := j7_curve) (pc := 62) 1 rfl dX7_curve_62 ?_
      refine sn_isub (j := j7_curve) (pc := 63) dX7_curve_63 ?_
      refine sn_callS (j := j7_curve) (pc := 64) (jc := j7_in) (As := [.int x2, .int 0, .int (w_4 - 1)]) (s7_in x2 0 (w_4 - 1) M) mm_hvI (by simp [Value.category]) (Nat.le_of_ble_eq_true rfl) q7_in rfl (by decide) w_ml_X7_60 w_st_X7_in rfl (Nat.le_of_ble_eq_true rfl) dX7_curve_64 ?_
      rintro ⟨r_5, M⟩
      show Snd injI j7_curve mm_X0 67 [some (.ref 46), some (.int x1), some (.int x2), some (.int x3), some (.int x4_3)] [.int r_5] M _
      refine sn_if_eq (j := j7_curve) (pc := 67) 97 rfl dX7_curve_67 ?_ ?_
      · exact Snd.wk (sl7_curve_97 M) (by simp [mm_le])
      · refine sn_iload_n (j := j7_curve) (pc := 70) rfl rfl dX7_curve_70 ?_
        refine sn_iconst (j := j7_curve) (pc := 71) 0 rfl dX7_curve_71 ?_
        refine sn_iconst (j := j7_curve) (pc := 72) 1 rfl dX7_curve_72 ?_
        refine sn_callS (j := j7_curve) (pc := 73) (jc := j7_in) (As := [.int x3, .int 0, .int 1]) (s7_in x3 0 1 M) mm_hvI (by simp [Value.category]) (Nat.le_of_ble_eq_true rfl) q7_in rfl (by decide) w_ml_X7_60 w_st_X7_in rfl (Nat.le_of_ble_eq_true rfl) dX7_curve_73 ?_
        rintro ⟨r_6, M⟩
        show Snd injI j7_curve mm_X0 76 [some (.ref 46), some (.int x1), some (.int x2), some (.int x3), some (.int x4_3)] [.int r_6] M _
        refine sn_if_eq (j := j7_curve) (pc := 76) 97 rfl dX7_curve_76 ?_ ?_
        · exact Snd.wk (sl7_curve_97 M) (by simp [mm_le])
        · refine sn_aload_n (j := j7_curve) (pc := 79) rfl rfl dX7_curve_79 ?_
          refine g_X7_7 (j := j7_curve) (pc := 80) rfl dX7_curve_80 ?_
          refine sn_iload (j := j7_curve) (pc := 83) rfl dX7_curve_83 ?_
          refine sn_iconst (j := j7_curve) (pc := 85) 2 rfl dX7_curve_85 ?_
          refine sn_iload_n (j := j7_curve) (pc := 86) rfl rfl dX7_curve_86 ?_
          refine sn_imul (j := j7_curve) (pc := 87) dX7_curve_87 ?_
          refine sn_iadd (j := j7_curve) (pc := 88) dX7_curve_88 ?_
          refine sn_iconst (j := j7_curve) (pc := 89) 1 rfl dX7_curve_89 ?_
          refine sn_iadd (j := j7_curve) (pc := 90) dX7_curve_90 ?_
          refine sn_iload_n (j := j7_curve) (pc := 91) rfl rfl dX7_curve_91 ?_
          refine sn_iadd (j := j7_curve) (pc := 92) dX7_curve_92 ?_
          refine sn_iald (j := j7_curve) (pc := 93) rfl ⟨by decide, by decide⟩ dX7_curve_93 (fun w_7 => ?_)
          refine sn_goto (j := j7_curve) (pc := 94) 98 rfl dX7_curve_94 ?_
          exact Snd.wk (sl7_curve_98 w_7 M) (by simp [mm_le])
    · refine sn_iload_n (j := j7_curve) (pc := 37) rfl rfl dX7_curve_37 ?_
      refine sn_if_ne (j := j7_curve) (pc := 38) 51 rfl dX7_curve_38 ?_ ?_
      · refine sn_iconst (j := j7_curve) (pc := 51) (-1) rfl dX7_curve_51 ?_
        exact Snd.wk (sl7_curve_52 (-1) M) (by simp [mm_le])
      · refine sn_aload_n (j := j7_curve) (pc := 41) rfl rfl dX7_curve_41 ?_
        refine g_X7_7 (j := j7_curve) (pc := 42) rfl dX7_curve_42 ?_
        refine sn_iload (j := j7_curve) (pc := 45) rfl dX7_curve_45 ?_
        refine sn_iald (j := j7_curve) (pc := 47) rfl ⟨by decide, by decide⟩ dX7_curve_47 (fun w_8 => ?_)
        refine sn_goto (j := j7_curve) (pc := 48) 52 rfl dX7_curve_48 ?_
        exact Snd.wk (sl7_curve_52 w_8 M) (by simp [mm_le])
  · refine sn_iconst (j := j7_curve) (pc := 21) (-1) rfl dX7_curve_21 ?_
    exact sn_iret (j := j7_curve) (pc := 22) rfl dX7_curve_22

abbrev j7_less : mm_J := (yX7_less, cX7_less, 2, (some .int), 0)
theorem dX7_less_0 : decode cX7_less 0 = .ok (.iload_n 0, 1) := by decide +kernel
theorem dX7_less_1 : decode cX7_less 1 = .ok (.iload_n 1, 1) := by decide +kernel
theorem dX7_less_2 : decode cX7_less 2 = .ok (.if_icmp .ge 7, 3) := by decide +kernel
theorem dX7_less_5 : decode cX7_less 5 = .ok (.iload_n 0, 1) := by decide +kernel
theorem dX7_less_6 : decode cX7_less 6 = .ok (.goto 4, 3) := by decide +kernel
theorem dX7_less_9 : decode cX7_less 9 = .ok (.iload_n 1, 1) := by decide +kernel
theorem dX7_less_10 : decode cX7_less 10 = .ok (.ireturn, 1) := by decide +kernel
def l7_less_10  (s0 : Int32) (M : mm_M) : Option (Int32 × mm_M) :=
  some (s0, M)
set_option maxHeartbeats 2000000 in
theorem sl7_less_10   (s0 : Int32)  (M : mm_M) : Snd injI j7_less mm_X0 10 [none, none] [.int s0] M (l7_less_10  s0 M) := by
  unfold l7_less_10
  exact sn_iret (j := j7_less) (pc := 10) rfl dX7_less_10
def f7_less (x0 : Int32) (x1 : Int32) (M : mm_M) : Option (Int32 × mm_M) :=
  if x1 ≤ x0 then (l7_less_10 x1 M) else (l7_less_10 x0 M)
set_option maxHeartbeats 2000000 in
theorem s7_less (x0 : Int32) (x1 : Int32) (M : mm_M) : Snd injI j7_less mm_X0 0 [some (.int x0), some (.int x1)] [] M (f7_less x0 x1 M) := by
  refine Snd.wk (lo' := [some (.int x0), some (.int x1)]) ?_ (by simp [mm_le])
  unfold f7_less
  refine sn_iload_n (j := j7_less) (pc := 0) rfl rfl dX7_less_0 ?_
  refine sn_iload_n (j := j7_less) (pc := 1) rfl rfl dX7_less_1 ?_
  refine sn_icmp_ge (j := j7_less) (pc := 2) 9 rfl dX7_less_2 ?_ ?_
  · refine sn_iload_n (j := j7_less) (pc := 9) rfl rfl dX7_less_9 ?_
    exact Snd.wk (sl7_less_10 x1 M) (by simp [mm_le])
  · refine sn_iload_n (j := j7_less) (pc := 5) rfl rfl dX7_less_5 ?_
    refine sn_goto (j := j7_less) (pc := 6) 10 rfl dX7_less_6 ?_
    exact Snd.wk (sl7_less_10 x0 M) (by simp [mm_le])

abbrev j7_takesOf : mm_J := (yX7_takesOf, cX7_takesOf, 5, (some .int), 1)
theorem dX7_takesOf_0 : decode cX7_takesOf 0 = .ok (.bipush 14, 2) := by decide +kernel
theorem dX7_takesOf_2 : decode cX7_takesOf 2 = .ok (.bipush 9, 2) := by decide +kernel
theorem dX7_takesOf_4 : decode cX7_takesOf 4 = .ok (.aload_n 0, 1) := by decide +kernel
theorem dX7_takesOf_5 : decode cX7_takesOf 5 = .ok (.iload_n 1, 1) := by decide +kernel
theorem dX7_takesOf_6 : decode cX7_takesOf 6 = .ok (.iconst 0, 1) := by decide +kernel
theorem dX7_takesOf_7 : decode cX7_takesOf 7 = .ok (.invokevirtual 181, 3) := by decide +kernel
theorem dX7_takesOf_10 : decode cX7_takesOf 10 = .ok (.imul, 1) := by decide +kernel
theorem dX7_takesOf_11 : decode cX7_takesOf 11 = .ok (.iadd, 1) := by decide +kernel
theorem dX7_takesOf_12 : decode cX7_takesOf 12 = .ok (.istore_n 3, 1) := by decide +kernel
theorem dX7_takesOf_13 : decode cX7_takesOf 13 = .ok (.aload_n 0, 1) := by decide +kernel
theorem dX7_takesOf_14 : decode cX7_takesOf 14 = .ok (.getfield 7, 3) := by decide +kernel
theorem dX7_takesOf_17 : decode cX7_takesOf 17 = .ok (.iload_n 3, 1) := by decide +kernel
theorem dX7_takesOf_18 : decode cX7_takesOf 18 = .ok (.iaload, 1) := by decide +kernel
theorem dX7_takesOf_19 : decode cX7_takesOf 19 = .ok (.iconst 1, 1) := by decide +kernel
theorem dX7_takesOf_20 : decode cX7_takesOf 20 = .ok (.isub, 1) := by decide +kernel
theorem dX7_takesOf_21 : decode cX7_takesOf 21 = .ok (.istore 4, 2) := by decide +kernel
theorem dX7_takesOf_23 : decode cX7_takesOf 23 = .ok (.aload_n 0, 1) := by decide +kernel
theorem dX7_takesOf_24 : decode cX7_takesOf 24 = .ok (.getfield 7, 3) := by decide +kernel
theorem dX7_takesOf_27 : decode cX7_takesOf 27 = .ok (.iload_n 3, 1) := by decide +kernel
theorem dX7_takesOf_28 : decode cX7_takesOf 28 = .ok (.iconst 2, 1) := by decide +kernel
theorem dX7_takesOf_29 : decode cX7_takesOf 29 = .ok (.iload 4, 2) := by decide +kernel
theorem dX7_takesOf_31 : decode cX7_takesOf 31 = .ok (.imul, 1) := by decide +kernel
theorem dX7_takesOf_32 : decode cX7_takesOf 32 = .ok (.iadd, 1) := by decide +kernel
theorem dX7_takesOf_33 : decode cX7_takesOf 33 = .ok (.iconst 1, 1) := by decide +kernel
theorem dX7_takesOf_34 : decode cX7_takesOf 34 = .ok (.iadd, 1) := by decide +kernel
theorem dX7_takesOf_35 : decode cX7_takesOf 35 = .ok (.iaload, 1) := by decide +kernel
theorem dX7_takesOf_36 : decode cX7_takesOf 36 = .ok (.aload_n 0, 1) := by decide +kernel
theorem dX7_takesOf_37 : decode cX7_takesOf 37 = .ok (.iload_n 1, 1) := by decide +kernel
theorem dX7_takesOf_38 : decode cX7_takesOf 38 = .ok (.iconst 1, 1) := by decide +kernel
theorem dX7_takesOf_39 : decode cX7_takesOf 39 = .ok (.invokevirtual 181, 3) := by decide +kernel
theorem dX7_takesOf_42 : decode cX7_takesOf 42 = .ok (.imul, 1) := by decide +kernel
theorem dX7_takesOf_43 : decode cX7_takesOf 43 = .ok (.bipush 100, 2) := by decide +kernel
theorem dX7_takesOf_45 : decode cX7_takesOf 45 = .ok (.iload_n 2, 1) := by decide +kernel
theorem dX7_takesOf_46 : decode cX7_takesOf 46 = .ok (.imul, 1) := by decide +kernel
theorem dX7_takesOf_47 : decode cX7_takesOf 47 = .ok (.if_icmp .le 9, 3) := by decide +kernel
theorem dX7_takesOf_50 : decode cX7_takesOf 50 = .ok (.iinc 4 (-1), 3) := by decide +kernel
theorem dX7_takesOf_53 : decode cX7_takesOf 53 = .ok (.goto (-30), 3) := by decide +kernel
theorem dX7_takesOf_56 : decode cX7_takesOf 56 = .ok (.aload_n 0, 1) := by decide +kernel
theorem dX7_takesOf_57 : decode cX7_takesOf 57 = .ok (.getfield 185, 3) := by decide +kernel
theorem dX7_takesOf_60 : decode cX7_takesOf 60 = .ok (.aload_n 0, 1) := by decide +kernel
theorem dX7_takesOf_61 : decode cX7_takesOf 61 = .ok (.getfield 7, 3) := by decide +kernel
theorem dX7_takesOf_64 : decode cX7_takesOf 64 = .ok (.iload_n 3, 1) := by decide +kernel
theorem dX7_takesOf_65 : decode cX7_takesOf 65 = .ok (.iconst 2, 1) := by decide +kernel
theorem dX7_takesOf_66 : decode cX7_takesOf 66 = .ok (.iload 4, 2) := by decide +kernel
theorem dX7_takesOf_68 : decode cX7_takesOf 68 = .ok (.imul, 1) := by decide +kernel
theorem dX7_takesOf_69 : decode cX7_takesOf 69 = .ok (.iadd, 1) := by decide +kernel
theorem dX7_takesOf_70 : decode cX7_takesOf 70 = .ok (.iconst 2, 1) := by decide +kernel
theorem dX7_takesOf_71 : decode cX7_takesOf 71 = .ok (.iadd, 1) := by decide +kernel
theorem dX7_takesOf_72 : decode cX7_takesOf 72 = .ok (.iaload, 1) := by decide +kernel
theorem dX7_takesOf_73 : decode cX7_takesOf 73 = .ok (.invokestatic 188, 3) := by decide +kernel
theorem dX7_takesOf_76 : decode cX7_takesOf 76 = .ok (.aload_n 0, 1) := by decide +kernel
theorem dX7_takesOf_77 : decode cX7_takesOf 77 = .ok (.iload_n 1, 1) := by decide +kernel
theorem dX7_takesOf_78 : decode cX7_takesOf 78 = .ok (.iconst 1, 1) := by decide +kernel
theorem dX7_takesOf_79 : decode cX7_takesOf 79 = .ok (.invokevirtual 181, 3) := by decide +kernel
theorem dX7_takesOf_82 : decode cX7_takesOf 82 = .ok (.iload_n 2, 1) := by decide +kernel
theorem dX7_takesOf_83 : decode cX7_takesOf 83 = .ok (.isub, 1) := by decide +kernel
theorem dX7_takesOf_84 : decode cX7_takesOf 84 = .ok (.invokestatic 188, 3) := by decide +kernel
theorem dX7_takesOf_87 : decode cX7_takesOf 87 = .ok (.ireturn, 1) := by decide +kernel
def b7_takesOf_23  (rec23 : Int32 → Int32 → Int32 → Int32 → mm_M → Option (Int32 × mm_M)) (x1 : Int32) (x2 : Int32) (x3 : Int32) (x4 : Int32) (M : mm_M) : Option (Int32 × mm_M) :=
  aI 47 82 ((x3 + (2 * x4)) + 1) M (fun w_1 => cI (f7_of x1 1 M) (fun r_2 M => if (w_1 * r_2) ≤ (100 * x2) then (bI (mI M 46 12) (fun v_3 => aI 47 82 ((x3 + (2 * x4)) + 2) M (fun w_4 => cI (f7_less v_3 w_4 M) (fun r_5 M => cI (f7_of x1 1 M) (fun r_6 M => cI (f7_less r_5 (r_6 - x2) M) (fun r_7 M => some (r_7, M))))))) else (rec23 x1 x2 x3 (x4 + (-1)) M)))
set_option maxHeartbeats 2000000 in
theorem sb7_takesOf_23   (rec23 : Int32 → Int32 → Int32 → Int32 → mm_M → Option (Int32 × mm_M)) (hrec23 : ∀ (x1 : Int32) (x2 : Int32) (x3 : Int32) (x4 : Int32) (M : mm_M), Snd injI j7_takesOf mm_X0 23 [some (.ref 46), some (.int x1), some (.int x2), some (.int x3), some (.int x4)] [] M (rec23 x1 x2 x3 x4 M)) (x1 : Int32) (x2 : Int32) (x3 : Int32) (x4 : Int32)  (M : mm_M) : Snd injI j7_takesOf mm_X0 23 [some (.ref 46), some (.int x1), some (.int x2), some (.int x3), some (.int x4)] [] M (b7_takesOf_23  rec23 x1 x2 x3 x4 M) := by
  unfold b7_takesOf_23
  refine sn_aload_n (j := j7_takesOf) (pc := 23) rfl rfl dX7_takesOf_23 ?_
  refine g_X7_7 (j := j7_takesOf) (pc := 24) rfl dX7_takesOf_24 ?_
  refine sn_iload_n (j := j7_takesOf) (pc := 27) rfl rfl dX7_takesOf_27 ?_
  refine sn_iconst (j := j7_takesOf) (pc := 28) 2 rfl dX7_takesOf_28 ?_
  refine sn_iload (j := j7_takesOf) (pc := 29) rfl dX7_takesOf_29 ?_
  refine sn_imul (j := j7_takesOf) (pc := 31) dX7_takesOf_31 ?_
  refine sn_iadd (j := j7_takesOf) (pc := 32) dX7_takesOf_32 ?_
  refine sn_iconst (j := j7_takesOf) (pc := 33) 1 rfl dX7_takesOf_33 ?_
  refine sn_iadd (j := j7_takesOf) (pc := 34) dX7_takesOf_34 ?_
  refine sn_iald (j := j7_takesOf) (pc := 35) rfl ⟨by decide, by decide⟩ dX7_takesOf_35 (fun w_1 => ?_)
  refine sn_aload_n (j := j7_takesOf) (pc := 36) rfl rfl dX7_takesOf_36 ?_
  refine sn_iload_n (j := j7_takesOf) (pc := 37) rfl rfl dX7_takesOf_37 ?_
  refine sn_iconst (j := j7_takesOf) (pc := 38) 1 rfl dX7_takesOf_38 ?_
  refine sn_callV (j := j7_takesOf) (pc := 39) (jc := j7_of) (As := [.int x1, .int 1]) (s7_of x1 1 M) mm_hvI (by simp [Value.category]) (Nat.le_of_ble_eq_true rfl) q7_of rfl (by decide) rfl rfl ⟨by decide, by decide⟩ w_ml_X7_181 w_im_X7_of w_se_X7_of rfl (Nat.le_of_ble_eq_true rfl) dX7_takesOf_39 ?_
  rintro ⟨r_2, M⟩
  show Snd injI j7_takesOf mm_X0 42 [some (.ref 46), some (.int x1), some (.int x2), some (.int x3), some (.int x4)] [.int r_2, .int w_1] M _
  refine sn_imul (j := j7_takesOf) (pc := 42) dX7_takesOf_42 ?_
  refine sn_bipush (j := j7_takesOf) (pc := 43) 100 rfl dX7_takesOf_43 ?_
  refine sn_iload_n (j := j7_takesOf) (pc := 45) rfl rfl dX7_takesOf_45 ?_
  refine sn_imul (j := j7_takesOf) (pc := 46) dX7_takesOf_46 ?_
  refine sn_icmp_le (j := j7_takesOf) (pc := 47) 56 rfl dX7_takesOf_47 ?_ ?_
  · refine sn_aload_n (j := j7_takesOf) (pc := 56) rfl rfl dX7_takesOf_56 ?_
    refine g_X7_185 (j := j7_takesOf) (pc := 57) rfl dX7_takesOf_57 ?_
    refine Snd.bI (fun v_3 => ?_)
    refine sn_aload_n (j := j7_takesOf) (pc := 60) rfl rfl dX7_takesOf_60 ?_
    refine g_X7_7 (j := j7_takesOf) (pc := 61) rfl dX7_takesOf_61 ?_
    refine sn_iload_n (j := j7_takesOf) (pc := 64) rfl rfl dX7_takesOf_64 ?_
    refine sn_iconst (j := j7_takesOf) (pc := 65) 2 rfl dX7_takesOf_65 ?_
    refine sn_iload (j := j7_takesOf) (pc := 66) rfl dX7_takesOf_66 ?_
    refine sn_imul (j := j7_takesOf) (pc := 68) dX7_takesOf_68 ?_
    refine sn_iadd (j := j7_takesOf) (pc := 69) dX7_takesOf_69 ?_
    refine sn_iconst (j := j7_takesOf) (pc := 70) 2 rfl dX7_takesOf_70 ?_
    refine sn_iadd (j := j7_takesOf) (pc := 71) dX7_takesOf_71 ?_
    refine sn_iald (j := j7_takesOf) (pc := 72) rfl ⟨by decide, by decide⟩ dX7_takesOf_72 (fun w_4 => ?_)
    refine sn_callS (j := j7_takesOf) (pc := 73) (jc := j7_less) (As := [.int v_3, .int w_4]) (s7_less v_3 w_4 M) mm_hvI (by simp [Value.category]) (Nat.le_of_ble_eq_true rfl) q7_less rfl (by decide) w_ml_X7_188 w_st_X7_less rfl (Nat.le_of_ble_eq_true rfl) dX7_takesOf_73 ?_
    rintro ⟨r_5, M⟩
    show Snd injI j7_takesOf mm_X0 76 [some (.ref 46), some (.int x1), some (.int x2), some (.int x3), some (.int x4)] [.int r_5] M _
    refine sn_aload_n (j := j7_takesOf) (pc := 76) rfl rfl dX7_takesOf_76 ?_
    refine sn_iload_n (j := j7_takesOf) (pc := 77) rfl rfl dX7_takesOf_77 ?_
    refine sn_iconst (j := j7_takesOf) (pc := 78) 1 rfl dX7_takesOf_78 ?_
    refine sn_callV (j := j7_takesOf) (pc := 79) (jc := j7_of) (As := [.int x1, .int 1]) (s7_of x1 1 M) mm_hvI (by simp [Value.category]) (Nat.le_of_ble_eq_true rfl) q7_of rfl (by decide) rfl rfl ⟨by decide, by decide⟩ w_ml_X7_181 w_im_X7_of w_se_X7_of rfl (Nat.le_of_ble_eq_true rfl) dX7_takesOf_79 ?_
    rintro ⟨r_6, M⟩
    show Snd injI j7_takesOf mm_X0 82 [some (.ref 46), some (.int x1), some (.int x2), some (.int x3), some (.int x4)] [.int r_6, .int r_5] M _
    refine sn_iload_n (j := j7_takesOf) (pc := 82) rfl rfl dX7_takesOf_82 ?_
    refine sn_isub (j := j7_takesOf) (pc := 83) dX7_takesOf_83 ?_
    refine sn_callS (j := j7_takesOf) (pc := 84) (jc := j7_less) (As := [.int r_5, .int (r_6 - x2)]) (s7_less r_5 (r_6 - x2) M) mm_hvI (by simp [Value.category]) (Nat.le_of_ble_eq_true rfl) q7_less rfl (by decide) w_ml_X7_188 w_st_X7_less rfl (Nat.le_of_ble_eq_true rfl) dX7_takesOf_84 ?_
    rintro ⟨r_7, M⟩
    show Snd injI j7_takesOf mm_X0 87 [some (.ref 46), some (.int x1), some (.int x2), some (.int x3), some (.int x4)] [.int r_7] M _
    exact sn_iret (j := j7_takesOf) (pc := 87) rfl dX7_takesOf_87
  · refine sn_iinc (j := j7_takesOf) (pc := 50) (-1) rfl (by decide) rfl (lo' := [some (.ref 46), some (.int x1), some (.int x2), some (.int x3), some (.int (x4 + (-1)))]) rfl dX7_takesOf_50 ?_
    refine sn_goto (j := j7_takesOf) (pc := 53) 23 rfl dX7_takesOf_53 ?_
    exact Snd.wk (hrec23 x1 x2 x3 (x4 + (-1)) M ) (by simp [mm_le])
def l7_takesOf_23  : Nat → Int32 → Int32 → Int32 → Int32 → mm_M → Option (Int32 × mm_M)
  | 0 => fun _ _ _ _ _ => none
  | n + 1 => fun x1 x2 x3 x4 M => b7_takesOf_23  (l7_takesOf_23  n) x1 x2 x3 x4 M
theorem sl7_takesOf_23   : ∀ (n : Nat) (x1 : Int32) (x2 : Int32) (x3 : Int32) (x4 : Int32)  (M : mm_M), Snd injI j7_takesOf mm_X0 23 [some (.ref 46), some (.int x1), some (.int x2), some (.int x3), some (.int x4)] [] M (l7_takesOf_23  n x1 x2 x3 x4 M)
  | 0 => fun _ _ _ _  _ => Snd.none
  | n + 1 => fun x1 x2 x3 x4  M => sb7_takesOf_23   (l7_takesOf_23  n) (fun x1 x2 x3 x4 M  => sl7_takesOf_23   n x1 x2 x3 x4  M) x1 x2 x3 x4  M
def f7_takesOf (x1 : Int32) (x2 : Int32) (M : mm_M) : Option (Int32 × mm_M) :=
  cI (f7_of x1 0 M) (fun r_8 M => bI (14 + (9 * r_8)) (fun x3_9 => aI 47 82 x3_9 M (fun w_10 => bI (w_10 - 1) (fun x4_11 => l7_takesOf_23 FU x1 x2 x3_9 x4_11 M))))
set_option maxHeartbeats 2000000 in
theorem s7_takesOf (x1 : Int32) (x2 : Int32) (M : mm_M) : Snd injI j7_takesOf mm_X0 0 [some (.ref 46), some (.int x1), some (.int x2)] [] M (f7_takesOf x1 x2 M) := by
  refine Snd.wk (lo' := [some (.ref 46), some (.int x1), some (.int x2), none, none]) ?_ (by simp [mm_le])
  unfold f7_takesOf
  refine sn_bipush (j := j7_takesOf) (pc := 0) 14 rfl dX7_takesOf_0 ?_
  refine sn_bipush (j := j7_takesOf) (pc := 2) 9 rfl dX7_takesOf_2 ?_
  refine sn_aload_n (j := j7_takesOf) (pc := 4) rfl rfl dX7_takesOf_4 ?_
  refine sn_iload_n (j := j7_takesOf) (pc := 5) rfl rfl dX7_takesOf_5 ?_
  refine sn_iconst (j := j7_takesOf) (pc := 6) 0 rfl dX7_takesOf_6 ?_
  refine sn_callV (j := j7_takesOf) (pc := 7) (jc := j7_of) (As := [.int x1, .int 0]) (s7_of x1 0 M) mm_hvI (by simp [Value.category]) (Nat.le_of_ble_eq_true rfl) q7_of rfl (by decide) rfl rfl ⟨by decide, by decide⟩ w_ml_X7_181 w_im_X7_of w_se_X7_of rfl (Nat.le_of_ble_eq_true rfl) dX7_takesOf_7 ?_
  rintro ⟨r_8, M⟩
  show Snd injI j7_takesOf mm_X0 10 [some (.ref 46), some (.int x1), some (.int x2), none, none] [.int r_8, .int 9, .int 14] M _
  refine sn_imul (j := j7_takesOf) (pc := 10) dX7_takesOf_10 ?_
  refine sn_iadd (j := j7_takesOf) (pc := 11) dX7_takesOf_11 ?_
  refine sn_istoreB_n (j := j7_takesOf) (pc := 12) rfl (fun x3_9 => [some (.ref 46), some (.int x1), some (.int x2), some (.int x3_9), none]) (by decide) (fun _ => rfl) dX7_takesOf_12 (fun x3_9 => ?_)
  refine sn_aload_n (j := j7_takesOf) (pc := 13) rfl rfl dX7_takesOf_13 ?_
  refine g_X7_7 (j := j7_takesOf) (pc := 14) rfl dX7_takesOf_14 ?_
  refine sn_iload_n (j := j7_takesOf) (pc := 17) rfl rfl dX7_takesOf_17 ?_
  refine sn_iald (j := j7_takesOf) (pc := 18) rfl ⟨by decide, by decide⟩ dX7_takesOf_18 (fun w_10 => ?_)
  refine sn_iconst (j := j7_takesOf) (pc := 19) 1 rfl dX7_takesOf_19 ?_
  refine sn_isub (j := j7_takesOf) (pc := 20) dX7_takesOf_20 ?_
  refine sn_istoreB (j := j7_takesOf) (pc := 21) (fun x4_11 => [some (.ref 46), some (.int x1), some (.int x2), some (.int x3_9), some (.int x4_11)]) (by decide) (fun _ => rfl) dX7_takesOf_21 (fun x4_11 => ?_)
  exact Snd.wk (sl7_takesOf_23 FU x1 x2 x3_9 x4_11 M) (by simp [mm_le])

abbrev j7_slotsOf : mm_J := (yX7_slotsOf, cX7_slotsOf, 6, (some .int), 2)
theorem dX7_slotsOf_0 : decode cX7_slotsOf 0 = .ok (.iconst 0, 1) := by decide +kernel
theorem dX7_slotsOf_1 : decode cX7_slotsOf 1 = .ok (.istore 4, 2) := by decide +kernel
theorem dX7_slotsOf_3 : decode cX7_slotsOf 3 = .ok (.iload_n 2, 1) := by decide +kernel
theorem dX7_slotsOf_4 : decode cX7_slotsOf 4 = .ok (.istore 5, 2) := by decide +kernel
theorem dX7_slotsOf_6 : decode cX7_slotsOf 6 = .ok (.iload 5, 2) := by decide +kernel
theorem dX7_slotsOf_8 : decode cX7_slotsOf 8 = .ok (.iload_n 3, 1) := by decide +kernel
theorem dX7_slotsOf_9 : decode cX7_slotsOf 9 = .ok (.if_icmp .ge 21, 3) := by decide +kernel
theorem dX7_slotsOf_12 : decode cX7_slotsOf 12 = .ok (.iload 5, 2) := by decide +kernel
theorem dX7_slotsOf_14 : decode cX7_slotsOf 14 = .ok (.aload_n 0, 1) := by decide +kernel
theorem dX7_slotsOf_15 : decode cX7_slotsOf 15 = .ok (.iload_n 1, 1) := by decide +kernel
theorem dX7_slotsOf_16 : decode cX7_slotsOf 16 = .ok (.iload 5, 2) := by decide +kernel
theorem dX7_slotsOf_18 : decode cX7_slotsOf 18 = .ok (.invokevirtual 191, 3) := by decide +kernel
theorem dX7_slotsOf_21 : decode cX7_slotsOf 21 = .ok (.iadd, 1) := by decide +kernel
theorem dX7_slotsOf_22 : decode cX7_slotsOf 22 = .ok (.istore 5, 2) := by decide +kernel
theorem dX7_slotsOf_24 : decode cX7_slotsOf 24 = .ok (.iinc 4 1, 3) := by decide +kernel
theorem dX7_slotsOf_27 : decode cX7_slotsOf 27 = .ok (.goto (-21), 3) := by decide +kernel
theorem dX7_slotsOf_30 : decode cX7_slotsOf 30 = .ok (.iload 4, 2) := by decide +kernel
theorem dX7_slotsOf_32 : decode cX7_slotsOf 32 = .ok (.ireturn, 1) := by decide +kernel
def b7_slotsOf_6  (rec6 : Int32 → Int32 → Int32 → Int32 → mm_M → Option (Int32 × mm_M)) (x1 : Int32) (x3 : Int32) (x4 : Int32) (x5 : Int32) (M : mm_M) : Option (Int32 × mm_M) :=
  if x3 ≤ x5 then (some (x4, M)) else (cI (f7_takesOf x1 x5 M) (fun r_1 M => bI (x5 + r_1) (fun x5_2 => rec6 x1 x3 (x4 + 1) x5_2 M)))
set_option maxHeartbeats 2000000 in
theorem sb7_slotsOf_6   (rec6 : Int32 → Int32 → Int32 → Int32 → mm_M → Option (Int32 × mm_M)) (hrec6 : ∀ (x1 : Int32) (x3 : Int32) (x4 : Int32) (x5 : Int32) (M : mm_M), Snd injI j7_slotsOf mm_X0 6 [some (.ref 46), some (.int x1), none, some (.int x3), some (.int x4), some (.int x5)] [] M (rec6 x1 x3 x4 x5 M)) (x1 : Int32) (x3 : Int32) (x4 : Int32) (x5 : Int32)  (M : mm_M) : Snd injI j7_slotsOf mm_X0 6 [some (.ref 46), some (.int x1), none, some (.int x3), some (.int x4), some (.int x5)] [] M (b7_slotsOf_6  rec6 x1 x3 x4 x5 M) := by
  unfold b7_slotsOf_6
  refine sn_iload (j := j7_slotsOf) (pc := 6) rfl dX7_slotsOf_6 ?_
  refine sn_iload_n (j := j7_slotsOf) (pc := 8) rfl rfl dX7_slotsOf_8 ?_
  refine sn_icmp_ge (j := j7_slotsOf) (pc := 9) 30 rfl dX7_slotsOf_9 ?_ ?_
  · refine sn_iload (j := j7_slotsOf) (pc := 30) rfl dX7_slotsOf_30 ?_
    exact sn_iret (j := j7_slotsOf) (pc := 32) rfl dX7_slotsOf_32
  · refine sn_iload (j := j7_slotsOf) (pc := 12) rfl dX7_slotsOf_12 ?_
    refine sn_aload_n (j := j7_slotsOf) (pc := 14) rfl rfl dX7_slotsOf_14 ?_
    refine sn_iload_n (j := j7_slotsOf) (pc := 15) rfl rfl dX7_slotsOf_15 ?_
    refine sn_iload (j := j7_slotsOf) (pc := 16) rfl dX7_slotsOf_16 ?_
    refine sn_callV (j := j7_slotsOf) (pc := 18) (jc := j7_takesOf) (As := [.int x1, .int x5]) (s7_takesOf x1 x5 M) mm_hvI (by simp [Value.category]) (Nat.le_of_ble_eq_true rfl) q7_takesOf rfl (by decide) rfl rfl ⟨by decide, by decide⟩ w_ml_X7_191 w_im_X7_takesOf w_se_X7_takesOf rfl (Nat.le_of_ble_eq_true rfl) dX7_slotsOf_18 ?_
    rintro ⟨r_1, M⟩
    show Snd injI j7_slotsOf mm_X0 21 [some (.ref 46), some (.int x1), none, some (.int x3), some (.int x4), some (.int x5)] [.int r_1, .int x5] M _
    refine sn_iadd (j := j7_slotsOf) (pc := 21) dX7_slotsOf_21 ?_
    refine sn_istoreB (j := j7_slotsOf) (pc := 22) (fun x5_2 => [some (.ref 46), some (.int x1), none, some (.int x3), some (.int x4), some (.int x5_2)]) (by decide) (fun _ => rfl) dX7_slotsOf_22 (fun x5_2 => ?_)
    refine sn_iinc (j := j7_slotsOf) (pc := 24) 1 rfl (by decide) rfl (lo' := [some (.ref 46), some (.int x1), none, some (.int x3), some (.int (x4 + 1)), some (.int x5_2)]) rfl dX7_slotsOf_24 ?_
    refine sn_goto (j := j7_slotsOf) (pc := 27) 6 rfl dX7_slotsOf_27 ?_
    exact Snd.wk (hrec6 x1 x3 (x4 + 1) x5_2 M ) (by simp [mm_le])
def l7_slotsOf_6  : Nat → Int32 → Int32 → Int32 → Int32 → mm_M → Option (Int32 × mm_M)
  | 0 => fun _ _ _ _ _ => none
  | n + 1 => fun x1 x3 x4 x5 M => b7_slotsOf_6  (l7_slotsOf_6  n) x1 x3 x4 x5 M
theorem sl7_slotsOf_6   : ∀ (n : Nat) (x1 : Int32) (x3 : Int32) (x4 : Int32) (x5 : Int32)  (M : mm_M), Snd injI j7_slotsOf mm_X0 6 [some (.ref 46), some (.int x1), none, some (.int x3), some (.int x4), some (.int x5)] [] M (l7_slotsOf_6  n x1 x3 x4 x5 M)
  | 0 => fun _ _ _ _  _ => Snd.none
  | n + 1 => fun x1 x3 x4 x5  M => sb7_slotsOf_6   (l7_slotsOf_6  n) (fun x1 x3 x4 x5 M  => sl7_slotsOf_6   n x1 x3 x4 x5  M) x1 x3 x4 x5  M
def f7_slotsOf (x1 : Int32) (x2 : Int32) (x3 : Int32) (M : mm_M) : Option (Int32 × mm_M) :=
  l7_slotsOf_6 FU x1 x3 0 x2 M
set_option maxHeartbeats 2000000 in
theorem s7_slotsOf (x1 : Int32) (x2 : Int32) (x3 : Int32) (M : mm_M) : Snd injI j7_slotsOf mm_X0 0 [some (.ref 46), some (.int x1), some (.int x2), some (.int x3)] [] M (f7_slotsOf x1 x2 x3 M) := by
  refine Snd.wk (lo' := [some (.ref 46), some (.int x1), some (.int x2), some (.int x3), none, none]) ?_ (by simp [mm_le])
  unfold f7_slotsOf
  refine sn_iconst (j := j7_slotsOf) (pc := 0) 0 rfl dX7_slotsOf_0 ?_
  refine sn_istore (j := j7_slotsOf) (pc := 1) (by decide) (lo' := [some (.ref 46), some (.int x1), some (.int x2), some (.int x3), some (.int 0), none]) rfl dX7_slotsOf_1 ?_
  refine sn_iload_n (j := j7_slotsOf) (pc := 3) rfl rfl dX7_slotsOf_3 ?_
  refine sn_istore (j := j7_slotsOf) (pc := 4) (by decide) (lo' := [some (.ref 46), some (.int x1), some (.int x2), some (.int x3), some (.int 0), some (.int x2)]) rfl dX7_slotsOf_4 ?_
  exact Snd.wk (sl7_slotsOf_6 FU x1 x3 0 x2 M) (by simp [mm_le])

abbrev j7_asTold : mm_J := (yX7_asTold, cX7_asTold, 2, none, 1)
theorem dX7_asTold_0 : decode cX7_asTold 0 = .ok (.aload_n 0, 1) := by decide +kernel
theorem dX7_asTold_1 : decode cX7_asTold 1 = .ok (.aload_n 0, 1) := by decide +kernel
theorem dX7_asTold_2 : decode cX7_asTold 2 = .ok (.getfield 7, 3) := by decide +kernel
theorem dX7_asTold_5 : decode cX7_asTold 5 = .ok (.iconst 3, 1) := by decide +kernel
theorem dX7_asTold_6 : decode cX7_asTold 6 = .ok (.iaload, 1) := by decide +kernel
theorem dX7_asTold_7 : decode cX7_asTold 7 = .ok (.putfield 201, 3) := by decide +kernel
theorem dX7_asTold_10 : decode cX7_asTold 10 = .ok (.aload_n 0, 1) := by decide +kernel
theorem dX7_asTold_11 : decode cX7_asTold 11 = .ok (.aload_n 0, 1) := by decide +kernel
theorem dX7_asTold_12 : decode cX7_asTold 12 = .ok (.getfield 7, 3) := by decide +kernel
theorem dX7_asTold_15 : decode cX7_asTold 15 = .ok (.iconst 4, 1) := by decide +kernel
theorem dX7_asTold_16 : decode cX7_asTold 16 = .ok (.iaload, 1) := by decide +kernel
theorem dX7_asTold_17 : decode cX7_asTold 17 = .ok (.putfield 185, 3) := by decide +kernel
theorem dX7_asTold_20 : decode cX7_asTold 20 = .ok (.aload_n 0, 1) := by decide +kernel
theorem dX7_asTold_21 : decode cX7_asTold 21 = .ok (.aload_n 0, 1) := by decide +kernel
theorem dX7_asTold_22 : decode cX7_asTold 22 = .ok (.getfield 7, 3) := by decide +kernel
theorem dX7_asTold_25 : decode cX7_asTold 25 = .ok (.iconst 5, 1) := by decide +kernel
theorem dX7_asTold_26 : decode cX7_asTold 26 = .ok (.iaload, 1) := by decide +kernel
theorem dX7_asTold_27 : decode cX7_asTold 27 = .ok (.putfield 204, 3) := by decide +kernel
theorem dX7_asTold_30 : decode cX7_asTold 30 = .ok (.aload_n 0, 1) := by decide +kernel
theorem dX7_asTold_31 : decode cX7_asTold 31 = .ok (.iconst 1, 1) := by decide +kernel
theorem dX7_asTold_32 : decode cX7_asTold 32 = .ok (.aload_n 0, 1) := by decide +kernel
theorem dX7_asTold_33 : decode cX7_asTold 33 = .ok (.getfield 7, 3) := by decide +kernel
theorem dX7_asTold_36 : decode cX7_asTold 36 = .ok (.iconst 1, 1) := by decide +kernel
theorem dX7_asTold_37 : decode cX7_asTold 37 = .ok (.iaload, 1) := by decide +kernel
theorem dX7_asTold_38 : decode cX7_asTold 38 = .ok (.ishl, 1) := by decide +kernel
theorem dX7_asTold_39 : decode cX7_asTold 39 = .ok (.iconst 1, 1) := by decide +kernel
theorem dX7_asTold_40 : decode cX7_asTold 40 = .ok (.isub, 1) := by decide +kernel
theorem dX7_asTold_41 : decode cX7_asTold 41 = .ok (.putfield 207, 3) := by decide +kernel
theorem dX7_asTold_44 : decode cX7_asTold 44 = .ok (.iconst 0, 1) := by decide +kernel
theorem dX7_asTold_45 : decode cX7_asTold 45 = .ok (.istore_n 1, 1) := by decide +kernel
theorem dX7_asTold_46 : decode cX7_asTold 46 = .ok (.iload_n 1, 1) := by decide +kernel
theorem dX7_asTold_47 : decode cX7_asTold 47 = .ok (.iconst 4, 1) := by decide +kernel
theorem dX7_asTold_48 : decode cX7_asTold 48 = .ok (.if_icmp .ge 21, 3) := by decide +kernel
theorem dX7_asTold_51 : decode cX7_asTold 51 = .ok (.aload_n 0, 1) := by decide +kernel
theorem dX7_asTold_52 : decode cX7_asTold 52 = .ok (.getfield 19, 3) := by decide +kernel
theorem dX7_asTold_55 : decode cX7_asTold 55 = .ok (.iload_n 1, 1) := by decide +kernel
theorem dX7_asTold_56 : decode cX7_asTold 56 = .ok (.aload_n 0, 1) := by decide +kernel
theorem dX7_asTold_57 : decode cX7_asTold 57 = .ok (.iload_n 1, 1) := by decide +kernel
theorem dX7_asTold_58 : decode cX7_asTold 58 = .ok (.iconst 4, 1) := by decide +kernel
theorem dX7_asTold_59 : decode cX7_asTold 59 = .ok (.invokevirtual 181, 3) := by decide +kernel
theorem dX7_asTold_62 : decode cX7_asTold 62 = .ok (.iastore, 1) := by decide +kernel
theorem dX7_asTold_63 : decode cX7_asTold 63 = .ok (.iinc 1 1, 3) := by decide +kernel
theorem dX7_asTold_66 : decode cX7_asTold 66 = .ok (.goto (-20), 3) := by decide +kernel
theorem dX7_asTold_69 : decode cX7_asTold 69 = .ok (.return_, 1) := by decide +kernel
def b7_asTold_46  (rec46 : Int32 → mm_M → Option (mm_M)) (x1 : Int32) (M : mm_M) : Option (mm_M) :=
  if 4 ≤ x1 then (some M) else (cI (f7_of x1 4 M) (fun r_1 M => uI 50 4 x1 r_1 M (fun M => rec46 (x1 + 1) M)))
set_option maxHeartbeats 2000000 in
theorem sb7_asTold_46   (rec46 : Int32 → mm_M → Option (mm_M)) (hrec46 : ∀ (x1 : Int32) (M : mm_M), Snd injV j7_asTold mm_X0 46 [some (.ref 46), some (.int x1)] [] M (rec46 x1 M)) (x1 : Int32)  (M : mm_M) : Snd injV j7_asTold mm_X0 46 [some (.ref 46), some (.int x1)] [] M (b7_asTold_46  rec46 x1 M) := by
  unfold b7_asTold_46
  refine sn_iload_n (j := j7_asTold) (pc := 46) rfl rfl dX7_asTold_46 ?_
  refine sn_iconst (j := j7_asTold) (pc := 47) 4 rfl dX7_asTold_47 ?_
  refine sn_icmp_ge (j := j7_asTold) (pc := 48) 69 rfl dX7_asTold_48 ?_ ?_
  · exact sn_vret (j := j7_asTold) (pc := 69) rfl dX7_asTold_69
  · refine sn_aload_n (j := j7_asTold) (pc := 51) rfl rfl dX7_asTold_51 ?_
    refine g_X7_19 (j := j7_asTold) (pc := 52) rfl dX7_asTold_52 ?_
    refine sn_iload_n (j := j7_asTold) (pc := 55) rfl rfl dX7_asTold_55 ?_
    refine sn_aload_n (j := j7_asTold) (pc := 56) rfl rfl dX7_asTold_56 ?_
    refine sn_iload_n (j := j7_asTold) (pc := 57) rfl rfl dX7_asTold_57 ?_
    refine sn_iconst (j := j7_asTold) (pc := 58) 4 rfl dX7_asTold_58 ?_
    refine sn_callV (j := j7_asTold) (pc := 59) (jc := j7_of) (As := [.int x1, .int 4]) (s7_of x1 4 M) mm_hvI (by simp [Value.category]) (Nat.le_of_ble_eq_true rfl) q7_of rfl (by decide) rfl rfl ⟨by decide, by decide⟩ w_ml_X7_181 w_im_X7_of w_se_X7_of rfl (Nat.le_of_ble_eq_true rfl) dX7_asTold_59 ?_
    rintro ⟨r_1, M⟩
    show Snd injV j7_asTold mm_X0 62 [some (.ref 46), some (.int x1)] [.int r_1, .int x1, .ref 50] M _
    refine sn_iast (j := j7_asTold) (pc := 62) rfl ⟨by decide, by decide⟩ dX7_asTold_62 (fun M => ?_)
    refine sn_iinc (j := j7_asTold) (pc := 63) 1 rfl (by decide) rfl (lo' := [some (.ref 46), some (.int (x1 + 1))]) rfl dX7_asTold_63 ?_
    refine sn_goto (j := j7_asTold) (pc := 66) 46 rfl dX7_asTold_66 ?_
    exact Snd.wk (hrec46 (x1 + 1) M ) (by simp [mm_le])
def l7_asTold_46  : Nat → Int32 → mm_M → Option (mm_M)
  | 0 => fun _ _ => none
  | n + 1 => fun x1 M => b7_asTold_46  (l7_asTold_46  n) x1 M
theorem sl7_asTold_46   : ∀ (n : Nat) (x1 : Int32)  (M : mm_M), Snd injV j7_asTold mm_X0 46 [some (.ref 46), some (.int x1)] [] M (l7_asTold_46  n x1 M)
  | 0 => fun _  _ => Snd.none
  | n + 1 => fun x1  M => sb7_asTold_46   (l7_asTold_46  n) (fun x1 M  => sl7_asTold_46   n x1  M) x1  M
def f7_asTold  (M : mm_M) : Option (mm_M) :=
  aI 47 82 3 M (fun w_2 => bM (sI M 46 11 w_2) (fun M => aI 47 82 4 M (fun w_3 => bM (sI M 46 12 w_3) (fun M => aI 47 82 5 M (fun w_4 => bM (sI M 46 13 w_4) (fun M => aI 47 82 1 M (fun w_5 => bM (sI M 46 15 ((1 <<< (w_5 &&& 31)) - 1)) (fun M => l7_asTold_46 FU 0 M))))))))
set_option maxHeartbeats 2000000 in
theorem s7_asTold  (M : mm_M) : Snd injV j7_asTold mm_X0 0 [some (.ref 46)] [] M (f7_asTold  M) := by
  refine Snd.wk (lo' := [some (.ref 46), none]) ?_ (by simp [mm_le])
  unfold f7_asTold
  refine sn_aload_n (j := j7_asTold) (pc := 0) rfl rfl dX7_asTold_0 ?_
  refine sn_aload_n (j := j7_asTold) (pc := 1) rfl rfl dX7_asTold_1 ?_
  refine g_X7_7 (j := j7_asTold) (pc := 2) rfl dX7_asTold_2 ?_
  refine sn_iconst (j := j7_asTold) (pc := 5) 3 rfl dX7_asTold_5 ?_
  refine sn_iald (j := j7_asTold) (pc := 6) rfl ⟨by decide, by decide⟩ dX7_asTold_6 (fun w_2 => ?_)
  refine p_X7_201 (j := j7_asTold) (pc := 7) rfl dX7_asTold_7 (fun M => ?_)
  refine sn_aload_n (j := j7_asTold) (pc := 10) rfl rfl dX7_asTold_10 ?_
  refine sn_aload_n (j := j7_asTold) (pc := 11) rfl rfl dX7_asTold_11 ?_
  refine g_X7_7 (j := j7_asTold) (pc := 12) rfl dX7_asTold_12 ?_
  refine sn_iconst (j := j7_asTold) (pc := 15) 4 rfl dX7_asTold_15 ?_
  refine sn_iald (j := j7_asTold) (pc := 16) rfl ⟨by decide, by decide⟩ dX7_asTold_16 (fun w_3 => ?_)
  refine p_X7_185 (j := j7_asTold) (pc := 17) rfl dX7_asTold_17 (fun M => ?_)
  refine sn_aload_n (j := j7_asTold) (pc := 20) rfl rfl dX7_asTold_20 ?_
  refine sn_aload_n (j := j7_asTold) (pc := 21) rfl rfl dX7_asTold_21 ?_
  refine g_X7_7 (j := j7_asTold) (pc := 22) rfl dX7_asTold_22 ?_
  refine sn_iconst (j := j7_asTold) (pc := 25) 5 rfl dX7_asTold_25 ?_
  refine sn_iald (j := j7_asTold) (pc := 26) rfl ⟨by decide, by decide⟩ dX7_asTold_26 (fun w_4 => ?_)
  refine p_X7_204 (j := j7_asTold) (pc := 27) rfl dX7_asTold_27 (fun M => ?_)
  refine sn_aload_n (j := j7_asTold) (pc := 30) rfl rfl dX7_asTold_30 ?_
  refine sn_iconst (j := j7_asTold) (pc := 31) 1 rfl dX7_asTold_31 ?_
  refine sn_aload_n (j := j7_asTold) (pc := 32) rfl rfl dX7_asTold_32 ?_
  refine g_X7_7 (j := j7_asTold) (pc := 33) rfl dX7_asTold_33 ?_
  refine sn_iconst (j := j7_asTold) (pc := 36) 1 rfl dX7_asTold_36 ?_
  refine sn_iald (j := j7_asTold) (pc := 37) rfl ⟨by decide, by decide⟩ dX7_asTold_37 (fun w_5 => ?_)
  refine sn_ishl (j := j7_asTold) (pc := 38) dX7_asTold_38 ?_
  refine sn_iconst (j := j7_asTold) (pc := 39) 1 rfl dX7_asTold_39 ?_
  refine sn_isub (j := j7_asTold) (pc := 40) dX7_asTold_40 ?_
  refine p_X7_207 (j := j7_asTold) (pc := 41) rfl dX7_asTold_41 (fun M => ?_)
  refine sn_iconst (j := j7_asTold) (pc := 44) 0 rfl dX7_asTold_44 ?_
  refine sn_istore_n (j := j7_asTold) (pc := 45) rfl (by decide) (lo' := [some (.ref 46), some (.int 0)]) rfl dX7_asTold_45 ?_
  exact Snd.wk (sl7_asTold_46 FU 0 M) (by simp [mm_le])

abbrev j7_takes : mm_J := (yX7_takes, cX7_takes, 3, (some .int), 2)
theorem dX7_takes_0 : decode cX7_takes 0 = .ok (.aload_n 0, 1) := by decide +kernel
theorem dX7_takes_1 : decode cX7_takes 1 = .ok (.iconst 0, 1) := by decide +kernel
theorem dX7_takes_2 : decode cX7_takes 2 = .ok (.putfield 56, 3) := by decide +kernel
theorem dX7_takes_5 : decode cX7_takes 5 = .ok (.aload_n 0, 1) := by decide +kernel
theorem dX7_takes_6 : decode cX7_takes 6 = .ok (.invokevirtual 194, 3) := by decide +kernel
theorem dX7_takes_9 : decode cX7_takes 9 = .ok (.aload_n 0, 1) := by decide +kernel
theorem dX7_takes_10 : decode cX7_takes 10 = .ok (.iload_n 1, 1) := by decide +kernel
theorem dX7_takes_11 : decode cX7_takes 11 = .ok (.invokevirtual 172, 3) := by decide +kernel
theorem dX7_takes_14 : decode cX7_takes 14 = .ok (.ifCond .eq 38, 3) := by decide +kernel
theorem dX7_takes_17 : decode cX7_takes 17 = .ok (.iload_n 2, 1) := by decide +kernel
theorem dX7_takes_18 : decode cX7_takes 18 = .ok (.iconst 0, 1) := by decide +kernel
theorem dX7_takes_19 : decode cX7_takes 19 = .ok (.aload_n 0, 1) := by decide +kernel
theorem dX7_takes_20 : decode cX7_takes 20 = .ok (.aload_n 0, 1) := by decide +kernel
theorem dX7_takes_21 : decode cX7_takes 21 = .ok (.iload_n 1, 1) := by decide +kernel
theorem dX7_takes_22 : decode cX7_takes 22 = .ok (.invokevirtual 172, 3) := by decide +kernel
theorem dX7_takes_25 : decode cX7_takes 25 = .ok (.ifCond .eq 7, 3) := by decide +kernel
theorem dX7_takes_28 : decode cX7_takes 28 = .ok (.iload_n 1, 1) := by decide +kernel
theorem dX7_takes_29 : decode cX7_takes 29 = .ok (.goto 4, 3) := by decide +kernel
theorem dX7_takes_32 : decode cX7_takes 32 = .ok (.iconst 0, 1) := by decide +kernel
theorem dX7_takes_33 : decode cX7_takes 33 = .ok (.iconst 1, 1) := by decide +kernel
theorem dX7_takes_34 : decode cX7_takes 34 = .ok (.invokevirtual 181, 3) := by decide +kernel
theorem dX7_takes_37 : decode cX7_takes 37 = .ok (.invokestatic 60, 3) := by decide +kernel
theorem dX7_takes_40 : decode cX7_takes 40 = .ok (.ifCond .eq 12, 3) := by decide +kernel
theorem dX7_takes_43 : decode cX7_takes 43 = .ok (.aload_n 0, 1) := by decide +kernel
theorem dX7_takes_44 : decode cX7_takes 44 = .ok (.iload_n 1, 1) := by decide +kernel
theorem dX7_takes_45 : decode cX7_takes 45 = .ok (.iload_n 2, 1) := by decide +kernel
theorem dX7_takes_46 : decode cX7_takes 46 = .ok (.invokevirtual 191, 3) := by decide +kernel
theorem dX7_takes_49 : decode cX7_takes 49 = .ok (.goto 4, 3) := by decide +kernel
theorem dX7_takes_52 : decode cX7_takes 52 = .ok (.iconst (-1), 1) := by decide +kernel
theorem dX7_takes_53 : decode cX7_takes 53 = .ok (.ireturn, 1) := by decide +kernel
def l7_takes_53  (s0 : Int32) (M : mm_M) : Option (Int32 × mm_M) :=
  some (s0, M)
set_option maxHeartbeats 2000000 in
theorem sl7_takes_53   (s0 : Int32)  (M : mm_M) : Snd injI j7_takes mm_X0 53 [none, none, none] [.int s0] M (l7_takes_53  s0 M) := by
  unfold l7_takes_53
  exact sn_iret (j := j7_takes) (pc := 53) rfl dX7_takes_53
def l7_takes_52   (M : mm_M) : Option (Int32 × mm_M) :=
  l7_takes_53 (-1) M
set_option maxHeartbeats 2000000 in
theorem sl7_takes_52     (M : mm_M) : Snd injI j7_takes mm_X0 52 [none, none, none] [] M (l7_takes_52   M) := by
  unfold l7_takes_52
  refine sn_iconst (j := j7_takes) (pc := 52) (-1) rfl dX7_takes_52 ?_
  exact Snd.wk (sl7_takes_53 (-1) M) (by simp [mm_le])
def l7_takes_33  (x1 : Int32) (x2 : Int32) (s0 : Int32) (s2 : Int32) (s3 : Int32) (M : mm_M) : Option (Int32 × mm_M) :=
  cI (f7_of s0 1 M) (fun r_1 M => cI (f7_in s3 s2 r_1 M) (fun r_2 M => if r_2 = 0 then (l7_takes_52 M) else (cI (f7_takesOf x1 x2 M) (fun r_3 M => l7_takes_53 r_3 M))))
set_option maxHeartbeats 2000000 in
theorem sl7_takes_33   (x1 : Int32) (x2 : Int32) (s0 : Int32) (s2 : Int32) (s3 : Int32)  (M : mm_M) : Snd injI j7_takes mm_X0 33 [some (.ref 46), some (.int x1), some (.int x2)] [.int s0, .ref 46, .int s2, .int s3] M (l7_takes_33  x1 x2 s0 s2 s3 M) := by
  unfold l7_takes_33
  refine sn_iconst (j := j7_takes) (pc := 33) 1 rfl dX7_takes_33 ?_
  refine sn_callV (j := j7_takes) (pc := 34) (jc := j7_of) (As := [.int s0, .int 1]) (s7_of s0 1 M) mm_hvI (by simp [Value.category]) (Nat.le_of_ble_eq_true rfl) q7_of rfl (by decide) rfl rfl ⟨by decide, by decide⟩ w_ml_X7_181 w_im_X7_of w_se_X7_of rfl (Nat.le_of_ble_eq_true rfl) dX7_takes_34 ?_
  rintro ⟨r_1, M⟩
  show Snd injI j7_takes mm_X0 37 [some (.ref 46), some (.int x1), some (.int x2)] [.int r_1, .int s2, .int s3] M _
  refine sn_callS (j := j7_takes) (pc := 37) (jc := j7_in) (As := [.int s3, .int s2, .int r_1]) (s7_in s3 s2 r_1 M) mm_hvI (by simp [Value.category]) (Nat.le_of_ble_eq_true rfl) q7_in rfl (by decide) w_ml_X7_60 w_st_X7_in rfl (Nat.le_of_ble_eq_true rfl) dX7_takes_37 ?_
  rintro ⟨r_2, M⟩
  show Snd injI j7_takes mm_X0 40 [some (.ref 46), some (.int x1), some (.int x2)] [.int r_2] M _
  refine sn_if_eq (j := j7_takes) (pc := 40) 52 rfl dX7_takes_40 ?_ ?_
  · exact Snd.wk (sl7_takes_52 M) (by simp [mm_le])
  · refine sn_aload_n (j := j7_takes) (pc := 43) rfl rfl dX7_takes_43 ?_
    refine sn_iload_n (j := j7_takes) (pc := 44) rfl rfl dX7_takes_44 ?_
    refine sn_iload_n (j := j7_takes) (pc := 45) rfl rfl dX7_takes_45 ?_
    refine sn_callV (j := j7_takes) (pc := 46) (jc := j7_takesOf) (As := [.int x1, .int x2]) (s7_takesOf x1 x2 M) mm_hvI (by simp [Value.category]) (Nat.le_of_ble_eq_true rfl) q7_takesOf rfl (by decide) rfl rfl ⟨by decide, by decide⟩ w_ml_X7_191 w_im_X7_takesOf w_se_X7_takesOf rfl (Nat.le_of_ble_eq_true rfl) dX7_takes_46 ?_
    rintro ⟨r_3, M⟩
    show Snd injI j7_takes mm_X0 49 [some (.ref 46), some (.int x1), some (.int x2)] [.int r_3] M _
    refine sn_goto (j := j7_takes) (pc := 49) 53 rfl dX7_takes_49 ?_
    exact Snd.wk (sl7_takes_53 r_3 M) (by simp [mm_le])
def f7_takes (x1 : Int32) (x2 : Int32) (M : mm_M) : Option (Int32 × mm_M) :=
  bM (sI M 46 0 0) (fun M => cV (f7_asTold M) (fun M => cI (f7_isBus x1 M) (fun r_4 M => if r_4 = 0 then (l7_takes_52 M) else (cI (f7_isBus x1 M) (fun r_5 M => if r_5 = 0 then (l7_takes_33 x1 x2 0 0 x2 M) else (l7_takes_33 x1 x2 x1 0 x2 M))))))
set_option maxHeartbeats 2000000 in
theorem s7_takes (x1 : Int32) (x2 : Int32) (M : mm_M) : Snd injI j7_takes mm_X0 0 [some (.ref 46), some (.int x1), some (.int x2)] [] M (f7_takes x1 x2 M) := by
  refine Snd.wk (lo' := [some (.ref 46), some (.int x1), some (.int x2)]) ?_ (by simp [mm_le])
  unfold f7_takes
  refine sn_aload_n (j := j7_takes) (pc := 0) rfl rfl dX7_takes_0 ?_
  refine sn_iconst (j := j7_takes) (pc := 1) 0 rfl dX7_takes_1 ?_
  refine p_X7_56 (j := j7_takes) (pc := 2) rfl dX7_takes_2 (fun M => ?_)
  refine sn_aload_n (j := j7_takes) (pc := 5) rfl rfl dX7_takes_5 ?_
  refine sn_callV (j := j7_takes) (pc := 6) (jc := j7_asTold) (As := []) (s7_asTold M) mm_hvV (by simp [Value.category]) (Nat.le_of_ble_eq_true rfl) q7_asTold rfl (by decide) rfl rfl ⟨by decide, by decide⟩ w_ml_X7_194 w_im_X7_asTold w_se_X7_asTold rfl (Nat.le_of_ble_eq_true rfl) dX7_takes_6 ?_
  intro M
  show Snd injI j7_takes mm_X0 9 [some (.ref 46), some (.int x1), some (.int x2)] [] M _
  refine sn_aload_n (j := j7_takes) (pc := 9) rfl rfl dX7_takes_9 ?_
  refine sn_iload_n (j := j7_takes) (pc := 10) rfl rfl dX7_takes_10 ?_
  refine sn_callV (j := j7_takes) (pc := 11) (jc := j7_isBus) (As := [.int x1]) (s7_isBus x1 M) mm_hvI (by simp [Value.category]) (Nat.le_of_ble_eq_true rfl) q7_isBus rfl (by decide) rfl rfl ⟨by decide, by decide⟩ w_ml_X7_172 w_im_X7_isBus w_se_X7_isBus rfl (Nat.le_of_ble_eq_true rfl) dX7_takes_11 ?_
  rintro ⟨r_4, M⟩
  show Snd injI j7_takes mm_X0 14 [some (.ref 46), some (.int x1), some (.int x2)] [.int r_4] M _
  refine sn_if_eq (j := j7_takes) (pc := 14) 52 rfl dX7_takes_14 ?_ ?_
  · exact Snd.wk (sl7_takes_52 M) (by simp [mm_le])
  · refine sn_iload_n (j := j7_takes) (pc := 17) rfl rfl dX7_takes_17 ?_
    refine sn_iconst (j := j7_takes) (pc := 18) 0 rfl dX7_takes_18 ?_
    refine sn_aload_n (j := j7_takes) (pc := 19) rfl rfl dX7_takes_19 ?_
    refine sn_aload_n (j := j7_takes) (pc := 20) rfl rfl dX7_takes_20 ?_
    refine sn_iload_n (j := j7_takes) (pc := 21) rfl rfl dX7_takes_21 ?_
    refine sn_callV (j := j7_takes) (pc := 22) (jc := j7_isBus) (As := [.int x1]) (s7_isBus x1 M) mm_hvI (by simp [Value.category]) (Nat.le_of_ble_eq_true rfl) q7_isBus rfl (by decide) rfl rfl ⟨by decide, by decide⟩ w_ml_X7_172 w_im_X7_isBus w_se_X7_isBus rfl (Nat.le_of_ble_eq_true rfl) dX7_takes_22 ?_
    rintro ⟨r_5, M⟩
    show Snd injI j7_takes mm_X0 25 [some (.ref 46), some (.int x1), some (.int x2)] [.int r_5, .ref 46, .int 0, .int x2] M _
    refine sn_if_eq (j := j7_takes) (pc := 25) 32 rfl dX7_takes_25 ?_ ?_
    · refine sn_iconst (j := j7_takes) (pc := 32) 0 rfl dX7_takes_32 ?_
      exact Snd.wk (sl7_takes_33 x1 x2 0 0 x2 M) (by simp [mm_le])
    · refine sn_iload_n (j := j7_takes) (pc := 28) rfl rfl dX7_takes_28 ?_
      refine sn_goto (j := j7_takes) (pc := 29) 33 rfl dX7_takes_29 ?_
      exact Snd.wk (sl7_takes_33 x1 x2 x1 0 x2 M) (by simp [mm_le])

abbrev j7_slots : mm_J := (yX7_slots, cX7_slots, 4, (some .int), 3)
theorem dX7_slots_0 : decode cX7_slots 0 = .ok (.aload_n 0, 1) := by decide +kernel
theorem dX7_slots_1 : decode cX7_slots 1 = .ok (.iconst 0, 1) := by decide +kernel
theorem dX7_slots_2 : decode cX7_slots 2 = .ok (.putfield 56, 3) := by decide +kernel
theorem dX7_slots_5 : decode cX7_slots 5 = .ok (.aload_n 0, 1) := by decide +kernel
theorem dX7_slots_6 : decode cX7_slots 6 = .ok (.invokevirtual 194, 3) := by decide +kernel
theorem dX7_slots_9 : decode cX7_slots 9 = .ok (.aload_n 0, 1) := by decide +kernel
theorem dX7_slots_10 : decode cX7_slots 10 = .ok (.iload_n 1, 1) := by decide +kernel
theorem dX7_slots_11 : decode cX7_slots 11 = .ok (.invokevirtual 172, 3) := by decide +kernel
theorem dX7_slots_14 : decode cX7_slots 14 = .ok (.ifCond .eq 27, 3) := by decide +kernel
theorem dX7_slots_17 : decode cX7_slots 17 = .ok (.iload_n 2, 1) := by decide +kernel
theorem dX7_slots_18 : decode cX7_slots 18 = .ok (.iconst 0, 1) := by decide +kernel
theorem dX7_slots_19 : decode cX7_slots 19 = .ok (.aload_n 0, 1) := by decide +kernel
theorem dX7_slots_20 : decode cX7_slots 20 = .ok (.iload_n 1, 1) := by decide +kernel
theorem dX7_slots_21 : decode cX7_slots 21 = .ok (.iconst 1, 1) := by decide +kernel
theorem dX7_slots_22 : decode cX7_slots 22 = .ok (.invokevirtual 181, 3) := by decide +kernel
theorem dX7_slots_25 : decode cX7_slots 25 = .ok (.invokestatic 60, 3) := by decide +kernel
theorem dX7_slots_28 : decode cX7_slots 28 = .ok (.ifCond .eq 13, 3) := by decide +kernel
theorem dX7_slots_31 : decode cX7_slots 31 = .ok (.iload_n 3, 1) := by decide +kernel
theorem dX7_slots_32 : decode cX7_slots 32 = .ok (.aload_n 0, 1) := by decide +kernel
theorem dX7_slots_33 : decode cX7_slots 33 = .ok (.iload_n 1, 1) := by decide +kernel
theorem dX7_slots_34 : decode cX7_slots 34 = .ok (.iconst 1, 1) := by decide +kernel
theorem dX7_slots_35 : decode cX7_slots 35 = .ok (.invokevirtual 181, 3) := by decide +kernel
theorem dX7_slots_38 : decode cX7_slots 38 = .ok (.if_icmp .le 5, 3) := by decide +kernel
theorem dX7_slots_41 : decode cX7_slots 41 = .ok (.iconst (-1), 1) := by decide +kernel
theorem dX7_slots_42 : decode cX7_slots 42 = .ok (.ireturn, 1) := by decide +kernel
theorem dX7_slots_43 : decode cX7_slots 43 = .ok (.aload_n 0, 1) := by decide +kernel
theorem dX7_slots_44 : decode cX7_slots 44 = .ok (.iload_n 1, 1) := by decide +kernel
theorem dX7_slots_45 : decode cX7_slots 45 = .ok (.iload_n 2, 1) := by decide +kernel
theorem dX7_slots_46 : decode cX7_slots 46 = .ok (.iload_n 3, 1) := by decide +kernel
theorem dX7_slots_47 : decode cX7_slots 47 = .ok (.invokevirtual 197, 3) := by decide +kernel
theorem dX7_slots_50 : decode cX7_slots 50 = .ok (.ireturn, 1) := by decide +kernel
def l7_slots_41   (M : mm_M) : Option (Int32 × mm_M) :=
  some ((-1), M)
set_option maxHeartbeats 2000000 in
theorem sl7_slots_41     (M : mm_M) : Snd injI j7_slots mm_X0 41 [none, none, none, none] [] M (l7_slots_41   M) := by
  unfold l7_slots_41
  refine sn_iconst (j := j7_slots) (pc := 41) (-1) rfl dX7_slots_41 ?_
  exact sn_iret (j := j7_slots) (pc := 42) rfl dX7_slots_42
def f7_slots (x1 : Int32) (x2 : Int32) (x3 : Int32) (M : mm_M) : Option (Int32 × mm_M) :=
  bM (sI M 46 0 0) (fun M => cV (f7_asTold M) (fun M => cI (f7_isBus x1 M) (fun r_1 M => if r_1 = 0 then (l7_slots_41 M) else (cI (f7_of x1 1 M) (fun r_2 M => cI (f7_in x2 0 r_2 M) (fun r_3 M => if r_3 = 0 then (l7_slots_41 M) else (cI (f7_of x1 1 M) (fun r_4 M => if x3 ≤ r_4 then (cI (f7_slotsOf x1 x2 x3 M) (fun r_5 M => some (r_5, M))) else (l7_slots_41 M)))))))))
set_option maxHeartbeats 2000000 in
theorem s7_slots (x1 : Int32) (x2 : Int32) (x3 : Int32) (M : mm_M) : Snd injI j7_slots mm_X0 0 [some (.ref 46), some (.int x1), some (.int x2), some (.int x3)] [] M (f7_slots x1 x2 x3 M) := by
  refine Snd.wk (lo' := [some (.ref 46), some (.int x1), some (.int x2), some (.int x3)]) ?_ (by simp [mm_le])
  unfold f7_slots
  refine sn_aload_n (j := j7_slots) (pc := 0) rfl rfl dX7_slots_0 ?_
  refine sn_iconst (j := j7_slots) (pc := 1) 0 rfl dX7_slots_1 ?_
  refine p_X7_56 (j := j7_slots) (pc := 2) rfl dX7_slots_2 (fun M => ?_)
  refine sn_aload_n (j := j7_slots) (pc := 5) rfl rfl dX7_slots_5 ?_
  refine sn_callV (j := j7_slots) (pc := 6) (jc := j7_asTold) (As := []) (s7_asTold M) mm_hvV (by simp [Value.category]) (Nat.le_of_ble_eq_true rfl) q7_asTold rfl (by decide) rfl rfl ⟨by decide, by decide⟩ w_ml_X7_194 w_im_X7_asTold w_se_X7_asTold rfl (Nat.le_of_ble_eq_true rfl) dX7_slots_6 ?_
  intro M
  show Snd injI j7_slots mm_X0 9 [some (.ref 46), some (.int x1), some (.int x2), some (.int x3)] [] M _
  refine sn_aload_n (j := j7_slots) (pc := 9) rfl rfl dX7_slots_9 ?_
  refine sn_iload_n (j := j7_slots) (pc := 10) rfl rfl dX7_slots_10 ?_
  refine sn_callV (j := j7_slots) (pc := 11) (jc := j7_isBus) (As := [.int x1]) (s7_isBus x1 M) mm_hvI (by simp [Value.category]) (Nat.le_of_ble_eq_true rfl) q7_isBus rfl (by decide) rfl rfl ⟨by decide, by decide⟩ w_ml_X7_172 w_im_X7_isBus w_se_X7_isBus rfl (Nat.le_of_ble_eq_true rfl) dX7_slots_11 ?_
  rintro ⟨r_1, M⟩
  show Snd injI j7_slots mm_X0 14 [some (.ref 46), some (.int x1), some (.int x2), some (.int x3)] [.int r_1] M _
  refine sn_if_eq (j := j7_slots) (pc := 14) 41 rfl dX7_slots_14 ?_ ?_
  · exact Snd.wk (sl7_slots_41 M) (by simp [mm_le])
  · refine sn_iload_n (j := j7_slots) (pc := 17) rfl rfl dX7_slots_17 ?_
    refine sn_iconst (j := j7_slots) (pc := 18) 0 rfl dX7_slots_18 ?_
    refine sn_aload_n (j := j7_slots) (pc := 19) rfl rfl dX7_slots_19 ?_
    refine sn_iload_n (j := j7_slots) (pc := 20) rfl rfl dX7_slots_20 ?_
    refine sn_iconst (j := j7_slots) (pc := 21) 1 rfl dX7_slots_21 ?_
    refine sn_callV (j := j7_slots) (pc := 22) (jc := j7_of) (As := [.int x1, .int 1]) (s7_of x1 1 M) mm_hvI (by simp [Value.category]) (Nat.le_of_ble_eq_true rfl) q7_of rfl (by decide) rfl rfl ⟨by decide, by decide⟩ w_ml_X7_181 w_im_X7_of w_se_X7_of rfl (Nat.le_of_ble_eq_true rfl) dX7_slots_22 ?_
    rintro ⟨r_2, M⟩
    show Snd injI j7_slots mm_X0 25 [some (.ref 46), some (.int x1), some (.int x2), some (.int x3)] [.int r_2, .int 0, .int x2] M _
    refine sn_callS (j := j7_slots) (pc := 25) (jc := j7_in) (As := [.int x2, .int 0, .int r_2]) (s7_in x2 0 r_2 M) mm_hvI (by simp [Value.category]) (Nat.le_of_ble_eq_true rfl) q7_in rfl (by decide) w_ml_X7_60 w_st_X7_in rfl (Nat.le_of_ble_eq_true rfl) dX7_slots_25 ?_
    rintro ⟨r_3, M⟩
    show Snd injI j7_slots mm_X0 28 [some (.ref 46), some (.int x1), some (.int x2), some (.int x3)] [.int r_3] M _
    refine sn_if_eq (j := j7_slots) (pc := 28) 41 rfl dX7_slots_28 ?_ ?_
    · exact Snd.wk (sl7_slots_41 M) (by simp [mm_le])
    · refine sn_iload_n (j := j7_slots) (pc := 31) rfl rfl dX7_slots_31 ?_
      refine sn_aload_n (j := j7_slots) (pc := 32) rfl rfl dX7_slots_32 ?_
      refine sn_iload_n (j := j7_slots) (pc := 33) rfl rfl dX7_slots_33 ?_
      refine sn_iconst (j := j7_slots) (pc := 34) 1 rfl dX7_slots_34 ?_
      refine sn_callV (j := j7_slots) (pc := 35) (jc := j7_of) (As := [.int x1, .int 1]) (s7_of x1 1 M) mm_hvI (by simp [Value.category]) (Nat.le_of_ble_eq_true rfl) q7_of rfl (by decide) rfl rfl ⟨by decide, by decide⟩ w_ml_X7_181 w_im_X7_of w_se_X7_of rfl (Nat.le_of_ble_eq_true rfl) dX7_slots_35 ?_
      rintro ⟨r_4, M⟩
      show Snd injI j7_slots mm_X0 38 [some (.ref 46), some (.int x1), some (.int x2), some (.int x3)] [.int r_4, .int x3] M _
      refine sn_icmp_le (j := j7_slots) (pc := 38) 43 rfl dX7_slots_38 ?_ ?_
      · refine sn_aload_n (j := j7_slots) (pc := 43) rfl rfl dX7_slots_43 ?_
        refine sn_iload_n (j := j7_slots) (pc := 44) rfl rfl dX7_slots_44 ?_
        refine sn_iload_n (j := j7_slots) (pc := 45) rfl rfl dX7_slots_45 ?_
        refine sn_iload_n (j := j7_slots) (pc := 46) rfl rfl dX7_slots_46 ?_
        refine sn_callV (j := j7_slots) (pc := 47) (jc := j7_slotsOf) (As := [.int x1, .int x2, .int x3]) (s7_slotsOf x1 x2 x3 M) mm_hvI (by simp [Value.category]) (Nat.le_of_ble_eq_true rfl) q7_slotsOf rfl (by decide) rfl rfl ⟨by decide, by decide⟩ w_ml_X7_197 w_im_X7_slotsOf w_se_X7_slotsOf rfl (Nat.le_of_ble_eq_true rfl) dX7_slots_47 ?_
        rintro ⟨r_5, M⟩
        show Snd injI j7_slots mm_X0 50 [some (.ref 46), some (.int x1), some (.int x2), some (.int x3)] [.int r_5] M _
        exact sn_iret (j := j7_slots) (pc := 50) rfl dX7_slots_50
      · exact Snd.wk (sl7_slots_41 M) (by simp [mm_le])

abbrev j7_isThere : mm_J := (yX7_isThere, cX7_isThere, 3, (some .boolean), 1)
theorem dX7_isThere_0 : decode cX7_isThere 0 = .ok (.iload_n 2, 1) := by decide +kernel
theorem dX7_isThere_1 : decode cX7_isThere 1 = .ok (.aload_n 0, 1) := by decide +kernel
theorem dX7_isThere_2 : decode cX7_isThere 2 = .ok (.getfield 19, 3) := by decide +kernel
theorem dX7_isThere_5 : decode cX7_isThere 5 = .ok (.iload_n 1, 1) := by decide +kernel
theorem dX7_isThere_6 : decode cX7_isThere 6 = .ok (.iaload, 1) := by decide +kernel
theorem dX7_isThere_7 : decode cX7_isThere 7 = .ok (.if_icmp .lt 17, 3) := by decide +kernel
theorem dX7_isThere_10 : decode cX7_isThere 10 = .ok (.iload_n 2, 1) := by decide +kernel
theorem dX7_isThere_11 : decode cX7_isThere 11 = .ok (.aload_n 0, 1) := by decide +kernel
theorem dX7_isThere_12 : decode cX7_isThere 12 = .ok (.iload_n 1, 1) := by decide +kernel
theorem dX7_isThere_13 : decode cX7_isThere 13 = .ok (.iconst 5, 1) := by decide +kernel
theorem dX7_isThere_14 : decode cX7_isThere 14 = .ok (.invokevirtual 181, 3) := by decide +kernel
theorem dX7_isThere_17 : decode cX7_isThere 17 = .ok (.if_icmp .ge 7, 3) := by decide +kernel
theorem dX7_isThere_20 : decode cX7_isThere 20 = .ok (.iconst 1, 1) := by decide +kernel
theorem dX7_isThere_21 : decode cX7_isThere 21 = .ok (.goto 4, 3) := by decide +kernel
theorem dX7_isThere_24 : decode cX7_isThere 24 = .ok (.iconst 0, 1) := by decide +kernel
theorem dX7_isThere_25 : decode cX7_isThere 25 = .ok (.ireturn, 1) := by decide +kernel
def l7_isThere_25  (s0 : Int32) (M : mm_M) : Option (Int32 × mm_M) :=
  rZ s0 M
set_option maxHeartbeats 2000000 in
theorem sl7_isThere_25   (s0 : Int32)  (M : mm_M) : Snd injI j7_isThere mm_X0 25 [none, none, none] [.int s0] M (l7_isThere_25  s0 M) := by
  unfold l7_isThere_25
  exact sn_zret (j := j7_isThere) (pc := 25) rfl dX7_isThere_25
def l7_isThere_24   (M : mm_M) : Option (Int32 × mm_M) :=
  l7_isThere_25 0 M
set_option maxHeartbeats 2000000 in
theorem sl7_isThere_24     (M : mm_M) : Snd injI j7_isThere mm_X0 24 [none, none, none] [] M (l7_isThere_24   M) := by
  unfold l7_isThere_24
  refine sn_iconst (j := j7_isThere) (pc := 24) 0 rfl dX7_isThere_24 ?_
  exact Snd.wk (sl7_isThere_25 0 M) (by simp [mm_le])
def f7_isThere (x1 : Int32) (x2 : Int32) (M : mm_M) : Option (Int32 × mm_M) :=
  aI 50 4 x1 M (fun w_1 => if x2 < w_1 then (l7_isThere_24 M) else (cI (f7_of x1 5 M) (fun r_2 M => if r_2 ≤ x2 then (l7_isThere_24 M) else (l7_isThere_25 1 M))))
set_option maxHeartbeats 2000000 in
theorem s7_isThere (x1 : Int32) (x2 : Int32) (M : mm_M) : Snd injI j7_isThere mm_X0 0 [some (.ref 46), some (.int x1), some (.int x2)] [] M (f7_isThere x1 x2 M) := by
  refine Snd.wk (lo' := [some (.ref 46), some (.int x1), some (.int x2)]) ?_ (by simp [mm_le])
  unfold f7_isThere
  refine sn_iload_n (j := j7_isThere) (pc := 0) rfl rfl dX7_isThere_0 ?_
  refine sn_aload_n (j := j7_isThere) (pc := 1) rfl rfl dX7_isThere_1 ?_
  refine g_X7_19 (j := j7_isThere) (pc := 2) rfl dX7_isThere_2 ?_
  refine sn_iload_n (j := j7_isThere) (pc := 5) rfl rfl dX7_isThere_5 ?_
  refine sn_iald (j := j7_isThere) (pc := 6) rfl ⟨by decide, by decide⟩ dX7_isThere_6 (fun w_1 => ?_)
  refine sn_icmp_lt (j := j7_isThere) (pc := 7) 24 rfl dX7_isThere_7 ?_ ?_
  · exact Snd.wk (sl7_isThere_24 M) (by simp [mm_le])
  · refine sn_iload_n (j := j7_isThere) (pc := 10) rfl rfl dX7_isThere_10 ?_
    refine sn_aload_n (j := j7_isThere) (pc := 11) rfl rfl dX7_isThere_11 ?_
    refine sn_iload_n (j := j7_isThere) (pc := 12) rfl rfl dX7_isThere_12 ?_
    refine sn_iconst (j := j7_isThere) (pc := 13) 5 rfl dX7_isThere_13 ?_
    refine sn_callV (j := j7_isThere) (pc := 14) (jc := j7_of) (As := [.int x1, .int 5]) (s7_of x1 5 M) mm_hvI (by simp [Value.category]) (Nat.le_of_ble_eq_true rfl) q7_of rfl (by decide) rfl rfl ⟨by decide, by decide⟩ w_ml_X7_181 w_im_X7_of w_se_X7_of rfl (Nat.le_of_ble_eq_true rfl) dX7_isThere_14 ?_
    rintro ⟨r_2, M⟩
    show Snd injI j7_isThere mm_X0 17 [some (.ref 46), some (.int x1), some (.int x2)] [.int r_2, .int x2] M _
    refine sn_icmp_ge (j := j7_isThere) (pc := 17) 24 rfl dX7_isThere_17 ?_ ?_
    · exact Snd.wk (sl7_isThere_24 M) (by simp [mm_le])
    · refine sn_iconst (j := j7_isThere) (pc := 20) 1 rfl dX7_isThere_20 ?_
      refine sn_goto (j := j7_isThere) (pc := 21) 25 rfl dX7_isThere_21 ?_
      exact Snd.wk (sl7_isThere_25 1 M) (by simp [mm_le])

abbrev j7_goes : mm_J := (yX7_goes, cX7_goes, 4, none, 2)
theorem dX7_goes_0 : decode cX7_goes 0 = .ok (.iconst 0, 1) := by decide +kernel
theorem dX7_goes_1 : decode cX7_goes 1 = .ok (.istore_n 1, 1) := by decide +kernel
theorem dX7_goes_2 : decode cX7_goes 2 = .ok (.iload_n 1, 1) := by decide +kernel
theorem dX7_goes_3 : decode cX7_goes 3 = .ok (.aload_n 0, 1) := by decide +kernel
theorem dX7_goes_4 : decode cX7_goes 4 = .ok (.getfield 7, 3) := by decide +kernel
theorem dX7_goes_7 : decode cX7_goes 7 = .ok (.iconst 1, 1) := by decide +kernel
theorem dX7_goes_8 : decode cX7_goes 8 = .ok (.iaload, 1) := by decide +kernel
theorem dX7_goes_9 : decode cX7_goes 9 = .ok (.if_icmp .ge 21, 3) := by decide +kernel
theorem dX7_goes_12 : decode cX7_goes 12 = .ok (.aload_n 0, 1) := by decide +kernel
theorem dX7_goes_13 : decode cX7_goes 13 = .ok (.getfield 25, 3) := by decide +kernel
theorem dX7_goes_16 : decode cX7_goes 16 = .ok (.iload_n 1, 1) := by decide +kernel
theorem dX7_goes_17 : decode cX7_goes 17 = .ok (.aload_n 0, 1) := by decide +kernel
theorem dX7_goes_18 : decode cX7_goes 18 = .ok (.iload_n 1, 1) := by decide +kernel
theorem dX7_goes_19 : decode cX7_goes 19 = .ok (.iconst 2, 1) := by decide +kernel
theorem dX7_goes_20 : decode cX7_goes 20 = .ok (.invokevirtual 181, 3) := by decide +kernel
theorem dX7_goes_23 : decode cX7_goes 23 = .ok (.iastore, 1) := by decide +kernel
theorem dX7_goes_24 : decode cX7_goes 24 = .ok (.iinc 1 1, 3) := by decide +kernel
theorem dX7_goes_27 : decode cX7_goes 27 = .ok (.goto (-25), 3) := by decide +kernel
theorem dX7_goes_30 : decode cX7_goes 30 = .ok (.iconst 0, 1) := by decide +kernel
theorem dX7_goes_31 : decode cX7_goes 31 = .ok (.istore_n 1, 1) := by decide +kernel
theorem dX7_goes_32 : decode cX7_goes 32 = .ok (.iload_n 1, 1) := by decide +kernel
theorem dX7_goes_33 : decode cX7_goes 33 = .ok (.aload_n 0, 1) := by decide +kernel
theorem dX7_goes_34 : decode cX7_goes 34 = .ok (.getfield 7, 3) := by decide +kernel
theorem dX7_goes_37 : decode cX7_goes 37 = .ok (.iconst 0, 1) := by decide +kernel
theorem dX7_goes_38 : decode cX7_goes 38 = .ok (.iaload, 1) := by decide +kernel
theorem dX7_goes_39 : decode cX7_goes 39 = .ok (.if_icmp .ge 110, 3) := by decide +kernel
theorem dX7_goes_42 : decode cX7_goes 42 = .ok (.aload_n 0, 1) := by decide +kernel
theorem dX7_goes_43 : decode cX7_goes 43 = .ok (.getfield 28, 3) := by decide +kernel
theorem dX7_goes_46 : decode cX7_goes 46 = .ok (.iload_n 1, 1) := by decide +kernel
theorem dX7_goes_47 : decode cX7_goes 47 = .ok (.iconst 0, 1) := by decide +kernel
theorem dX7_goes_48 : decode cX7_goes 48 = .ok (.iastore, 1) := by decide +kernel
theorem dX7_goes_49 : decode cX7_goes 49 = .ok (.iconst 0, 1) := by decide +kernel
theorem dX7_goes_50 : decode cX7_goes 50 = .ok (.istore_n 2, 1) := by decide +kernel
theorem dX7_goes_51 : decode cX7_goes 51 = .ok (.iload_n 2, 1) := by decide +kernel
theorem dX7_goes_52 : decode cX7_goes 52 = .ok (.aload_n 0, 1) := by decide +kernel
theorem dX7_goes_53 : decode cX7_goes 53 = .ok (.getfield 7, 3) := by decide +kernel
theorem dX7_goes_56 : decode cX7_goes 56 = .ok (.iconst 1, 1) := by decide +kernel
theorem dX7_goes_57 : decode cX7_goes 57 = .ok (.iaload, 1) := by decide +kernel
theorem dX7_goes_58 : decode cX7_goes 58 = .ok (.if_icmp .ge 85, 3) := by decide +kernel
theorem dX7_goes_61 : decode cX7_goes 61 = .ok (.aload_n 0, 1) := by decide +kernel
theorem dX7_goes_62 : decode cX7_goes 62 = .ok (.getfield 22, 3) := by decide +kernel
theorem dX7_goes_65 : decode cX7_goes 65 = .ok (.iload_n 1, 1) := by decide +kernel
theorem dX7_goes_66 : decode cX7_goes 66 = .ok (.iaload, 1) := by decide +kernel
theorem dX7_goes_67 : decode cX7_goes 67 = .ok (.iload_n 2, 1) := by decide +kernel
theorem dX7_goes_68 : decode cX7_goes 68 = .ok (.invokestatic 110, 3) := by decide +kernel
theorem dX7_goes_71 : decode cX7_goes 71 = .ok (.ifCond .eq 30, 3) := by decide +kernel
theorem dX7_goes_74 : decode cX7_goes 74 = .ok (.aload_n 0, 1) := by decide +kernel
theorem dX7_goes_75 : decode cX7_goes 75 = .ok (.iload_n 2, 1) := by decide +kernel
theorem dX7_goes_76 : decode cX7_goes 76 = .ok (.iload_n 1, 1) := by decide +kernel
theorem dX7_goes_77 : decode cX7_goes 77 = .ok (.invokevirtual 210, 3) := by decide +kernel
theorem dX7_goes_80 : decode cX7_goes 80 = .ok (.ifCond .eq 21, 3) := by decide +kernel
theorem dX7_goes_83 : decode cX7_goes 83 = .ok (.aload_n 0, 1) := by decide +kernel
theorem dX7_goes_84 : decode cX7_goes 84 = .ok (.iload_n 2, 1) := by decide +kernel
theorem dX7_goes_85 : decode cX7_goes 85 = .ok (.aload_n 0, 1) := by decide +kernel
theorem dX7_goes_86 : decode cX7_goes 86 = .ok (.getfield 25, 3) := by decide +kernel
theorem dX7_goes_89 : decode cX7_goes 89 = .ok (.iconst 4, 1) := by decide +kernel
theorem dX7_goes_90 : decode cX7_goes 90 = .ok (.iload_n 1, 1) := by decide +kernel
theorem dX7_goes_91 : decode cX7_goes 91 = .ok (.imul, 1) := by decide +kernel
theorem dX7_goes_92 : decode cX7_goes 92 = .ok (.iload_n 2, 1) := by decide +kernel
theorem dX7_goes_93 : decode cX7_goes 93 = .ok (.iadd, 1) := by decide +kernel
theorem dX7_goes_94 : decode cX7_goes 94 = .ok (.iaload, 1) := by decide +kernel
theorem dX7_goes_95 : decode cX7_goes 95 = .ok (.invokevirtual 191, 3) := by decide +kernel
theorem dX7_goes_98 : decode cX7_goes 98 = .ok (.goto 4, 3) := by decide +kernel
theorem dX7_goes_101 : decode cX7_goes 101 = .ok (.iconst 0, 1) := by decide +kernel
theorem dX7_goes_102 : decode cX7_goes 102 = .ok (.istore_n 3, 1) := by decide +kernel
theorem dX7_goes_103 : decode cX7_goes 103 = .ok (.aload_n 0, 1) := by decide +kernel
theorem dX7_goes_104 : decode cX7_goes 104 = .ok (.getfield 25, 3) := by decide +kernel
theorem dX7_goes_107 : decode cX7_goes 107 = .ok (.iconst 4, 1) := by decide +kernel
theorem dX7_goes_108 : decode cX7_goes 108 = .ok (.iload_n 1, 1) := by decide +kernel
theorem dX7_goes_109 : decode cX7_goes 109 = .ok (.imul, 1) := by decide +kernel
theorem dX7_goes_110 : decode cX7_goes 110 = .ok (.iconst 4, 1) := by decide +kernel
theorem dX7_goes_111 : decode cX7_goes 111 = .ok (.iadd, 1) := by decide +kernel
theorem dX7_goes_112 : decode cX7_goes 112 = .ok (.iload_n 2, 1) := by decide +kernel
theorem dX7_goes_113 : decode cX7_goes 113 = .ok (.iadd, 1) := by decide +kernel
theorem dX7_goes_114 : decode cX7_goes 114 = .ok (.aload_n 0, 1) := by decide +kernel
theorem dX7_goes_115 : decode cX7_goes 115 = .ok (.getfield 25, 3) := by decide +kernel
theorem dX7_goes_118 : decode cX7_goes 118 = .ok (.iconst 4, 1) := by decide +kernel
theorem dX7_goes_119 : decode cX7_goes 119 = .ok (.iload_n 1, 1) := by decide +kernel
theorem dX7_goes_120 : decode cX7_goes 120 = .ok (.imul, 1) := by decide +kernel
theorem dX7_goes_121 : decode cX7_goes 121 = .ok (.iload_n 2, 1) := by decide +kernel
theorem dX7_goes_122 : decode cX7_goes 122 = .ok (.iadd, 1) := by decide +kernel
theorem dX7_goes_123 : decode cX7_goes 123 = .ok (.iaload, 1) := by decide +kernel
theorem dX7_goes_124 : decode cX7_goes 124 = .ok (.iload_n 3, 1) := by decide +kernel
theorem dX7_goes_125 : decode cX7_goes 125 = .ok (.iadd, 1) := by decide +kernel
theorem dX7_goes_126 : decode cX7_goes 126 = .ok (.iastore, 1) := by decide +kernel
theorem dX7_goes_127 : decode cX7_goes 127 = .ok (.aload_n 0, 1) := by decide +kernel
theorem dX7_goes_128 : decode cX7_goes 128 = .ok (.getfield 28, 3) := by decide +kernel
theorem dX7_goes_131 : decode cX7_goes 131 = .ok (.iload_n 1, 1) := by decide +kernel
theorem dX7_goes_132 : decode cX7_goes 132 = .ok (.dup2, 1) := by decide +kernel
theorem dX7_goes_133 : decode cX7_goes 133 = .ok (.iaload, 1) := by decide +kernel
theorem dX7_goes_134 : decode cX7_goes 134 = .ok (.iload_n 3, 1) := by decide +kernel
theorem dX7_goes_135 : decode cX7_goes 135 = .ok (.iadd, 1) := by decide +kernel
theorem dX7_goes_136 : decode cX7_goes 136 = .ok (.iastore, 1) := by decide +kernel
theorem dX7_goes_137 : decode cX7_goes 137 = .ok (.iinc 2 1, 3) := by decide +kernel
theorem dX7_goes_140 : decode cX7_goes 140 = .ok (.goto (-89), 3) := by decide +kernel
theorem dX7_goes_143 : decode cX7_goes 143 = .ok (.iinc 1 1, 3) := by decide +kernel
theorem dX7_goes_146 : decode cX7_goes 146 = .ok (.goto (-114), 3) := by decide +kernel
theorem dX7_goes_149 : decode cX7_goes 149 = .ok (.return_, 1) := by decide +kernel
def l7_goes_102 (rec51 : Int32 → Int32 → mm_M → Option (mm_M)) (x1 : Int32) (x2 : Int32) (s0 : Int32) (M : mm_M) : Option (mm_M) :=
  aI 52 36 ((4 * x1) + x2) M (fun w_1 => uI 52 36 (((4 * x1) + 4) + x2) (w_1 + s0) M (fun M => aI 53 8 x1 M (fun w_2 => uI 53 8 x1 (w_2 + s0) M (fun M => rec51 x1 (x2 + 1) M))))
set_option maxHeartbeats 2000000 in
theorem sl7_goes_102 (rec51 : Int32 → Int32 → mm_M → Option (mm_M)) (hrec51 : ∀ (x1 : Int32) (x2 : Int32) (M : mm_M), Snd injV j7_goes mm_X0 51 [some (.ref 46), some (.int x1), some (.int x2), none] [] M (rec51 x1 x2 M)) (x1 : Int32) (x2 : Int32) (s0 : Int32)  (M : mm_M) : Snd injV j7_goes mm_X0 102 [some (.ref 46), some (.int x1), some (.int x2), none] [.int s0] M (l7_goes_102 rec51 x1 x2 s0 M) := by
  unfold l7_goes_102
  refine sn_istore_n (j := j7_goes) (pc := 102) rfl (by decide) (lo' := [some (.ref 46), some (.int x1), some (.int x2), some (.int s0)]) rfl dX7_goes_102 ?_
  refine sn_aload_n (j := j7_goes) (pc := 103) rfl rfl dX7_goes_103 ?_
  refine g_X7_25 (j := j7_goes) (pc := 104) rfl dX7_goes_104 ?_
  refine sn_iconst (j := j7_goes) (pc := 107) 4 rfl dX7_goes_107 ?_
  refine sn_iload_n (j := j7_goes) (pc := 108) rfl rfl dX7_goes_108 ?_
  refine sn_imul (j := j7_goes) (pc := 109) dX7_goes_109 ?_
  refine sn_iconst (j := j7_goes) (pc := 110) 4 rfl dX7_goes_110 ?_
  refine sn_iadd (j := j7_goes) (pc := 111) dX7_goes_111 ?_
  refine sn_iload_n (j := j7_goes) (pc := 112) rfl rfl dX7_goes_112 ?_
  refine sn_iadd (j := j7_goes) (pc := 113) dX7_goes_113 ?_
  refine sn_aload_n (j := j7_goes) (pc := 114) rfl rfl dX7_goes_114 ?_
  refine g_X7_25 (j := j7_goes) (pc := 115) rfl dX7_goes_115 ?_
  refine sn_iconst (j := j7_goes) (pc := 118) 4 rfl dX7_goes_118 ?_
  refine sn_iload_n (j := j7_goes) (pc := 119) rfl rfl dX7_goes_119 ?_
  refine sn_imul (j := j7_goes) (pc := 120) dX7_goes_120 ?_
  refine sn_iload_n (j := j7_goes) (pc := 121) rfl rfl dX7_goes_121 ?_
  refine sn_iadd (j := j7_goes) (pc := 122) dX7_goes_122 ?_
  refine sn_iald (j := j7_goes) (pc := 123) rfl ⟨by decide, by decide⟩ dX7_goes_123 (fun w_1 => ?_)
  refine sn_iload_n (j := j7_goes) (pc := 124) rfl rfl dX7_goes_124 ?_
  refine sn_iadd (j := j7_goes) (pc := 125) dX7_goes_125 ?_
  refine sn_iast (j := j7_goes) (pc := 126) rfl ⟨by decide, by decide⟩ dX7_goes_126 (fun M => ?_)
  refine sn_aload_n (j := j7_goes) (pc := 127) rfl rfl dX7_goes_127 ?_
  refine g_X7_28 (j := j7_goes) (pc := 128) rfl dX7_goes_128 ?_
  refine sn_iload_n (j := j7_goes) (pc := 131) rfl rfl dX7_goes_131 ?_
  refine sn_dup2 (j := j7_goes) (pc := 132) rfl rfl dX7_goes_132 ?_
  refine sn_iald (j := j7_goes) (pc := 133) rfl ⟨by decide, by decide⟩ dX7_goes_133 (fun w_2 => ?_)
  refine sn_iload_n (j := j7_goes) (pc := 134) rfl rfl dX7_goes_134 ?_
  refine sn_iadd (j := j7_goes) (pc := 135) dX7_goes_135 ?_
  refine sn_iast (j := j7_goes) (pc := 136) rfl ⟨by decide, by decide⟩ dX7_goes_136 (fun M => ?_)
  refine sn_iinc (j := j7_goes) (pc := 137) 1 rfl (by decide) rfl (lo' := [some (.ref 46), some (.int x1), some (.int (x2 + 1)), some (.int s0)]) rfl dX7_goes_137 ?_
  refine sn_goto (j := j7_goes) (pc := 140) 51 rfl dX7_goes_140 ?_
  exact Snd.wk (hrec51 x1 (x2 + 1) M ) (by simp [mm_le])
def l7_goes_101 (rec51 : Int32 → Int32 → mm_M → Option (mm_M)) (x1 : Int32) (x2 : Int32) (M : mm_M) : Option (mm_M) :=
  l7_goes_102 rec51 x1 x2 0 M
set_option maxHeartbeats 2000000 in
theorem sl7_goes_101 (rec51 : Int32 → Int32 → mm_M → Option (mm_M)) (hrec51 : ∀ (x1 : Int32) (x2 : Int32) (M : mm_M), Snd injV j7_goes mm_X0 51 [some (.ref 46), some (.int x1), some (.int x2), none] [] M (rec51 x1 x2 M)) (x1 : Int32) (x2 : Int32)  (M : mm_M) : Snd injV j7_goes mm_X0 101 [some (.ref 46), some (.int x1), some (.int x2), none] [] M (l7_goes_101 rec51 x1 x2 M) := by
  unfold l7_goes_101
  refine sn_iconst (j := j7_goes) (pc := 101) 0 rfl dX7_goes_101 ?_
  exact Snd.wk (sl7_goes_102 rec51 hrec51 x1 x2 0 M) (by simp [mm_le])
def b7_goes_51 (rec32 : Int32 → mm_M → Option (mm_M)) (rec51 : Int32 → Int32 → mm_M → Option (mm_M)) (x1 : Int32) (x2 : Int32) (M : mm_M) : Option (mm_M) :=
  aI 47 82 1 M (fun w_3 => if w_3 ≤ x2 then (rec32 (x1 + 1) M) else (aI 51 8 x1 M (fun w_4 => cI (f7_has w_4 x2 M) (fun r_5 M => if r_5 = 0 then (l7_goes_101 rec51 x1 x2 M) else (cI (f7_isThere x2 x1 M) (fun r_6 M => if r_6 = 0 then (l7_goes_101 rec51 x1 x2 M) else (aI 52 36 ((4 * x1) + x2) M (fun w_7 => cI (f7_takesOf x2 w_7 M) (fun r_8 M => l7_goes_102 rec51 x1 x2 r_8 M)))))))))
set_option maxHeartbeats 2000000 in
theorem sb7_goes_51 (rec32 : Int32 → mm_M → Option (mm_M)) (hrec32 : ∀ (x1 : Int32) (M : mm_M), Snd injV j7_goes mm_X0 32 [some (.ref 46), some (.int x1), none, none] [] M (rec32 x1 M)) (rec51 : Int32 → Int32 → mm_M → Option (mm_M)) (hrec51 : ∀ (x1 : Int32) (x2 : Int32) (M : mm_M), Snd injV j7_goes mm_X0 51 [some (.ref 46), some (.int x1), some (.int x2), none] [] M (rec51 x1 x2 M)) (x1 : Int32) (x2 : Int32)  (M : mm_M) : Snd injV j7_goes mm_X0 51 [some (.ref 46), some (.int x1), some (.int x2), none] [] M (b7_goes_51 rec32 rec51 x1 x2 M) := by
  unfold b7_goes_51
  refine sn_iload_n (j := j7_goes) (pc := 51) rfl rfl dX7_goes_51 ?_
  refine sn_aload_n (j := j7_goes) (pc := 52) rfl rfl dX7_goes_52 ?_
  refine g_X7_7 (j := j7_goes) (pc := 53) rfl dX7_goes_53 ?_
  refine sn_iconst (j := j7_goes) (pc := 56) 1 rfl dX7_goes_56 ?_
  refine sn_iald (j := j7_goes) (pc := 57) rfl ⟨by decide, by decide⟩ dX7_goes_57 (fun w_3 => ?_)
  refine sn_icmp_ge (j := j7_goes) (pc := 58) 143 rfl dX7_goes_58 ?_ ?_
  · refine sn_iinc (j := j7_goes) (pc := 143) 1 rfl (by decide) rfl (lo' := [some (.ref 46), some (.int (x1 + 1)), some (.int x2), none]) rfl dX7_goes_143 ?_
    refine sn_goto (j := j7_goes) (pc := 146) 32 rfl dX7_goes_146 ?_
    exact Snd.wk (hrec32 (x1 + 1) M ) (by simp [mm_le])
  · refine sn_aload_n (j := j7_goes) (pc := 61) rfl rfl dX7_goes_61 ?_
    refine g_X7_22 (j := j7_goes) (pc := 62) rfl dX7_goes_62 ?_
    refine sn_iload_n (j := j7_goes) (pc := 65) rfl rfl dX7_goes_65 ?_
    refine sn_iald (j := j7_goes) (pc := 66) rfl ⟨by decide, by decide⟩ dX7_goes_66 (fun w_4 => ?_)
    refine sn_iload_n (j := j7_goes) (pc := 67) rfl rfl dX7_goes_67 ?_
    refine sn_callS (j := j7_goes) (pc := 68) (jc := j7_has) (As := [.int w_4, .int x2]) (s7_has w_4 x2 M) mm_hvI (by simp [Value.category]) (Nat.le_of_ble_eq_true rfl) q7_has rfl (by decide) w_ml_X7_110 w_st_X7_has rfl (Nat.le_of_ble_eq_true rfl) dX7_goes_68 ?_
    rintro ⟨r_5, M⟩
    show Snd injV j7_goes mm_X0 71 [some (.ref 46), some (.int x1), some (.int x2), none] [.int r_5] M _
    refine sn_if_eq (j := j7_goes) (pc := 71) 101 rfl dX7_goes_71 ?_ ?_
    · exact Snd.wk (sl7_goes_101 rec51 hrec51 x1 x2 M) (by simp [mm_le])
    · refine sn_aload_n (j := j7_goes) (pc := 74) rfl rfl dX7_goes_74 ?_
      refine sn_iload_n (j := j7_goes) (pc := 75) rfl rfl dX7_goes_75 ?_
      refine sn_iload_n (j := j7_goes) (pc := 76) rfl rfl dX7_goes_76 ?_
      refine sn_callV (j := j7_goes) (pc := 77) (jc := j7_isThere) (As := [.int x2, .int x1]) (s7_isThere x2 x1 M) mm_hvI (by simp [Value.category]) (Nat.le_of_ble_eq_true rfl) q7_isThere rfl (by decide) rfl rfl ⟨by decide, by decide⟩ w_ml_X7_210 w_im_X7_isThere w_se_X7_isThere rfl (Nat.le_of_ble_eq_true rfl) dX7_goes_77 ?_
      rintro ⟨r_6, M⟩
      show Snd injV j7_goes mm_X0 80 [some (.ref 46), some (.int x1), some (.int x2), none] [.int r_6] M _
      refine sn_if_eq (j := j7_goes) (pc := 80) 101 rfl dX7_goes_80 ?_ ?_
      · exact Snd.wk (sl7_goes_101 rec51 hrec51 x1 x2 M) (by simp [mm_le])
      · refine sn_aload_n (j := j7_goes) (pc := 83) rfl rfl dX7_goes_83 ?_
        refine sn_iload_n (j := j7_goes) (pc := 84) rfl rfl dX7_goes_84 ?_
        refine sn_aload_n (j := j7_goes) (pc := 85) rfl rfl dX7_goes_85 ?_
        refine g_X7_25 (j := j7_goes) (pc := 86) rfl dX7_goes_86 ?_
        refine sn_iconst (j := j7_goes) (pc := 89) 4 rfl dX7_goes_89 ?_
        refine sn_iload_n (j := j7_goes) (pc := 90) rfl rfl dX7_goes_90 ?_
        refine sn_imul (j := j7_goes) (pc := 91) dX7_goes_91 ?_
        refine sn_iload_n (j := j7_goes) (pc := 92) rfl rfl dX7_goes_92 ?_
        refine sn_iadd (j := j7_goes) (pc := 93) dX7_goes_93 ?_
        refine sn_iald (j := j7_goes) (pc := 94) rfl ⟨by decide, by decide⟩ dX7_goes_94 (fun w_7 => ?_)
        refine sn_callV (j := j7_goes) (pc := 95) (jc := j7_takesOf) (As := [.int x2, .int w_7]) (s7_takesOf x2 w_7 M) mm_hvI (by simp [Value.category]) (Nat.le_of_ble_eq_true rfl) q7_takesOf rfl (by decide) rfl rfl ⟨by decide, by decide⟩ w_ml_X7_191 w_im_X7_takesOf w_se_X7_takesOf rfl (Nat.le_of_ble_eq_true rfl) dX7_goes_95 ?_
        rintro ⟨r_8, M⟩
        show Snd injV j7_goes mm_X0 98 [some (.ref 46), some (.int x1), some (.int x2), none] [.int r_8] M _
        refine sn_goto (j := j7_goes) (pc := 98) 102 rfl dX7_goes_98 ?_
        exact Snd.wk (sl7_goes_102 rec51 hrec51 x1 x2 r_8 M) (by simp [mm_le])
def l7_goes_51 (rec32 : Int32 → mm_M → Option (mm_M)) : Nat → Int32 → Int32 → mm_M → Option (mm_M)
  | 0 => fun _ _ _ => none
  | n + 1 => fun x1 x2 M => b7_goes_51 rec32 (l7_goes_51 rec32 n) x1 x2 M
theorem sl7_goes_51 (rec32 : Int32 → mm_M → Option (mm_M)) (hrec32 : ∀ (x1 : Int32) (M : mm_M), Snd injV j7_goes mm_X0 32 [some (.ref 46), some (.int x1), none, none] [] M (rec32 x1 M)) : ∀ (n : Nat) (x1 : Int32) (x2 : Int32)  (M : mm_M), Snd injV j7_goes mm_X0 51 [some (.ref 46), some (.int x1), some (.int x2), none] [] M (l7_goes_51 rec32 n x1 x2 M)
  | 0 => fun _ _  _ => Snd.none
  | n + 1 => fun x1 x2  M => sb7_goes_51 rec32 hrec32 (l7_goes_51 rec32 n) (fun x1 x2 M  => sl7_goes_51 rec32 hrec32 n x1 x2  M) x1 x2  M
def b7_goes_32  (rec32 : Int32 → mm_M → Option (mm_M)) (x1 : Int32) (M : mm_M) : Option (mm_M) :=
  aI 47 82 0 M (fun w_9 => if w_9 ≤ x1 then (some M) else (uI 53 8 x1 0 M (fun M => l7_goes_51 rec32 FU x1 0 M)))
set_option maxHeartbeats 2000000 in
theorem sb7_goes_32   (rec32 : Int32 → mm_M → Option (mm_M)) (hrec32 : ∀ (x1 : Int32) (M : mm_M), Snd injV j7_goes mm_X0 32 [some (.ref 46), some (.int x1), none, none] [] M (rec32 x1 M)) (x1 : Int32)  (M : mm_M) : Snd injV j7_goes mm_X0 32 [some (.ref 46), some (.int x1), none, none] [] M (b7_goes_32  rec32 x1 M) := by
  unfold b7_goes_32
  refine sn_iload_n (j := j7_goes) (pc := 32) rfl rfl dX7_goes_32 ?_
  refine sn_aload_n (j := j7_goes) (pc := 33) rfl rfl dX7_goes_33 ?_
  refine g_X7_7 (j := j7_goes) (pc := 34) rfl dX7_goes_34 ?_
  refine sn_iconst (j := j7_goes) (pc := 37) 0 rfl dX7_goes_37 ?_
  refine sn_iald (j := j7_goes) (pc := 38) rfl ⟨by decide, by decide⟩ dX7_goes_38 (fun w_9 => ?_)
  refine sn_icmp_ge (j := j7_goes) (pc := 39) 149 rfl dX7_goes_39 ?_ ?_
  · exact sn_vret (j := j7_goes) (pc := 149) rfl dX7_goes_149
  · refine sn_aload_n (j := j7_goes) (pc := 42) rfl rfl dX7_goes_42 ?_
    refine g_X7_28 (j := j7_goes) (pc := 43) rfl dX7_goes_43 ?_
    refine sn_iload_n (j := j7_goes) (pc := 46) rfl rfl dX7_goes_46 ?_
    refine sn_iconst (j := j7_goes) (pc := 47) 0 rfl dX7_goes_47 ?_
    refine sn_iast (j := j7_goes) (pc := 48) rfl ⟨by decide, by decide⟩ dX7_goes_48 (fun M => ?_)
    refine sn_iconst (j := j7_goes) (pc := 49) 0 rfl dX7_goes_49 ?_
    refine sn_istore_n (j := j7_goes) (pc := 50) rfl (by decide) (lo' := [some (.ref 46), some (.int x1), some (.int 0), none]) rfl dX7_goes_50 ?_
    exact Snd.wk (sl7_goes_51 rec32 hrec32 FU x1 0 M) (by simp [mm_le])
def l7_goes_32  : Nat → Int32 → mm_M → Option (mm_M)
  | 0 => fun _ _ => none
  | n + 1 => fun x1 M => b7_goes_32  (l7_goes_32  n) x1 M
theorem sl7_goes_32   : ∀ (n : Nat) (x1 : Int32)  (M : mm_M), Snd injV j7_goes mm_X0 32 [some (.ref 46), some (.int x1), none, none] [] M (l7_goes_32  n x1 M)
  | 0 => fun _  _ => Snd.none
  | n + 1 => fun x1  M => sb7_goes_32   (l7_goes_32  n) (fun x1 M  => sl7_goes_32   n x1  M) x1  M
def b7_goes_2  (rec2 : Int32 → mm_M → Option (mm_M)) (x1 : Int32) (M : mm_M) : Option (mm_M) :=
  aI 47 82 1 M (fun w_10 => if w_10 ≤ x1 then (l7_goes_32 FU 0 M) else (cI (f7_of x1 2 M) (fun r_11 M => uI 52 36 x1 r_11 M (fun M => rec2 (x1 + 1) M))))
set_option maxHeartbeats 2000000 in
theorem sb7_goes_2   (rec2 : Int32 → mm_M → Option (mm_M)) (hrec2 : ∀ (x1 : Int32) (M : mm_M), Snd injV j7_goes mm_X0 2 [some (.ref 46), some (.int x1), none, none] [] M (rec2 x1 M)) (x1 : Int32)  (M : mm_M) : Snd injV j7_goes mm_X0 2 [some (.ref 46), some (.int x1), none, none] [] M (b7_goes_2  rec2 x1 M) := by
  unfold b7_goes_2
  refine sn_iload_n (j := j7_goes) (pc := 2) rfl rfl dX7_goes_2 ?_
  refine sn_aload_n (j := j7_goes) (pc := 3) rfl rfl dX7_goes_3 ?_
  refine g_X7_7 (j := j7_goes) (pc := 4) rfl dX7_goes_4 ?_
  refine sn_iconst (j := j7_goes) (pc := 7) 1 rfl dX7_goes_7 ?_
  refine sn_iald (j := j7_goes) (pc := 8) rfl ⟨by decide, by decide⟩ dX7_goes_8 (fun w_10 => ?_)
  refine sn_icmp_ge (j := j7_goes) (pc := 9) 30 rfl dX7_goes_9 ?_ ?_
  · refine sn_iconst (j := j7_goes) (pc := 30) 0 rfl dX7_goes_30 ?_
    refine sn_istore_n (j := j7_goes) (pc := 31) rfl (by decide) (lo' := [some (.ref 46), some (.int 0), none, none]) rfl dX7_goes_31 ?_
    exact Snd.wk (sl7_goes_32 FU 0 M) (by simp [mm_le])
  · refine sn_aload_n (j := j7_goes) (pc := 12) rfl rfl dX7_goes_12 ?_
    refine g_X7_25 (j := j7_goes) (pc := 13) rfl dX7_goes_13 ?_
    refine sn_iload_n (j := j7_goes) (pc := 16) rfl rfl dX7_goes_16 ?_
    refine sn_aload_n (j := j7_goes) (pc := 17) rfl rfl dX7_goes_17 ?_
    refine sn_iload_n (j := j7_goes) (pc := 18) rfl rfl dX7_goes_18 ?_
    refine sn_iconst (j := j7_goes) (pc := 19) 2 rfl dX7_goes_19 ?_
    refine sn_callV (j := j7_goes) (pc := 20) (jc := j7_of) (As := [.int x1, .int 2]) (s7_of x1 2 M) mm_hvI (by simp [Value.category]) (Nat.le_of_ble_eq_true rfl) q7_of rfl (by decide) rfl rfl ⟨by decide, by decide⟩ w_ml_X7_181 w_im_X7_of w_se_X7_of rfl (Nat.le_of_ble_eq_true rfl) dX7_goes_20 ?_
    rintro ⟨r_11, M⟩
    show Snd injV j7_goes mm_X0 23 [some (.ref 46), some (.int x1), none, none] [.int r_11, .int x1, .ref 52] M _
    refine sn_iast (j := j7_goes) (pc := 23) rfl ⟨by decide, by decide⟩ dX7_goes_23 (fun M => ?_)
    refine sn_iinc (j := j7_goes) (pc := 24) 1 rfl (by decide) rfl (lo' := [some (.ref 46), some (.int (x1 + 1)), none, none]) rfl dX7_goes_24 ?_
    refine sn_goto (j := j7_goes) (pc := 27) 2 rfl dX7_goes_27 ?_
    exact Snd.wk (hrec2 (x1 + 1) M ) (by simp [mm_le])
def l7_goes_2  : Nat → Int32 → mm_M → Option (mm_M)
  | 0 => fun _ _ => none
  | n + 1 => fun x1 M => b7_goes_2  (l7_goes_2  n) x1 M
theorem sl7_goes_2   : ∀ (n : Nat) (x1 : Int32)  (M : mm_M), Snd injV j7_goes mm_X0 2 [some (.ref 46), some (.int x1), none, none] [] M (l7_goes_2  n x1 M)
  | 0 => fun _  _ => Snd.none
  | n + 1 => fun x1  M => sb7_goes_2   (l7_goes_2  n) (fun x1 M  => sl7_goes_2   n x1  M) x1  M
def f7_goes  (M : mm_M) : Option (mm_M) :=
  l7_goes_2 FU 0 M
set_option maxHeartbeats 2000000 in
theorem s7_goes  (M : mm_M) : Snd injV j7_goes mm_X0 0 [some (.ref 46)] [] M (f7_goes  M) := by
  refine Snd.wk (lo' := [some (.ref 46), none, none, none]) ?_ (by simp [mm_le])
  unfold f7_goes
  refine sn_iconst (j := j7_goes) (pc := 0) 0 rfl dX7_goes_0 ?_
  refine sn_istore_n (j := j7_goes) (pc := 1) rfl (by decide) (lo' := [some (.ref 46), some (.int 0), none, none]) rfl dX7_goes_1 ?_
  exact Snd.wk (sl7_goes_2 FU 0 M) (by simp [mm_le])

abbrev j7_goesByTold : mm_J := (yX7_goesByTold, cX7_goesByTold, 2, none, 3)
theorem dX7_goesByTold_0 : decode cX7_goesByTold 0 = .ok (.aload_n 0, 1) := by decide +kernel
theorem dX7_goesByTold_1 : decode cX7_goesByTold 1 = .ok (.invokevirtual 194, 3) := by decide +kernel
theorem dX7_goesByTold_4 : decode cX7_goesByTold 4 = .ok (.iconst 0, 1) := by decide +kernel
theorem dX7_goesByTold_5 : decode cX7_goesByTold 5 = .ok (.istore_n 1, 1) := by decide +kernel
theorem dX7_goesByTold_6 : decode cX7_goesByTold 6 = .ok (.iload_n 1, 1) := by decide +kernel
theorem dX7_goesByTold_7 : decode cX7_goesByTold 7 = .ok (.bipush 8, 2) := by decide +kernel
theorem dX7_goesByTold_9 : decode cX7_goesByTold 9 = .ok (.if_icmp .ge 24, 3) := by decide +kernel
theorem dX7_goesByTold_12 : decode cX7_goesByTold 12 = .ok (.aload_n 0, 1) := by decide +kernel
theorem dX7_goesByTold_13 : decode cX7_goesByTold 13 = .ok (.getfield 22, 3) := by decide +kernel
theorem dX7_goesByTold_16 : decode cX7_goesByTold 16 = .ok (.iload_n 1, 1) := by decide +kernel
theorem dX7_goesByTold_17 : decode cX7_goesByTold 17 = .ok (.aload_n 0, 1) := by decide +kernel
theorem dX7_goesByTold_18 : decode cX7_goesByTold 18 = .ok (.getfield 7, 3) := by decide +kernel
theorem dX7_goesByTold_21 : decode cX7_goesByTold 21 = .ok (.bipush 74, 2) := by decide +kernel
theorem dX7_goesByTold_23 : decode cX7_goesByTold 23 = .ok (.iload_n 1, 1) := by decide +kernel
theorem dX7_goesByTold_24 : decode cX7_goesByTold 24 = .ok (.iadd, 1) := by decide +kernel
theorem dX7_goesByTold_25 : decode cX7_goesByTold 25 = .ok (.iaload, 1) := by decide +kernel
theorem dX7_goesByTold_26 : decode cX7_goesByTold 26 = .ok (.iastore, 1) := by decide +kernel
theorem dX7_goesByTold_27 : decode cX7_goesByTold 27 = .ok (.iinc 1 1, 3) := by decide +kernel
theorem dX7_goesByTold_30 : decode cX7_goesByTold 30 = .ok (.goto (-24), 3) := by decide +kernel
theorem dX7_goesByTold_33 : decode cX7_goesByTold 33 = .ok (.aload_n 0, 1) := by decide +kernel
theorem dX7_goesByTold_34 : decode cX7_goesByTold 34 = .ok (.invokevirtual 213, 3) := by decide +kernel
theorem dX7_goesByTold_37 : decode cX7_goesByTold 37 = .ok (.return_, 1) := by decide +kernel
def b7_goesByTold_6  (rec6 : Int32 → mm_M → Option (mm_M)) (x1 : Int32) (M : mm_M) : Option (mm_M) :=
  if 8 ≤ x1 then (cV (f7_goes M) (fun M => some M)) else (aI 47 82 (74 + x1) M (fun w_1 => uI 51 8 x1 w_1 M (fun M => rec6 (x1 + 1) M)))
set_option maxHeartbeats 2000000 in
theorem sb7_goesByTold_6   (rec6 : Int32 → mm_M → Option (mm_M)) (hrec6 : ∀ (x1 : Int32) (M : mm_M), Snd injV j7_goesByTold mm_X0 6 [some (.ref 46), some (.int x1)] [] M (rec6 x1 M)) (x1 : Int32)  (M : mm_M) : Snd injV j7_goesByTold mm_X0 6 [some (.ref 46), some (.int x1)] [] M (b7_goesByTold_6  rec6 x1 M) := by
  unfold b7_goesByTold_6
  refine sn_iload_n (j := j7_goesByTold) (pc := 6) rfl rfl dX7_goesByTold_6 ?_
  refine sn_bipush (j := j7_goesByTold) (pc := 7) 8 rfl dX7_goesByTold_7 ?_
  refine sn_icmp_ge (j := j7_goesByTold) (pc := 9) 33 rfl dX7_goesByTold_9 ?_ ?_
  · refine sn_aload_n (j := j7_goesByTold) (pc := 33) rfl rfl dX7_goesByTold_33 ?_
    refine sn_callV (j := j7_goesByTold) (pc := 34) (jc := j7_goes) (As := []) (s7_goes M) mm_hvV (by simp [Value.category]) (Nat.le_of_ble_eq_true rfl) q7_goes rfl (by decide) rfl rfl ⟨by decide, by decide⟩ w_ml_X7_213 w_im_X7_goes w_se_X7_goes rfl (Nat.le_of_ble_eq_true rfl) dX7_goesByTold_34 ?_
    intro M
    show Snd injV j7_goesByTold mm_X0 37 [some (.ref 46), some (.int x1)] [] M _
    exact sn_vret (j := j7_goesByTold) (pc := 37) rfl dX7_goesByTold_37
  · refine sn_aload_n (j := j7_goesByTold) (pc := 12) rfl rfl dX7_goesByTold_12 ?_
    refine g_X7_22 (j := j7_goesByTold) (pc := 13) rfl dX7_goesByTold_13 ?_
    refine sn_iload_n (j := j7_goesByTold) (pc := 16) rfl rfl dX7_goesByTold_16 ?_
    refine sn_aload_n (j := j7_goesByTold) (pc := 17) rfl rfl dX7_goesByTold_17 ?_
    refine g_X7_7 (j := j7_goesByTold) (pc := 18) rfl dX7_goesByTold_18 ?_
    refine sn_bipush (j := j7_goesByTold) (pc := 21) 74 rfl dX7_goesByTold_21 ?_
    refine sn_iload_n (j := j7_goesByTold) (pc := 23) rfl rfl dX7_goesByTold_23 ?_
    refine sn_iadd (j := j7_goesByTold) (pc := 24) dX7_goesByTold_24 ?_
    refine sn_iald (j := j7_goesByTold) (pc := 25) rfl ⟨by decide, by decide⟩ dX7_goesByTold_25 (fun w_1 => ?_)
    refine sn_iast (j := j7_goesByTold) (pc := 26) rfl ⟨by decide, by decide⟩ dX7_goesByTold_26 (fun M => ?_)
    refine sn_iinc (j := j7_goesByTold) (pc := 27) 1 rfl (by decide) rfl (lo' := [some (.ref 46), some (.int (x1 + 1))]) rfl dX7_goesByTold_27 ?_
    refine sn_goto (j := j7_goesByTold) (pc := 30) 6 rfl dX7_goesByTold_30 ?_
    exact Snd.wk (hrec6 (x1 + 1) M ) (by simp [mm_le])
def l7_goesByTold_6  : Nat → Int32 → mm_M → Option (mm_M)
  | 0 => fun _ _ => none
  | n + 1 => fun x1 M => b7_goesByTold_6  (l7_goesByTold_6  n) x1 M
theorem sl7_goesByTold_6   : ∀ (n : Nat) (x1 : Int32)  (M : mm_M), Snd injV j7_goesByTold mm_X0 6 [some (.ref 46), some (.int x1)] [] M (l7_goesByTold_6  n x1 M)
  | 0 => fun _  _ => Snd.none
  | n + 1 => fun x1  M => sb7_goesByTold_6   (l7_goesByTold_6  n) (fun x1 M  => sl7_goesByTold_6   n x1  M) x1  M
def f7_goesByTold  (M : mm_M) : Option (mm_M) :=
  cV (f7_asTold M) (fun M => l7_goesByTold_6 FU 0 M)
set_option maxHeartbeats 2000000 in
theorem s7_goesByTold  (M : mm_M) : Snd injV j7_goesByTold mm_X0 0 [some (.ref 46)] [] M (f7_goesByTold  M) := by
  refine Snd.wk (lo' := [some (.ref 46), none]) ?_ (by simp [mm_le])
  unfold f7_goesByTold
  refine sn_aload_n (j := j7_goesByTold) (pc := 0) rfl rfl dX7_goesByTold_0 ?_
  refine sn_callV (j := j7_goesByTold) (pc := 1) (jc := j7_asTold) (As := []) (s7_asTold M) mm_hvV (by simp [Value.category]) (Nat.le_of_ble_eq_true rfl) q7_asTold rfl (by decide) rfl rfl ⟨by decide, by decide⟩ w_ml_X7_194 w_im_X7_asTold w_se_X7_asTold rfl (Nat.le_of_ble_eq_true rfl) dX7_goesByTold_1 ?_
  intro M
  show Snd injV j7_goesByTold mm_X0 4 [some (.ref 46), none] [] M _
  refine sn_iconst (j := j7_goesByTold) (pc := 4) 0 rfl dX7_goesByTold_4 ?_
  refine sn_istore_n (j := j7_goesByTold) (pc := 5) rfl (by decide) (lo' := [some (.ref 46), some (.int 0)]) rfl dX7_goesByTold_5 ?_
  exact Snd.wk (sl7_goesByTold_6 FU 0 M) (by simp [mm_le])

abbrev j7_lackOf : mm_J := (yX7_lackOf, cX7_lackOf, 3, (some .int), 1)
theorem dX7_lackOf_0 : decode cX7_lackOf 0 = .ok (.aload_n 0, 1) := by decide +kernel
theorem dX7_lackOf_1 : decode cX7_lackOf 1 = .ok (.iload_n 1, 1) := by decide +kernel
theorem dX7_lackOf_2 : decode cX7_lackOf 2 = .ok (.iconst 3, 1) := by decide +kernel
theorem dX7_lackOf_3 : decode cX7_lackOf 3 = .ok (.invokevirtual 181, 3) := by decide +kernel
theorem dX7_lackOf_6 : decode cX7_lackOf 6 = .ok (.aload_n 0, 1) := by decide +kernel
theorem dX7_lackOf_7 : decode cX7_lackOf 7 = .ok (.getfield 25, 3) := by decide +kernel
theorem dX7_lackOf_10 : decode cX7_lackOf 10 = .ok (.iconst 4, 1) := by decide +kernel
theorem dX7_lackOf_11 : decode cX7_lackOf 11 = .ok (.aload_n 0, 1) := by decide +kernel
theorem dX7_lackOf_12 : decode cX7_lackOf 12 = .ok (.getfield 7, 3) := by decide +kernel
theorem dX7_lackOf_15 : decode cX7_lackOf 15 = .ok (.iconst 0, 1) := by decide +kernel
theorem dX7_lackOf_16 : decode cX7_lackOf 16 = .ok (.iaload, 1) := by decide +kernel
theorem dX7_lackOf_17 : decode cX7_lackOf 17 = .ok (.imul, 1) := by decide +kernel
theorem dX7_lackOf_18 : decode cX7_lackOf 18 = .ok (.iload_n 1, 1) := by decide +kernel
theorem dX7_lackOf_19 : decode cX7_lackOf 19 = .ok (.iadd, 1) := by decide +kernel
theorem dX7_lackOf_20 : decode cX7_lackOf 20 = .ok (.iaload, 1) := by decide +kernel
theorem dX7_lackOf_21 : decode cX7_lackOf 21 = .ok (.isub, 1) := by decide +kernel
theorem dX7_lackOf_22 : decode cX7_lackOf 22 = .ok (.istore_n 2, 1) := by decide +kernel
theorem dX7_lackOf_23 : decode cX7_lackOf 23 = .ok (.iload_n 2, 1) := by decide +kernel
theorem dX7_lackOf_24 : decode cX7_lackOf 24 = .ok (.ifCond .le 7, 3) := by decide +kernel
theorem dX7_lackOf_27 : decode cX7_lackOf 27 = .ok (.iload_n 2, 1) := by decide +kernel
theorem dX7_lackOf_28 : decode cX7_lackOf 28 = .ok (.goto 4, 3) := by decide +kernel
theorem dX7_lackOf_31 : decode cX7_lackOf 31 = .ok (.iconst 0, 1) := by decide +kernel
theorem dX7_lackOf_32 : decode cX7_lackOf 32 = .ok (.ireturn, 1) := by decide +kernel
def l7_lackOf_32  (s0 : Int32) (M : mm_M) : Option (Int32 × mm_M) :=
  some (s0, M)
set_option maxHeartbeats 2000000 in
theorem sl7_lackOf_32   (s0 : Int32)  (M : mm_M) : Snd injI j7_lackOf mm_X0 32 [none, none, none] [.int s0] M (l7_lackOf_32  s0 M) := by
  unfold l7_lackOf_32
  exact sn_iret (j := j7_lackOf) (pc := 32) rfl dX7_lackOf_32
def f7_lackOf (x1 : Int32) (M : mm_M) : Option (Int32 × mm_M) :=
  cI (f7_of x1 3 M) (fun r_1 M => aI 47 82 0 M (fun w_2 => aI 52 36 ((4 * w_2) + x1) M (fun w_3 => bI (r_1 - w_3) (fun x2_4 => if x2_4 ≤ 0 then (l7_lackOf_32 0 M) else (l7_lackOf_32 x2_4 M)))))
set_option maxHeartbeats 2000000 in
theorem s7_lackOf (x1 : Int32) (M : mm_M) : Snd injI j7_lackOf mm_X0 0 [some (.ref 46), some (.int x1)] [] M (f7_lackOf x1 M) := by
  refine Snd.wk (lo' := [some (.ref 46), some (.int x1), none]) ?_ (by simp [mm_le])
  unfold f7_lackOf
  refine sn_aload_n (j := j7_lackOf) (pc := 0) rfl rfl dX7_lackOf_0 ?_
  refine sn_iload_n (j := j7_lackOf) (pc := 1) rfl rfl dX7_lackOf_1 ?_
  refine sn_iconst (j := j7_lackOf) (pc := 2) 3 rfl dX7_lackOf_2 ?_
  refine sn_callV (j := j7_lackOf) (pc := 3) (jc := j7_of) (As := [.int x1, .int 3]) (s7_of x1 3 M) mm_hvI (by simp [Value.category]) (Nat.le_of_ble_eq_true rfl) q7_of rfl (by decide) rfl rfl ⟨by decide, by decide⟩ w_ml_X7_181 w_im_X7_of w_se_X7_of rfl (Nat.le_of_ble_eq_true rfl) dX7_lackOf_3 ?_
  rintro ⟨r_1, M⟩
  show Snd injI j7_lackOf mm_X0 6 [some (.ref 46), some (.int x1), none] [.int r_1] M _
  refine sn_aload_n (j := j7_lackOf) (pc := 6) rfl rfl dX7_lackOf_6 ?_
  refine g_X7_25 (j := j7_lackOf) (pc := 7) rfl dX7_lackOf_7 ?_
  refine sn_iconst (j := j7_lackOf) (pc := 10) 4 rfl dX7_lackOf_10 ?_
  refine sn_aload_n (j := j7_lackOf) (pc := 11) rfl rfl dX7_lackOf_11 ?_
  refine g_X7_7 (j := j7_lackOf) (pc := 12) rfl dX7_lackOf_12 ?_
  refine sn_iconst (j := j7_lackOf) (pc := 15) 0 rfl dX7_lackOf_15 ?_
  refine sn_iald (j := j7_lackOf) (pc := 16) rfl ⟨by decide, by decide⟩ dX7_lackOf_16 (fun w_2 => ?_)
  refine sn_imul (j := j7_lackOf) (pc := 17) dX7_lackOf_17 ?_
  refine sn_iload_n (j := j7_lackOf) (pc := 18) rfl rfl dX7_lackOf_18 ?_
  refine sn_iadd (j := j7_lackOf) (pc := 19) dX7_lackOf_19 ?_
  refine sn_iald (j := j7_lackOf) (pc := 20) rfl ⟨by decide, by decide⟩ dX7_lackOf_20 (fun w_3 => ?_)
  refine sn_isub (j := j7_lackOf) (pc := 21) dX7_lackOf_21 ?_
  refine sn_istoreB_n (j := j7_lackOf) (pc := 22) rfl (fun x2_4 => [some (.ref 46), some (.int x1), some (.int x2_4)]) (by decide) (fun _ => rfl) dX7_lackOf_22 (fun x2_4 => ?_)
  refine sn_iload_n (j := j7_lackOf) (pc := 23) rfl rfl dX7_lackOf_23 ?_
  refine sn_if_le (j := j7_lackOf) (pc := 24) 31 rfl dX7_lackOf_24 ?_ ?_
  · refine sn_iconst (j := j7_lackOf) (pc := 31) 0 rfl dX7_lackOf_31 ?_
    exact Snd.wk (sl7_lackOf_32 0 M) (by simp [mm_le])
  · refine sn_iload_n (j := j7_lackOf) (pc := 27) rfl rfl dX7_lackOf_27 ?_
    refine sn_goto (j := j7_lackOf) (pc := 28) 32 rfl dX7_lackOf_28 ?_
    exact Snd.wk (sl7_lackOf_32 x2_4 M) (by simp [mm_le])

abbrev j7_sumOf : mm_J := (yX7_sumOf, cX7_sumOf, 4, (some .int), 2)
theorem dX7_sumOf_0 : decode cX7_sumOf 0 = .ok (.iconst 0, 1) := by decide +kernel
theorem dX7_sumOf_1 : decode cX7_sumOf 1 = .ok (.istore_n 2, 1) := by decide +kernel
theorem dX7_sumOf_2 : decode cX7_sumOf 2 = .ok (.iconst 0, 1) := by decide +kernel
theorem dX7_sumOf_3 : decode cX7_sumOf 3 = .ok (.istore_n 3, 1) := by decide +kernel
theorem dX7_sumOf_4 : decode cX7_sumOf 4 = .ok (.iload_n 3, 1) := by decide +kernel
theorem dX7_sumOf_5 : decode cX7_sumOf 5 = .ok (.aload_n 0, 1) := by decide +kernel
theorem dX7_sumOf_6 : decode cX7_sumOf 6 = .ok (.getfield 7, 3) := by decide +kernel
theorem dX7_sumOf_9 : decode cX7_sumOf 9 = .ok (.iconst 0, 1) := by decide +kernel
theorem dX7_sumOf_10 : decode cX7_sumOf 10 = .ok (.iaload, 1) := by decide +kernel
theorem dX7_sumOf_11 : decode cX7_sumOf 11 = .ok (.if_icmp .ge 83, 3) := by decide +kernel
theorem dX7_sumOf_14 : decode cX7_sumOf 14 = .ok (.iload_n 1, 1) := by decide +kernel
theorem dX7_sumOf_15 : decode cX7_sumOf 15 = .ok (.ifCond .ne 24, 3) := by decide +kernel
theorem dX7_sumOf_18 : decode cX7_sumOf 18 = .ok (.iload_n 2, 1) := by decide +kernel
theorem dX7_sumOf_19 : decode cX7_sumOf 19 = .ok (.aload_n 0, 1) := by decide +kernel
theorem dX7_sumOf_20 : decode cX7_sumOf 20 = .ok (.getfield 28, 3) := by decide +kernel
theorem dX7_sumOf_23 : decode cX7_sumOf 23 = .ok (.iload_n 3, 1) := by decide +kernel
theorem dX7_sumOf_24 : decode cX7_sumOf 24 = .ok (.iaload, 1) := by decide +kernel
theorem dX7_sumOf_25 : decode cX7_sumOf 25 = .ok (.aload_n 0, 1) := by decide +kernel
theorem dX7_sumOf_26 : decode cX7_sumOf 26 = .ok (.getfield 7, 3) := by decide +kernel
theorem dX7_sumOf_29 : decode cX7_sumOf 29 = .ok (.bipush 6, 2) := by decide +kernel
theorem dX7_sumOf_31 : decode cX7_sumOf 31 = .ok (.iload_n 3, 1) := by decide +kernel
theorem dX7_sumOf_32 : decode cX7_sumOf 32 = .ok (.iadd, 1) := by decide +kernel
theorem dX7_sumOf_33 : decode cX7_sumOf 33 = .ok (.iaload, 1) := by decide +kernel
theorem dX7_sumOf_34 : decode cX7_sumOf 34 = .ok (.imul, 1) := by decide +kernel
theorem dX7_sumOf_35 : decode cX7_sumOf 35 = .ok (.iadd, 1) := by decide +kernel
theorem dX7_sumOf_36 : decode cX7_sumOf 36 = .ok (.goto 51, 3) := by decide +kernel
theorem dX7_sumOf_39 : decode cX7_sumOf 39 = .ok (.iload_n 1, 1) := by decide +kernel
theorem dX7_sumOf_40 : decode cX7_sumOf 40 = .ok (.iconst 1, 1) := by decide +kernel
theorem dX7_sumOf_41 : decode cX7_sumOf 41 = .ok (.if_icmp .ne 26, 3) := by decide +kernel
theorem dX7_sumOf_44 : decode cX7_sumOf 44 = .ok (.aload_n 0, 1) := by decide +kernel
theorem dX7_sumOf_45 : decode cX7_sumOf 45 = .ok (.getfield 28, 3) := by decide +kernel
theorem dX7_sumOf_48 : decode cX7_sumOf 48 = .ok (.iload_n 3, 1) := by decide +kernel
theorem dX7_sumOf_49 : decode cX7_sumOf 49 = .ok (.iaload, 1) := by decide +kernel
theorem dX7_sumOf_50 : decode cX7_sumOf 50 = .ok (.iload_n 2, 1) := by decide +kernel
theorem dX7_sumOf_51 : decode cX7_sumOf 51 = .ok (.if_icmp .le 12, 3) := by decide +kernel
theorem dX7_sumOf_54 : decode cX7_sumOf 54 = .ok (.aload_n 0, 1) := by decide +kernel
theorem dX7_sumOf_55 : decode cX7_sumOf 55 = .ok (.getfield 28, 3) := by decide +kernel
theorem dX7_sumOf_58 : decode cX7_sumOf 58 = .ok (.iload_n 3, 1) := by decide +kernel
theorem dX7_sumOf_59 : decode cX7_sumOf 59 = .ok (.iaload, 1) := by decide +kernel
theorem dX7_sumOf_60 : decode cX7_sumOf 60 = .ok (.goto 27, 3) := by decide +kernel
theorem dX7_sumOf_63 : decode cX7_sumOf 63 = .ok (.iload_n 2, 1) := by decide +kernel
theorem dX7_sumOf_64 : decode cX7_sumOf 64 = .ok (.goto 23, 3) := by decide +kernel
theorem dX7_sumOf_67 : decode cX7_sumOf 67 = .ok (.iload_n 1, 1) := by decide +kernel
theorem dX7_sumOf_68 : decode cX7_sumOf 68 = .ok (.iconst 2, 1) := by decide +kernel
theorem dX7_sumOf_69 : decode cX7_sumOf 69 = .ok (.if_icmp .ne 17, 3) := by decide +kernel
theorem dX7_sumOf_72 : decode cX7_sumOf 72 = .ok (.iload_n 2, 1) := by decide +kernel
theorem dX7_sumOf_73 : decode cX7_sumOf 73 = .ok (.aload_n 0, 1) := by decide +kernel
theorem dX7_sumOf_74 : decode cX7_sumOf 74 = .ok (.getfield 22, 3) := by decide +kernel
theorem dX7_sumOf_77 : decode cX7_sumOf 77 = .ok (.iload_n 3, 1) := by decide +kernel
theorem dX7_sumOf_78 : decode cX7_sumOf 78 = .ok (.iaload, 1) := by decide +kernel
theorem dX7_sumOf_79 : decode cX7_sumOf 79 = .ok (.invokestatic 175, 3) := by decide +kernel
theorem dX7_sumOf_82 : decode cX7_sumOf 82 = .ok (.iadd, 1) := by decide +kernel
theorem dX7_sumOf_83 : decode cX7_sumOf 83 = .ok (.goto 4, 3) := by decide +kernel
theorem dX7_sumOf_86 : decode cX7_sumOf 86 = .ok (.iload_n 2, 1) := by decide +kernel
theorem dX7_sumOf_87 : decode cX7_sumOf 87 = .ok (.istore_n 2, 1) := by decide +kernel
theorem dX7_sumOf_88 : decode cX7_sumOf 88 = .ok (.iinc 3 1, 3) := by decide +kernel
theorem dX7_sumOf_91 : decode cX7_sumOf 91 = .ok (.goto (-87), 3) := by decide +kernel
theorem dX7_sumOf_94 : decode cX7_sumOf 94 = .ok (.iconst 0, 1) := by decide +kernel
theorem dX7_sumOf_95 : decode cX7_sumOf 95 = .ok (.istore_n 3, 1) := by decide +kernel
theorem dX7_sumOf_96 : decode cX7_sumOf 96 = .ok (.iload_n 3, 1) := by decide +kernel
theorem dX7_sumOf_97 : decode cX7_sumOf 97 = .ok (.aload_n 0, 1) := by decide +kernel
theorem dX7_sumOf_98 : decode cX7_sumOf 98 = .ok (.getfield 7, 3) := by decide +kernel
theorem dX7_sumOf_101 : decode cX7_sumOf 101 = .ok (.iconst 1, 1) := by decide +kernel
theorem dX7_sumOf_102 : decode cX7_sumOf 102 = .ok (.iaload, 1) := by decide +kernel
theorem dX7_sumOf_103 : decode cX7_sumOf 103 = .ok (.if_icmp .ge 22, 3) := by decide +kernel
theorem dX7_sumOf_106 : decode cX7_sumOf 106 = .ok (.iload_n 1, 1) := by decide +kernel
theorem dX7_sumOf_107 : decode cX7_sumOf 107 = .ok (.iconst 3, 1) := by decide +kernel
theorem dX7_sumOf_108 : decode cX7_sumOf 108 = .ok (.if_icmp .ne 17, 3) := by decide +kernel
theorem dX7_sumOf_111 : decode cX7_sumOf 111 = .ok (.iload_n 2, 1) := by decide +kernel
theorem dX7_sumOf_112 : decode cX7_sumOf 112 = .ok (.aload_n 0, 1) := by decide +kernel
theorem dX7_sumOf_113 : decode cX7_sumOf 113 = .ok (.iload_n 3, 1) := by decide +kernel
theorem dX7_sumOf_114 : decode cX7_sumOf 114 = .ok (.invokevirtual 216, 3) := by decide +kernel
theorem dX7_sumOf_117 : decode cX7_sumOf 117 = .ok (.iadd, 1) := by decide +kernel
theorem dX7_sumOf_118 : decode cX7_sumOf 118 = .ok (.istore_n 2, 1) := by decide +kernel
theorem dX7_sumOf_119 : decode cX7_sumOf 119 = .ok (.iinc 3 1, 3) := by decide +kernel
theorem dX7_sumOf_122 : decode cX7_sumOf 122 = .ok (.goto (-26), 3) := by decide +kernel
theorem dX7_sumOf_125 : decode cX7_sumOf 125 = .ok (.iload_n 2, 1) := by decide +kernel
theorem dX7_sumOf_126 : decode cX7_sumOf 126 = .ok (.ireturn, 1) := by decide +kernel
def l7_sumOf_125  (x2 : Int32) (M : mm_M) : Option (Int32 × mm_M) :=
  some (x2, M)
set_option maxHeartbeats 2000000 in
theorem sl7_sumOf_125   (x2 : Int32)  (M : mm_M) : Snd injI j7_sumOf mm_X0 125 [none, none, some (.int x2), none] [] M (l7_sumOf_125  x2 M) := by
  unfold l7_sumOf_125
  refine sn_iload_n (j := j7_sumOf) (pc := 125) rfl rfl dX7_sumOf_125 ?_
  exact sn_iret (j := j7_sumOf) (pc := 126) rfl dX7_sumOf_126
def b7_sumOf_96  (rec96 : Int32 → Int32 → Int32 → mm_M → Option (Int32 × mm_M)) (x1 : Int32) (x2 : Int32) (x3 : Int32) (M : mm_M) : Option (Int32 × mm_M) :=
  aI 47 82 1 M (fun w_1 => if w_1 ≤ x3 then (l7_sumOf_125 x2 M) else (if x1 = 3 then (cI (f7_lackOf x3 M) (fun r_2 M => bI (x2 + r_2) (fun x2_3 => rec96 x1 x2_3 (x3 + 1) M))) else (l7_sumOf_125 x2 M)))
set_option maxHeartbeats 2000000 in
theorem sb7_sumOf_96   (rec96 : Int32 → Int32 → Int32 → mm_M → Option (Int32 × mm_M)) (hrec96 : ∀ (x1 : Int32) (x2 : Int32) (x3 : Int32) (M : mm_M), Snd injI j7_sumOf mm_X0 96 [some (.ref 46), some (.int x1), some (.int x2), some (.int x3)] [] M (rec96 x1 x2 x3 M)) (x1 : Int32) (x2 : Int32) (x3 : Int32)  (M : mm_M) : Snd injI j7_sumOf mm_X0 96 [some (.ref 46), some (.int x1), some (.int x2), some (.int x3)] [] M (b7_sumOf_96  rec96 x1 x2 x3 M) := by
  unfold b7_sumOf_96
  refine sn_iload_n (j := j7_sumOf) (pc := 96) rfl rfl dX7_sumOf_96 ?_
  refine sn_aload_n (j := j7_sumOf) (pc := 97) rfl rfl dX7_sumOf_97 ?_
  refine g_X7_7 (j := j7_sumOf) (pc := 98) rfl dX7_sumOf_98 ?_
  refine sn_iconst (j := j7_sumOf) (pc := 101) 1 rfl dX7_sumOf_101 ?_
  refine sn_iald (j := j7_sumOf) (pc := 102) rfl ⟨by decide, by decide⟩ dX7_sumOf_102 (fun w_1 => ?_)
  refine sn_icmp_ge (j := j7_sumOf) (pc := 103) 125 rfl dX7_sumOf_103 ?_ ?_
  · exact Snd.wk (sl7_sumOf_125 x2 M) (by simp [mm_le])
  · refine sn_iload_n (j := j7_sumOf) (pc := 106) rfl rfl dX7_sumOf_106 ?_
    refine sn_iconst (j := j7_sumOf) (pc := 107) 3 rfl dX7_sumOf_107 ?_
    refine sn_icmp_ne (j := j7_sumOf) (pc := 108) 125 rfl dX7_sumOf_108 ?_ ?_
    · exact Snd.wk (sl7_sumOf_125 x2 M) (by simp [mm_le])
    · refine sn_iload_n (j := j7_sumOf) (pc := 111) rfl rfl dX7_sumOf_111 ?_
      refine sn_aload_n (j := j7_sumOf) (pc := 112) rfl rfl dX7_sumOf_112 ?_
      refine sn_iload_n (j := j7_sumOf) (pc := 113) rfl rfl dX7_sumOf_113 ?_
      refine sn_callV (j := j7_sumOf) (pc := 114) (jc := j7_lackOf) (As := [.int x3]) (s7_lackOf x3 M) mm_hvI (by simp [Value.category]) (Nat.le_of_ble_eq_true rfl) q7_lackOf rfl (by decide) rfl rfl ⟨by decide, by decide⟩ w_ml_X7_216 w_im_X7_lackOf w_se_X7_lackOf rfl (Nat.le_of_ble_eq_true rfl) dX7_sumOf_114 ?_
      rintro ⟨r_2, M⟩
      show Snd injI j7_sumOf mm_X0 117 [some (.ref 46), some (.int x1), some (.int x2), some (.int x3)] [.int r_2, .int x2] M _
      refine sn_iadd (j := j7_sumOf) (pc := 117) dX7_sumOf_117 ?_
      refine sn_istoreB_n (j := j7_sumOf) (pc := 118) rfl (fun x2_3 => [some (.ref 46), some (.int x1), some (.int x2_3), some (.int x3)]) (by decide) (fun _ => rfl) dX7_sumOf_118 (fun x2_3 => ?_)
      refine sn_iinc (j := j7_sumOf) (pc := 119) 1 rfl (by decide) rfl (lo' := [some (.ref 46), some (.int x1), some (.int x2_3), some (.int (x3 + 1))]) rfl dX7_sumOf_119 ?_
      refine sn_goto (j := j7_sumOf) (pc := 122) 96 rfl dX7_sumOf_122 ?_
      exact Snd.wk (hrec96 x1 x2_3 (x3 + 1) M ) (by simp [mm_le])
def l7_sumOf_96  : Nat → Int32 → Int32 → Int32 → mm_M → Option (Int32 × mm_M)
  | 0 => fun _ _ _ _ => none
  | n + 1 => fun x1 x2 x3 M => b7_sumOf_96  (l7_sumOf_96  n) x1 x2 x3 M
theorem sl7_sumOf_96   : ∀ (n : Nat) (x1 : Int32) (x2 : Int32) (x3 : Int32)  (M : mm_M), Snd injI j7_sumOf mm_X0 96 [some (.ref 46), some (.int x1), some (.int x2), some (.int x3)] [] M (l7_sumOf_96  n x1 x2 x3 M)
  | 0 => fun _ _ _  _ => Snd.none
  | n + 1 => fun x1 x2 x3  M => sb7_sumOf_96   (l7_sumOf_96  n) (fun x1 x2 x3 M  => sl7_sumOf_96   n x1 x2 x3  M) x1 x2 x3  M
def l7_sumOf_87 (rec4 : Int32 → Int32 → Int32 → mm_M → Option (Int32 × mm_M)) (x1 : Int32) (x3 : Int32) (s0 : Int32) (M : mm_M) : Option (Int32 × mm_M) :=
  rec4 x1 s0 (x3 + 1) M
set_option maxHeartbeats 2000000 in
theorem sl7_sumOf_87 (rec4 : Int32 → Int32 → Int32 → mm_M → Option (Int32 × mm_M)) (hrec4 : ∀ (x1 : Int32) (x2 : Int32) (x3 : Int32) (M : mm_M), Snd injI j7_sumOf mm_X0 4 [some (.ref 46), some (.int x1), some (.int x2), some (.int x3)] [] M (rec4 x1 x2 x3 M)) (x1 : Int32) (x3 : Int32) (s0 : Int32)  (M : mm_M) : Snd injI j7_sumOf mm_X0 87 [some (.ref 46), some (.int x1), none, some (.int x3)] [.int s0] M (l7_sumOf_87 rec4 x1 x3 s0 M) := by
  unfold l7_sumOf_87
  refine sn_istore_n (j := j7_sumOf) (pc := 87) rfl (by decide) (lo' := [some (.ref 46), some (.int x1), some (.int s0), some (.int x3)]) rfl dX7_sumOf_87 ?_
  refine sn_iinc (j := j7_sumOf) (pc := 88) 1 rfl (by decide) rfl (lo' := [some (.ref 46), some (.int x1), some (.int s0), some (.int (x3 + 1))]) rfl dX7_sumOf_88 ?_
  refine sn_goto (j := j7_sumOf) (pc := 91) 4 rfl dX7_sumOf_91 ?_
  exact Snd.wk (hrec4 x1 s0 (x3 + 1) M ) (by simp [mm_le])
def b7_sumOf_4  (rec4 : Int32 → Int32 → Int32 → mm_M → Option (Int32 × mm_M)) (x1 : Int32) (x2 : Int32) (x3 : Int32) (M : mm_M) : Option (Int32 × mm_M) :=
  aI 47 82 0 M (fun w_4 => if w_4 ≤ x3 then (l7_sumOf_96 FU x1 x2 0 M) else (if x1 = 0 then (aI 53 8 x3 M (fun w_9 => aI 47 82 (6 + x3) M (fun w_10 => l7_sumOf_87 rec4 x1 x3 (x2 + (w_9 * w_10)) M))) else (if x1 = 1 then (aI 53 8 x3 M (fun w_7 => if w_7 ≤ x2 then (l7_sumOf_87 rec4 x1 x3 x2 M) else (aI 53 8 x3 M (fun w_8 => l7_sumOf_87 rec4 x1 x3 w_8 M)))) else (if x1 = 2 then (aI 51 8 x3 M (fun w_5 => cI (f7_bits w_5 M) (fun r_6 M => l7_sumOf_87 rec4 x1 x3 (x2 + r_6) M))) else (l7_sumOf_87 rec4 x1 x3 x2 M)))))
set_option maxHeartbeats 2000000 in
theorem sb7_sumOf_4   (rec4 : Int32 → Int32 → Int32 → mm_M → Option (Int32 × mm_M)) (hrec4 : ∀ (x1 : Int32) (x2 : Int32) (x3 : Int32) (M : mm_M), Snd injI j7_sumOf mm_X0 4 [some (.ref 46), some (.int x1), some (.int x2), some (.int x3)] [] M (rec4 x1 x2 x3 M)) (x1 : Int32) (x2 : Int32) (x3 : Int32)  (M : mm_M) : Snd injI j7_sumOf mm_X0 4 [some (.ref 46), some (.int x1), some (.int x2), some (.int x3)] [] M (b7_sumOf_4  rec4 x1 x2 x3 M) := by
  unfold b7_sumOf_4
  refine sn_iload_n (j := j7_sumOf) (pc := 4) rfl rfl dX7_sumOf_4 ?_
  refine sn_aload_n (j := j7_sumOf) (pc := 5) rfl rfl dX7_sumOf_5 ?_
  refine g_X7_7 (j := j7_sumOf) (pc := 6) rfl dX7_sumOf_6 ?_
  refine sn_iconst (j := j7_sumOf) (pc := 9) 0 rfl dX7_sumOf_9 ?_
  refine sn_iald (j := j7_sumOf) (pc := 10) rfl ⟨by decide, by decide⟩ dX7_sumOf_10 (fun w_4 => ?_)
  refine sn_icmp_ge (j := j7_sumOf) (pc := 11) 94 rfl dX7_sumOf_11 ?_ ?_
  · refine sn_iconst (j := j7_sumOf) (pc := 94) 0 rfl dX7_sumOf_94 ?_
    refine sn_istore_n (j := j7_sumOf) (pc := 95) rfl (by decide) (lo' := [some (.ref 46), some (.int x1), some (.int x2), some (.int 0)]) rfl dX7_sumOf_95 ?_
    exact Snd.wk (sl7_sumOf_96 FU x1 x2 0 M) (by simp [mm_le])
  · refine sn_iload_n (j := j7_sumOf) (pc := 14) rfl rfl dX7_sumOf_14 ?_
    refine sn_if_ne (j := j7_sumOf) (pc := 15) 39 rfl dX7_sumOf_15 ?_ ?_
    · refine sn_iload_n (j := j7_sumOf) (pc := 39) rfl rfl dX7_sumOf_39 ?_
      refine sn_iconst (j := j7_sumOf) (pc := 40) 1 rfl dX7_sumOf_40 ?_
      refine sn_icmp_ne (j := j7_sumOf) (pc := 41) 67 rfl dX7_sumOf_41 ?_ ?_
      · refine sn_iload_n (j := j7_sumOf) (pc := 67) rfl rfl dX7_sumOf_67 ?_
        refine sn_iconst (j := j7_sumOf) (pc := 68) 2 rfl dX7_sumOf_68 ?_
        refine sn_icmp_ne (j := j7_sumOf) (pc := 69) 86 rfl dX7_sumOf_69 ?_ ?_
        · refine sn_iload_n (j := j7_sumOf) (pc := 86) rfl rfl dX7_sumOf_86 ?_
          exact Snd.wk (sl7_sumOf_87 rec4 hrec4 x1 x3 x2 M) (by simp [mm_le])
        · refine sn_iload_n (j := j7_sumOf) (pc := 72) rfl rfl dX7_sumOf_72 ?_
          refine sn_aload_n (j := j7_sumOf) (pc := 73) rfl rfl dX7_sumOf_73 ?_
          refine g_X7_22 (j := j7_sumOf) (pc := 74) rfl dX7_sumOf_74 ?_
          refine sn_iload_n (j := j7_sumOf) (pc := 77) rfl rfl dX7_sumOf_77 ?_
          refine sn_iald (j := j7_sumOf) (pc := 78) rfl ⟨by decide, by decide⟩ dX7_sumOf_78 (fun w_5 => ?_)
          refine sn_callS (j := j7_sumOf) (pc := 79) (jc := j7_bits) (As := [.int w_5]) (s7_bits w_5 M) mm_hvI (by simp [Value.category]) (Nat.le_of_ble_eq_true rfl) q7_bits rfl (by decide) w_ml_X7_175 w_st_X7_bits rfl (Nat.le_of_ble_eq_true rfl) dX7_sumOf_79 ?_
          rintro ⟨r_6, M⟩
          show Snd injI j7_sumOf mm_X0 82 [some (.ref 46), some (.int x1), some (.int x2), some (.int x3)] [.int r_6, .int x2] M _
          refine sn_iadd (j := j7_sumOf) (pc := 82) dX7_sumOf_82 ?_
          refine sn_goto (j := j7_sumOf) (pc := 83) 87 rfl dX7_sumOf_83 ?_
          exact Snd.wk (sl7_sumOf_87 rec4 hrec4 x1 x3 (x2 + r_6) M) (by simp [mm_le])
      · refine sn_aload_n (j := j7_sumOf) (pc := 44) rfl rfl dX7_sumOf_44 ?_
        refine g_X7_28 (j := j7_sumOf) (pc := 45) rfl dX7_sumOf_45 ?_
        refine sn_iload_n (j := j7_sumOf) (pc := 48) rfl rfl dX7_sumOf_48 ?_
        refine sn_iald (j := j7_sumOf) (pc := 49) rfl ⟨by decide, by decide⟩ dX7_sumOf_49 (fun w_7 => ?_)
        refine sn_iload_n (j := j7_sumOf) (pc := 50) rfl rfl dX7_sumOf_50 ?_
        refine sn_icmp_le (j := j7_sumOf) (pc := 51) 63 rfl dX7_sumOf_51 ?_ ?_
        · refine sn_iload_n (j := j7_sumOf) (pc := 63) rfl rfl dX7_sumOf_63 ?_
          refine sn_goto (j := j7_sumOf) (pc := 64) 87 rfl dX7_sumOf_64 ?_
          exact Snd.wk (sl7_sumOf_87 rec4 hrec4 x1 x3 x2 M) (by simp [mm_le])
        · refine sn_aload_n (j := j7_sumOf) (pc := 54) rfl rfl dX7_sumOf_54 ?_
          refine g_X7_28 (j := j7_sumOf) (pc := 55) rfl dX7_sumOf_55 ?_
          refine sn_iload_n (j := j7_sumOf) (pc := 58) rfl rfl dX7_sumOf_58 ?_
          refine sn_iald (j := j7_sumOf) (pc := 59) rfl ⟨by decide, by decide⟩ dX7_sumOf_59 (fun w_8 => ?_)
          refine sn_goto (j := j7_sumOf) (pc := 60) 87 rfl dX7_sumOf_60 ?_
          exact Snd.wk (sl7_sumOf_87 rec4 hrec4 x1 x3 w_8 M) (by simp [mm_le])
    · refine sn_iload_n (j := j7_sumOf) (pc := 18) rfl rfl dX7_sumOf_18 ?_
      refine sn_aload_n (j := j7_sumOf) (pc := 19) rfl rfl dX7_sumOf_19 ?_
      refine g_X7_28 (j := j7_sumOf) (pc := 20) rfl dX7_sumOf_20 ?_
      refine sn_iload_n (j := j7_sumOf) (pc := 23) rfl rfl dX7_sumOf_23 ?_
      refine sn_iald (j := j7_sumOf) (pc := 24) rfl ⟨by decide, by decide⟩ dX7_sumOf_24 (fun w_9 => ?_)
      refine sn_aload_n (j := j7_sumOf) (pc := 25) rfl rfl dX7_sumOf_25 ?_
      refine g_X7_7 (j := j7_sumOf) (pc := 26) rfl dX7_sumOf_26 ?_
      refine sn_bipush (j := j7_sumOf) (pc := 29) 6 rfl dX7_sumOf_29 ?_
      refine sn_iload_n (j := j7_sumOf) (pc := 31) rfl rfl dX7_sumOf_31 ?_
      refine sn_iadd (j := j7_sumOf) (pc := 32) dX7_sumOf_32 ?_
      refine sn_iald (j := j7_sumOf) (pc := 33) rfl ⟨by decide, by decide⟩ dX7_sumOf_33 (fun w_10 => ?_)
      refine sn_imul (j := j7_sumOf) (pc := 34) dX7_sumOf_34 ?_
      refine sn_iadd (j := j7_sumOf) (pc := 35) dX7_sumOf_35 ?_
      refine sn_goto (j := j7_sumOf) (pc := 36) 87 rfl dX7_sumOf_36 ?_
      exact Snd.wk (sl7_sumOf_87 rec4 hrec4 x1 x3 (x2 + (w_9 * w_10)) M) (by simp [mm_le])
def l7_sumOf_4  : Nat → Int32 → Int32 → Int32 → mm_M → Option (Int32 × mm_M)
  | 0 => fun _ _ _ _ => none
  | n + 1 => fun x1 x2 x3 M => b7_sumOf_4  (l7_sumOf_4  n) x1 x2 x3 M
theorem sl7_sumOf_4   : ∀ (n : Nat) (x1 : Int32) (x2 : Int32) (x3 : Int32)  (M : mm_M), Snd injI j7_sumOf mm_X0 4 [some (.ref 46), some (.int x1), some (.int x2), some (.int x3)] [] M (l7_sumOf_4  n x1 x2 x3 M)
  | 0 => fun _ _ _  _ => Snd.none
  | n + 1 => fun x1 x2 x3  M => sb7_sumOf_4   (l7_sumOf_4  n) (fun x1 x2 x3 M  => sl7_sumOf_4   n x1 x2 x3  M) x1 x2 x3  M
def f7_sumOf (x1 : Int32) (M : mm_M) : Option (Int32 × mm_M) :=
  l7_sumOf_4 FU x1 0 0 M
set_option maxHeartbeats 2000000 in
theorem s7_sumOf (x1 : Int32) (M : mm_M) : Snd injI j7_sumOf mm_X0 0 [some (.ref 46), some (.int x1)] [] M (f7_sumOf x1 M) := by
  refine Snd.wk (lo' := [some (.ref 46), some (.int x1), none, none]) ?_ (by simp [mm_le])
  unfold f7_sumOf
  refine sn_iconst (j := j7_sumOf) (pc := 0) 0 rfl dX7_sumOf_0 ?_
  refine sn_istore_n (j := j7_sumOf) (pc := 1) rfl (by decide) (lo' := [some (.ref 46), some (.int x1), some (.int 0), none]) rfl dX7_sumOf_1 ?_
  refine sn_iconst (j := j7_sumOf) (pc := 2) 0 rfl dX7_sumOf_2 ?_
  refine sn_istore_n (j := j7_sumOf) (pc := 3) rfl (by decide) (lo' := [some (.ref 46), some (.int x1), some (.int 0), some (.int 0)]) rfl dX7_sumOf_3 ?_
  exact Snd.wk (sl7_sumOf_4 FU x1 0 0 M) (by simp [mm_le])
