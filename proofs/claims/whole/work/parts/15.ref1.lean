abbrev j7_thrown : mm_J := (yX7_thrown, cX7_thrown, 1, (some .int), 0)
theorem dX7_thrown_0 : decode cX7_thrown 0 = .ok (.aload_n 0, 1) := by decide +kernel
theorem dX7_thrown_1 : decode cX7_thrown 1 = .ok (.getfield 56, 3) := by decide +kernel
theorem dX7_thrown_4 : decode cX7_thrown 4 = .ok (.ireturn, 1) := by decide +kernel
def f7_thrown  (M : mm_M) : Option (Int32 × mm_M) :=
  bI (mI M 46 0) (fun v_1 => some (v_1, M))
set_option maxHeartbeats 2000000 in
theorem s7_thrown  (M : mm_M) : Snd injI j7_thrown mm_X0 0 [some (.ref 46)] [] M (f7_thrown  M) := by
  refine Snd.wk (lo' := [some (.ref 46)]) ?_ (by simp [mm_le])
  unfold f7_thrown
  refine sn_aload_n (j := j7_thrown) (pc := 0) rfl rfl dX7_thrown_0 ?_
  refine g_X7_56 (j := j7_thrown) (pc := 1) rfl dX7_thrown_1 ?_
  refine Snd.bI (fun v_1 => ?_)
  exact sn_iret (j := j7_thrown) (pc := 4) rfl dX7_thrown_4

abbrev j7_in : mm_J := (yX7_in, cX7_in, 3, (some .boolean), 0)
theorem dX7_in_0 : decode cX7_in 0 = .ok (.iload_n 0, 1) := by decide +kernel
theorem dX7_in_1 : decode cX7_in 1 = .ok (.iload_n 1, 1) := by decide +kernel
theorem dX7_in_2 : decode cX7_in 2 = .ok (.if_icmp .lt 12, 3) := by decide +kernel
theorem dX7_in_5 : decode cX7_in 5 = .ok (.iload_n 0, 1) := by decide +kernel
theorem dX7_in_6 : decode cX7_in 6 = .ok (.iload_n 2, 1) := by decide +kernel
theorem dX7_in_7 : decode cX7_in 7 = .ok (.if_icmp .gt 7, 3) := by decide +kernel
theorem dX7_in_10 : decode cX7_in 10 = .ok (.iconst 1, 1) := by decide +kernel
theorem dX7_in_11 : decode cX7_in 11 = .ok (.goto 4, 3) := by decide +kernel
theorem dX7_in_14 : decode cX7_in 14 = .ok (.iconst 0, 1) := by decide +kernel
theorem dX7_in_15 : decode cX7_in 15 = .ok (.ireturn, 1) := by decide +kernel
def l7_in_15  (s0 : Int32) (M : mm_M) : Option (Int32 × mm_M) :=
  rZ s0 M
set_option maxHeartbeats 2000000 in
theorem sl7_in_15   (s0 : Int32)  (M : mm_M) : Snd injI j7_in mm_X0 15 [none, none, none] [.int s0] M (l7_in_15  s0 M) := by
  unfold l7_in_15
  exact sn_zret (j := j7_in) (pc := 15) rfl dX7_in_15
def l7_in_14   (M : mm_M) : Option (Int32 × mm_M) :=
  l7_in_15 0 M
set_option maxHeartbeats 2000000 in
theorem sl7_in_14     (M : mm_M) : Snd injI j7_in mm_X0 14 [none, none, none] [] M (l7_in_14   M) := by
  unfold l7_in_14
  refine sn_iconst (j := j7_in) (pc := 14) 0 rfl dX7_in_14 ?_
  exact Snd.wk (sl7_in_15 0 M) (by simp [mm_le])
def f7_in (x0 : Int32) (x1 : Int32) (x2 : Int32) (M : mm_M) : Option (Int32 × mm_M) :=
  if x0 < x1 then (l7_in_14 M) else (if x2 < x0 then (l7_in_14 M) else (l7_in_15 1 M))
set_option maxHeartbeats 2000000 in
theorem s7_in (x0 : Int32) (x1 : Int32) (x2 : Int32) (M : mm_M) : Snd injI j7_in mm_X0 0 [some (.int x0), some (.int x1), some (.int x2)] [] M (f7_in x0 x1 x2 M) := by
  refine Snd.wk (lo' := [some (.int x0), some (.int x1), some (.int x2)]) ?_ (by simp [mm_le])
  unfold f7_in
  refine sn_iload_n (j := j7_in) (pc := 0) rfl rfl dX7_in_0 ?_
  refine sn_iload_n (j := j7_in) (pc := 1) rfl rfl dX7_in_1 ?_
  refine sn_icmp_lt (j := j7_in) (pc := 2) 14 rfl dX7_in_2 ?_ ?_
  · exact Snd.wk (sl7_in_14 M) (by simp [mm_le])
  · refine sn_iload_n (j := j7_in) (pc := 5) rfl rfl dX7_in_5 ?_
    refine sn_iload_n (j := j7_in) (pc := 6) rfl rfl dX7_in_6 ?_
    refine sn_icmp_gt (j := j7_in) (pc := 7) 14 rfl dX7_in_7 ?_ ?_
    · exact Snd.wk (sl7_in_14 M) (by simp [mm_le])
    · refine sn_iconst (j := j7_in) (pc := 10) 1 rfl dX7_in_10 ?_
      refine sn_goto (j := j7_in) (pc := 11) 15 rfl dX7_in_11 ?_
      exact Snd.wk (sl7_in_15 1 M) (by simp [mm_le])

abbrev j7_has : mm_J := (yX7_has, cX7_has, 2, (some .boolean), 0)
theorem dX7_has_0 : decode cX7_has 0 = .ok (.iload_n 0, 1) := by decide +kernel
theorem dX7_has_1 : decode cX7_has 1 = .ok (.iload_n 1, 1) := by decide +kernel
theorem dX7_has_2 : decode cX7_has 2 = .ok (.ishr, 1) := by decide +kernel
theorem dX7_has_3 : decode cX7_has 3 = .ok (.iconst 1, 1) := by decide +kernel
theorem dX7_has_4 : decode cX7_has 4 = .ok (.iand, 1) := by decide +kernel
theorem dX7_has_5 : decode cX7_has 5 = .ok (.iconst 1, 1) := by decide +kernel
theorem dX7_has_6 : decode cX7_has 6 = .ok (.if_icmp .ne 7, 3) := by decide +kernel
theorem dX7_has_9 : decode cX7_has 9 = .ok (.iconst 1, 1) := by decide +kernel
theorem dX7_has_10 : decode cX7_has 10 = .ok (.goto 4, 3) := by decide +kernel
theorem dX7_has_13 : decode cX7_has 13 = .ok (.iconst 0, 1) := by decide +kernel
theorem dX7_has_14 : decode cX7_has 14 = .ok (.ireturn, 1) := by decide +kernel
def l7_has_14  (s0 : Int32) (M : mm_M) : Option (Int32 × mm_M) :=
  rZ s0 M
set_option maxHeartbeats 2000000 in
theorem sl7_has_14   (s0 : Int32)  (M : mm_M) : Snd injI j7_has mm_X0 14 [none, none] [.int s0] M (l7_has_14  s0 M) := by
  unfold l7_has_14
  exact sn_zret (j := j7_has) (pc := 14) rfl dX7_has_14
def f7_has (x0 : Int32) (x1 : Int32) (M : mm_M) : Option (Int32 × mm_M) :=
  if ((x0 >>> (x1 &&& 31)) &&& 1) = 1 then (l7_has_14 1 M) else (l7_has_14 0 M)
set_option maxHeartbeats 2000000 in
theorem s7_has (x0 : Int32) (x1 : Int32) (M : mm_M) : Snd injI j7_has mm_X0 0 [some (.int x0), some (.int x1)] [] M (f7_has x0 x1 M) := by
  refine Snd.wk (lo' := [some (.int x0), some (.int x1)]) ?_ (by simp [mm_le])
  unfold f7_has
  refine sn_iload_n (j := j7_has) (pc := 0) rfl rfl dX7_has_0 ?_
  refine sn_iload_n (j := j7_has) (pc := 1) rfl rfl dX7_has_1 ?_
  refine sn_ishr (j := j7_has) (pc := 2) dX7_has_2 ?_
  refine sn_iconst (j := j7_has) (pc := 3) 1 rfl dX7_has_3 ?_
  refine sn_iand (j := j7_has) (pc := 4) dX7_has_4 ?_
  refine sn_iconst (j := j7_has) (pc := 5) 1 rfl dX7_has_5 ?_
  refine sn_icmp_ne (j := j7_has) (pc := 6) 13 rfl dX7_has_6 ?_ ?_
  · refine sn_iconst (j := j7_has) (pc := 13) 0 rfl dX7_has_13 ?_
    exact Snd.wk (sl7_has_14 0 M) (by simp [mm_le])
  · refine sn_iconst (j := j7_has) (pc := 9) 1 rfl dX7_has_9 ?_
    refine sn_goto (j := j7_has) (pc := 10) 14 rfl dX7_has_10 ?_
    exact Snd.wk (sl7_has_14 1 M) (by simp [mm_le])

abbrev j7_bits : mm_J := (yX7_bits, cX7_bits, 3, (some .int), 0)
theorem dX7_bits_0 : decode cX7_bits 0 = .ok (.iconst 0, 1) := by decide +kernel
theorem dX7_bits_1 : decode cX7_bits 1 = .ok (.istore_n 1, 1) := by decide +kernel
theorem dX7_bits_2 : decode cX7_bits 2 = .ok (.iload_n 0, 1) := by decide +kernel
theorem dX7_bits_3 : decode cX7_bits 3 = .ok (.istore_n 2, 1) := by decide +kernel
theorem dX7_bits_4 : decode cX7_bits 4 = .ok (.iload_n 2, 1) := by decide +kernel
theorem dX7_bits_5 : decode cX7_bits 5 = .ok (.ifCond .eq 15, 3) := by decide +kernel
theorem dX7_bits_8 : decode cX7_bits 8 = .ok (.iinc 1 1, 3) := by decide +kernel
theorem dX7_bits_11 : decode cX7_bits 11 = .ok (.iload_n 2, 1) := by decide +kernel
theorem dX7_bits_12 : decode cX7_bits 12 = .ok (.iload_n 2, 1) := by decide +kernel
theorem dX7_bits_13 : decode cX7_bits 13 = .ok (.iconst 1, 1) := by decide +kernel
theorem dX7_bits_14 : decode cX7_bits 14 = .ok (.isub, 1) := by decide +kernel
theorem dX7_bits_15 : decode cX7_bits 15 = .ok (.iand, 1) := by decide +kernel
theorem dX7_bits_16 : decode cX7_bits 16 = .ok (.istore_n 2, 1) := by decide +kernel
theorem dX7_bits_17 : decode cX7_bits 17 = .ok (.goto (-13), 3) := by decide +kernel
theorem dX7_bits_20 : decode cX7_bits 20 = .ok (.iload_n 1, 1) := by decide +kernel
theorem dX7_bits_21 : decode cX7_bits 21 = .ok (.ireturn, 1) := by decide +kernel
def b7_bits_4  (rec4 : Int32 → Int32 → mm_M → Option (Int32 × mm_M)) (x1 : Int32) (x2 : Int32) (M : mm_M) : Option (Int32 × mm_M) :=
  if x2 = 0 then (some (x1, M)) else (bI (x2 &&& (x2 - 1)) (fun x2_1 => rec4 (x1 + 1) x2_1 M))
set_option maxHeartbeats 2000000 in
theorem sb7_bits_4   (rec4 : Int32 → Int32 → mm_M → Option (Int32 × mm_M)) (hrec4 : ∀ (x1 : Int32) (x2 : Int32) (M : mm_M), Snd injI j7_bits mm_X0 4 [none, some (.int x1), some (.int x2)] [] M (rec4 x1 x2 M)) (x1 : Int32) (x2 : Int32)  (M : mm_M) : Snd injI j7_bits mm_X0 4 [none, some (.int x1), some (.int x2)] [] M (b7_bits_4  rec4 x1 x2 M) := by
  unfold b7_bits_4
  refine sn_iload_n (j := j7_bits) (pc := 4) rfl rfl dX7_bits_4 ?_
  refine sn_if_eq (j := j7_bits) (pc := 5) 20 rfl dX7_bits_5 ?_ ?_
  · refine sn_iload_n (j := j7_bits) (pc := 20) rfl rfl dX7_bits_20 ?_
    exact sn_iret (j := j7_bits) (pc := 21) rfl dX7_bits_21
  · refine sn_iinc (j := j7_bits) (pc := 8) 1 rfl (by decide) rfl (lo' := [none, some (.int (x1 + 1)), some (.int x2)]) rfl dX7_bits_8 ?_
    refine sn_iload_n (j := j7_bits) (pc := 11) rfl rfl dX7_bits_11 ?_
    refine sn_iload_n (j := j7_bits) (pc := 12) rfl rfl dX7_bits_12 ?_
    refine sn_iconst (j := j7_bits) (pc := 13) 1 rfl dX7_bits_13 ?_
    refine sn_isub (j := j7_bits) (pc := 14) dX7_bits_14 ?_
    refine sn_iand (j := j7_bits) (pc := 15) dX7_bits_15 ?_
    refine sn_istoreB_n (j := j7_bits) (pc := 16) rfl (fun x2_1 => [none, some (.int (x1 + 1)), some (.int x2_1)]) (by decide) (fun _ => rfl) dX7_bits_16 (fun x2_1 => ?_)
    refine sn_goto (j := j7_bits) (pc := 17) 4 rfl dX7_bits_17 ?_
    exact Snd.wk (hrec4 (x1 + 1) x2_1 M ) (by simp [mm_le])
def l7_bits_4  : Nat → Int32 → Int32 → mm_M → Option (Int32 × mm_M)
  | 0 => fun _ _ _ => none
  | n + 1 => fun x1 x2 M => b7_bits_4  (l7_bits_4  n) x1 x2 M
theorem sl7_bits_4   : ∀ (n : Nat) (x1 : Int32) (x2 : Int32)  (M : mm_M), Snd injI j7_bits mm_X0 4 [none, some (.int x1), some (.int x2)] [] M (l7_bits_4  n x1 x2 M)
  | 0 => fun _ _  _ => Snd.none
  | n + 1 => fun x1 x2  M => sb7_bits_4   (l7_bits_4  n) (fun x1 x2 M  => sl7_bits_4   n x1 x2  M) x1 x2  M
def f7_bits (x0 : Int32) (M : mm_M) : Option (Int32 × mm_M) :=
  l7_bits_4 FU 0 x0 M
set_option maxHeartbeats 2000000 in
theorem s7_bits (x0 : Int32) (M : mm_M) : Snd injI j7_bits mm_X0 0 [some (.int x0)] [] M (f7_bits x0 M) := by
  refine Snd.wk (lo' := [some (.int x0), none, none]) ?_ (by simp [mm_le])
  unfold f7_bits
  refine sn_iconst (j := j7_bits) (pc := 0) 0 rfl dX7_bits_0 ?_
  refine sn_istore_n (j := j7_bits) (pc := 1) rfl (by decide) (lo' := [some (.int x0), some (.int 0), none]) rfl dX7_bits_1 ?_
  refine sn_iload_n (j := j7_bits) (pc := 2) rfl rfl dX7_bits_2 ?_
  refine sn_istore_n (j := j7_bits) (pc := 3) rfl (by decide) (lo' := [some (.int x0), some (.int 0), some (.int x0)]) rfl dX7_bits_3 ?_
  exact Snd.wk (sl7_bits_4 FU 0 x0 M) (by simp [mm_le])

abbrev j7_of : mm_J := (yX7_of, cX7_of, 3, (some .int), 0)
theorem dX7_of_0 : decode cX7_of 0 = .ok (.aload_n 0, 1) := by decide +kernel
theorem dX7_of_1 : decode cX7_of 1 = .ok (.getfield 7, 3) := by decide +kernel
theorem dX7_of_4 : decode cX7_of 4 = .ok (.bipush 50, 2) := by decide +kernel
theorem dX7_of_6 : decode cX7_of 6 = .ok (.bipush 6, 2) := by decide +kernel
theorem dX7_of_8 : decode cX7_of 8 = .ok (.iload_n 1, 1) := by decide +kernel
theorem dX7_of_9 : decode cX7_of 9 = .ok (.imul, 1) := by decide +kernel
theorem dX7_of_10 : decode cX7_of 10 = .ok (.iadd, 1) := by decide +kernel
theorem dX7_of_11 : decode cX7_of 11 = .ok (.iload_n 2, 1) := by decide +kernel
theorem dX7_of_12 : decode cX7_of 12 = .ok (.iadd, 1) := by decide +kernel
theorem dX7_of_13 : decode cX7_of 13 = .ok (.iaload, 1) := by decide +kernel
theorem dX7_of_14 : decode cX7_of 14 = .ok (.ireturn, 1) := by decide +kernel
def f7_of (x1 : Int32) (x2 : Int32) (M : mm_M) : Option (Int32 × mm_M) :=
  aI 47 82 ((50 + (6 * x1)) + x2) M (fun w_1 => some (w_1, M))
set_option maxHeartbeats 2000000 in
theorem s7_of (x1 : Int32) (x2 : Int32) (M : mm_M) : Snd injI j7_of mm_X0 0 [some (.ref 46), some (.int x1), some (.int x2)] [] M (f7_of x1 x2 M) := by
  refine Snd.wk (lo' := [some (.ref 46), some (.int x1), some (.int x2)]) ?_ (by simp [mm_le])
  unfold f7_of
  refine sn_aload_n (j := j7_of) (pc := 0) rfl rfl dX7_of_0 ?_
  refine g_X7_7 (j := j7_of) (pc := 1) rfl dX7_of_1 ?_
  refine sn_bipush (j := j7_of) (pc := 4) 50 rfl dX7_of_4 ?_
  refine sn_bipush (j := j7_of) (pc := 6) 6 rfl dX7_of_6 ?_
  refine sn_iload_n (j := j7_of) (pc := 8) rfl rfl dX7_of_8 ?_
  refine sn_imul (j := j7_of) (pc := 9) dX7_of_9 ?_
  refine sn_iadd (j := j7_of) (pc := 10) dX7_of_10 ?_
  refine sn_iload_n (j := j7_of) (pc := 11) rfl rfl dX7_of_11 ?_
  refine sn_iadd (j := j7_of) (pc := 12) dX7_of_12 ?_
  refine sn_iald (j := j7_of) (pc := 13) rfl ⟨by decide, by decide⟩ dX7_of_13 (fun w_1 => ?_)
  exact sn_iret (j := j7_of) (pc := 14) rfl dX7_of_14

abbrev j7_isBus : mm_J := (yX7_isBus, cX7_isBus, 2, (some .boolean), 1)
theorem dX7_isBus_0 : decode cX7_isBus 0 = .ok (.iload_n 1, 1) := by decide +kernel
theorem dX7_isBus_1 : decode cX7_isBus 1 = .ok (.iconst 0, 1) := by decide +kernel
theorem dX7_isBus_2 : decode cX7_isBus 2 = .ok (.aload_n 0, 1) := by decide +kernel
theorem dX7_isBus_3 : decode cX7_isBus 3 = .ok (.getfield 7, 3) := by decide +kernel
theorem dX7_isBus_6 : decode cX7_isBus 6 = .ok (.iconst 1, 1) := by decide +kernel
theorem dX7_isBus_7 : decode cX7_isBus 7 = .ok (.iaload, 1) := by decide +kernel
theorem dX7_isBus_8 : decode cX7_isBus 8 = .ok (.iconst 1, 1) := by decide +kernel
theorem dX7_isBus_9 : decode cX7_isBus 9 = .ok (.isub, 1) := by decide +kernel
theorem dX7_isBus_10 : decode cX7_isBus 10 = .ok (.invokestatic 60, 3) := by decide +kernel
theorem dX7_isBus_13 : decode cX7_isBus 13 = .ok (.ireturn, 1) := by decide +kernel
def f7_isBus (x1 : Int32) (M : mm_M) : Option (Int32 × mm_M) :=
  aI 47 82 1 M (fun w_1 => cI (f7_in x1 0 (w_1 - 1) M) (fun r_2 M => rZ r_2 M))
set_option maxHeartbeats 2000000 in
theorem s7_isBus (x1 : Int32) (M : mm_M) : Snd injI j7_isBus mm_X0 0 [some (.ref 46), some (.int x1)] [] M (f7_isBus x1 M) := by
  refine Snd.wk (lo' := [some (.ref 46), some (.int x1)]) ?_ (by simp [mm_le])
  unfold f7_isBus
  refine sn_iload_n (j := j7_isBus) (pc := 0) rfl rfl dX7_isBus_0 ?_
  refine sn_iconst (j := j7_isBus) (pc := 1) 0 rfl dX7_isBus_1 ?_
  refine sn_aload_n (j := j7_isBus) (pc := 2) rfl rfl dX7_isBus_2 ?_
  refine g_X7_7 (j := j7_isBus) (pc := 3) rfl dX7_isBus_3 ?_
  refine sn_iconst (j := j7_isBus) (pc := 6) 1 rfl dX7_isBus_6 ?_
  refine sn_iald (j := j7_isBus) (pc := 7) rfl ⟨by decide, by decide⟩ dX7_isBus_7 (fun w_1 => ?_)
  refine sn_iconst (j := j7_isBus) (pc := 8) 1 rfl dX7_isBus_8 ?_
  refine sn_isub (j := j7_isBus) (pc := 9) dX7_isBus_9 ?_
  refine sn_callS (j := j7_isBus) (pc := 10) (jc := j7_in) (As := [.int x1, .int 0, .int (w_1 - 1)]) (s7_in x1 0 (w_1 - 1) M) mm_hvI (by simp [Value.category]) (Nat.le_of_ble_eq_true rfl) q7_in rfl (by decide) w_ml_X7_60 w_st_X7_in rfl (Nat.le_of_ble_eq_true rfl) dX7_isBus_10 ?_
  rintro ⟨r_2, M⟩
  show Snd injI j7_isBus mm_X0 13 [some (.ref 46), some (.int x1)] [.int r_2] M _
  exact sn_zret (j := j7_isBus) (pc := 13) rfl dX7_isBus_13

abbrev j7_isSlot : mm_J := (yX7_isSlot, cX7_isSlot, 2, (some .boolean), 1)
theorem dX7_isSlot_0 : decode cX7_isSlot 0 = .ok (.iload_n 1, 1) := by decide +kernel
theorem dX7_isSlot_1 : decode cX7_isSlot 1 = .ok (.iconst 0, 1) := by decide +kernel
theorem dX7_isSlot_2 : decode cX7_isSlot 2 = .ok (.aload_n 0, 1) := by decide +kernel
theorem dX7_isSlot_3 : decode cX7_isSlot 3 = .ok (.getfield 7, 3) := by decide +kernel
theorem dX7_isSlot_6 : decode cX7_isSlot 6 = .ok (.iconst 0, 1) := by decide +kernel
theorem dX7_isSlot_7 : decode cX7_isSlot 7 = .ok (.iaload, 1) := by decide +kernel
theorem dX7_isSlot_8 : decode cX7_isSlot 8 = .ok (.iconst 1, 1) := by decide +kernel
theorem dX7_isSlot_9 : decode cX7_isSlot 9 = .ok (.isub, 1) := by decide +kernel
theorem dX7_isSlot_10 : decode cX7_isSlot 10 = .ok (.invokestatic 60, 3) := by decide +kernel
theorem dX7_isSlot_13 : decode cX7_isSlot 13 = .ok (.ireturn, 1) := by decide +kernel
def f7_isSlot (x1 : Int32) (M : mm_M) : Option (Int32 × mm_M) :=
  aI 47 82 0 M (fun w_1 => cI (f7_in x1 0 (w_1 - 1) M) (fun r_2 M => rZ r_2 M))
set_option maxHeartbeats 2000000 in
theorem s7_isSlot (x1 : Int32) (M : mm_M) : Snd injI j7_isSlot mm_X0 0 [some (.ref 46), some (.int x1)] [] M (f7_isSlot x1 M) := by
  refine Snd.wk (lo' := [some (.ref 46), some (.int x1)]) ?_ (by simp [mm_le])
  unfold f7_isSlot
  refine sn_iload_n (j := j7_isSlot) (pc := 0) rfl rfl dX7_isSlot_0 ?_
  refine sn_iconst (j := j7_isSlot) (pc := 1) 0 rfl dX7_isSlot_1 ?_
  refine sn_aload_n (j := j7_isSlot) (pc := 2) rfl rfl dX7_isSlot_2 ?_
  refine g_X7_7 (j := j7_isSlot) (pc := 3) rfl dX7_isSlot_3 ?_
  refine sn_iconst (j := j7_isSlot) (pc := 6) 0 rfl dX7_isSlot_6 ?_
  refine sn_iald (j := j7_isSlot) (pc := 7) rfl ⟨by decide, by decide⟩ dX7_isSlot_7 (fun w_1 => ?_)
  refine sn_iconst (j := j7_isSlot) (pc := 8) 1 rfl dX7_isSlot_8 ?_
  refine sn_isub (j := j7_isSlot) (pc := 9) dX7_isSlot_9 ?_
  refine sn_callS (j := j7_isSlot) (pc := 10) (jc := j7_in) (As := [.int x1, .int 0, .int (w_1 - 1)]) (s7_in x1 0 (w_1 - 1) M) mm_hvI (by simp [Value.category]) (Nat.le_of_ble_eq_true rfl) q7_in rfl (by decide) w_ml_X7_60 w_st_X7_in rfl (Nat.le_of_ble_eq_true rfl) dX7_isSlot_10 ?_
  rintro ⟨r_2, M⟩
  show Snd injI j7_isSlot mm_X0 13 [some (.ref 46), some (.int x1)] [.int r_2] M _
  exact sn_zret (j := j7_isSlot) (pc := 13) rfl dX7_isSlot_13

abbrev j7_four : mm_J := (yX7_four, cX7_four, 3, none, 0)
theorem dX7_four_0 : decode cX7_four 0 = .ok (.bipush 24, 2) := by decide +kernel
theorem dX7_four_2 : decode cX7_four 2 = .ok (.istore_n 2, 1) := by decide +kernel
theorem dX7_four_3 : decode cX7_four 3 = .ok (.iload_n 2, 1) := by decide +kernel
theorem dX7_four_4 : decode cX7_four 4 = .ok (.ifCond .lt 35, 3) := by decide +kernel
theorem dX7_four_7 : decode cX7_four 7 = .ok (.aload_n 0, 1) := by decide +kernel
theorem dX7_four_8 : decode cX7_four 8 = .ok (.getfield 16, 3) := by decide +kernel
theorem dX7_four_11 : decode cX7_four 11 = .ok (.aload_n 0, 1) := by decide +kernel
theorem dX7_four_12 : decode cX7_four 12 = .ok (.getfield 64, 3) := by decide +kernel
theorem dX7_four_15 : decode cX7_four 15 = .ok (.iload_n 1, 1) := by decide +kernel
theorem dX7_four_16 : decode cX7_four 16 = .ok (.iload_n 2, 1) := by decide +kernel
theorem dX7_four_17 : decode cX7_four 17 = .ok (.ishr, 1) := by decide +kernel
theorem dX7_four_18 : decode cX7_four 18 = .ok (.sipush 255, 3) := by decide +kernel
theorem dX7_four_21 : decode cX7_four 21 = .ok (.iand, 1) := by decide +kernel
theorem dX7_four_22 : decode cX7_four 22 = .ok (.iastore, 1) := by decide +kernel
theorem dX7_four_23 : decode cX7_four 23 = .ok (.aload_n 0, 1) := by decide +kernel
theorem dX7_four_24 : decode cX7_four 24 = .ok (.dup, 1) := by decide +kernel
theorem dX7_four_25 : decode cX7_four 25 = .ok (.getfield 64, 3) := by decide +kernel
theorem dX7_four_28 : decode cX7_four 28 = .ok (.iconst 1, 1) := by decide +kernel
theorem dX7_four_29 : decode cX7_four 29 = .ok (.iadd, 1) := by decide +kernel
theorem dX7_four_30 : decode cX7_four 30 = .ok (.putfield 64, 3) := by decide +kernel
theorem dX7_four_33 : decode cX7_four 33 = .ok (.iinc 2 (-8), 3) := by decide +kernel
theorem dX7_four_36 : decode cX7_four 36 = .ok (.goto (-33), 3) := by decide +kernel
theorem dX7_four_39 : decode cX7_four 39 = .ok (.return_, 1) := by decide +kernel
def b7_four_3  (rec3 : Int32 → Int32 → mm_M → Option (mm_M)) (x1 : Int32) (x2 : Int32) (M : mm_M) : Option (mm_M) :=
  if x2 < 0 then (some M) else (bI (mI M 46 4) (fun v_1 => uI 49 400 v_1 ((x1 >>> (x2 &&& 31)) &&& 255) M (fun M => bI (mI M 46 4) (fun v_2 => bM (sI M 46 4 (v_2 + 1)) (fun M => rec3 x1 (x2 + (-8)) M)))))
set_option maxHeartbeats 2000000 in
theorem sb7_four_3   (rec3 : Int32 → Int32 → mm_M → Option (mm_M)) (hrec3 : ∀ (x1 : Int32) (x2 : Int32) (M : mm_M), Snd injV j7_four mm_X0 3 [some (.ref 46), some (.int x1), some (.int x2)] [] M (rec3 x1 x2 M)) (x1 : Int32) (x2 : Int32)  (M : mm_M) : Snd injV j7_four mm_X0 3 [some (.ref 46), some (.int x1), some (.int x2)] [] M (b7_four_3  rec3 x1 x2 M) := by
  unfold b7_four_3
  refine sn_iload_n (j := j7_four) (pc := 3) rfl rfl dX7_four_3 ?_
  refine sn_if_lt (j := j7_four) (pc := 4) 39 rfl dX7_four_4 ?_ ?_
  · exact sn_vret (j := j7_four) (pc := 39) rfl dX7_four_39
  · refine sn_aload_n (j := j7_four) (pc := 7) rfl rfl dX7_four_7 ?_
    refine g_X7_16 (j := j7_four) (pc := 8) rfl dX7_four_8 ?_
    refine sn_aload_n (j := j7_four) (pc := 11) rfl rfl dX7_four_11 ?_
    refine g_X7_64 (j := j7_four) (pc := 12) rfl dX7_four_12 ?_
    refine Snd.bI (fun v_1 => ?_)
    refine sn_iload_n (j := j7_four) (pc := 15) rfl rfl dX7_four_15 ?_
    refine sn_iload_n (j := j7_four) (pc := 16) rfl rfl dX7_four_16 ?_
    refine sn_ishr (j := j7_four) (pc := 17) dX7_four_17 ?_
    refine sn_sipush (j := j7_four) (pc := 18) 255 rfl dX7_four_18 ?_
    refine sn_iand (j := j7_four) (pc := 21) dX7_four_21 ?_
    refine sn_iast (j := j7_four) (pc := 22) rfl ⟨by decide, by decide⟩ dX7_four_22 (fun M => ?_)
    refine sn_aload_n (j := j7_four) (pc := 23) rfl rfl dX7_four_23 ?_
    refine sn_dup (j := j7_four) (pc := 24) rfl dX7_four_24 ?_
    refine g_X7_64 (j := j7_four) (pc := 25) rfl dX7_four_25 ?_
    refine Snd.bI (fun v_2 => ?_)
    refine sn_iconst (j := j7_four) (pc := 28) 1 rfl dX7_four_28 ?_
    refine sn_iadd (j := j7_four) (pc := 29) dX7_four_29 ?_
    refine p_X7_64 (j := j7_four) (pc := 30) rfl dX7_four_30 (fun M => ?_)
    refine sn_iinc (j := j7_four) (pc := 33) (-8) rfl (by decide) rfl (lo' := [some (.ref 46), some (.int x1), some (.int (x2 + (-8)))]) rfl dX7_four_33 ?_
    refine sn_goto (j := j7_four) (pc := 36) 3 rfl dX7_four_36 ?_
    exact Snd.wk (hrec3 x1 (x2 + (-8)) M ) (by simp [mm_le])
def l7_four_3  : Nat → Int32 → Int32 → mm_M → Option (mm_M)
  | 0 => fun _ _ _ => none
  | n + 1 => fun x1 x2 M => b7_four_3  (l7_four_3  n) x1 x2 M
theorem sl7_four_3   : ∀ (n : Nat) (x1 : Int32) (x2 : Int32)  (M : mm_M), Snd injV j7_four mm_X0 3 [some (.ref 46), some (.int x1), some (.int x2)] [] M (l7_four_3  n x1 x2 M)
  | 0 => fun _ _  _ => Snd.none
  | n + 1 => fun x1 x2  M => sb7_four_3   (l7_four_3  n) (fun x1 x2 M  => sl7_four_3   n x1 x2  M) x1 x2  M
def f7_four (x1 : Int32) (M : mm_M) : Option (mm_M) :=
  l7_four_3 FU x1 24 M
set_option maxHeartbeats 2000000 in
theorem s7_four (x1 : Int32) (M : mm_M) : Snd injV j7_four mm_X0 0 [some (.ref 46), some (.int x1)] [] M (f7_four x1 M) := by
  refine Snd.wk (lo' := [some (.ref 46), some (.int x1), none]) ?_ (by simp [mm_le])
  unfold f7_four
  refine sn_bipush (j := j7_four) (pc := 0) 24 rfl dX7_four_0 ?_
  refine sn_istore_n (j := j7_four) (pc := 2) rfl (by decide) (lo' := [some (.ref 46), some (.int x1), some (.int 24)]) rfl dX7_four_2 ?_
  exact Snd.wk (sl7_four_3 FU x1 24 M) (by simp [mm_le])

abbrev j7_feed : mm_J := (yX7_feed, cX7_feed, 6, (some .int), 1)
theorem dX7_feed_0 : decode cX7_feed 0 = .ok (.aload_n 0, 1) := by decide +kernel
theorem dX7_feed_1 : decode cX7_feed 1 = .ok (.iconst 0, 1) := by decide +kernel
theorem dX7_feed_2 : decode cX7_feed 2 = .ok (.putfield 56, 3) := by decide +kernel
theorem dX7_feed_5 : decode cX7_feed 5 = .ok (.aload_n 0, 1) := by decide +kernel
theorem dX7_feed_6 : decode cX7_feed 6 = .ok (.getfield 64, 3) := by decide +kernel
theorem dX7_feed_9 : decode cX7_feed 9 = .ok (.bipush 20, 2) := by decide +kernel
theorem dX7_feed_11 : decode cX7_feed 11 = .ok (.iadd, 1) := by decide +kernel
theorem dX7_feed_12 : decode cX7_feed 12 = .ok (.sipush 400, 3) := by decide +kernel
theorem dX7_feed_15 : decode cX7_feed 15 = .ok (.if_icmp .le 5, 3) := by decide +kernel
theorem dX7_feed_18 : decode cX7_feed 18 = .ok (.iconst (-1), 1) := by decide +kernel
theorem dX7_feed_19 : decode cX7_feed 19 = .ok (.ireturn, 1) := by decide +kernel
theorem dX7_feed_20 : decode cX7_feed 20 = .ok (.aload_n 0, 1) := by decide +kernel
theorem dX7_feed_21 : decode cX7_feed 21 = .ok (.iload_n 1, 1) := by decide +kernel
theorem dX7_feed_22 : decode cX7_feed 22 = .ok (.invokevirtual 67, 3) := by decide +kernel
theorem dX7_feed_25 : decode cX7_feed 25 = .ok (.aload_n 0, 1) := by decide +kernel
theorem dX7_feed_26 : decode cX7_feed 26 = .ok (.iload_n 2, 1) := by decide +kernel
theorem dX7_feed_27 : decode cX7_feed 27 = .ok (.invokevirtual 67, 3) := by decide +kernel
theorem dX7_feed_30 : decode cX7_feed 30 = .ok (.aload_n 0, 1) := by decide +kernel
theorem dX7_feed_31 : decode cX7_feed 31 = .ok (.iload_n 3, 1) := by decide +kernel
theorem dX7_feed_32 : decode cX7_feed 32 = .ok (.invokevirtual 67, 3) := by decide +kernel
theorem dX7_feed_35 : decode cX7_feed 35 = .ok (.aload_n 0, 1) := by decide +kernel
theorem dX7_feed_36 : decode cX7_feed 36 = .ok (.iload 4, 2) := by decide +kernel
theorem dX7_feed_38 : decode cX7_feed 38 = .ok (.invokevirtual 67, 3) := by decide +kernel
theorem dX7_feed_41 : decode cX7_feed 41 = .ok (.aload_n 0, 1) := by decide +kernel
theorem dX7_feed_42 : decode cX7_feed 42 = .ok (.iload 5, 2) := by decide +kernel
theorem dX7_feed_44 : decode cX7_feed 44 = .ok (.invokevirtual 67, 3) := by decide +kernel
theorem dX7_feed_47 : decode cX7_feed 47 = .ok (.aload_n 0, 1) := by decide +kernel
theorem dX7_feed_48 : decode cX7_feed 48 = .ok (.getfield 64, 3) := by decide +kernel
theorem dX7_feed_51 : decode cX7_feed 51 = .ok (.ireturn, 1) := by decide +kernel
def f7_feed (x1 : Int32) (x2 : Int32) (x3 : Int32) (x4 : Int32) (x5 : Int32) (M : mm_M) : Option (Int32 × mm_M) :=
  bM (sI M 46 0 0) (fun M => bI (mI M 46 4) (fun v_1 => if (v_1 + 20) ≤ 400 then (cV (f7_four x1 M) (fun M => cV (f7_four x2 M) (fun M => cV (f7_four x3 M) (fun M => cV (f7_four x4 M) (fun M => cV (f7_four x5 M) (fun M => bI (mI M 46 4) (fun v_2 => some (v_2, M)))))))) else (some ((-1), M))))
set_option maxHeartbeats 2000000 in
theorem s7_feed (x1 : Int32) (x2 : Int32) (x3 : Int32) (x4 : Int32) (x5 : Int32) (M : mm_M) : Snd injI j7_feed mm_X0 0 [some (.ref 46), some (.int x1), some (.int x2), some (.int x3), some (.int x4), some (.int x5)] [] M (f7_feed x1 x2 x3 x4 x5 M) := by
  refine Snd.wk (lo' := [some (.ref 46), some (.int x1), some (.int x2), some (.int x3), some (.int x4), some (.int x5)]) ?_ (by simp [mm_le])
  unfold f7_feed
  refine sn_aload_n (j := j7_feed) (pc := 0) rfl rfl dX7_feed_0 ?_
  refine sn_iconst (j := j7_feed) (pc := 1) 0 rfl dX7_feed_1 ?_
  refine p_X7_56 (j := j7_feed) (pc := 2) rfl dX7_feed_2 (fun M => ?_)
  refine sn_aload_n (j := j7_feed) (pc := 5) rfl rfl dX7_feed_5 ?_
  refine g_X7_64 (j := j7_feed) (pc := 6) rfl dX7_feed_6 ?_
  refine Snd.bI (fun v_1 => ?_)
  refine sn_bipush (j := j7_feed) (pc := 9) 20 rfl dX7_feed_9 ?_
  refine sn_iadd (j := j7_feed) (pc := 11) dX7_feed_11 ?_
  refine sn_sipush (j := j7_feed) (pc := 12) 400 rfl dX7_feed_12 ?_
  refine sn_icmp_le (j := j7_feed) (pc := 15) 20 rfl dX7_feed_15 ?_ ?_
  · refine sn_aload_n (j := j7_feed) (pc := 20) rfl rfl dX7_feed_20 ?_
    refine sn_iload_n (j := j7_feed) (pc := 21) rfl rfl dX7_feed_21 ?_
    refine sn_callV (j := j7_feed) (pc := 22) (jc := j7_four) (As := [.int x1]) (s7_four x1 M) mm_hvV (by simp [Value.category]) (Nat.le_of_ble_eq_true rfl) q7_four rfl (by decide) rfl rfl ⟨by decide, by decide⟩ w_ml_X7_67 w_im_X7_four w_se_X7_four rfl (Nat.le_of_ble_eq_true rfl) dX7_feed_22 ?_
    intro M
    show Snd injI j7_feed mm_X0 25 [some (.ref 46), some (.int x1), some (.int x2), some (.int x3), some (.int x4), some (.int x5)] [] M _
    refine sn_aload_n (j := j7_feed) (pc := 25) rfl rfl dX7_feed_25 ?_
    refine sn_iload_n (j := j7_feed) (pc := 26) rfl rfl dX7_feed_26 ?_
    refine sn_callV (j := j7_feed) (pc := 27) (jc := j7_four) (As := [.int x2]) (s7_four x2 M) mm_hvV (by simp [Value.category]) (Nat.le_of_ble_eq_true rfl) q7_four rfl (by decide) rfl rfl ⟨by decide, by decide⟩ w_ml_X7_67 w_im_X7_four w_se_X7_four rfl (Nat.le_of_ble_eq_true rfl) dX7_feed_27 ?_
    intro M
    show Snd injI j7_feed mm_X0 30 [some (.ref 46), some (.int x1), some (.int x2), some (.int x3), some (.int x4), some (.int x5)] [] M _
    refine sn_aload_n (j := j7_feed) (pc := 30) rfl rfl dX7_feed_30 ?_
    refine sn_iload_n (j := j7_feed) (pc := 31) rfl rfl dX7_feed_31 ?_
    refine sn_callV (j := j7_feed) (pc := 32) (jc := j7_four) (As := [.int x3]) (s7_four x3 M) mm_hvV (by simp [Value.category]) (Nat.le_of_ble_eq_true rfl) q7_four rfl (by decide) rfl rfl ⟨by decide, by decide⟩ w_ml_X7_67 w_im_X7_four w_se_X7_four rfl (Nat.le_of_ble_eq_true rfl) dX7_feed_32 ?_
    intro M
    show Snd injI j7_feed mm_X0 35 [some (.ref 46), some (.int x1), some (.int x2), some (.int x3), some (.int x4), some (.int x5)] [] M _
    refine sn_aload_n (j := j7_feed) (pc := 35) rfl rfl dX7_feed_35 ?_
    refine sn_iload (j := j7_feed) (pc := 36) rfl dX7_feed_36 ?_
    refine sn_callV (j := j7_feed) (pc := 38) (jc := j7_four) (As := [.int x4]) (s7_four x4 M) mm_hvV (by simp [Value.category]) (Nat.le_of_ble_eq_true rfl) q7_four rfl (by decide) rfl rfl ⟨by decide, by decide⟩ w_ml_X7_67 w_im_X7_four w_se_X7_four rfl (Nat.le_of_ble_eq_true rfl) dX7_feed_38 ?_
    intro M
    show Snd injI j7_feed mm_X0 41 [some (.ref 46), some (.int x1), some (.int x2), some (.int x3), some (.int x4), some (.int x5)] [] M _
    refine sn_aload_n (j := j7_feed) (pc := 41) rfl rfl dX7_feed_41 ?_
    refine sn_iload (j := j7_feed) (pc := 42) rfl dX7_feed_42 ?_
    refine sn_callV (j := j7_feed) (pc := 44) (jc := j7_four) (As := [.int x5]) (s7_four x5 M) mm_hvV (by simp [Value.category]) (Nat.le_of_ble_eq_true rfl) q7_four rfl (by decide) rfl rfl ⟨by decide, by decide⟩ w_ml_X7_67 w_im_X7_four w_se_X7_four rfl (Nat.le_of_ble_eq_true rfl) dX7_feed_44 ?_
    intro M
    show Snd injI j7_feed mm_X0 47 [some (.ref 46), some (.int x1), some (.int x2), some (.int x3), some (.int x4), some (.int x5)] [] M _
    refine sn_aload_n (j := j7_feed) (pc := 47) rfl rfl dX7_feed_47 ?_
    refine g_X7_64 (j := j7_feed) (pc := 48) rfl dX7_feed_48 ?_
    refine Snd.bI (fun v_2 => ?_)
    exact sn_iret (j := j7_feed) (pc := 51) rfl dX7_feed_51
  · refine sn_iconst (j := j7_feed) (pc := 18) (-1) rfl dX7_feed_18 ?_
    exact sn_iret (j := j7_feed) (pc := 19) rfl dX7_feed_19

abbrev j7_end : mm_J := (yX7_end, cX7_end, 2, (some .boolean), 1)
theorem dX7_end_0 : decode cX7_end 0 = .ok (.aload_n 0, 1) := by decide +kernel
theorem dX7_end_1 : decode cX7_end 1 = .ok (.iconst 0, 1) := by decide +kernel
theorem dX7_end_2 : decode cX7_end 2 = .ok (.putfield 56, 3) := by decide +kernel
theorem dX7_end_5 : decode cX7_end 5 = .ok (.iload_n 1, 1) := by decide +kernel
theorem dX7_end_6 : decode cX7_end 6 = .ok (.iconst 0, 1) := by decide +kernel
theorem dX7_end_7 : decode cX7_end 7 = .ok (.aload_n 0, 1) := by decide +kernel
theorem dX7_end_8 : decode cX7_end 8 = .ok (.getfield 64, 3) := by decide +kernel
theorem dX7_end_11 : decode cX7_end 11 = .ok (.invokestatic 60, 3) := by decide +kernel
theorem dX7_end_14 : decode cX7_end 14 = .ok (.ifCond .ne 5, 3) := by decide +kernel
theorem dX7_end_17 : decode cX7_end 17 = .ok (.iconst 0, 1) := by decide +kernel
theorem dX7_end_18 : decode cX7_end 18 = .ok (.ireturn, 1) := by decide +kernel
theorem dX7_end_19 : decode cX7_end 19 = .ok (.aload_n 0, 1) := by decide +kernel
theorem dX7_end_20 : decode cX7_end 20 = .ok (.iload_n 1, 1) := by decide +kernel
theorem dX7_end_21 : decode cX7_end 21 = .ok (.putfield 64, 3) := by decide +kernel
theorem dX7_end_24 : decode cX7_end 24 = .ok (.iconst 1, 1) := by decide +kernel
theorem dX7_end_25 : decode cX7_end 25 = .ok (.ireturn, 1) := by decide +kernel
def f7_end (x1 : Int32) (M : mm_M) : Option (Int32 × mm_M) :=
  bM (sI M 46 0 0) (fun M => bI (mI M 46 4) (fun v_1 => cI (f7_in x1 0 v_1 M) (fun r_2 M => if r_2 = 0 then (rZ 0 M) else (bM (sI M 46 4 x1) (fun M => rZ 1 M)))))
set_option maxHeartbeats 2000000 in
theorem s7_end (x1 : Int32) (M : mm_M) : Snd injI j7_end mm_X0 0 [some (.ref 46), some (.int x1)] [] M (f7_end x1 M) := by
  refine Snd.wk (lo' := [some (.ref 46), some (.int x1)]) ?_ (by simp [mm_le])
  unfold f7_end
  refine sn_aload_n (j := j7_end) (pc := 0) rfl rfl dX7_end_0 ?_
  refine sn_iconst (j := j7_end) (pc := 1) 0 rfl dX7_end_1 ?_
  refine p_X7_56 (j := j7_end) (pc := 2) rfl dX7_end_2 (fun M => ?_)
  refine sn_iload_n (j := j7_end) (pc := 5) rfl rfl dX7_end_5 ?_
  refine sn_iconst (j := j7_end) (pc := 6) 0 rfl dX7_end_6 ?_
  refine sn_aload_n (j := j7_end) (pc := 7) rfl rfl dX7_end_7 ?_
  refine g_X7_64 (j := j7_end) (pc := 8) rfl dX7_end_8 ?_
  refine Snd.bI (fun v_1 => ?_)
  refine sn_callS (j := j7_end) (pc := 11) (jc := j7_in) (As := [.int x1, .int 0, .int v_1]) (s7_in x1 0 v_1 M) mm_hvI (by simp [Value.category]) (Nat.le_of_ble_eq_true rfl) q7_in rfl (by decide) w_ml_X7_60 w_st_X7_in rfl (Nat.le_of_ble_eq_true rfl) dX7_end_11 ?_
  rintro ⟨r_2, M⟩
  show Snd injI j7_end mm_X0 14 [some (.ref 46), some (.int x1)] [.int r_2] M _
  refine sn_if_ne (j := j7_end) (pc := 14) 19 rfl dX7_end_14 ?_ ?_
  · refine sn_aload_n (j := j7_end) (pc := 19) rfl rfl dX7_end_19 ?_
    refine sn_iload_n (j := j7_end) (pc := 20) rfl rfl dX7_end_20 ?_
    refine p_X7_64 (j := j7_end) (pc := 21) rfl dX7_end_21 (fun M => ?_)
    refine sn_iconst (j := j7_end) (pc := 24) 1 rfl dX7_end_24 ?_
    exact sn_zret (j := j7_end) (pc := 25) rfl dX7_end_25
  · refine sn_iconst (j := j7_end) (pc := 17) 0 rfl dX7_end_17 ?_
    exact sn_zret (j := j7_end) (pc := 18) rfl dX7_end_18

abbrev j7_here : mm_J := (yX7_here, cX7_here, 1, (some .int), 0)
theorem dX7_here_0 : decode cX7_here 0 = .ok (.aload_n 0, 1) := by decide +kernel
theorem dX7_here_1 : decode cX7_here 1 = .ok (.getfield 71, 3) := by decide +kernel
theorem dX7_here_4 : decode cX7_here 4 = .ok (.aload_n 0, 1) := by decide +kernel
theorem dX7_here_5 : decode cX7_here 5 = .ok (.getfield 64, 3) := by decide +kernel
theorem dX7_here_8 : decode cX7_here 8 = .ok (.if_icmp .ge 44, 3) := by decide +kernel
theorem dX7_here_11 : decode cX7_here 11 = .ok (.aload_n 0, 1) := by decide +kernel
theorem dX7_here_12 : decode cX7_here 12 = .ok (.getfield 16, 3) := by decide +kernel
theorem dX7_here_15 : decode cX7_here 15 = .ok (.aload_n 0, 1) := by decide +kernel
theorem dX7_here_16 : decode cX7_here 16 = .ok (.getfield 71, 3) := by decide +kernel
theorem dX7_here_19 : decode cX7_here 19 = .ok (.iaload, 1) := by decide +kernel
theorem dX7_here_20 : decode cX7_here 20 = .ok (.bipush 32, 2) := by decide +kernel
theorem dX7_here_22 : decode cX7_here 22 = .ok (.if_icmp .eq 17, 3) := by decide +kernel
theorem dX7_here_25 : decode cX7_here 25 = .ok (.aload_n 0, 1) := by decide +kernel
theorem dX7_here_26 : decode cX7_here 26 = .ok (.getfield 16, 3) := by decide +kernel
theorem dX7_here_29 : decode cX7_here 29 = .ok (.aload_n 0, 1) := by decide +kernel
theorem dX7_here_30 : decode cX7_here 30 = .ok (.getfield 71, 3) := by decide +kernel
theorem dX7_here_33 : decode cX7_here 33 = .ok (.iaload, 1) := by decide +kernel
theorem dX7_here_34 : decode cX7_here 34 = .ok (.bipush 10, 2) := by decide +kernel
theorem dX7_here_36 : decode cX7_here 36 = .ok (.if_icmp .ne 16, 3) := by decide +kernel
theorem dX7_here_39 : decode cX7_here 39 = .ok (.aload_n 0, 1) := by decide +kernel
theorem dX7_here_40 : decode cX7_here 40 = .ok (.dup, 1) := by decide +kernel
theorem dX7_here_41 : decode cX7_here 41 = .ok (.getfield 71, 3) := by decide +kernel
theorem dX7_here_44 : decode cX7_here 44 = .ok (.iconst 1, 1) := by decide +kernel
theorem dX7_here_45 : decode cX7_here 45 = .ok (.iadd, 1) := by decide +kernel
theorem dX7_here_46 : decode cX7_here 46 = .ok (.putfield 71, 3) := by decide +kernel
theorem dX7_here_49 : decode cX7_here 49 = .ok (.goto (-49), 3) := by decide +kernel
theorem dX7_here_52 : decode cX7_here 52 = .ok (.aload_n 0, 1) := by decide +kernel
theorem dX7_here_53 : decode cX7_here 53 = .ok (.getfield 71, 3) := by decide +kernel
theorem dX7_here_56 : decode cX7_here 56 = .ok (.aload_n 0, 1) := by decide +kernel
theorem dX7_here_57 : decode cX7_here 57 = .ok (.getfield 64, 3) := by decide +kernel
theorem dX7_here_60 : decode cX7_here 60 = .ok (.if_icmp .ge 15, 3) := by decide +kernel
theorem dX7_here_63 : decode cX7_here 63 = .ok (.aload_n 0, 1) := by decide +kernel
theorem dX7_here_64 : decode cX7_here 64 = .ok (.getfield 16, 3) := by decide +kernel
theorem dX7_here_67 : decode cX7_here 67 = .ok (.aload_n 0, 1) := by decide +kernel
theorem dX7_here_68 : decode cX7_here 68 = .ok (.getfield 71, 3) := by decide +kernel
theorem dX7_here_71 : decode cX7_here 71 = .ok (.iaload, 1) := by decide +kernel
theorem dX7_here_72 : decode cX7_here 72 = .ok (.goto 4, 3) := by decide +kernel
theorem dX7_here_75 : decode cX7_here 75 = .ok (.iconst (-1), 1) := by decide +kernel
theorem dX7_here_76 : decode cX7_here 76 = .ok (.ireturn, 1) := by decide +kernel
def l7_here_76  (s0 : Int32) (M : mm_M) : Option (Int32 × mm_M) :=
  some (s0, M)
set_option maxHeartbeats 2000000 in
theorem sl7_here_76   (s0 : Int32)  (M : mm_M) : Snd injI j7_here mm_X0 76 [none] [.int s0] M (l7_here_76  s0 M) := by
  unfold l7_here_76
  exact sn_iret (j := j7_here) (pc := 76) rfl dX7_here_76
def l7_here_52   (M : mm_M) : Option (Int32 × mm_M) :=
  bI (mI M 46 6) (fun v_1 => bI (mI M 46 4) (fun v_2 => if v_2 ≤ v_1 then (l7_here_76 (-1) M) else (bI (mI M 46 6) (fun v_3 => aI 49 400 v_3 M (fun w_4 => l7_here_76 w_4 M)))))
set_option maxHeartbeats 2000000 in
theorem sl7_here_52     (M : mm_M) : Snd injI j7_here mm_X0 52 [some (.ref 46)] [] M (l7_here_52   M) := by
  unfold l7_here_52
  refine sn_aload_n (j := j7_here) (pc := 52) rfl rfl dX7_here_52 ?_
  refine g_X7_71 (j := j7_here) (pc := 53) rfl dX7_here_53 ?_
  refine Snd.bI (fun v_1 => ?_)
  refine sn_aload_n (j := j7_here) (pc := 56) rfl rfl dX7_here_56 ?_
  refine g_X7_64 (j := j7_here) (pc := 57) rfl dX7_here_57 ?_
  refine Snd.bI (fun v_2 => ?_)
  refine sn_icmp_ge (j := j7_here) (pc := 60) 75 rfl dX7_here_60 ?_ ?_
  · refine sn_iconst (j := j7_here) (pc := 75) (-1) rfl dX7_here_75 ?_
    exact Snd.wk (sl7_here_76 (-1) M) (by simp [mm_le])
  · refine sn_aload_n (j := j7_here) (pc := 63) rfl rfl dX7_here_63 ?_
    refine g_X7_16 (j := j7_here) (pc := 64) rfl dX7_here_64 ?_
    refine sn_aload_n (j := j7_here) (pc := 67) rfl rfl dX7_here_67 ?_
    refine g_X7_71 (j := j7_here) (pc := 68) rfl dX7_here_68 ?_
    refine Snd.bI (fun v_3 => ?_)
    refine sn_iald (j := j7_here) (pc := 71) rfl ⟨by decide, by decide⟩ dX7_here_71 (fun w_4 => ?_)
    refine sn_goto (j := j7_here) (pc := 72) 76 rfl dX7_here_72 ?_
    exact Snd.wk (sl7_here_76 w_4 M) (by simp [mm_le])
def l7_here_39 (rec0 : mm_M → Option (Int32 × mm_M))  (M : mm_M) : Option (Int32 × mm_M) :=
  bI (mI M 46 6) (fun v_5 => bM (sI M 46 6 (v_5 + 1)) (fun M => rec0 M))
set_option maxHeartbeats 2000000 in
theorem sl7_here_39 (rec0 : mm_M → Option (Int32 × mm_M)) (hrec0 : ∀  (M : mm_M), Snd injI j7_here mm_X0 0 [some (.ref 46)] [] M (rec0  M))   (M : mm_M) : Snd injI j7_here mm_X0 39 [some (.ref 46)] [] M (l7_here_39 rec0  M) := by
  unfold l7_here_39
  refine sn_aload_n (j := j7_here) (pc := 39) rfl rfl dX7_here_39 ?_
  refine sn_dup (j := j7_here) (pc := 40) rfl dX7_here_40 ?_
  refine g_X7_71 (j := j7_here) (pc := 41) rfl dX7_here_41 ?_
  refine Snd.bI (fun v_5 => ?_)
  refine sn_iconst (j := j7_here) (pc := 44) 1 rfl dX7_here_44 ?_
  refine sn_iadd (j := j7_here) (pc := 45) dX7_here_45 ?_
  refine p_X7_71 (j := j7_here) (pc := 46) rfl dX7_here_46 (fun M => ?_)
  refine sn_goto (j := j7_here) (pc := 49) 0 rfl dX7_here_49 ?_
  exact Snd.wk (hrec0 M ) (by simp [mm_le])
def b7_here_0  (rec0 : mm_M → Option (Int32 × mm_M))  (M : mm_M) : Option (Int32 × mm_M) :=
  bI (mI M 46 6) (fun v_6 => bI (mI M 46 4) (fun v_7 => if v_7 ≤ v_6 then (l7_here_52 M) else (bI (mI M 46 6) (fun v_8 => aI 49 400 v_8 M (fun w_9 => if w_9 = 32 then (l7_here_39 rec0 M) else (bI (mI M 46 6) (fun v_10 => aI 49 400 v_10 M (fun w_11 => if w_11 = 10 then (l7_here_39 rec0 M) else (l7_here_52 M)))))))))
set_option maxHeartbeats 2000000 in
theorem sb7_here_0   (rec0 : mm_M → Option (Int32 × mm_M)) (hrec0 : ∀  (M : mm_M), Snd injI j7_here mm_X0 0 [some (.ref 46)] [] M (rec0  M))   (M : mm_M) : Snd injI j7_here mm_X0 0 [some (.ref 46)] [] M (b7_here_0  rec0  M) := by
  unfold b7_here_0
  refine sn_aload_n (j := j7_here) (pc := 0) rfl rfl dX7_here_0 ?_
  refine g_X7_71 (j := j7_here) (pc := 1) rfl dX7_here_1 ?_
  refine Snd.bI (fun v_6 => ?_)
  refine sn_aload_n (j := j7_here) (pc := 4) rfl rfl dX7_here_4 ?_
  refine g_X7_64 (j := j7_here) (pc := 5) rfl dX7_here_5 ?_
  refine Snd.bI (fun v_7 => ?_)
  refine sn_icmp_ge (j := j7_here) (pc := 8) 52 rfl dX7_here_8 ?_ ?_
  · exact Snd.wk (sl7_here_52 M) (by simp [mm_le])
  · refine sn_aload_n (j := j7_here) (pc := 11) rfl rfl dX7_here_11 ?_
    refine g_X7_16 (j := j7_here) (pc := 12) rfl dX7_here_12 ?_
    refine sn_aload_n (j := j7_here) (pc := 15) rfl rfl dX7_here_15 ?_
    refine g_X7_71 (j := j7_here) (pc := 16) rfl dX7_here_16 ?_
    refine Snd.bI (fun v_8 => ?_)
    refine sn_iald (j := j7_here) (pc := 19) rfl ⟨by decide, by decide⟩ dX7_here_19 (fun w_9 => ?_)
    refine sn_bipush (j := j7_here) (pc := 20) 32 rfl dX7_here_20 ?_
    refine sn_icmp_eq (j := j7_here) (pc := 22) 39 rfl dX7_here_22 ?_ ?_
    · exact Snd.wk (sl7_here_39 rec0 hrec0 M) (by simp [mm_le])
    · refine sn_aload_n (j := j7_here) (pc := 25) rfl rfl dX7_here_25 ?_
      refine g_X7_16 (j := j7_here) (pc := 26) rfl dX7_here_26 ?_
      refine sn_aload_n (j := j7_here) (pc := 29) rfl rfl dX7_here_29 ?_
      refine g_X7_71 (j := j7_here) (pc := 30) rfl dX7_here_30 ?_
      refine Snd.bI (fun v_10 => ?_)
      refine sn_iald (j := j7_here) (pc := 33) rfl ⟨by decide, by decide⟩ dX7_here_33 (fun w_11 => ?_)
      refine sn_bipush (j := j7_here) (pc := 34) 10 rfl dX7_here_34 ?_
      refine sn_icmp_ne (j := j7_here) (pc := 36) 52 rfl dX7_here_36 ?_ ?_
      · exact Snd.wk (sl7_here_52 M) (by simp [mm_le])
      · exact Snd.wk (sl7_here_39 rec0 hrec0 M) (by simp [mm_le])
def l7_here_0  : Nat → mm_M → Option (Int32 × mm_M)
  | 0 => fun  _ => none
  | n + 1 => fun  M => b7_here_0  (l7_here_0  n)  M
theorem sl7_here_0   : ∀ (n : Nat)   (M : mm_M), Snd injI j7_here mm_X0 0 [some (.ref 46)] [] M (l7_here_0  n  M)
  | 0 => fun   _ => Snd.none
  | n + 1 => fun   M => sb7_here_0   (l7_here_0  n) (fun  M  => sl7_here_0   n   M)   M
def f7_here  (M : mm_M) : Option (Int32 × mm_M) :=
  l7_here_0 FU M
set_option maxHeartbeats 2000000 in
theorem s7_here  (M : mm_M) : Snd injI j7_here mm_X0 0 [some (.ref 46)] [] M (f7_here  M) := by
  refine Snd.wk (lo' := [some (.ref 46)]) ?_ (by simp [mm_le])
  unfold f7_here
  exact Snd.wk (sl7_here_0 FU M) (by simp [mm_le])

abbrev j7_fails : mm_J := (yX7_fails, cX7_fails, 3, (some .boolean), 0)
theorem dX7_fails_0 : decode cX7_fails 0 = .ok (.aload_n 0, 1) := by decide +kernel
theorem dX7_fails_1 : decode cX7_fails 1 = .ok (.iload_n 1, 1) := by decide +kernel
theorem dX7_fails_2 : decode cX7_fails 2 = .ok (.bipush 8, 2) := by decide +kernel
theorem dX7_fails_4 : decode cX7_fails 4 = .ok (.iload_n 2, 1) := by decide +kernel
theorem dX7_fails_5 : decode cX7_fails 5 = .ok (.imul, 1) := by decide +kernel
theorem dX7_fails_6 : decode cX7_fails 6 = .ok (.iadd, 1) := by decide +kernel
theorem dX7_fails_7 : decode cX7_fails 7 = .ok (.putfield 74, 3) := by decide +kernel
theorem dX7_fails_10 : decode cX7_fails 10 = .ok (.iconst 0, 1) := by decide +kernel
theorem dX7_fails_11 : decode cX7_fails 11 = .ok (.ireturn, 1) := by decide +kernel
def f7_fails (x1 : Int32) (x2 : Int32) (M : mm_M) : Option (Int32 × mm_M) :=
  bM (sI M 46 7 (x1 + (8 * x2))) (fun M => rZ 0 M)
set_option maxHeartbeats 2000000 in
theorem s7_fails (x1 : Int32) (x2 : Int32) (M : mm_M) : Snd injI j7_fails mm_X0 0 [some (.ref 46), some (.int x1), some (.int x2)] [] M (f7_fails x1 x2 M) := by
  refine Snd.wk (lo' := [some (.ref 46), some (.int x1), some (.int x2)]) ?_ (by simp [mm_le])
  unfold f7_fails
  refine sn_aload_n (j := j7_fails) (pc := 0) rfl rfl dX7_fails_0 ?_
  refine sn_iload_n (j := j7_fails) (pc := 1) rfl rfl dX7_fails_1 ?_
  refine sn_bipush (j := j7_fails) (pc := 2) 8 rfl dX7_fails_2 ?_
  refine sn_iload_n (j := j7_fails) (pc := 4) rfl rfl dX7_fails_4 ?_
  refine sn_imul (j := j7_fails) (pc := 5) dX7_fails_5 ?_
  refine sn_iadd (j := j7_fails) (pc := 6) dX7_fails_6 ?_
  refine p_X7_74 (j := j7_fails) (pc := 7) rfl dX7_fails_7 (fun M => ?_)
  refine sn_iconst (j := j7_fails) (pc := 10) 0 rfl dX7_fails_10 ?_
  exact sn_zret (j := j7_fails) (pc := 11) rfl dX7_fails_11

abbrev j7_isNumber : mm_J := (yX7_isNumber, cX7_isNumber, 1, (some .boolean), 1)
theorem dX7_isNumber_0 : decode cX7_isNumber 0 = .ok (.aload_n 0, 1) := by decide +kernel
theorem dX7_isNumber_1 : decode cX7_isNumber 1 = .ok (.invokevirtual 77, 3) := by decide +kernel
theorem dX7_isNumber_4 : decode cX7_isNumber 4 = .ok (.bipush 48, 2) := by decide +kernel
theorem dX7_isNumber_6 : decode cX7_isNumber 6 = .ok (.bipush 57, 2) := by decide +kernel
theorem dX7_isNumber_8 : decode cX7_isNumber 8 = .ok (.invokestatic 60, 3) := by decide +kernel
theorem dX7_isNumber_11 : decode cX7_isNumber 11 = .ok (.ireturn, 1) := by decide +kernel
def f7_isNumber  (M : mm_M) : Option (Int32 × mm_M) :=
  cI (f7_here M) (fun r_1 M => cI (f7_in r_1 48 57 M) (fun r_2 M => rZ r_2 M))
set_option maxHeartbeats 2000000 in
theorem s7_isNumber  (M : mm_M) : Snd injI j7_isNumber mm_X0 0 [some (.ref 46)] [] M (f7_isNumber  M) := by
  refine Snd.wk (lo' := [some (.ref 46)]) ?_ (by simp [mm_le])
  unfold f7_isNumber
  refine sn_aload_n (j := j7_isNumber) (pc := 0) rfl rfl dX7_isNumber_0 ?_
  refine sn_callV (j := j7_isNumber) (pc := 1) (jc := j7_here) (As := []) (s7_here M) mm_hvI (by simp [Value.category]) (Nat.le_of_ble_eq_true rfl) q7_here rfl (by decide) rfl rfl ⟨by decide, by decide⟩ w_ml_X7_77 w_im_X7_here w_se_X7_here rfl (Nat.le_of_ble_eq_true rfl) dX7_isNumber_1 ?_
  rintro ⟨r_1, M⟩
  show Snd injI j7_isNumber mm_X0 4 [some (.ref 46)] [.int r_1] M _
  refine sn_bipush (j := j7_isNumber) (pc := 4) 48 rfl dX7_isNumber_4 ?_
  refine sn_bipush (j := j7_isNumber) (pc := 6) 57 rfl dX7_isNumber_6 ?_
  refine sn_callS (j := j7_isNumber) (pc := 8) (jc := j7_in) (As := [.int r_1, .int 48, .int 57]) (s7_in r_1 48 57 M) mm_hvI (by simp [Value.category]) (Nat.le_of_ble_eq_true rfl) q7_in rfl (by decide) w_ml_X7_60 w_st_X7_in rfl (Nat.le_of_ble_eq_true rfl) dX7_isNumber_8 ?_
  rintro ⟨r_2, M⟩
  show Snd injI j7_isNumber mm_X0 11 [some (.ref 46)] [.int r_2] M _
  exact sn_zret (j := j7_isNumber) (pc := 11) rfl dX7_isNumber_11

abbrev j7_readPlain : mm_J := (yX7_readPlain, cX7_readPlain, 1, (some .boolean), 2)
theorem dX7_readPlain_0 : decode cX7_readPlain 0 = .ok (.aload_n 0, 1) := by decide +kernel
theorem dX7_readPlain_1 : decode cX7_readPlain 1 = .ok (.invokevirtual 81, 3) := by decide +kernel
theorem dX7_readPlain_4 : decode cX7_readPlain 4 = .ok (.ifCond .ne 13, 3) := by decide +kernel
theorem dX7_readPlain_7 : decode cX7_readPlain 7 = .ok (.aload_n 0, 1) := by decide +kernel
theorem dX7_readPlain_8 : decode cX7_readPlain 8 = .ok (.iconst 1, 1) := by decide +kernel
theorem dX7_readPlain_9 : decode cX7_readPlain 9 = .ok (.aload_n 0, 1) := by decide +kernel
theorem dX7_readPlain_10 : decode cX7_readPlain 10 = .ok (.getfield 71, 3) := by decide +kernel
theorem dX7_readPlain_13 : decode cX7_readPlain 13 = .ok (.invokevirtual 85, 3) := by decide +kernel
theorem dX7_readPlain_16 : decode cX7_readPlain 16 = .ok (.ireturn, 1) := by decide +kernel
theorem dX7_readPlain_17 : decode cX7_readPlain 17 = .ok (.aload_n 0, 1) := by decide +kernel
theorem dX7_readPlain_18 : decode cX7_readPlain 18 = .ok (.aload_n 0, 1) := by decide +kernel
theorem dX7_readPlain_19 : decode cX7_readPlain 19 = .ok (.getfield 71, 3) := by decide +kernel
theorem dX7_readPlain_22 : decode cX7_readPlain 22 = .ok (.putfield 89, 3) := by decide +kernel
theorem dX7_readPlain_25 : decode cX7_readPlain 25 = .ok (.aload_n 0, 1) := by decide +kernel
theorem dX7_readPlain_26 : decode cX7_readPlain 26 = .ok (.iconst 0, 1) := by decide +kernel
theorem dX7_readPlain_27 : decode cX7_readPlain 27 = .ok (.putfield 92, 3) := by decide +kernel
theorem dX7_readPlain_30 : decode cX7_readPlain 30 = .ok (.aload_n 0, 1) := by decide +kernel
theorem dX7_readPlain_31 : decode cX7_readPlain 31 = .ok (.getfield 71, 3) := by decide +kernel
theorem dX7_readPlain_34 : decode cX7_readPlain 34 = .ok (.aload_n 0, 1) := by decide +kernel
theorem dX7_readPlain_35 : decode cX7_readPlain 35 = .ok (.getfield 64, 3) := by decide +kernel
theorem dX7_readPlain_38 : decode cX7_readPlain 38 = .ok (.if_icmp .ge 79, 3) := by decide +kernel
theorem dX7_readPlain_41 : decode cX7_readPlain 41 = .ok (.aload_n 0, 1) := by decide +kernel
theorem dX7_readPlain_42 : decode cX7_readPlain 42 = .ok (.getfield 16, 3) := by decide +kernel
theorem dX7_readPlain_45 : decode cX7_readPlain 45 = .ok (.aload_n 0, 1) := by decide +kernel
theorem dX7_readPlain_46 : decode cX7_readPlain 46 = .ok (.getfield 71, 3) := by decide +kernel
theorem dX7_readPlain_49 : decode cX7_readPlain 49 = .ok (.iaload, 1) := by decide +kernel
theorem dX7_readPlain_50 : decode cX7_readPlain 50 = .ok (.bipush 48, 2) := by decide +kernel
theorem dX7_readPlain_52 : decode cX7_readPlain 52 = .ok (.bipush 57, 2) := by decide +kernel
theorem dX7_readPlain_54 : decode cX7_readPlain 54 = .ok (.invokestatic 60, 3) := by decide +kernel
theorem dX7_readPlain_57 : decode cX7_readPlain 57 = .ok (.ifCond .eq 60, 3) := by decide +kernel
theorem dX7_readPlain_60 : decode cX7_readPlain 60 = .ok (.aload_n 0, 1) := by decide +kernel
theorem dX7_readPlain_61 : decode cX7_readPlain 61 = .ok (.aload_n 0, 1) := by decide +kernel
theorem dX7_readPlain_62 : decode cX7_readPlain 62 = .ok (.getfield 71, 3) := by decide +kernel
theorem dX7_readPlain_65 : decode cX7_readPlain 65 = .ok (.aload_n 0, 1) := by decide +kernel
theorem dX7_readPlain_66 : decode cX7_readPlain 66 = .ok (.getfield 89, 3) := by decide +kernel
theorem dX7_readPlain_69 : decode cX7_readPlain 69 = .ok (.isub, 1) := by decide +kernel
theorem dX7_readPlain_70 : decode cX7_readPlain 70 = .ok (.iconst 4, 1) := by decide +kernel
theorem dX7_readPlain_71 : decode cX7_readPlain 71 = .ok (.if_icmp .ge 26, 3) := by decide +kernel
theorem dX7_readPlain_74 : decode cX7_readPlain 74 = .ok (.bipush 10, 2) := by decide +kernel
theorem dX7_readPlain_76 : decode cX7_readPlain 76 = .ok (.aload_n 0, 1) := by decide +kernel
theorem dX7_readPlain_77 : decode cX7_readPlain 77 = .ok (.getfield 92, 3) := by decide +kernel
theorem dX7_readPlain_80 : decode cX7_readPlain 80 = .ok (.imul, 1) := by decide +kernel
theorem dX7_readPlain_81 : decode cX7_readPlain 81 = .ok (.aload_n 0, 1) := by decide +kernel
theorem dX7_readPlain_82 : decode cX7_readPlain 82 = .ok (.getfield 16, 3) := by decide +kernel
theorem dX7_readPlain_85 : decode cX7_readPlain 85 = .ok (.aload_n 0, 1) := by decide +kernel
theorem dX7_readPlain_86 : decode cX7_readPlain 86 = .ok (.getfield 71, 3) := by decide +kernel
theorem dX7_readPlain_89 : decode cX7_readPlain 89 = .ok (.iaload, 1) := by decide +kernel
theorem dX7_readPlain_90 : decode cX7_readPlain 90 = .ok (.iadd, 1) := by decide +kernel
theorem dX7_readPlain_91 : decode cX7_readPlain 91 = .ok (.bipush 48, 2) := by decide +kernel
theorem dX7_readPlain_93 : decode cX7_readPlain 93 = .ok (.isub, 1) := by decide +kernel
theorem dX7_readPlain_94 : decode cX7_readPlain 94 = .ok (.goto 7, 3) := by decide +kernel
theorem dX7_readPlain_97 : decode cX7_readPlain 97 = .ok (.aload_n 0, 1) := by decide +kernel
theorem dX7_readPlain_98 : decode cX7_readPlain 98 = .ok (.getfield 92, 3) := by decide +kernel
theorem dX7_readPlain_101 : decode cX7_readPlain 101 = .ok (.putfield 92, 3) := by decide +kernel
theorem dX7_readPlain_104 : decode cX7_readPlain 104 = .ok (.aload_n 0, 1) := by decide +kernel
theorem dX7_readPlain_105 : decode cX7_readPlain 105 = .ok (.dup, 1) := by decide +kernel
theorem dX7_readPlain_106 : decode cX7_readPlain 106 = .ok (.getfield 71, 3) := by decide +kernel
theorem dX7_readPlain_109 : decode cX7_readPlain 109 = .ok (.iconst 1, 1) := by decide +kernel
theorem dX7_readPlain_110 : decode cX7_readPlain 110 = .ok (.iadd, 1) := by decide +kernel
theorem dX7_readPlain_111 : decode cX7_readPlain 111 = .ok (.putfield 71, 3) := by decide +kernel
theorem dX7_readPlain_114 : decode cX7_readPlain 114 = .ok (.goto (-84), 3) := by decide +kernel
theorem dX7_readPlain_117 : decode cX7_readPlain 117 = .ok (.aload_n 0, 1) := by decide +kernel
theorem dX7_readPlain_118 : decode cX7_readPlain 118 = .ok (.getfield 71, 3) := by decide +kernel
theorem dX7_readPlain_121 : decode cX7_readPlain 121 = .ok (.aload_n 0, 1) := by decide +kernel
theorem dX7_readPlain_122 : decode cX7_readPlain 122 = .ok (.getfield 89, 3) := by decide +kernel
theorem dX7_readPlain_125 : decode cX7_readPlain 125 = .ok (.isub, 1) := by decide +kernel
theorem dX7_readPlain_126 : decode cX7_readPlain 126 = .ok (.iconst 4, 1) := by decide +kernel
theorem dX7_readPlain_127 : decode cX7_readPlain 127 = .ok (.if_icmp .le 15, 3) := by decide +kernel
theorem dX7_readPlain_130 : decode cX7_readPlain 130 = .ok (.aload_n 0, 1) := by decide +kernel
theorem dX7_readPlain_131 : decode cX7_readPlain 131 = .ok (.iconst 1, 1) := by decide +kernel
theorem dX7_readPlain_132 : decode cX7_readPlain 132 = .ok (.aload_n 0, 1) := by decide +kernel
theorem dX7_readPlain_133 : decode cX7_readPlain 133 = .ok (.getfield 89, 3) := by decide +kernel
theorem dX7_readPlain_136 : decode cX7_readPlain 136 = .ok (.invokevirtual 85, 3) := by decide +kernel
theorem dX7_readPlain_139 : decode cX7_readPlain 139 = .ok (.ifCond .eq 7, 3) := by decide +kernel
theorem dX7_readPlain_142 : decode cX7_readPlain 142 = .ok (.iconst 1, 1) := by decide +kernel
theorem dX7_readPlain_143 : decode cX7_readPlain 143 = .ok (.goto 4, 3) := by decide +kernel
theorem dX7_readPlain_146 : decode cX7_readPlain 146 = .ok (.iconst 0, 1) := by decide +kernel
theorem dX7_readPlain_147 : decode cX7_readPlain 147 = .ok (.ireturn, 1) := by decide +kernel
def l7_readPlain_147  (s0 : Int32) (M : mm_M) : Option (Int32 × mm_M) :=
  rZ s0 M
set_option maxHeartbeats 2000000 in
theorem sl7_readPlain_147   (s0 : Int32)  (M : mm_M) : Snd injI j7_readPlain mm_X0 147 [none] [.int s0] M (l7_readPlain_147  s0 M) := by
  unfold l7_readPlain_147
  exact sn_zret (j := j7_readPlain) (pc := 147) rfl dX7_readPlain_147
def l7_readPlain_142   (M : mm_M) : Option (Int32 × mm_M) :=
  l7_readPlain_147 1 M
set_option maxHeartbeats 2000000 in
theorem sl7_readPlain_142     (M : mm_M) : Snd injI j7_readPlain mm_X0 142 [none] [] M (l7_readPlain_142   M) := by
  unfold l7_readPlain_142
  refine sn_iconst (j := j7_readPlain) (pc := 142) 1 rfl dX7_readPlain_142 ?_
  refine sn_goto (j := j7_readPlain) (pc := 143) 147 rfl dX7_readPlain_143 ?_
  exact Snd.wk (sl7_readPlain_147 1 M) (by simp [mm_le])
def l7_readPlain_117   (M : mm_M) : Option (Int32 × mm_M) :=
  bI (mI M 46 6) (fun v_1 => bI (mI M 46 9) (fun v_2 => if (v_1 - v_2) ≤ 4 then (l7_readPlain_142 M) else (bI (mI M 46 9) (fun v_3 => cI (f7_fails 1 v_3 M) (fun r_4 M => if r_4 = 0 then (l7_readPlain_147 0 M) else (l7_readPlain_142 M))))))
set_option maxHeartbeats 2000000 in
theorem sl7_readPlain_117     (M : mm_M) : Snd injI j7_readPlain mm_X0 117 [some (.ref 46)] [] M (l7_readPlain_117   M) := by
  unfold l7_readPlain_117
  refine sn_aload_n (j := j7_readPlain) (pc := 117) rfl rfl dX7_readPlain_117 ?_
  refine g_X7_71 (j := j7_readPlain) (pc := 118) rfl dX7_readPlain_118 ?_
  refine Snd.bI (fun v_1 => ?_)
  refine sn_aload_n (j := j7_readPlain) (pc := 121) rfl rfl dX7_readPlain_121 ?_
  refine g_X7_89 (j := j7_readPlain) (pc := 122) rfl dX7_readPlain_122 ?_
  refine Snd.bI (fun v_2 => ?_)
  refine sn_isub (j := j7_readPlain) (pc := 125) dX7_readPlain_125 ?_
  refine sn_iconst (j := j7_readPlain) (pc := 126) 4 rfl dX7_readPlain_126 ?_
  refine sn_icmp_le (j := j7_readPlain) (pc := 127) 142 rfl dX7_readPlain_127 ?_ ?_
  · exact Snd.wk (sl7_readPlain_142 M) (by simp [mm_le])
  · refine sn_aload_n (j := j7_readPlain) (pc := 130) rfl rfl dX7_readPlain_130 ?_
    refine sn_iconst (j := j7_readPlain) (pc := 131) 1 rfl dX7_readPlain_131 ?_
    refine sn_aload_n (j := j7_readPlain) (pc := 132) rfl rfl dX7_readPlain_132 ?_
    refine g_X7_89 (j := j7_readPlain) (pc := 133) rfl dX7_readPlain_133 ?_
    refine Snd.bI (fun v_3 => ?_)
    refine sn_callV (j := j7_readPlain) (pc := 136) (jc := j7_fails) (As := [.int 1, .int v_3]) (s7_fails 1 v_3 M) mm_hvI (by simp [Value.category]) (Nat.le_of_ble_eq_true rfl) q7_fails rfl (by decide) rfl rfl ⟨by decide, by decide⟩ w_ml_X7_85 w_im_X7_fails w_se_X7_fails rfl (Nat.le_of_ble_eq_true rfl) dX7_readPlain_136 ?_
    rintro ⟨r_4, M⟩
    show Snd injI j7_readPlain mm_X0 139 [some (.ref 46)] [.int r_4] M _
    refine sn_if_eq (j := j7_readPlain) (pc := 139) 146 rfl dX7_readPlain_139 ?_ ?_
    · refine sn_iconst (j := j7_readPlain) (pc := 146) 0 rfl dX7_readPlain_146 ?_
      exact Snd.wk (sl7_readPlain_147 0 M) (by simp [mm_le])
    · exact Snd.wk (sl7_readPlain_142 M) (by simp [mm_le])
def l7_readPlain_101 (rec30 : mm_M → Option (Int32 × mm_M)) (s0 : Int32) (M : mm_M) : Option (Int32 × mm_M) :=
  bM (sI M 46 8 s0) (fun M => bI (mI M 46 6) (fun v_5 => bM (sI M 46 6 (v_5 + 1)) (fun M => rec30 M)))
set_option maxHeartbeats 2000000 in
theorem sl7_readPlain_101 (rec30 : mm_M → Option (Int32 × mm_M)) (hrec30 : ∀  (M : mm_M), Snd injI j7_readPlain mm_X0 30 [some (.ref 46)] [] M (rec30  M)) (s0 : Int32)  (M : mm_M) : Snd injI j7_readPlain mm_X0 101 [some (.ref 46)] [.int s0, .ref 46] M (l7_readPlain_101 rec30 s0 M) := by
  unfold l7_readPlain_101
  refine p_X7_92 (j := j7_readPlain) (pc := 101) rfl dX7_readPlain_101 (fun M => ?_)
  refine sn_aload_n (j := j7_readPlain) (pc := 104) rfl rfl dX7_readPlain_104 ?_
  refine sn_dup (j := j7_readPlain) (pc := 105) rfl dX7_readPlain_105 ?_
  refine g_X7_71 (j := j7_readPlain) (pc := 106) rfl dX7_readPlain_106 ?_
  refine Snd.bI (fun v_5 => ?_)
  refine sn_iconst (j := j7_readPlain) (pc := 109) 1 rfl dX7_readPlain_109 ?_
  refine sn_iadd (j := j7_readPlain) (pc := 110) dX7_readPlain_110 ?_
  refine p_X7_71 (j := j7_readPlain) (pc := 111) rfl dX7_readPlain_111 (fun M => ?_)
  refine sn_goto (j := j7_readPlain) (pc := 114) 30 rfl dX7_readPlain_114 ?_
  exact Snd.wk (hrec30 M ) (by simp [mm_le])
def b7_readPlain_30  (rec30 : mm_M → Option (Int32 × mm_M))  (M : mm_M) : Option (Int32 × mm_M) :=
  bI (mI M 46 6) (fun v_6 => bI (mI M 46 4) (fun v_7 => if v_7 ≤ v_6 then (l7_readPlain_117 M) else (bI (mI M 46 6) (fun v_8 => aI 49 400 v_8 M (fun w_9 => cI (f7_in w_9 48 57 M) (fun r_10 M => if r_10 = 0 then (l7_readPlain_117 M) else (bI (mI M 46 6) (fun v_11 => bI (mI M 46 9) (fun v_12 => if 4 ≤ (v_11 - v_12) then (bI (mI M 46 8) (fun v_13 => l7_readPlain_101 rec30 v_13 M)) else (bI (mI M 46 8) (fun v_14 => bI (mI M 46 6) (fun v_15 => aI 49 400 v_15 M (fun w_16 => l7_readPlain_101 rec30 (((10 * v_14) + w_16) - 48) M)))))))))))))
set_option maxHeartbeats 2000000 in
theorem sb7_readPlain_30   (rec30 : mm_M → Option (Int32 × mm_M)) (hrec30 : ∀  (M : mm_M), Snd injI j7_readPlain mm_X0 30 [some (.ref 46)] [] M (rec30  M))   (M : mm_M) : Snd injI j7_readPlain mm_X0 30 [some (.ref 46)] [] M (b7_readPlain_30  rec30  M) := by
  unfold b7_readPlain_30
  refine sn_aload_n (j := j7_readPlain) (pc := 30) rfl rfl dX7_readPlain_30 ?_
  refine g_X7_71 (j := j7_readPlain) (pc := 31) rfl dX7_readPlain_31 ?_
  refine Snd.bI (fun v_6 => ?_)
  refine sn_aload_n (j := j7_readPlain) (pc := 34) rfl rfl dX7_readPlain_34 ?_
  refine g_X7_64 (j := j7_readPlain) (pc := 35) rfl dX7_readPlain_35 ?_
  refine Snd.bI (fun v_7 => ?_)
  refine sn_icmp_ge (j := j7_readPlain) (pc := 38) 117 rfl dX7_readPlain_38 ?_ ?_
  · exact Snd.wk (sl7_readPlain_117 M) (by simp [mm_le])
  · refine sn_aload_n (j := j7_readPlain) (pc := 41) rfl rfl dX7_readPlain_41 ?_
    refine g_X7_16 (j := j7_readPlain) (pc := 42) rfl dX7_readPlain_42 ?_
    refine sn_aload_n (j := j7_readPlain) (pc := 45) rfl rfl dX7_readPlain_45 ?_
    refine g_X7_71 (j := j7_readPlain) (pc := 46) rfl dX7_readPlain_46 ?_
    refine Snd.bI (fun v_8 => ?_)
    refine sn_iald (j := j7_readPlain) (pc := 49) rfl ⟨by decide, by decide⟩ dX7_readPlain_49 (fun w_9 => ?_)
    refine sn_bipush (j := j7_readPlain) (pc := 50) 48 rfl dX7_readPlain_50 ?_
    refine sn_bipush (j := j7_readPlain) (pc := 52) 57 rfl dX7_readPlain_52 ?_
    refine sn_callS (j := j7_readPlain) (pc := 54) (jc := j7_in) (As := [.int w_9, .int 48, .int 57]) (s7_in w_9 48 57 M) mm_hvI (by simp [Value.category]) (Nat.le_of_ble_eq_true rfl) q7_in rfl (by decide) w_ml_X7_60 w_st_X7_in rfl (Nat.le_of_ble_eq_true rfl) dX7_readPlain_54 ?_
    rintro ⟨r_10, M⟩
    show Snd injI j7_readPlain mm_X0 57 [some (.ref 46)] [.int r_10] M _
    refine sn_if_eq (j := j7_readPlain) (pc := 57) 117 rfl dX7_readPlain_57 ?_ ?_
    · exact Snd.wk (sl7_readPlain_117 M) (by simp [mm_le])
    · refine sn_aload_n (j := j7_readPlain) (pc := 60) rfl rfl dX7_readPlain_60 ?_
      refine sn_aload_n (j := j7_readPlain) (pc := 61) rfl rfl dX7_readPlain_61 ?_
      refine g_X7_71 (j := j7_readPlain) (pc := 62) rfl dX7_readPlain_62 ?_
      refine Snd.bI (fun v_11 => ?_)
      refine sn_aload_n (j := j7_readPlain) (pc := 65) rfl rfl dX7_readPlain_65 ?_
      refine g_X7_89 (j := j7_readPlain) (pc := 66) rfl dX7_readPlain_66 ?_
      refine Snd.bI (fun v_12 => ?_)
      refine sn_isub (j := j7_readPlain) (pc := 69) dX7_readPlain_69 ?_
      refine sn_iconst (j := j7_readPlain) (pc := 70) 4 rfl dX7_readPlain_70 ?_
      refine sn_icmp_ge (j := j7_readPlain) (pc := 71) 97 rfl dX7_readPlain_71 ?_ ?_
      · refine sn_aload_n (j := j7_readPlain) (pc := 97) rfl rfl dX7_readPlain_97 ?_
        refine g_X7_92 (j := j7_readPlain) (pc := 98) rfl dX7_readPlain_98 ?_
        refine Snd.bI (fun v_13 => ?_)
        exact Snd.wk (sl7_readPlain_101 rec30 hrec30 v_13 M) (by simp [mm_le])
      · refine sn_bipush (j := j7_readPlain) (pc := 74) 10 rfl dX7_readPlain_74 ?_
        refine sn_aload_n (j := j7_readPlain) (pc := 76) rfl rfl dX7_readPlain_76 ?_
        refine g_X7_92 (j := j7_readPlain) (pc := 77) rfl dX7_readPlain_77 ?_
        refine Snd.bI (fun v_14 => ?_)
        refine sn_imul (j := j7_readPlain) (pc := 80) dX7_readPlain_80 ?_
        refine sn_aload_n (j := j7_readPlain) (pc := 81) rfl rfl dX7_readPlain_81 ?_
        refine g_X7_16 (j := j7_readPlain) (pc := 82) rfl dX7_readPlain_82 ?_
        refine sn_aload_n (j := j7_readPlain) (pc := 85) rfl rfl dX7_readPlain_85 ?_
        refine g_X7_71 (j := j7_readPlain) (pc := 86) rfl dX7_readPlain_86 ?_
        refine Snd.bI (fun v_15 => ?_)
        refine sn_iald (j := j7_readPlain) (pc := 89) rfl ⟨by decide, by decide⟩ dX7_readPlain_89 (fun w_16 => ?_)
        refine sn_iadd (j := j7_readPlain) (pc := 90) dX7_readPlain_90 ?_
        refine sn_bipush (j := j7_readPlain) (pc := 91) 48 rfl dX7_readPlain_91 ?_
        refine sn_isub (j := j7_readPlain) (pc := 93) dX7_readPlain_93 ?_
        refine sn_goto (j := j7_readPlain) (pc := 94) 101 rfl dX7_readPlain_94 ?_
        exact Snd.wk (sl7_readPlain_101 rec30 hrec30 (((10 * v_14) + w_16) - 48) M) (by simp [mm_le])
def l7_readPlain_30  : Nat → mm_M → Option (Int32 × mm_M)
  | 0 => fun  _ => none
  | n + 1 => fun  M => b7_readPlain_30  (l7_readPlain_30  n)  M
theorem sl7_readPlain_30   : ∀ (n : Nat)   (M : mm_M), Snd injI j7_readPlain mm_X0 30 [some (.ref 46)] [] M (l7_readPlain_30  n  M)
  | 0 => fun   _ => Snd.none
  | n + 1 => fun   M => sb7_readPlain_30   (l7_readPlain_30  n) (fun  M  => sl7_readPlain_30   n   M)   M
def f7_readPlain  (M : mm_M) : Option (Int32 × mm_M) :=
  cI (f7_isNumber M) (fun r_17 M => if r_17 = 0 then (bI (mI M 46 6) (fun v_19 => cI (f7_fails 1 v_19 M) (fun r_20 M => rZ r_20 M))) else (bI (mI M 46 6) (fun v_18 => bM (sI M 46 9 v_18) (fun M => bM (sI M 46 8 0) (fun M => l7_readPlain_30 FU M)))))
set_option maxHeartbeats 2000000 in
theorem s7_readPlain  (M : mm_M) : Snd injI j7_readPlain mm_X0 0 [some (.ref 46)] [] M (f7_readPlain  M) := by
  refine Snd.wk (lo' := [some (.ref 46)]) ?_ (by simp [mm_le])
  unfold f7_readPlain
  refine sn_aload_n (j := j7_readPlain) (pc := 0) rfl rfl dX7_readPlain_0 ?_
  refine sn_callV (j := j7_readPlain) (pc := 1) (jc := j7_isNumber) (As := []) (s7_isNumber M) mm_hvI (by simp [Value.category]) (Nat.le_of_ble_eq_true rfl) q7_isNumber rfl (by decide) rfl rfl ⟨by decide, by decide⟩ w_ml_X7_81 w_im_X7_isNumber w_se_X7_isNumber rfl (Nat.le_of_ble_eq_true rfl) dX7_readPlain_1 ?_
  rintro ⟨r_17, M⟩
  show Snd injI j7_readPlain mm_X0 4 [some (.ref 46)] [.int r_17] M _
  refine sn_if_ne (j := j7_readPlain) (pc := 4) 17 rfl dX7_readPlain_4 ?_ ?_
  · refine sn_aload_n (j := j7_readPlain) (pc := 17) rfl rfl dX7_readPlain_17 ?_
    refine sn_aload_n (j := j7_readPlain) (pc := 18) rfl rfl dX7_readPlain_18 ?_
    refine g_X7_71 (j := j7_readPlain) (pc := 19) rfl dX7_readPlain_19 ?_
    refine Snd.bI (fun v_18 => ?_)
    refine p_X7_89 (j := j7_readPlain) (pc := 22) rfl dX7_readPlain_22 (fun M => ?_)
    refine sn_aload_n (j := j7_readPlain) (pc := 25) rfl rfl dX7_readPlain_25 ?_
    refine sn_iconst (j := j7_readPlain) (pc := 26) 0 rfl dX7_readPlain_26 ?_
    refine p_X7_92 (j := j7_readPlain) (pc := 27) rfl dX7_readPlain_27 (fun M => ?_)
    exact Snd.wk (sl7_readPlain_30 FU M) (by simp [mm_le])
  · refine sn_aload_n (j := j7_readPlain) (pc := 7) rfl rfl dX7_readPlain_7 ?_
    refine sn_iconst (j := j7_readPlain) (pc := 8) 1 rfl dX7_readPlain_8 ?_
    refine sn_aload_n (j := j7_readPlain) (pc := 9) rfl rfl dX7_readPlain_9 ?_
    refine g_X7_71 (j := j7_readPlain) (pc := 10) rfl dX7_readPlain_10 ?_
    refine Snd.bI (fun v_19 => ?_)
    refine sn_callV (j := j7_readPlain) (pc := 13) (jc := j7_fails) (As := [.int 1, .int v_19]) (s7_fails 1 v_19 M) mm_hvI (by simp [Value.category]) (Nat.le_of_ble_eq_true rfl) q7_fails rfl (by decide) rfl rfl ⟨by decide, by decide⟩ w_ml_X7_85 w_im_X7_fails w_se_X7_fails rfl (Nat.le_of_ble_eq_true rfl) dX7_readPlain_13 ?_
    rintro ⟨r_20, M⟩
    show Snd injI j7_readPlain mm_X0 16 [some (.ref 46)] [.int r_20] M _
    exact sn_zret (j := j7_readPlain) (pc := 16) rfl dX7_readPlain_16

abbrev j7_readNumber : mm_J := (yX7_readNumber, cX7_readNumber, 3, (some .boolean), 3)
theorem dX7_readNumber_0 : decode cX7_readNumber 0 = .ok (.aload_n 0, 1) := by decide +kernel
theorem dX7_readNumber_1 : decode cX7_readNumber 1 = .ok (.invokevirtual 95, 3) := by decide +kernel
theorem dX7_readNumber_4 : decode cX7_readNumber 4 = .ok (.ifCond .eq 31, 3) := by decide +kernel
theorem dX7_readNumber_7 : decode cX7_readNumber 7 = .ok (.aload_n 0, 1) := by decide +kernel
theorem dX7_readNumber_8 : decode cX7_readNumber 8 = .ok (.getfield 92, 3) := by decide +kernel
theorem dX7_readNumber_11 : decode cX7_readNumber 11 = .ok (.iload_n 1, 1) := by decide +kernel
theorem dX7_readNumber_12 : decode cX7_readNumber 12 = .ok (.iload_n 2, 1) := by decide +kernel
theorem dX7_readNumber_13 : decode cX7_readNumber 13 = .ok (.invokestatic 60, 3) := by decide +kernel
theorem dX7_readNumber_16 : decode cX7_readNumber 16 = .ok (.ifCond .ne 15, 3) := by decide +kernel
theorem dX7_readNumber_19 : decode cX7_readNumber 19 = .ok (.aload_n 0, 1) := by decide +kernel
theorem dX7_readNumber_20 : decode cX7_readNumber 20 = .ok (.iconst 2, 1) := by decide +kernel
theorem dX7_readNumber_21 : decode cX7_readNumber 21 = .ok (.aload_n 0, 1) := by decide +kernel
theorem dX7_readNumber_22 : decode cX7_readNumber 22 = .ok (.getfield 89, 3) := by decide +kernel
theorem dX7_readNumber_25 : decode cX7_readNumber 25 = .ok (.invokevirtual 85, 3) := by decide +kernel
theorem dX7_readNumber_28 : decode cX7_readNumber 28 = .ok (.ifCond .eq 7, 3) := by decide +kernel
theorem dX7_readNumber_31 : decode cX7_readNumber 31 = .ok (.iconst 1, 1) := by decide +kernel
theorem dX7_readNumber_32 : decode cX7_readNumber 32 = .ok (.goto 4, 3) := by decide +kernel
theorem dX7_readNumber_35 : decode cX7_readNumber 35 = .ok (.iconst 0, 1) := by decide +kernel
theorem dX7_readNumber_36 : decode cX7_readNumber 36 = .ok (.ireturn, 1) := by decide +kernel
def l7_readNumber_36  (s0 : Int32) (M : mm_M) : Option (Int32 × mm_M) :=
  rZ s0 M
set_option maxHeartbeats 2000000 in
theorem sl7_readNumber_36   (s0 : Int32)  (M : mm_M) : Snd injI j7_readNumber mm_X0 36 [none, none, none] [.int s0] M (l7_readNumber_36  s0 M) := by
  unfold l7_readNumber_36
  exact sn_zret (j := j7_readNumber) (pc := 36) rfl dX7_readNumber_36
def l7_readNumber_35   (M : mm_M) : Option (Int32 × mm_M) :=
  l7_readNumber_36 0 M
set_option maxHeartbeats 2000000 in
theorem sl7_readNumber_35     (M : mm_M) : Snd injI j7_readNumber mm_X0 35 [none, none, none] [] M (l7_readNumber_35   M) := by
  unfold l7_readNumber_35
  refine sn_iconst (j := j7_readNumber) (pc := 35) 0 rfl dX7_readNumber_35 ?_
  exact Snd.wk (sl7_readNumber_36 0 M) (by simp [mm_le])
def l7_readNumber_31   (M : mm_M) : Option (Int32 × mm_M) :=
  l7_readNumber_36 1 M
set_option maxHeartbeats 2000000 in
theorem sl7_readNumber_31     (M : mm_M) : Snd injI j7_readNumber mm_X0 31 [none, none, none] [] M (l7_readNumber_31   M) := by
  unfold l7_readNumber_31
  refine sn_iconst (j := j7_readNumber) (pc := 31) 1 rfl dX7_readNumber_31 ?_
  refine sn_goto (j := j7_readNumber) (pc := 32) 36 rfl dX7_readNumber_32 ?_
  exact Snd.wk (sl7_readNumber_36 1 M) (by simp [mm_le])
def f7_readNumber (x1 : Int32) (x2 : Int32) (M : mm_M) : Option (Int32 × mm_M) :=
  cI (f7_readPlain M) (fun r_1 M => if r_1 = 0 then (l7_readNumber_35 M) else (bI (mI M 46 8) (fun v_2 => cI (f7_in v_2 x1 x2 M) (fun r_3 M => if r_3 = 0 then (bI (mI M 46 9) (fun v_4 => cI (f7_fails 2 v_4 M) (fun r_5 M => if r_5 = 0 then (l7_readNumber_35 M) else (l7_readNumber_31 M)))) else (l7_readNumber_31 M)))))
set_option maxHeartbeats 2000000 in
theorem s7_readNumber (x1 : Int32) (x2 : Int32) (M : mm_M) : Snd injI j7_readNumber mm_X0 0 [some (.ref 46), some (.int x1), some (.int x2)] [] M (f7_readNumber x1 x2 M) := by
  refine Snd.wk (lo' := [some (.ref 46), some (.int x1), some (.int x2)]) ?_ (by simp [mm_le])
  unfold f7_readNumber
  refine sn_aload_n (j := j7_readNumber) (pc := 0) rfl rfl dX7_readNumber_0 ?_
  refine sn_callV (j := j7_readNumber) (pc := 1) (jc := j7_readPlain) (As := []) (s7_readPlain M) mm_hvI (by simp [Value.category]) (Nat.le_of_ble_eq_true rfl) q7_readPlain rfl (by decide) rfl rfl ⟨by decide, by decide⟩ w_ml_X7_95 w_im_X7_readPlain w_se_X7_readPlain rfl (Nat.le_of_ble_eq_true rfl) dX7_readNumber_1 ?_
  rintro ⟨r_1, M⟩
  show Snd injI j7_readNumber mm_X0 4 [some (.ref 46), some (.int x1), some (.int x2)] [.int r_1] M _
  refine sn_if_eq (j := j7_readNumber) (pc := 4) 35 rfl dX7_readNumber_4 ?_ ?_
  · exact Snd.wk (sl7_readNumber_35 M) (by simp [mm_le])
  · refine sn_aload_n (j := j7_readNumber) (pc := 7) rfl rfl dX7_readNumber_7 ?_
    refine g_X7_92 (j := j7_readNumber) (pc := 8) rfl dX7_readNumber_8 ?_
    refine Snd.bI (fun v_2 => ?_)
    refine sn_iload_n (j := j7_readNumber) (pc := 11) rfl rfl dX7_readNumber_11 ?_
    refine sn_iload_n (j := j7_readNumber) (pc := 12) rfl rfl dX7_readNumber_12 ?_
    refine sn_callS (j := j7_readNumber) (pc := 13) (jc := j7_in) (As := [.int v_2, .int x1, .int x2]) (s7_in v_2 x1 x2 M) mm_hvI (by simp [Value.category]) (Nat.le_of_ble_eq_true rfl) q7_in rfl (by decide) w_ml_X7_60 w_st_X7_in rfl (Nat.le_of_ble_eq_true rfl) dX7_readNumber_13 ?_
    rintro ⟨r_3, M⟩
    show Snd injI j7_readNumber mm_X0 16 [some (.ref 46), some (.int x1), some (.int x2)] [.int r_3] M _
    refine sn_if_ne (j := j7_readNumber) (pc := 16) 31 rfl dX7_readNumber_16 ?_ ?_
    · exact Snd.wk (sl7_readNumber_31 M) (by simp [mm_le])
    · refine sn_aload_n (j := j7_readNumber) (pc := 19) rfl rfl dX7_readNumber_19 ?_
      refine sn_iconst (j := j7_readNumber) (pc := 20) 2 rfl dX7_readNumber_20 ?_
      refine sn_aload_n (j := j7_readNumber) (pc := 21) rfl rfl dX7_readNumber_21 ?_
      refine g_X7_89 (j := j7_readNumber) (pc := 22) rfl dX7_readNumber_22 ?_
      refine Snd.bI (fun v_4 => ?_)
      refine sn_callV (j := j7_readNumber) (pc := 25) (jc := j7_fails) (As := [.int 2, .int v_4]) (s7_fails 2 v_4 M) mm_hvI (by simp [Value.category]) (Nat.le_of_ble_eq_true rfl) q7_fails rfl (by decide) rfl rfl ⟨by decide, by decide⟩ w_ml_X7_85 w_im_X7_fails w_se_X7_fails rfl (Nat.le_of_ble_eq_true rfl) dX7_readNumber_25 ?_
      rintro ⟨r_5, M⟩
      show Snd injI j7_readNumber mm_X0 28 [some (.ref 46), some (.int x1), some (.int x2)] [.int r_5] M _
      refine sn_if_eq (j := j7_readNumber) (pc := 28) 35 rfl dX7_readNumber_28 ?_ ?_
      · exact Snd.wk (sl7_readNumber_35 M) (by simp [mm_le])
      · exact Snd.wk (sl7_readNumber_31 M) (by simp [mm_le])

abbrev j7_reads : mm_J := (yX7_reads, cX7_reads, 4, (some .boolean), 4)
theorem dX7_reads_0 : decode cX7_reads 0 = .ok (.aload_n 0, 1) := by decide +kernel
theorem dX7_reads_1 : decode cX7_reads 1 = .ok (.iload_n 2, 1) := by decide +kernel
theorem dX7_reads_2 : decode cX7_reads 2 = .ok (.iload_n 3, 1) := by decide +kernel
theorem dX7_reads_3 : decode cX7_reads 3 = .ok (.invokevirtual 98, 3) := by decide +kernel
theorem dX7_reads_6 : decode cX7_reads 6 = .ok (.ifCond .ne 5, 3) := by decide +kernel
theorem dX7_reads_9 : decode cX7_reads 9 = .ok (.iconst 0, 1) := by decide +kernel
theorem dX7_reads_10 : decode cX7_reads 10 = .ok (.ireturn, 1) := by decide +kernel
theorem dX7_reads_11 : decode cX7_reads 11 = .ok (.aload_n 0, 1) := by decide +kernel
theorem dX7_reads_12 : decode cX7_reads 12 = .ok (.getfield 13, 3) := by decide +kernel
theorem dX7_reads_15 : decode cX7_reads 15 = .ok (.iload_n 1, 1) := by decide +kernel
theorem dX7_reads_16 : decode cX7_reads 16 = .ok (.aload_n 0, 1) := by decide +kernel
theorem dX7_reads_17 : decode cX7_reads 17 = .ok (.getfield 92, 3) := by decide +kernel
theorem dX7_reads_20 : decode cX7_reads 20 = .ok (.iastore, 1) := by decide +kernel
theorem dX7_reads_21 : decode cX7_reads 21 = .ok (.iconst 1, 1) := by decide +kernel
theorem dX7_reads_22 : decode cX7_reads 22 = .ok (.ireturn, 1) := by decide +kernel
def f7_reads (x1 : Int32) (x2 : Int32) (x3 : Int32) (M : mm_M) : Option (Int32 × mm_M) :=
  cI (f7_readNumber x2 x3 M) (fun r_1 M => if r_1 = 0 then (rZ 0 M) else (bI (mI M 46 8) (fun v_2 => uI 48 82 x1 v_2 M (fun M => rZ 1 M))))
set_option maxHeartbeats 2000000 in
theorem s7_reads (x1 : Int32) (x2 : Int32) (x3 : Int32) (M : mm_M) : Snd injI j7_reads mm_X0 0 [some (.ref 46), some (.int x1), some (.int x2), some (.int x3)] [] M (f7_reads x1 x2 x3 M) := by
  refine Snd.wk (lo' := [some (.ref 46), some (.int x1), some (.int x2), some (.int x3)]) ?_ (by simp [mm_le])
  unfold f7_reads
  refine sn_aload_n (j := j7_reads) (pc := 0) rfl rfl dX7_reads_0 ?_
  refine sn_iload_n (j := j7_reads) (pc := 1) rfl rfl dX7_reads_1 ?_
  refine sn_iload_n (j := j7_reads) (pc := 2) rfl rfl dX7_reads_2 ?_
  refine sn_callV (j := j7_reads) (pc := 3) (jc := j7_readNumber) (As := [.int x2, .int x3]) (s7_readNumber x2 x3 M) mm_hvI (by simp [Value.category]) (Nat.le_of_ble_eq_true rfl) q7_readNumber rfl (by decide) rfl rfl ⟨by decide, by decide⟩ w_ml_X7_98 w_im_X7_readNumber w_se_X7_readNumber rfl (Nat.le_of_ble_eq_true rfl) dX7_reads_3 ?_
  rintro ⟨r_1, M⟩
  show Snd injI j7_reads mm_X0 6 [some (.ref 46), some (.int x1), some (.int x2), some (.int x3)] [.int r_1] M _
  refine sn_if_ne (j := j7_reads) (pc := 6) 11 rfl dX7_reads_6 ?_ ?_
  · refine sn_aload_n (j := j7_reads) (pc := 11) rfl rfl dX7_reads_11 ?_
    refine g_X7_13 (j := j7_reads) (pc := 12) rfl dX7_reads_12 ?_
    refine sn_iload_n (j := j7_reads) (pc := 15) rfl rfl dX7_reads_15 ?_
    refine sn_aload_n (j := j7_reads) (pc := 16) rfl rfl dX7_reads_16 ?_
    refine g_X7_92 (j := j7_reads) (pc := 17) rfl dX7_reads_17 ?_
    refine Snd.bI (fun v_2 => ?_)
    refine sn_iast (j := j7_reads) (pc := 20) rfl ⟨by decide, by decide⟩ dX7_reads_20 (fun M => ?_)
    refine sn_iconst (j := j7_reads) (pc := 21) 1 rfl dX7_reads_21 ?_
    exact sn_zret (j := j7_reads) (pc := 22) rfl dX7_reads_22
  · refine sn_iconst (j := j7_reads) (pc := 9) 0 rfl dX7_reads_9 ?_
    exact sn_zret (j := j7_reads) (pc := 10) rfl dX7_reads_10
