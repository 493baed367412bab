abbrev j7_costNow : mm_J := (yX7_costNow, cX7_costNow, 1, (some .int), 5)
theorem dX7_costNow_0 : decode cX7_costNow 0 = .ok (.aload_n 0, 1) := by decide +kernel
theorem dX7_costNow_1 : decode cX7_costNow 1 = .ok (.invokevirtual 253, 3) := by decide +kernel
theorem dX7_costNow_4 : decode cX7_costNow 4 = .ok (.aload_n 0, 1) := by decide +kernel
theorem dX7_costNow_5 : decode cX7_costNow 5 = .ok (.getfield 32, 3) := by decide +kernel
theorem dX7_costNow_8 : decode cX7_costNow 8 = .ok (.iconst 0, 1) := by decide +kernel
theorem dX7_costNow_9 : decode cX7_costNow 9 = .ok (.iaload, 1) := by decide +kernel
theorem dX7_costNow_10 : decode cX7_costNow 10 = .ok (.ifCond .le 8, 3) := by decide +kernel
theorem dX7_costNow_13 : decode cX7_costNow 13 = .ok (.bipush (-2), 2) := by decide +kernel
theorem dX7_costNow_15 : decode cX7_costNow 15 = .ok (.goto 9, 3) := by decide +kernel
theorem dX7_costNow_18 : decode cX7_costNow 18 = .ok (.aload_n 0, 1) := by decide +kernel
theorem dX7_costNow_19 : decode cX7_costNow 19 = .ok (.getfield 35, 3) := by decide +kernel
theorem dX7_costNow_22 : decode cX7_costNow 22 = .ok (.iconst 0, 1) := by decide +kernel
theorem dX7_costNow_23 : decode cX7_costNow 23 = .ok (.iaload, 1) := by decide +kernel
theorem dX7_costNow_24 : decode cX7_costNow 24 = .ok (.ireturn, 1) := by decide +kernel
def l7_costNow_24  (s0 : Int32) (M : mm_M) : Option (Int32 × mm_M) :=
  some (s0, M)
set_option maxHeartbeats 2000000 in
theorem sl7_costNow_24   (s0 : Int32)  (M : mm_M) : Snd injI j7_costNow mm_X0 24 [none] [.int s0] M (l7_costNow_24  s0 M) := by
  unfold l7_costNow_24
  exact sn_iret (j := j7_costNow) (pc := 24) rfl dX7_costNow_24
def f7_costNow  (M : mm_M) : Option (Int32 × mm_M) :=
  cV (f7_finds M) (fun M => aI 54 59049 0 M (fun w_1 => if w_1 ≤ 0 then (aI 55 59049 0 M (fun w_2 => l7_costNow_24 w_2 M)) else (l7_costNow_24 (-2) M)))
set_option maxHeartbeats 2000000 in
theorem s7_costNow  (M : mm_M) : Snd injI j7_costNow mm_X0 0 [some (.ref 46)] [] M (f7_costNow  M) := by
  refine Snd.wk (lo' := [some (.ref 46)]) ?_ (by simp [mm_le])
  unfold f7_costNow
  refine sn_aload_n (j := j7_costNow) (pc := 0) rfl rfl dX7_costNow_0 ?_
  refine sn_callV (j := j7_costNow) (pc := 1) (jc := j7_finds) (As := []) (s7_finds M) mm_hvV (by simp [Value.category]) (Nat.le_of_ble_eq_true rfl) q7_finds rfl (by decide) rfl rfl ⟨by decide, by decide⟩ w_ml_X7_253 w_im_X7_finds w_se_X7_finds rfl (Nat.le_of_ble_eq_true rfl) dX7_costNow_1 ?_
  intro M
  show Snd injI j7_costNow mm_X0 4 [some (.ref 46)] [] M _
  refine sn_aload_n (j := j7_costNow) (pc := 4) rfl rfl dX7_costNow_4 ?_
  refine g_X7_32 (j := j7_costNow) (pc := 5) rfl dX7_costNow_5 ?_
  refine sn_iconst (j := j7_costNow) (pc := 8) 0 rfl dX7_costNow_8 ?_
  refine sn_iald (j := j7_costNow) (pc := 9) rfl ⟨by decide, by decide⟩ dX7_costNow_9 (fun w_1 => ?_)
  refine sn_if_le (j := j7_costNow) (pc := 10) 18 rfl dX7_costNow_10 ?_ ?_
  · refine sn_aload_n (j := j7_costNow) (pc := 18) rfl rfl dX7_costNow_18 ?_
    refine g_X7_35 (j := j7_costNow) (pc := 19) rfl dX7_costNow_19 ?_
    refine sn_iconst (j := j7_costNow) (pc := 22) 0 rfl dX7_costNow_22 ?_
    refine sn_iald (j := j7_costNow) (pc := 23) rfl ⟨by decide, by decide⟩ dX7_costNow_23 (fun w_2 => ?_)
    exact Snd.wk (sl7_costNow_24 w_2 M) (by simp [mm_le])
  · refine sn_bipush (j := j7_costNow) (pc := 13) (-2) rfl dX7_costNow_13 ?_
    refine sn_goto (j := j7_costNow) (pc := 15) 24 rfl dX7_costNow_15 ?_
    exact Snd.wk (sl7_costNow_24 (-2) M) (by simp [mm_le])

abbrev j7_best : mm_J := (yX7_best, cX7_best, 2, (some .int), 5)
theorem dX7_best_0 : decode cX7_best 0 = .ok (.aload_n 0, 1) := by decide +kernel
theorem dX7_best_1 : decode cX7_best 1 = .ok (.iconst 0, 1) := by decide +kernel
theorem dX7_best_2 : decode cX7_best 2 = .ok (.putfield 56, 3) := by decide +kernel
theorem dX7_best_5 : decode cX7_best 5 = .ok (.iload_n 1, 1) := by decide +kernel
theorem dX7_best_6 : decode cX7_best 6 = .ok (.iconst 0, 1) := by decide +kernel
theorem dX7_best_7 : decode cX7_best 7 = .ok (.iconst 3, 1) := by decide +kernel
theorem dX7_best_8 : decode cX7_best 8 = .ok (.invokestatic 60, 3) := by decide +kernel
theorem dX7_best_11 : decode cX7_best 11 = .ok (.ifCond .ne 5, 3) := by decide +kernel
theorem dX7_best_14 : decode cX7_best 14 = .ok (.iconst (-1), 1) := by decide +kernel
theorem dX7_best_15 : decode cX7_best 15 = .ok (.ireturn, 1) := by decide +kernel
theorem dX7_best_16 : decode cX7_best 16 = .ok (.aload_n 0, 1) := by decide +kernel
theorem dX7_best_17 : decode cX7_best 17 = .ok (.invokevirtual 194, 3) := by decide +kernel
theorem dX7_best_20 : decode cX7_best 20 = .ok (.aload_n 0, 1) := by decide +kernel
theorem dX7_best_21 : decode cX7_best 21 = .ok (.invokevirtual 253, 3) := by decide +kernel
theorem dX7_best_24 : decode cX7_best 24 = .ok (.aload_n 0, 1) := by decide +kernel
theorem dX7_best_25 : decode cX7_best 25 = .ok (.invokevirtual 256, 3) := by decide +kernel
theorem dX7_best_28 : decode cX7_best 28 = .ok (.aload_n 0, 1) := by decide +kernel
theorem dX7_best_29 : decode cX7_best 29 = .ok (.iload_n 1, 1) := by decide +kernel
theorem dX7_best_30 : decode cX7_best 30 = .ok (.invokevirtual 228, 3) := by decide +kernel
theorem dX7_best_33 : decode cX7_best 33 = .ok (.ireturn, 1) := by decide +kernel
def f7_best (x1 : Int32) (M : mm_M) : Option (Int32 × mm_M) :=
  bM (sI M 46 0 0) (fun M => cI (f7_in x1 0 3 M) (fun r_1 M => if r_1 = 0 then (some ((-1), M)) else (cV (f7_asTold M) (fun M => cV (f7_finds M) (fun M => cV (f7_laysBest M) (fun M => cI (f7_sumOf x1 M) (fun r_2 M => some (r_2, M))))))))
set_option maxHeartbeats 2000000 in
theorem s7_best (x1 : Int32) (M : mm_M) : Snd injI j7_best mm_X0 0 [some (.ref 46), some (.int x1)] [] M (f7_best x1 M) := by
  refine Snd.wk (lo' := [some (.ref 46), some (.int x1)]) ?_ (by simp [mm_le])
  unfold f7_best
  refine sn_aload_n (j := j7_best) (pc := 0) rfl rfl dX7_best_0 ?_
  refine sn_iconst (j := j7_best) (pc := 1) 0 rfl dX7_best_1 ?_
  refine p_X7_56 (j := j7_best) (pc := 2) rfl dX7_best_2 (fun M => ?_)
  refine sn_iload_n (j := j7_best) (pc := 5) rfl rfl dX7_best_5 ?_
  refine sn_iconst (j := j7_best) (pc := 6) 0 rfl dX7_best_6 ?_
  refine sn_iconst (j := j7_best) (pc := 7) 3 rfl dX7_best_7 ?_
  refine sn_callS (j := j7_best) (pc := 8) (jc := j7_in) (As := [.int x1, .int 0, .int 3]) (s7_in x1 0 3 M) mm_hvI (by simp [Value.category]) (Nat.le_of_ble_eq_true rfl) q7_in rfl (by decide) w_ml_X7_60 w_st_X7_in rfl (Nat.le_of_ble_eq_true rfl) dX7_best_8 ?_
  rintro ⟨r_1, M⟩
  show Snd injI j7_best mm_X0 11 [some (.ref 46), some (.int x1)] [.int r_1] M _
  refine sn_if_ne (j := j7_best) (pc := 11) 16 rfl dX7_best_11 ?_ ?_
  · refine sn_aload_n (j := j7_best) (pc := 16) rfl rfl dX7_best_16 ?_
    refine sn_callV (j := j7_best) (pc := 17) (jc := j7_asTold) (As := []) (s7_asTold M) mm_hvV (by simp [Value.category]) (Nat.le_of_ble_eq_true rfl) q7_asTold rfl (by decide) rfl rfl ⟨by decide, by decide⟩ w_ml_X7_194 w_im_X7_asTold w_se_X7_asTold rfl (Nat.le_of_ble_eq_true rfl) dX7_best_17 ?_
    intro M
    show Snd injI j7_best mm_X0 20 [some (.ref 46), some (.int x1)] [] M _
    refine sn_aload_n (j := j7_best) (pc := 20) rfl rfl dX7_best_20 ?_
    refine sn_callV (j := j7_best) (pc := 21) (jc := j7_finds) (As := []) (s7_finds M) mm_hvV (by simp [Value.category]) (Nat.le_of_ble_eq_true rfl) q7_finds rfl (by decide) rfl rfl ⟨by decide, by decide⟩ w_ml_X7_253 w_im_X7_finds w_se_X7_finds rfl (Nat.le_of_ble_eq_true rfl) dX7_best_21 ?_
    intro M
    show Snd injI j7_best mm_X0 24 [some (.ref 46), some (.int x1)] [] M _
    refine sn_aload_n (j := j7_best) (pc := 24) rfl rfl dX7_best_24 ?_
    refine sn_callV (j := j7_best) (pc := 25) (jc := j7_laysBest) (As := []) (s7_laysBest M) mm_hvV (by simp [Value.category]) (Nat.le_of_ble_eq_true rfl) q7_laysBest rfl (by decide) rfl rfl ⟨by decide, by decide⟩ w_ml_X7_256 w_im_X7_laysBest w_se_X7_laysBest rfl (Nat.le_of_ble_eq_true rfl) dX7_best_25 ?_
    intro M
    show Snd injI j7_best mm_X0 28 [some (.ref 46), some (.int x1)] [] M _
    refine sn_aload_n (j := j7_best) (pc := 28) rfl rfl dX7_best_28 ?_
    refine sn_iload_n (j := j7_best) (pc := 29) rfl rfl dX7_best_29 ?_
    refine sn_callV (j := j7_best) (pc := 30) (jc := j7_sumOf) (As := [.int x1]) (s7_sumOf x1 M) mm_hvI (by simp [Value.category]) (Nat.le_of_ble_eq_true rfl) q7_sumOf rfl (by decide) rfl rfl ⟨by decide, by decide⟩ w_ml_X7_228 w_im_X7_sumOf w_se_X7_sumOf rfl (Nat.le_of_ble_eq_true rfl) dX7_best_30 ?_
    rintro ⟨r_2, M⟩
    show Snd injI j7_best mm_X0 33 [some (.ref 46), some (.int x1)] [.int r_2] M _
    exact sn_iret (j := j7_best) (pc := 33) rfl dX7_best_33
  · refine sn_iconst (j := j7_best) (pc := 14) (-1) rfl dX7_best_14 ?_
    exact sn_iret (j := j7_best) (pc := 15) rfl dX7_best_15

abbrev j7_stands : mm_J := (yX7_stands, cX7_stands, 2, (some .int), 2)
theorem dX7_stands_0 : decode cX7_stands 0 = .ok (.iconst 0, 1) := by decide +kernel
theorem dX7_stands_1 : decode cX7_stands 1 = .ok (.istore_n 1, 1) := by decide +kernel
theorem dX7_stands_2 : decode cX7_stands 2 = .ok (.iload_n 1, 1) := by decide +kernel
theorem dX7_stands_3 : decode cX7_stands 3 = .ok (.aload_n 0, 1) := by decide +kernel
theorem dX7_stands_4 : decode cX7_stands 4 = .ok (.getfield 7, 3) := by decide +kernel
theorem dX7_stands_7 : decode cX7_stands 7 = .ok (.iconst 0, 1) := by decide +kernel
theorem dX7_stands_8 : decode cX7_stands 8 = .ok (.iaload, 1) := by decide +kernel
theorem dX7_stands_9 : decode cX7_stands 9 = .ok (.if_icmp .ge 24, 3) := by decide +kernel
theorem dX7_stands_12 : decode cX7_stands 12 = .ok (.aload_n 0, 1) := by decide +kernel
theorem dX7_stands_13 : decode cX7_stands 13 = .ok (.getfield 7, 3) := by decide +kernel
theorem dX7_stands_16 : decode cX7_stands 16 = .ok (.bipush 74, 2) := by decide +kernel
theorem dX7_stands_18 : decode cX7_stands 18 = .ok (.iload_n 1, 1) := by decide +kernel
theorem dX7_stands_19 : decode cX7_stands 19 = .ok (.iadd, 1) := by decide +kernel
theorem dX7_stands_20 : decode cX7_stands 20 = .ok (.aload_n 0, 1) := by decide +kernel
theorem dX7_stands_21 : decode cX7_stands 21 = .ok (.getfield 22, 3) := by decide +kernel
theorem dX7_stands_24 : decode cX7_stands 24 = .ok (.iload_n 1, 1) := by decide +kernel
theorem dX7_stands_25 : decode cX7_stands 25 = .ok (.iaload, 1) := by decide +kernel
theorem dX7_stands_26 : decode cX7_stands 26 = .ok (.iastore, 1) := by decide +kernel
theorem dX7_stands_27 : decode cX7_stands 27 = .ok (.iinc 1 1, 3) := by decide +kernel
theorem dX7_stands_30 : decode cX7_stands 30 = .ok (.goto (-28), 3) := by decide +kernel
theorem dX7_stands_33 : decode cX7_stands 33 = .ok (.aload_n 0, 1) := by decide +kernel
theorem dX7_stands_34 : decode cX7_stands 34 = .ok (.invokevirtual 178, 3) := by decide +kernel
theorem dX7_stands_37 : decode cX7_stands 37 = .ok (.ireturn, 1) := by decide +kernel
def b7_stands_2  (rec2 : Int32 → mm_M → Option (Int32 × mm_M)) (x1 : Int32) (M : mm_M) : Option (Int32 × mm_M) :=
  aI 47 82 0 M (fun w_1 => if w_1 ≤ x1 then (cI (f7_chargesOf M) (fun r_2 M => some (r_2, M))) else (aI 51 8 x1 M (fun w_3 => uI 47 82 (74 + x1) w_3 M (fun M => rec2 (x1 + 1) M))))
set_option maxHeartbeats 2000000 in
theorem sb7_stands_2   (rec2 : Int32 → mm_M → Option (Int32 × mm_M)) (hrec2 : ∀ (x1 : Int32) (M : mm_M), Snd injI j7_stands mm_X0 2 [some (.ref 46), some (.int x1)] [] M (rec2 x1 M)) (x1 : Int32)  (M : mm_M) : Snd injI j7_stands mm_X0 2 [some (.ref 46), some (.int x1)] [] M (b7_stands_2  rec2 x1 M) := by
  unfold b7_stands_2
  refine sn_iload_n (j := j7_stands) (pc := 2) rfl rfl dX7_stands_2 ?_
  refine sn_aload_n (j := j7_stands) (pc := 3) rfl rfl dX7_stands_3 ?_
  refine g_X7_7 (j := j7_stands) (pc := 4) rfl dX7_stands_4 ?_
  refine sn_iconst (j := j7_stands) (pc := 7) 0 rfl dX7_stands_7 ?_
  refine sn_iald (j := j7_stands) (pc := 8) rfl ⟨by decide, by decide⟩ dX7_stands_8 (fun w_1 => ?_)
  refine sn_icmp_ge (j := j7_stands) (pc := 9) 33 rfl dX7_stands_9 ?_ ?_
  · refine sn_aload_n (j := j7_stands) (pc := 33) rfl rfl dX7_stands_33 ?_
    refine sn_callV (j := j7_stands) (pc := 34) (jc := j7_chargesOf) (As := []) (s7_chargesOf M) mm_hvI (by simp [Value.category]) (Nat.le_of_ble_eq_true rfl) q7_chargesOf rfl (by decide) rfl rfl ⟨by decide, by decide⟩ w_ml_X7_178 w_im_X7_chargesOf w_se_X7_chargesOf rfl (Nat.le_of_ble_eq_true rfl) dX7_stands_34 ?_
    rintro ⟨r_2, M⟩
    show Snd injI j7_stands mm_X0 37 [some (.ref 46), some (.int x1)] [.int r_2] M _
    exact sn_iret (j := j7_stands) (pc := 37) rfl dX7_stands_37
  · refine sn_aload_n (j := j7_stands) (pc := 12) rfl rfl dX7_stands_12 ?_
    refine g_X7_7 (j := j7_stands) (pc := 13) rfl dX7_stands_13 ?_
    refine sn_bipush (j := j7_stands) (pc := 16) 74 rfl dX7_stands_16 ?_
    refine sn_iload_n (j := j7_stands) (pc := 18) rfl rfl dX7_stands_18 ?_
    refine sn_iadd (j := j7_stands) (pc := 19) dX7_stands_19 ?_
    refine sn_aload_n (j := j7_stands) (pc := 20) rfl rfl dX7_stands_20 ?_
    refine g_X7_22 (j := j7_stands) (pc := 21) rfl dX7_stands_21 ?_
    refine sn_iload_n (j := j7_stands) (pc := 24) rfl rfl dX7_stands_24 ?_
    refine sn_iald (j := j7_stands) (pc := 25) rfl ⟨by decide, by decide⟩ dX7_stands_25 (fun w_3 => ?_)
    refine sn_iast (j := j7_stands) (pc := 26) rfl ⟨by decide, by decide⟩ dX7_stands_26 (fun M => ?_)
    refine sn_iinc (j := j7_stands) (pc := 27) 1 rfl (by decide) rfl (lo' := [some (.ref 46), some (.int (x1 + 1))]) rfl dX7_stands_27 ?_
    refine sn_goto (j := j7_stands) (pc := 30) 2 rfl dX7_stands_30 ?_
    exact Snd.wk (hrec2 (x1 + 1) M ) (by simp [mm_le])
def l7_stands_2  : Nat → Int32 → mm_M → Option (Int32 × mm_M)
  | 0 => fun _ _ => none
  | n + 1 => fun x1 M => b7_stands_2  (l7_stands_2  n) x1 M
theorem sl7_stands_2   : ∀ (n : Nat) (x1 : Int32)  (M : mm_M), Snd injI j7_stands mm_X0 2 [some (.ref 46), some (.int x1)] [] M (l7_stands_2  n x1 M)
  | 0 => fun _  _ => Snd.none
  | n + 1 => fun x1  M => sb7_stands_2   (l7_stands_2  n) (fun x1 M  => sl7_stands_2   n x1  M) x1  M
def f7_stands  (M : mm_M) : Option (Int32 × mm_M) :=
  l7_stands_2 FU 0 M
set_option maxHeartbeats 2000000 in
theorem s7_stands  (M : mm_M) : Snd injI j7_stands mm_X0 0 [some (.ref 46)] [] M (f7_stands  M) := by
  refine Snd.wk (lo' := [some (.ref 46), none]) ?_ (by simp [mm_le])
  unfold f7_stands
  refine sn_iconst (j := j7_stands) (pc := 0) 0 rfl dX7_stands_0 ?_
  refine sn_istore_n (j := j7_stands) (pc := 1) rfl (by decide) (lo' := [some (.ref 46), some (.int 0)]) rfl dX7_stands_1 ?_
  exact Snd.wk (sl7_stands_2 FU 0 M) (by simp [mm_le])

abbrev j7_take : mm_J := (yX7_take, cX7_take, 1, (some .int), 5)
theorem dX7_take_0 : decode cX7_take 0 = .ok (.aload_n 0, 1) := by decide +kernel
theorem dX7_take_1 : decode cX7_take 1 = .ok (.iconst 0, 1) := by decide +kernel
theorem dX7_take_2 : decode cX7_take 2 = .ok (.putfield 56, 3) := by decide +kernel
theorem dX7_take_5 : decode cX7_take 5 = .ok (.aload_n 0, 1) := by decide +kernel
theorem dX7_take_6 : decode cX7_take 6 = .ok (.invokevirtual 194, 3) := by decide +kernel
theorem dX7_take_9 : decode cX7_take 9 = .ok (.aload_n 0, 1) := by decide +kernel
theorem dX7_take_10 : decode cX7_take 10 = .ok (.invokevirtual 253, 3) := by decide +kernel
theorem dX7_take_13 : decode cX7_take 13 = .ok (.aload_n 0, 1) := by decide +kernel
theorem dX7_take_14 : decode cX7_take 14 = .ok (.invokevirtual 256, 3) := by decide +kernel
theorem dX7_take_17 : decode cX7_take 17 = .ok (.aload_n 0, 1) := by decide +kernel
theorem dX7_take_18 : decode cX7_take 18 = .ok (.invokevirtual 259, 3) := by decide +kernel
theorem dX7_take_21 : decode cX7_take 21 = .ok (.ireturn, 1) := by decide +kernel
def f7_take  (M : mm_M) : Option (Int32 × mm_M) :=
  bM (sI M 46 0 0) (fun M => cV (f7_asTold M) (fun M => cV (f7_finds M) (fun M => cV (f7_laysBest M) (fun M => cI (f7_stands M) (fun r_1 M => some (r_1, M))))))
set_option maxHeartbeats 2000000 in
theorem s7_take  (M : mm_M) : Snd injI j7_take mm_X0 0 [some (.ref 46)] [] M (f7_take  M) := by
  refine Snd.wk (lo' := [some (.ref 46)]) ?_ (by simp [mm_le])
  unfold f7_take
  refine sn_aload_n (j := j7_take) (pc := 0) rfl rfl dX7_take_0 ?_
  refine sn_iconst (j := j7_take) (pc := 1) 0 rfl dX7_take_1 ?_
  refine p_X7_56 (j := j7_take) (pc := 2) rfl dX7_take_2 (fun M => ?_)
  refine sn_aload_n (j := j7_take) (pc := 5) rfl rfl dX7_take_5 ?_
  refine sn_callV (j := j7_take) (pc := 6) (jc := j7_asTold) (As := []) (s7_asTold M) mm_hvV (by simp [Value.category]) (Nat.le_of_ble_eq_true rfl) q7_asTold rfl (by decide) rfl rfl ⟨by decide, by decide⟩ w_ml_X7_194 w_im_X7_asTold w_se_X7_asTold rfl (Nat.le_of_ble_eq_true rfl) dX7_take_6 ?_
  intro M
  show Snd injI j7_take mm_X0 9 [some (.ref 46)] [] M _
  refine sn_aload_n (j := j7_take) (pc := 9) rfl rfl dX7_take_9 ?_
  refine sn_callV (j := j7_take) (pc := 10) (jc := j7_finds) (As := []) (s7_finds M) mm_hvV (by simp [Value.category]) (Nat.le_of_ble_eq_true rfl) q7_finds rfl (by decide) rfl rfl ⟨by decide, by decide⟩ w_ml_X7_253 w_im_X7_finds w_se_X7_finds rfl (Nat.le_of_ble_eq_true rfl) dX7_take_10 ?_
  intro M
  show Snd injI j7_take mm_X0 13 [some (.ref 46)] [] M _
  refine sn_aload_n (j := j7_take) (pc := 13) rfl rfl dX7_take_13 ?_
  refine sn_callV (j := j7_take) (pc := 14) (jc := j7_laysBest) (As := []) (s7_laysBest M) mm_hvV (by simp [Value.category]) (Nat.le_of_ble_eq_true rfl) q7_laysBest rfl (by decide) rfl rfl ⟨by decide, by decide⟩ w_ml_X7_256 w_im_X7_laysBest w_se_X7_laysBest rfl (Nat.le_of_ble_eq_true rfl) dX7_take_14 ?_
  intro M
  show Snd injI j7_take mm_X0 17 [some (.ref 46)] [] M _
  refine sn_aload_n (j := j7_take) (pc := 17) rfl rfl dX7_take_17 ?_
  refine sn_callV (j := j7_take) (pc := 18) (jc := j7_stands) (As := []) (s7_stands M) mm_hvI (by simp [Value.category]) (Nat.le_of_ble_eq_true rfl) q7_stands rfl (by decide) rfl rfl ⟨by decide, by decide⟩ w_ml_X7_259 w_im_X7_stands w_se_X7_stands rfl (Nat.le_of_ble_eq_true rfl) dX7_take_18 ?_
  rintro ⟨r_1, M⟩
  show Snd injI j7_take mm_X0 21 [some (.ref 46)] [.int r_1] M _
  exact sn_iret (j := j7_take) (pc := 21) rfl dX7_take_21

abbrev j7_late : mm_J := (yX7_late, cX7_late, 3, (some .int), 6)
theorem dX7_late_0 : decode cX7_late 0 = .ok (.aload_n 0, 1) := by decide +kernel
theorem dX7_late_1 : decode cX7_late 1 = .ok (.iconst 0, 1) := by decide +kernel
theorem dX7_late_2 : decode cX7_late 2 = .ok (.putfield 56, 3) := by decide +kernel
theorem dX7_late_5 : decode cX7_late 5 = .ok (.aload_n 0, 1) := by decide +kernel
theorem dX7_late_6 : decode cX7_late 6 = .ok (.iload_n 1, 1) := by decide +kernel
theorem dX7_late_7 : decode cX7_late 7 = .ok (.invokevirtual 172, 3) := by decide +kernel
theorem dX7_late_10 : decode cX7_late 10 = .ok (.ifCond .eq 13, 3) := by decide +kernel
theorem dX7_late_13 : decode cX7_late 13 = .ok (.iload_n 2, 1) := by decide +kernel
theorem dX7_late_14 : decode cX7_late 14 = .ok (.iconst 0, 1) := by decide +kernel
theorem dX7_late_15 : decode cX7_late 15 = .ok (.bipush 8, 2) := by decide +kernel
theorem dX7_late_17 : decode cX7_late 17 = .ok (.invokestatic 60, 3) := by decide +kernel
theorem dX7_late_20 : decode cX7_late 20 = .ok (.ifCond .ne 5, 3) := by decide +kernel
theorem dX7_late_23 : decode cX7_late 23 = .ok (.iconst (-1), 1) := by decide +kernel
theorem dX7_late_24 : decode cX7_late 24 = .ok (.ireturn, 1) := by decide +kernel
theorem dX7_late_25 : decode cX7_late 25 = .ok (.aload_n 0, 1) := by decide +kernel
theorem dX7_late_26 : decode cX7_late 26 = .ok (.invokevirtual 194, 3) := by decide +kernel
theorem dX7_late_29 : decode cX7_late 29 = .ok (.aload_n 0, 1) := by decide +kernel
theorem dX7_late_30 : decode cX7_late 30 = .ok (.getfield 19, 3) := by decide +kernel
theorem dX7_late_33 : decode cX7_late 33 = .ok (.iload_n 1, 1) := by decide +kernel
theorem dX7_late_34 : decode cX7_late 34 = .ok (.dup2, 1) := by decide +kernel
theorem dX7_late_35 : decode cX7_late 35 = .ok (.iaload, 1) := by decide +kernel
theorem dX7_late_36 : decode cX7_late 36 = .ok (.iload_n 2, 1) := by decide +kernel
theorem dX7_late_37 : decode cX7_late 37 = .ok (.iadd, 1) := by decide +kernel
theorem dX7_late_38 : decode cX7_late 38 = .ok (.iastore, 1) := by decide +kernel
theorem dX7_late_39 : decode cX7_late 39 = .ok (.aload_n 0, 1) := by decide +kernel
theorem dX7_late_40 : decode cX7_late 40 = .ok (.invokevirtual 262, 3) := by decide +kernel
theorem dX7_late_43 : decode cX7_late 43 = .ok (.ireturn, 1) := by decide +kernel
def l7_late_23   (M : mm_M) : Option (Int32 × mm_M) :=
  some ((-1), M)
set_option maxHeartbeats 2000000 in
theorem sl7_late_23     (M : mm_M) : Snd injI j7_late mm_X0 23 [none, none, none] [] M (l7_late_23   M) := by
  unfold l7_late_23
  refine sn_iconst (j := j7_late) (pc := 23) (-1) rfl dX7_late_23 ?_
  exact sn_iret (j := j7_late) (pc := 24) rfl dX7_late_24
def f7_late (x1 : Int32) (x2 : Int32) (M : mm_M) : Option (Int32 × mm_M) :=
  bM (sI M 46 0 0) (fun M => cI (f7_isBus x1 M) (fun r_1 M => if r_1 = 0 then (l7_late_23 M) else (cI (f7_in x2 0 8 M) (fun r_2 M => if r_2 = 0 then (l7_late_23 M) else (cV (f7_asTold M) (fun M => aI 50 4 x1 M (fun w_3 => uI 50 4 x1 (w_3 + x2) M (fun M => cI (f7_costNow M) (fun r_4 M => some (r_4, M))))))))))
set_option maxHeartbeats 2000000 in
theorem s7_late (x1 : Int32) (x2 : Int32) (M : mm_M) : Snd injI j7_late mm_X0 0 [some (.ref 46), some (.int x1), some (.int x2)] [] M (f7_late x1 x2 M) := by
  refine Snd.wk (lo' := [some (.ref 46), some (.int x1), some (.int x2)]) ?_ (by simp [mm_le])
  unfold f7_late
  refine sn_aload_n (j := j7_late) (pc := 0) rfl rfl dX7_late_0 ?_
  refine sn_iconst (j := j7_late) (pc := 1) 0 rfl dX7_late_1 ?_
  refine p_X7_56 (j := j7_late) (pc := 2) rfl dX7_late_2 (fun M => ?_)
  refine sn_aload_n (j := j7_late) (pc := 5) rfl rfl dX7_late_5 ?_
  refine sn_iload_n (j := j7_late) (pc := 6) rfl rfl dX7_late_6 ?_
  refine sn_callV (j := j7_late) (pc := 7) (jc := j7_isBus) (As := [.int x1]) (s7_isBus x1 M) mm_hvI (by simp [Value.category]) (Nat.le_of_ble_eq_true rfl) q7_isBus rfl (by decide) rfl rfl ⟨by decide, by decide⟩ w_ml_X7_172 w_im_X7_isBus w_se_X7_isBus rfl (Nat.le_of_ble_eq_true rfl) dX7_late_7 ?_
  rintro ⟨r_1, M⟩
  show Snd injI j7_late mm_X0 10 [some (.ref 46), some (.int x1), some (.int x2)] [.int r_1] M _
  refine sn_if_eq (j := j7_late) (pc := 10) 23 rfl dX7_late_10 ?_ ?_
  · exact Snd.wk (sl7_late_23 M) (by simp [mm_le])
  · refine sn_iload_n (j := j7_late) (pc := 13) rfl rfl dX7_late_13 ?_
    refine sn_iconst (j := j7_late) (pc := 14) 0 rfl dX7_late_14 ?_
    refine sn_bipush (j := j7_late) (pc := 15) 8 rfl dX7_late_15 ?_
    refine sn_callS (j := j7_late) (pc := 17) (jc := j7_in) (As := [.int x2, .int 0, .int 8]) (s7_in x2 0 8 M) mm_hvI (by simp [Value.category]) (Nat.le_of_ble_eq_true rfl) q7_in rfl (by decide) w_ml_X7_60 w_st_X7_in rfl (Nat.le_of_ble_eq_true rfl) dX7_late_17 ?_
    rintro ⟨r_2, M⟩
    show Snd injI j7_late mm_X0 20 [some (.ref 46), some (.int x1), some (.int x2)] [.int r_2] M _
    refine sn_if_ne (j := j7_late) (pc := 20) 25 rfl dX7_late_20 ?_ ?_
    · refine sn_aload_n (j := j7_late) (pc := 25) rfl rfl dX7_late_25 ?_
      refine sn_callV (j := j7_late) (pc := 26) (jc := j7_asTold) (As := []) (s7_asTold M) mm_hvV (by simp [Value.category]) (Nat.le_of_ble_eq_true rfl) q7_asTold rfl (by decide) rfl rfl ⟨by decide, by decide⟩ w_ml_X7_194 w_im_X7_asTold w_se_X7_asTold rfl (Nat.le_of_ble_eq_true rfl) dX7_late_26 ?_
      intro M
      show Snd injI j7_late mm_X0 29 [some (.ref 46), some (.int x1), some (.int x2)] [] M _
      refine sn_aload_n (j := j7_late) (pc := 29) rfl rfl dX7_late_29 ?_
      refine g_X7_19 (j := j7_late) (pc := 30) rfl dX7_late_30 ?_
      refine sn_iload_n (j := j7_late) (pc := 33) rfl rfl dX7_late_33 ?_
      refine sn_dup2 (j := j7_late) (pc := 34) rfl rfl dX7_late_34 ?_
      refine sn_iald (j := j7_late) (pc := 35) rfl ⟨by decide, by decide⟩ dX7_late_35 (fun w_3 => ?_)
      refine sn_iload_n (j := j7_late) (pc := 36) rfl rfl dX7_late_36 ?_
      refine sn_iadd (j := j7_late) (pc := 37) dX7_late_37 ?_
      refine sn_iast (j := j7_late) (pc := 38) rfl ⟨by decide, by decide⟩ dX7_late_38 (fun M => ?_)
      refine sn_aload_n (j := j7_late) (pc := 39) rfl rfl dX7_late_39 ?_
      refine sn_callV (j := j7_late) (pc := 40) (jc := j7_costNow) (As := []) (s7_costNow M) mm_hvI (by simp [Value.category]) (Nat.le_of_ble_eq_true rfl) q7_costNow rfl (by decide) rfl rfl ⟨by decide, by decide⟩ w_ml_X7_262 w_im_X7_costNow w_se_X7_costNow rfl (Nat.le_of_ble_eq_true rfl) dX7_late_40 ?_
      rintro ⟨r_4, M⟩
      show Snd injI j7_late mm_X0 43 [some (.ref 46), some (.int x1), some (.int x2)] [.int r_4] M _
      exact sn_iret (j := j7_late) (pc := 43) rfl dX7_late_43
    · exact Snd.wk (sl7_late_23 M) (by simp [mm_le])

abbrev j7_latest : mm_J := (yX7_latest, cX7_latest, 3, (some .int), 6)
theorem dX7_latest_0 : decode cX7_latest 0 = .ok (.aload_n 0, 1) := by decide +kernel
theorem dX7_latest_1 : decode cX7_latest 1 = .ok (.iconst 0, 1) := by decide +kernel
theorem dX7_latest_2 : decode cX7_latest 2 = .ok (.putfield 56, 3) := by decide +kernel
theorem dX7_latest_5 : decode cX7_latest 5 = .ok (.aload_n 0, 1) := by decide +kernel
theorem dX7_latest_6 : decode cX7_latest 6 = .ok (.iload_n 1, 1) := by decide +kernel
theorem dX7_latest_7 : decode cX7_latest 7 = .ok (.invokevirtual 172, 3) := by decide +kernel
theorem dX7_latest_10 : decode cX7_latest 10 = .ok (.ifCond .ne 5, 3) := by decide +kernel
theorem dX7_latest_13 : decode cX7_latest 13 = .ok (.iconst (-1), 1) := by decide +kernel
theorem dX7_latest_14 : decode cX7_latest 14 = .ok (.ireturn, 1) := by decide +kernel
theorem dX7_latest_15 : decode cX7_latest 15 = .ok (.bipush 8, 2) := by decide +kernel
theorem dX7_latest_17 : decode cX7_latest 17 = .ok (.istore_n 2, 1) := by decide +kernel
theorem dX7_latest_18 : decode cX7_latest 18 = .ok (.iload_n 2, 1) := by decide +kernel
theorem dX7_latest_19 : decode cX7_latest 19 = .ok (.ifCond .lt 32, 3) := by decide +kernel
theorem dX7_latest_22 : decode cX7_latest 22 = .ok (.aload_n 0, 1) := by decide +kernel
theorem dX7_latest_23 : decode cX7_latest 23 = .ok (.invokevirtual 194, 3) := by decide +kernel
theorem dX7_latest_26 : decode cX7_latest 26 = .ok (.aload_n 0, 1) := by decide +kernel
theorem dX7_latest_27 : decode cX7_latest 27 = .ok (.getfield 19, 3) := by decide +kernel
theorem dX7_latest_30 : decode cX7_latest 30 = .ok (.iload_n 1, 1) := by decide +kernel
theorem dX7_latest_31 : decode cX7_latest 31 = .ok (.dup2, 1) := by decide +kernel
theorem dX7_latest_32 : decode cX7_latest 32 = .ok (.iaload, 1) := by decide +kernel
theorem dX7_latest_33 : decode cX7_latest 33 = .ok (.iload_n 2, 1) := by decide +kernel
theorem dX7_latest_34 : decode cX7_latest 34 = .ok (.iadd, 1) := by decide +kernel
theorem dX7_latest_35 : decode cX7_latest 35 = .ok (.iastore, 1) := by decide +kernel
theorem dX7_latest_36 : decode cX7_latest 36 = .ok (.aload_n 0, 1) := by decide +kernel
theorem dX7_latest_37 : decode cX7_latest 37 = .ok (.invokevirtual 262, 3) := by decide +kernel
theorem dX7_latest_40 : decode cX7_latest 40 = .ok (.ifCond .lt 5, 3) := by decide +kernel
theorem dX7_latest_43 : decode cX7_latest 43 = .ok (.iload_n 2, 1) := by decide +kernel
theorem dX7_latest_44 : decode cX7_latest 44 = .ok (.ireturn, 1) := by decide +kernel
theorem dX7_latest_45 : decode cX7_latest 45 = .ok (.iinc 2 (-1), 3) := by decide +kernel
theorem dX7_latest_48 : decode cX7_latest 48 = .ok (.goto (-30), 3) := by decide +kernel
theorem dX7_latest_51 : decode cX7_latest 51 = .ok (.bipush (-2), 2) := by decide +kernel
theorem dX7_latest_53 : decode cX7_latest 53 = .ok (.ireturn, 1) := by decide +kernel
def b7_latest_18  (rec18 : Int32 → Int32 → mm_M → Option (Int32 × mm_M)) (x1 : Int32) (x2 : Int32) (M : mm_M) : Option (Int32 × mm_M) :=
  if x2 < 0 then (some ((-2), M)) else (cV (f7_asTold M) (fun M => aI 50 4 x1 M (fun w_1 => uI 50 4 x1 (w_1 + x2) M (fun M => cI (f7_costNow M) (fun r_2 M => if r_2 < 0 then (rec18 x1 (x2 + (-1)) M) else (some (x2, M)))))))
set_option maxHeartbeats 2000000 in
theorem sb7_latest_18   (rec18 : Int32 → Int32 → mm_M → Option (Int32 × mm_M)) (hrec18 : ∀ (x1 : Int32) (x2 : Int32) (M : mm_M), Snd injI j7_latest mm_X0 18 [some (.ref 46), some (.int x1), some (.int x2)] [] M (rec18 x1 x2 M)) (x1 : Int32) (x2 : Int32)  (M : mm_M) : Snd injI j7_latest mm_X0 18 [some (.ref 46), some (.int x1), some (.int x2)] [] M (b7_latest_18  rec18 x1 x2 M) := by
  unfold b7_latest_18
  refine sn_iload_n (j := j7_latest) (pc := 18) rfl rfl dX7_latest_18 ?_
  refine sn_if_lt (j := j7_latest) (pc := 19) 51 rfl dX7_latest_19 ?_ ?_
  · refine sn_bipush (j := j7_latest) (pc := 51) (-2) rfl dX7_latest_51 ?_
    exact sn_iret (j := j7_latest) (pc := 53) rfl dX7_latest_53
  · refine sn_aload_n (j := j7_latest) (pc := 22) rfl rfl dX7_latest_22 ?_
    refine sn_callV (j := j7_latest) (pc := 23) (jc := j7_asTold) (As := []) (s7_asTold M) mm_hvV (by simp [Value.category]) (Nat.le_of_ble_eq_true rfl) q7_asTold rfl (by decide) rfl rfl ⟨by decide, by decide⟩ w_ml_X7_194 w_im_X7_asTold w_se_X7_asTold rfl (Nat.le_of_ble_eq_true rfl) dX7_latest_23 ?_
    intro M
    show Snd injI j7_latest mm_X0 26 [some (.ref 46), some (.int x1), some (.int x2)] [] M _
    refine sn_aload_n (j := j7_latest) (pc := 26) rfl rfl dX7_latest_26 ?_
    refine g_X7_19 (j := j7_latest) (pc := 27) rfl dX7_latest_27 ?_
    refine sn_iload_n (j := j7_latest) (pc := 30) rfl rfl dX7_latest_30 ?_
    refine sn_dup2 (j := j7_latest) (pc := 31) rfl rfl dX7_latest_31 ?_
    refine sn_iald (j := j7_latest) (pc := 32) rfl ⟨by decide, by decide⟩ dX7_latest_32 (fun w_1 => ?_)
    refine sn_iload_n (j := j7_latest) (pc := 33) rfl rfl dX7_latest_33 ?_
    refine sn_iadd (j := j7_latest) (pc := 34) dX7_latest_34 ?_
    refine sn_iast (j := j7_latest) (pc := 35) rfl ⟨by decide, by decide⟩ dX7_latest_35 (fun M => ?_)
    refine sn_aload_n (j := j7_latest) (pc := 36) rfl rfl dX7_latest_36 ?_
    refine sn_callV (j := j7_latest) (pc := 37) (jc := j7_costNow) (As := []) (s7_costNow M) mm_hvI (by simp [Value.category]) (Nat.le_of_ble_eq_true rfl) q7_costNow rfl (by decide) rfl rfl ⟨by decide, by decide⟩ w_ml_X7_262 w_im_X7_costNow w_se_X7_costNow rfl (Nat.le_of_ble_eq_true rfl) dX7_latest_37 ?_
    rintro ⟨r_2, M⟩
    show Snd injI j7_latest mm_X0 40 [some (.ref 46), some (.int x1), some (.int x2)] [.int r_2] M _
    refine sn_if_lt (j := j7_latest) (pc := 40) 45 rfl dX7_latest_40 ?_ ?_
    · refine sn_iinc (j := j7_latest) (pc := 45) (-1) rfl (by decide) rfl (lo' := [some (.ref 46), some (.int x1), some (.int (x2 + (-1)))]) rfl dX7_latest_45 ?_
      refine sn_goto (j := j7_latest) (pc := 48) 18 rfl dX7_latest_48 ?_
      exact Snd.wk (hrec18 x1 (x2 + (-1)) M ) (by simp [mm_le])
    · refine sn_iload_n (j := j7_latest) (pc := 43) rfl rfl dX7_latest_43 ?_
      exact sn_iret (j := j7_latest) (pc := 44) rfl dX7_latest_44
def l7_latest_18  : Nat → Int32 → Int32 → mm_M → Option (Int32 × mm_M)
  | 0 => fun _ _ _ => none
  | n + 1 => fun x1 x2 M => b7_latest_18  (l7_latest_18  n) x1 x2 M
theorem sl7_latest_18   : ∀ (n : Nat) (x1 : Int32) (x2 : Int32)  (M : mm_M), Snd injI j7_latest mm_X0 18 [some (.ref 46), some (.int x1), some (.int x2)] [] M (l7_latest_18  n x1 x2 M)
  | 0 => fun _ _  _ => Snd.none
  | n + 1 => fun x1 x2  M => sb7_latest_18   (l7_latest_18  n) (fun x1 x2 M  => sl7_latest_18   n x1 x2  M) x1 x2  M
def f7_latest (x1 : Int32) (M : mm_M) : Option (Int32 × mm_M) :=
  bM (sI M 46 0 0) (fun M => cI (f7_isBus x1 M) (fun r_3 M => if r_3 = 0 then (some ((-1), M)) else (l7_latest_18 FU x1 8 M)))
set_option maxHeartbeats 2000000 in
theorem s7_latest (x1 : Int32) (M : mm_M) : Snd injI j7_latest mm_X0 0 [some (.ref 46), some (.int x1)] [] M (f7_latest x1 M) := by
  refine Snd.wk (lo' := [some (.ref 46), some (.int x1), none]) ?_ (by simp [mm_le])
  unfold f7_latest
  refine sn_aload_n (j := j7_latest) (pc := 0) rfl rfl dX7_latest_0 ?_
  refine sn_iconst (j := j7_latest) (pc := 1) 0 rfl dX7_latest_1 ?_
  refine p_X7_56 (j := j7_latest) (pc := 2) rfl dX7_latest_2 (fun M => ?_)
  refine sn_aload_n (j := j7_latest) (pc := 5) rfl rfl dX7_latest_5 ?_
  refine sn_iload_n (j := j7_latest) (pc := 6) rfl rfl dX7_latest_6 ?_
  refine sn_callV (j := j7_latest) (pc := 7) (jc := j7_isBus) (As := [.int x1]) (s7_isBus x1 M) mm_hvI (by simp [Value.category]) (Nat.le_of_ble_eq_true rfl) q7_isBus rfl (by decide) rfl rfl ⟨by decide, by decide⟩ w_ml_X7_172 w_im_X7_isBus w_se_X7_isBus rfl (Nat.le_of_ble_eq_true rfl) dX7_latest_7 ?_
  rintro ⟨r_3, M⟩
  show Snd injI j7_latest mm_X0 10 [some (.ref 46), some (.int x1), none] [.int r_3] M _
  refine sn_if_ne (j := j7_latest) (pc := 10) 15 rfl dX7_latest_10 ?_ ?_
  · refine sn_bipush (j := j7_latest) (pc := 15) 8 rfl dX7_latest_15 ?_
    refine sn_istore_n (j := j7_latest) (pc := 17) rfl (by decide) (lo' := [some (.ref 46), some (.int x1), some (.int 8)]) rfl dX7_latest_17 ?_
    exact Snd.wk (sl7_latest_18 FU x1 8 M) (by simp [mm_le])
  · refine sn_iconst (j := j7_latest) (pc := 13) (-1) rfl dX7_latest_13 ?_
    exact sn_iret (j := j7_latest) (pc := 14) rfl dX7_latest_14

abbrev j7_lays : mm_J := (yX7_lays, cX7_lays, 3, none, 2)
theorem dX7_lays_0 : decode cX7_lays 0 = .ok (.aload_n 0, 1) := by decide +kernel
theorem dX7_lays_1 : decode cX7_lays 1 = .ok (.invokevirtual 194, 3) := by decide +kernel
theorem dX7_lays_4 : decode cX7_lays 4 = .ok (.aload_n 0, 1) := by decide +kernel
theorem dX7_lays_5 : decode cX7_lays 5 = .ok (.iload_n 1, 1) := by decide +kernel
theorem dX7_lays_6 : decode cX7_lays 6 = .ok (.ifCond .ne 7, 3) := by decide +kernel
theorem dX7_lays_9 : decode cX7_lays 9 = .ok (.iload_n 2, 1) := by decide +kernel
theorem dX7_lays_10 : decode cX7_lays 10 = .ok (.goto 7, 3) := by decide +kernel
theorem dX7_lays_13 : decode cX7_lays 13 = .ok (.aload_n 0, 1) := by decide +kernel
theorem dX7_lays_14 : decode cX7_lays 14 = .ok (.getfield 201, 3) := by decide +kernel
theorem dX7_lays_17 : decode cX7_lays 17 = .ok (.putfield 201, 3) := by decide +kernel
theorem dX7_lays_20 : decode cX7_lays 20 = .ok (.aload_n 0, 1) := by decide +kernel
theorem dX7_lays_21 : decode cX7_lays 21 = .ok (.iload_n 1, 1) := by decide +kernel
theorem dX7_lays_22 : decode cX7_lays 22 = .ok (.iconst 1, 1) := by decide +kernel
theorem dX7_lays_23 : decode cX7_lays 23 = .ok (.if_icmp .ne 7, 3) := by decide +kernel
theorem dX7_lays_26 : decode cX7_lays 26 = .ok (.iload_n 2, 1) := by decide +kernel
theorem dX7_lays_27 : decode cX7_lays 27 = .ok (.goto 7, 3) := by decide +kernel
theorem dX7_lays_30 : decode cX7_lays 30 = .ok (.aload_n 0, 1) := by decide +kernel
theorem dX7_lays_31 : decode cX7_lays 31 = .ok (.getfield 185, 3) := by decide +kernel
theorem dX7_lays_34 : decode cX7_lays 34 = .ok (.putfield 185, 3) := by decide +kernel
theorem dX7_lays_37 : decode cX7_lays 37 = .ok (.aload_n 0, 1) := by decide +kernel
theorem dX7_lays_38 : decode cX7_lays 38 = .ok (.iload_n 1, 1) := by decide +kernel
theorem dX7_lays_39 : decode cX7_lays 39 = .ok (.iconst 2, 1) := by decide +kernel
theorem dX7_lays_40 : decode cX7_lays 40 = .ok (.if_icmp .ne 7, 3) := by decide +kernel
theorem dX7_lays_43 : decode cX7_lays 43 = .ok (.iload_n 2, 1) := by decide +kernel
theorem dX7_lays_44 : decode cX7_lays 44 = .ok (.goto 7, 3) := by decide +kernel
theorem dX7_lays_47 : decode cX7_lays 47 = .ok (.aload_n 0, 1) := by decide +kernel
theorem dX7_lays_48 : decode cX7_lays 48 = .ok (.getfield 204, 3) := by decide +kernel
theorem dX7_lays_51 : decode cX7_lays 51 = .ok (.putfield 204, 3) := by decide +kernel
theorem dX7_lays_54 : decode cX7_lays 54 = .ok (.return_, 1) := by decide +kernel
def l7_lays_51  (s0 : Int32) (M : mm_M) : Option (mm_M) :=
  bM (sI M 46 13 s0) (fun M => some M)
set_option maxHeartbeats 2000000 in
theorem sl7_lays_51   (s0 : Int32)  (M : mm_M) : Snd injV j7_lays mm_X0 51 [none, none, none] [.int s0, .ref 46] M (l7_lays_51  s0 M) := by
  unfold l7_lays_51
  refine p_X7_204 (j := j7_lays) (pc := 51) rfl dX7_lays_51 (fun M => ?_)
  exact sn_vret (j := j7_lays) (pc := 54) rfl dX7_lays_54
def l7_lays_34  (x1 : Int32) (x2 : Int32) (s0 : Int32) (M : mm_M) : Option (mm_M) :=
  bM (sI M 46 12 s0) (fun M => if x1 = 2 then (l7_lays_51 x2 M) else (bI (mI M 46 13) (fun v_1 => l7_lays_51 v_1 M)))
set_option maxHeartbeats 2000000 in
theorem sl7_lays_34   (x1 : Int32) (x2 : Int32) (s0 : Int32)  (M : mm_M) : Snd injV j7_lays mm_X0 34 [some (.ref 46), some (.int x1), some (.int x2)] [.int s0, .ref 46] M (l7_lays_34  x1 x2 s0 M) := by
  unfold l7_lays_34
  refine p_X7_185 (j := j7_lays) (pc := 34) rfl dX7_lays_34 (fun M => ?_)
  refine sn_aload_n (j := j7_lays) (pc := 37) rfl rfl dX7_lays_37 ?_
  refine sn_iload_n (j := j7_lays) (pc := 38) rfl rfl dX7_lays_38 ?_
  refine sn_iconst (j := j7_lays) (pc := 39) 2 rfl dX7_lays_39 ?_
  refine sn_icmp_ne (j := j7_lays) (pc := 40) 47 rfl dX7_lays_40 ?_ ?_
  · refine sn_aload_n (j := j7_lays) (pc := 47) rfl rfl dX7_lays_47 ?_
    refine g_X7_204 (j := j7_lays) (pc := 48) rfl dX7_lays_48 ?_
    refine Snd.bI (fun v_1 => ?_)
    exact Snd.wk (sl7_lays_51 v_1 M) (by simp [mm_le])
  · refine sn_iload_n (j := j7_lays) (pc := 43) rfl rfl dX7_lays_43 ?_
    refine sn_goto (j := j7_lays) (pc := 44) 51 rfl dX7_lays_44 ?_
    exact Snd.wk (sl7_lays_51 x2 M) (by simp [mm_le])
def l7_lays_17  (x1 : Int32) (x2 : Int32) (s0 : Int32) (M : mm_M) : Option (mm_M) :=
  bM (sI M 46 11 s0) (fun M => if x1 = 1 then (l7_lays_34 x1 x2 x2 M) else (bI (mI M 46 12) (fun v_2 => l7_lays_34 x1 x2 v_2 M)))
set_option maxHeartbeats 2000000 in
theorem sl7_lays_17   (x1 : Int32) (x2 : Int32) (s0 : Int32)  (M : mm_M) : Snd injV j7_lays mm_X0 17 [some (.ref 46), some (.int x1), some (.int x2)] [.int s0, .ref 46] M (l7_lays_17  x1 x2 s0 M) := by
  unfold l7_lays_17
  refine p_X7_201 (j := j7_lays) (pc := 17) rfl dX7_lays_17 (fun M => ?_)
  refine sn_aload_n (j := j7_lays) (pc := 20) rfl rfl dX7_lays_20 ?_
  refine sn_iload_n (j := j7_lays) (pc := 21) rfl rfl dX7_lays_21 ?_
  refine sn_iconst (j := j7_lays) (pc := 22) 1 rfl dX7_lays_22 ?_
  refine sn_icmp_ne (j := j7_lays) (pc := 23) 30 rfl dX7_lays_23 ?_ ?_
  · refine sn_aload_n (j := j7_lays) (pc := 30) rfl rfl dX7_lays_30 ?_
    refine g_X7_185 (j := j7_lays) (pc := 31) rfl dX7_lays_31 ?_
    refine Snd.bI (fun v_2 => ?_)
    exact Snd.wk (sl7_lays_34 x1 x2 v_2 M) (by simp [mm_le])
  · refine sn_iload_n (j := j7_lays) (pc := 26) rfl rfl dX7_lays_26 ?_
    refine sn_goto (j := j7_lays) (pc := 27) 34 rfl dX7_lays_27 ?_
    exact Snd.wk (sl7_lays_34 x1 x2 x2 M) (by simp [mm_le])
def f7_lays (x1 : Int32) (x2 : Int32) (M : mm_M) : Option (mm_M) :=
  cV (f7_asTold M) (fun M => if x1 = 0 then (l7_lays_17 x1 x2 x2 M) else (bI (mI M 46 11) (fun v_3 => l7_lays_17 x1 x2 v_3 M)))
set_option maxHeartbeats 2000000 in
theorem s7_lays (x1 : Int32) (x2 : Int32) (M : mm_M) : Snd injV j7_lays mm_X0 0 [some (.ref 46), some (.int x1), some (.int x2)] [] M (f7_lays x1 x2 M) := by
  refine Snd.wk (lo' := [some (.ref 46), some (.int x1), some (.int x2)]) ?_ (by simp [mm_le])
  unfold f7_lays
  refine sn_aload_n (j := j7_lays) (pc := 0) rfl rfl dX7_lays_0 ?_
  refine sn_callV (j := j7_lays) (pc := 1) (jc := j7_asTold) (As := []) (s7_asTold M) mm_hvV (by simp [Value.category]) (Nat.le_of_ble_eq_true rfl) q7_asTold rfl (by decide) rfl rfl ⟨by decide, by decide⟩ w_ml_X7_194 w_im_X7_asTold w_se_X7_asTold rfl (Nat.le_of_ble_eq_true rfl) dX7_lays_1 ?_
  intro M
  show Snd injV j7_lays mm_X0 4 [some (.ref 46), some (.int x1), some (.int x2)] [] M _
  refine sn_aload_n (j := j7_lays) (pc := 4) rfl rfl dX7_lays_4 ?_
  refine sn_iload_n (j := j7_lays) (pc := 5) rfl rfl dX7_lays_5 ?_
  refine sn_if_ne (j := j7_lays) (pc := 6) 13 rfl dX7_lays_6 ?_ ?_
  · refine sn_aload_n (j := j7_lays) (pc := 13) rfl rfl dX7_lays_13 ?_
    refine g_X7_201 (j := j7_lays) (pc := 14) rfl dX7_lays_14 ?_
    refine Snd.bI (fun v_3 => ?_)
    exact Snd.wk (sl7_lays_17 x1 x2 v_3 M) (by simp [mm_le])
  · refine sn_iload_n (j := j7_lays) (pc := 9) rfl rfl dX7_lays_9 ?_
    refine sn_goto (j := j7_lays) (pc := 10) 17 rfl dX7_lays_10 ?_
    exact Snd.wk (sl7_lays_17 x1 x2 x2 M) (by simp [mm_le])

abbrev j7_were : mm_J := (yX7_were, cX7_were, 3, (some .int), 6)
theorem dX7_were_0 : decode cX7_were 0 = .ok (.aload_n 0, 1) := by decide +kernel
theorem dX7_were_1 : decode cX7_were 1 = .ok (.iconst 0, 1) := by decide +kernel
theorem dX7_were_2 : decode cX7_were 2 = .ok (.putfield 56, 3) := by decide +kernel
theorem dX7_were_5 : decode cX7_were 5 = .ok (.iload_n 1, 1) := by decide +kernel
theorem dX7_were_6 : decode cX7_were 6 = .ok (.iconst 0, 1) := by decide +kernel
theorem dX7_were_7 : decode cX7_were 7 = .ok (.iconst 2, 1) := by decide +kernel
theorem dX7_were_8 : decode cX7_were 8 = .ok (.invokestatic 60, 3) := by decide +kernel
theorem dX7_were_11 : decode cX7_were 11 = .ok (.ifCond .eq 15, 3) := by decide +kernel
theorem dX7_were_14 : decode cX7_were 14 = .ok (.iload_n 2, 1) := by decide +kernel
theorem dX7_were_15 : decode cX7_were 15 = .ok (.iconst 1, 1) := by decide +kernel
theorem dX7_were_16 : decode cX7_were 16 = .ok (.iload_n 1, 1) := by decide +kernel
theorem dX7_were_17 : decode cX7_were 17 = .ok (.invokestatic 165, 3) := by decide +kernel
theorem dX7_were_20 : decode cX7_were 20 = .ok (.invokestatic 60, 3) := by decide +kernel
theorem dX7_were_23 : decode cX7_were 23 = .ok (.ifCond .ne 5, 3) := by decide +kernel
theorem dX7_were_26 : decode cX7_were 26 = .ok (.iconst (-1), 1) := by decide +kernel
theorem dX7_were_27 : decode cX7_were 27 = .ok (.ireturn, 1) := by decide +kernel
theorem dX7_were_28 : decode cX7_were 28 = .ok (.aload_n 0, 1) := by decide +kernel
theorem dX7_were_29 : decode cX7_were 29 = .ok (.iload_n 1, 1) := by decide +kernel
theorem dX7_were_30 : decode cX7_were 30 = .ok (.iload_n 2, 1) := by decide +kernel
theorem dX7_were_31 : decode cX7_were 31 = .ok (.invokevirtual 265, 3) := by decide +kernel
theorem dX7_were_34 : decode cX7_were 34 = .ok (.aload_n 0, 1) := by decide +kernel
theorem dX7_were_35 : decode cX7_were 35 = .ok (.invokevirtual 262, 3) := by decide +kernel
theorem dX7_were_38 : decode cX7_were 38 = .ok (.ireturn, 1) := by decide +kernel
def l7_were_26   (M : mm_M) : Option (Int32 × mm_M) :=
  some ((-1), M)
set_option maxHeartbeats 2000000 in
theorem sl7_were_26     (M : mm_M) : Snd injI j7_were mm_X0 26 [none, none, none] [] M (l7_were_26   M) := by
  unfold l7_were_26
  refine sn_iconst (j := j7_were) (pc := 26) (-1) rfl dX7_were_26 ?_
  exact sn_iret (j := j7_were) (pc := 27) rfl dX7_were_27
def f7_were (x1 : Int32) (x2 : Int32) (M : mm_M) : Option (Int32 × mm_M) :=
  bM (sI M 46 0 0) (fun M => cI (f7_in x1 0 2 M) (fun r_1 M => if r_1 = 0 then (l7_were_26 M) else (cI (f7_mostOf x1 M) (fun r_2 M => cI (f7_in x2 1 r_2 M) (fun r_3 M => if r_3 = 0 then (l7_were_26 M) else (cV (f7_lays x1 x2 M) (fun M => cI (f7_costNow M) (fun r_4 M => some (r_4, M)))))))))
set_option maxHeartbeats 2000000 in
theorem s7_were (x1 : Int32) (x2 : Int32) (M : mm_M) : Snd injI j7_were mm_X0 0 [some (.ref 46), some (.int x1), some (.int x2)] [] M (f7_were x1 x2 M) := by
  refine Snd.wk (lo' := [some (.ref 46), some (.int x1), some (.int x2)]) ?_ (by simp [mm_le])
  unfold f7_were
  refine sn_aload_n (j := j7_were) (pc := 0) rfl rfl dX7_were_0 ?_
  refine sn_iconst (j := j7_were) (pc := 1) 0 rfl dX7_were_1 ?_
  refine p_X7_56 (j := j7_were) (pc := 2) rfl dX7_were_2 (fun M => ?_)
  refine sn_iload_n (j := j7_were) (pc := 5) rfl rfl dX7_were_5 ?_
  refine sn_iconst (j := j7_were) (pc := 6) 0 rfl dX7_were_6 ?_
  refine sn_iconst (j := j7_were) (pc := 7) 2 rfl dX7_were_7 ?_
  refine sn_callS (j := j7_were) (pc := 8) (jc := j7_in) (As := [.int x1, .int 0, .int 2]) (s7_in x1 0 2 M) mm_hvI (by simp [Value.category]) (Nat.le_of_ble_eq_true rfl) q7_in rfl (by decide) w_ml_X7_60 w_st_X7_in rfl (Nat.le_of_ble_eq_true rfl) dX7_were_8 ?_
  rintro ⟨r_1, M⟩
  show Snd injI j7_were mm_X0 11 [some (.ref 46), some (.int x1), some (.int x2)] [.int r_1] M _
  refine sn_if_eq (j := j7_were) (pc := 11) 26 rfl dX7_were_11 ?_ ?_
  · exact Snd.wk (sl7_were_26 M) (by simp [mm_le])
  · refine sn_iload_n (j := j7_were) (pc := 14) rfl rfl dX7_were_14 ?_
    refine sn_iconst (j := j7_were) (pc := 15) 1 rfl dX7_were_15 ?_
    refine sn_iload_n (j := j7_were) (pc := 16) rfl rfl dX7_were_16 ?_
    refine sn_callS (j := j7_were) (pc := 17) (jc := j7_mostOf) (As := [.int x1]) (s7_mostOf x1 M) mm_hvI (by simp [Value.category]) (Nat.le_of_ble_eq_true rfl) q7_mostOf rfl (by decide) w_ml_X7_165 w_st_X7_mostOf rfl (Nat.le_of_ble_eq_true rfl) dX7_were_17 ?_
    rintro ⟨r_2, M⟩
    show Snd injI j7_were mm_X0 20 [some (.ref 46), some (.int x1), some (.int x2)] [.int r_2, .int 1, .int x2] M _
    refine sn_callS (j := j7_were) (pc := 20) (jc := j7_in) (As := [.int x2, .int 1, .int r_2]) (s7_in x2 1 r_2 M) mm_hvI (by simp [Value.category]) (Nat.le_of_ble_eq_true rfl) q7_in rfl (by decide) w_ml_X7_60 w_st_X7_in rfl (Nat.le_of_ble_eq_true rfl) dX7_were_20 ?_
    rintro ⟨r_3, M⟩
    show Snd injI j7_were mm_X0 23 [some (.ref 46), some (.int x1), some (.int x2)] [.int r_3] M _
    refine sn_if_ne (j := j7_were) (pc := 23) 28 rfl dX7_were_23 ?_ ?_
    · refine sn_aload_n (j := j7_were) (pc := 28) rfl rfl dX7_were_28 ?_
      refine sn_iload_n (j := j7_were) (pc := 29) rfl rfl dX7_were_29 ?_
      refine sn_iload_n (j := j7_were) (pc := 30) rfl rfl dX7_were_30 ?_
      refine sn_callV (j := j7_were) (pc := 31) (jc := j7_lays) (As := [.int x1, .int x2]) (s7_lays x1 x2 M) mm_hvV (by simp [Value.category]) (Nat.le_of_ble_eq_true rfl) q7_lays rfl (by decide) rfl rfl ⟨by decide, by decide⟩ w_ml_X7_265 w_im_X7_lays w_se_X7_lays rfl (Nat.le_of_ble_eq_true rfl) dX7_were_31 ?_
      intro M
      show Snd injI j7_were mm_X0 34 [some (.ref 46), some (.int x1), some (.int x2)] [] M _
      refine sn_aload_n (j := j7_were) (pc := 34) rfl rfl dX7_were_34 ?_
      refine sn_callV (j := j7_were) (pc := 35) (jc := j7_costNow) (As := []) (s7_costNow M) mm_hvI (by simp [Value.category]) (Nat.le_of_ble_eq_true rfl) q7_costNow rfl (by decide) rfl rfl ⟨by decide, by decide⟩ w_ml_X7_262 w_im_X7_costNow w_se_X7_costNow rfl (Nat.le_of_ble_eq_true rfl) dX7_were_35 ?_
      rintro ⟨r_4, M⟩
      show Snd injI j7_were mm_X0 38 [some (.ref 46), some (.int x1), some (.int x2)] [.int r_4] M _
      exact sn_iret (j := j7_were) (pc := 38) rfl dX7_were_38
    · exact Snd.wk (sl7_were_26 M) (by simp [mm_le])

abbrev j7_least : mm_J := (yX7_least, cX7_least, 3, (some .int), 6)
theorem dX7_least_0 : decode cX7_least 0 = .ok (.aload_n 0, 1) := by decide +kernel
theorem dX7_least_1 : decode cX7_least 1 = .ok (.iconst 0, 1) := by decide +kernel
theorem dX7_least_2 : decode cX7_least 2 = .ok (.putfield 56, 3) := by decide +kernel
theorem dX7_least_5 : decode cX7_least 5 = .ok (.iload_n 1, 1) := by decide +kernel
theorem dX7_least_6 : decode cX7_least 6 = .ok (.iconst 0, 1) := by decide +kernel
theorem dX7_least_7 : decode cX7_least 7 = .ok (.iconst 2, 1) := by decide +kernel
theorem dX7_least_8 : decode cX7_least 8 = .ok (.invokestatic 60, 3) := by decide +kernel
theorem dX7_least_11 : decode cX7_least 11 = .ok (.ifCond .ne 5, 3) := by decide +kernel
theorem dX7_least_14 : decode cX7_least 14 = .ok (.iconst (-1), 1) := by decide +kernel
theorem dX7_least_15 : decode cX7_least 15 = .ok (.ireturn, 1) := by decide +kernel
theorem dX7_least_16 : decode cX7_least 16 = .ok (.iconst 1, 1) := by decide +kernel
theorem dX7_least_17 : decode cX7_least 17 = .ok (.istore_n 2, 1) := by decide +kernel
theorem dX7_least_18 : decode cX7_least 18 = .ok (.iload_n 2, 1) := by decide +kernel
theorem dX7_least_19 : decode cX7_least 19 = .ok (.iload_n 1, 1) := by decide +kernel
theorem dX7_least_20 : decode cX7_least 20 = .ok (.invokestatic 165, 3) := by decide +kernel
theorem dX7_least_23 : decode cX7_least 23 = .ok (.if_icmp .gt 24, 3) := by decide +kernel
theorem dX7_least_26 : decode cX7_least 26 = .ok (.aload_n 0, 1) := by decide +kernel
theorem dX7_least_27 : decode cX7_least 27 = .ok (.iload_n 1, 1) := by decide +kernel
theorem dX7_least_28 : decode cX7_least 28 = .ok (.iload_n 2, 1) := by decide +kernel
theorem dX7_least_29 : decode cX7_least 29 = .ok (.invokevirtual 265, 3) := by decide +kernel
theorem dX7_least_32 : decode cX7_least 32 = .ok (.aload_n 0, 1) := by decide +kernel
theorem dX7_least_33 : decode cX7_least 33 = .ok (.invokevirtual 262, 3) := by decide +kernel
theorem dX7_least_36 : decode cX7_least 36 = .ok (.ifCond .lt 5, 3) := by decide +kernel
theorem dX7_least_39 : decode cX7_least 39 = .ok (.iload_n 2, 1) := by decide +kernel
theorem dX7_least_40 : decode cX7_least 40 = .ok (.ireturn, 1) := by decide +kernel
theorem dX7_least_41 : decode cX7_least 41 = .ok (.iinc 2 1, 3) := by decide +kernel
theorem dX7_least_44 : decode cX7_least 44 = .ok (.goto (-26), 3) := by decide +kernel
theorem dX7_least_47 : decode cX7_least 47 = .ok (.iconst (-1), 1) := by decide +kernel
theorem dX7_least_48 : decode cX7_least 48 = .ok (.ireturn, 1) := by decide +kernel
def b7_least_18  (rec18 : Int32 → Int32 → mm_M → Option (Int32 × mm_M)) (x1 : Int32) (x2 : Int32) (M : mm_M) : Option (Int32 × mm_M) :=
  cI (f7_mostOf x1 M) (fun r_1 M => if r_1 < x2 then (some ((-1), M)) else (cV (f7_lays x1 x2 M) (fun M => cI (f7_costNow M) (fun r_2 M => if r_2 < 0 then (rec18 x1 (x2 + 1) M) else (some (x2, M))))))
set_option maxHeartbeats 2000000 in
theorem sb7_least_18   (rec18 : Int32 → Int32 → mm_M → Option (Int32 × mm_M)) (hrec18 : ∀ (x1 : Int32) (x2 : Int32) (M : mm_M), Snd injI j7_least mm_X0 18 [some (.ref 46), some (.int x1), some (.int x2)] [] M (rec18 x1 x2 M)) (x1 : Int32) (x2 : Int32)  (M : mm_M) : Snd injI j7_least mm_X0 18 [some (.ref 46), some (.int x1), some (.int x2)] [] M (b7_least_18  rec18 x1 x2 M) := by
  unfold b7_least_18
  refine sn_iload_n (j := j7_least) (pc := 18) rfl rfl dX7_least_18 ?_
  refine sn_iload_n (j := j7_least) (pc := 19) rfl rfl dX7_least_19 ?_
  refine sn_callS (j := j7_least) (pc := 20) (jc := j7_mostOf) (As := [.int x1]) (s7_mostOf x1 M) mm_hvI (by simp [Value.category]) (Nat.le_of_ble_eq_true rfl) q7_mostOf rfl (by decide) w_ml_X7_165 w_st_X7_mostOf rfl (Nat.le_of_ble_eq_true rfl) dX7_least_20 ?_
  rintro ⟨r_1, M⟩
  show Snd injI j7_least mm_X0 23 [some (.ref 46), some (.int x1), some (.int x2)] [.int r_1, .int x2] M _
  refine sn_icmp_gt (j := j7_least) (pc := 23) 47 rfl dX7_least_23 ?_ ?_
  · refine sn_iconst (j := j7_least) (pc := 47) (-1) rfl dX7_least_47 ?_
    exact sn_iret (j := j7_least) (pc := 48) rfl dX7_least_48
  · refine sn_aload_n (j := j7_least) (pc := 26) rfl rfl dX7_least_26 ?_
    refine sn_iload_n (j := j7_least) (pc := 27) rfl rfl dX7_least_27 ?_
    refine sn_iload_n (j := j7_least) (pc := 28) rfl rfl dX7_least_28 ?_
    refine sn_callV (j := j7_least) (pc := 29) (jc := j7_lays) (As := [.int x1, .int x2]) (s7_lays x1 x2 M) mm_hvV (by simp [Value.category]) (Nat.le_of_ble_eq_true rfl) q7_lays rfl (by decide) rfl rfl ⟨by decide, by decide⟩ w_ml_X7_265 w_im_X7_lays w_se_X7_lays rfl (Nat.le_of_ble_eq_true rfl) dX7_least_29 ?_
    intro M
    show Snd injI j7_least mm_X0 32 [some (.ref 46), some (.int x1), some (.int x2)] [] M _
    refine sn_aload_n (j := j7_least) (pc := 32) rfl rfl dX7_least_32 ?_
    refine sn_callV (j := j7_least) (pc := 33) (jc := j7_costNow) (As := []) (s7_costNow M) mm_hvI (by simp [Value.category]) (Nat.le_of_ble_eq_true rfl) q7_costNow rfl (by decide) rfl rfl ⟨by decide, by decide⟩ w_ml_X7_262 w_im_X7_costNow w_se_X7_costNow rfl (Nat.le_of_ble_eq_true rfl) dX7_least_33 ?_
    rintro ⟨r_2, M⟩
    show Snd injI j7_least mm_X0 36 [some (.ref 46), some (.int x1), some (.int x2)] [.int r_2] M _
    refine sn_if_lt (j := j7_least) (pc := 36) 41 rfl dX7_least_36 ?_ ?_
    · refine sn_iinc (j := j7_least) (pc := 41) 1 rfl (by decide) rfl (lo' := [some (.ref 46), some (.int x1), some (.int (x2 + 1))]) rfl dX7_least_41 ?_
      refine sn_goto (j := j7_least) (pc := 44) 18 rfl dX7_least_44 ?_
      exact Snd.wk (hrec18 x1 (x2 + 1) M ) (by simp [mm_le])
    · refine sn_iload_n (j := j7_least) (pc := 39) rfl rfl dX7_least_39 ?_
      exact sn_iret (j := j7_least) (pc := 40) rfl dX7_least_40
def l7_least_18  : Nat → Int32 → Int32 → mm_M → Option (Int32 × mm_M)
  | 0 => fun _ _ _ => none
  | n + 1 => fun x1 x2 M => b7_least_18  (l7_least_18  n) x1 x2 M
theorem sl7_least_18   : ∀ (n : Nat) (x1 : Int32) (x2 : Int32)  (M : mm_M), Snd injI j7_least mm_X0 18 [some (.ref 46), some (.int x1), some (.int x2)] [] M (l7_least_18  n x1 x2 M)
  | 0 => fun _ _  _ => Snd.none
  | n + 1 => fun x1 x2  M => sb7_least_18   (l7_least_18  n) (fun x1 x2 M  => sl7_least_18   n x1 x2  M) x1 x2  M
def f7_least (x1 : Int32) (M : mm_M) : Option (Int32 × mm_M) :=
  bM (sI M 46 0 0) (fun M => cI (f7_in x1 0 2 M) (fun r_3 M => if r_3 = 0 then (some ((-1), M)) else (l7_least_18 FU x1 1 M)))
set_option maxHeartbeats 2000000 in
theorem s7_least (x1 : Int32) (M : mm_M) : Snd injI j7_least mm_X0 0 [some (.ref 46), some (.int x1)] [] M (f7_least x1 M) := by
  refine Snd.wk (lo' := [some (.ref 46), some (.int x1), none]) ?_ (by simp [mm_le])
  unfold f7_least
  refine sn_aload_n (j := j7_least) (pc := 0) rfl rfl dX7_least_0 ?_
  refine sn_iconst (j := j7_least) (pc := 1) 0 rfl dX7_least_1 ?_
  refine p_X7_56 (j := j7_least) (pc := 2) rfl dX7_least_2 (fun M => ?_)
  refine sn_iload_n (j := j7_least) (pc := 5) rfl rfl dX7_least_5 ?_
  refine sn_iconst (j := j7_least) (pc := 6) 0 rfl dX7_least_6 ?_
  refine sn_iconst (j := j7_least) (pc := 7) 2 rfl dX7_least_7 ?_
  refine sn_callS (j := j7_least) (pc := 8) (jc := j7_in) (As := [.int x1, .int 0, .int 2]) (s7_in x1 0 2 M) mm_hvI (by simp [Value.category]) (Nat.le_of_ble_eq_true rfl) q7_in rfl (by decide) w_ml_X7_60 w_st_X7_in rfl (Nat.le_of_ble_eq_true rfl) dX7_least_8 ?_
  rintro ⟨r_3, M⟩
  show Snd injI j7_least mm_X0 11 [some (.ref 46), some (.int x1), none] [.int r_3] M _
  refine sn_if_ne (j := j7_least) (pc := 11) 16 rfl dX7_least_11 ?_ ?_
  · refine sn_iconst (j := j7_least) (pc := 16) 1 rfl dX7_least_16 ?_
    refine sn_istore_n (j := j7_least) (pc := 17) rfl (by decide) (lo' := [some (.ref 46), some (.int x1), some (.int 1)]) rfl dX7_least_17 ?_
    exact Snd.wk (sl7_least_18 FU x1 1 M) (by simp [mm_le])
  · refine sn_iconst (j := j7_least) (pc := 14) (-1) rfl dX7_least_14 ?_
    exact sn_iret (j := j7_least) (pc := 15) rfl dX7_least_15

abbrev j7_without : mm_J := (yX7_without, cX7_without, 2, (some .int), 6)
theorem dX7_without_0 : decode cX7_without 0 = .ok (.aload_n 0, 1) := by decide +kernel
theorem dX7_without_1 : decode cX7_without 1 = .ok (.iconst 0, 1) := by decide +kernel
theorem dX7_without_2 : decode cX7_without 2 = .ok (.putfield 56, 3) := by decide +kernel
theorem dX7_without_5 : decode cX7_without 5 = .ok (.iload_n 1, 1) := by decide +kernel
theorem dX7_without_6 : decode cX7_without 6 = .ok (.iconst 0, 1) := by decide +kernel
theorem dX7_without_7 : decode cX7_without 7 = .ok (.iconst 1, 1) := by decide +kernel
theorem dX7_without_8 : decode cX7_without 8 = .ok (.aload_n 0, 1) := by decide +kernel
theorem dX7_without_9 : decode cX7_without 9 = .ok (.getfield 7, 3) := by decide +kernel
theorem dX7_without_12 : decode cX7_without 12 = .ok (.iconst 1, 1) := by decide +kernel
theorem dX7_without_13 : decode cX7_without 13 = .ok (.iaload, 1) := by decide +kernel
theorem dX7_without_14 : decode cX7_without 14 = .ok (.ishl, 1) := by decide +kernel
theorem dX7_without_15 : decode cX7_without 15 = .ok (.iconst 1, 1) := by decide +kernel
theorem dX7_without_16 : decode cX7_without 16 = .ok (.isub, 1) := by decide +kernel
theorem dX7_without_17 : decode cX7_without 17 = .ok (.invokestatic 60, 3) := by decide +kernel
theorem dX7_without_20 : decode cX7_without 20 = .ok (.ifCond .ne 5, 3) := by decide +kernel
theorem dX7_without_23 : decode cX7_without 23 = .ok (.iconst (-1), 1) := by decide +kernel
theorem dX7_without_24 : decode cX7_without 24 = .ok (.ireturn, 1) := by decide +kernel
theorem dX7_without_25 : decode cX7_without 25 = .ok (.aload_n 0, 1) := by decide +kernel
theorem dX7_without_26 : decode cX7_without 26 = .ok (.invokevirtual 194, 3) := by decide +kernel
theorem dX7_without_29 : decode cX7_without 29 = .ok (.aload_n 0, 1) := by decide +kernel
theorem dX7_without_30 : decode cX7_without 30 = .ok (.iload_n 1, 1) := by decide +kernel
theorem dX7_without_31 : decode cX7_without 31 = .ok (.putfield 207, 3) := by decide +kernel
theorem dX7_without_34 : decode cX7_without 34 = .ok (.aload_n 0, 1) := by decide +kernel
theorem dX7_without_35 : decode cX7_without 35 = .ok (.invokevirtual 262, 3) := by decide +kernel
theorem dX7_without_38 : decode cX7_without 38 = .ok (.ireturn, 1) := by decide +kernel
def f7_without (x1 : Int32) (M : mm_M) : Option (Int32 × mm_M) :=
  bM (sI M 46 0 0) (fun M => aI 47 82 1 M (fun w_1 => cI (f7_in x1 0 ((1 <<< (w_1 &&& 31)) - 1) M) (fun r_2 M => if r_2 = 0 then (some ((-1), M)) else (cV (f7_asTold M) (fun M => bM (sI M 46 15 x1) (fun M => cI (f7_costNow M) (fun r_3 M => some (r_3, M))))))))
set_option maxHeartbeats 2000000 in
theorem s7_without (x1 : Int32) (M : mm_M) : Snd injI j7_without mm_X0 0 [some (.ref 46), some (.int x1)] [] M (f7_without x1 M) := by
  refine Snd.wk (lo' := [some (.ref 46), some (.int x1)]) ?_ (by simp [mm_le])
  unfold f7_without
  refine sn_aload_n (j := j7_without) (pc := 0) rfl rfl dX7_without_0 ?_
  refine sn_iconst (j := j7_without) (pc := 1) 0 rfl dX7_without_1 ?_
  refine p_X7_56 (j := j7_without) (pc := 2) rfl dX7_without_2 (fun M => ?_)
  refine sn_iload_n (j := j7_without) (pc := 5) rfl rfl dX7_without_5 ?_
  refine sn_iconst (j := j7_without) (pc := 6) 0 rfl dX7_without_6 ?_
  refine sn_iconst (j := j7_without) (pc := 7) 1 rfl dX7_without_7 ?_
  refine sn_aload_n (j := j7_without) (pc := 8) rfl rfl dX7_without_8 ?_
  refine g_X7_7 (j := j7_without) (pc := 9) rfl dX7_without_9 ?_
  refine sn_iconst (j := j7_without) (pc := 12) 1 rfl dX7_without_12 ?_
  refine sn_iald (j := j7_without) (pc := 13) rfl ⟨by decide, by decide⟩ dX7_without_13 (fun w_1 => ?_)
  refine sn_ishl (j := j7_without) (pc := 14) dX7_without_14 ?_
  refine sn_iconst (j := j7_without) (pc := 15) 1 rfl dX7_without_15 ?_
  refine sn_isub (j := j7_without) (pc := 16) dX7_without_16 ?_
  refine sn_callS (j := j7_without) (pc := 17) (jc := j7_in) (As := [.int x1, .int 0, .int ((1 <<< (w_1 &&& 31)) - 1)]) (s7_in x1 0 ((1 <<< (w_1 &&& 31)) - 1) M) mm_hvI (by simp [Value.category]) (Nat.le_of_ble_eq_true rfl) q7_in rfl (by decide) w_ml_X7_60 w_st_X7_in rfl (Nat.le_of_ble_eq_true rfl) dX7_without_17 ?_
  rintro ⟨r_2, M⟩
  show Snd injI j7_without mm_X0 20 [some (.ref 46), some (.int x1)] [.int r_2] M _
  refine sn_if_ne (j := j7_without) (pc := 20) 25 rfl dX7_without_20 ?_ ?_
  · refine sn_aload_n (j := j7_without) (pc := 25) rfl rfl dX7_without_25 ?_
    refine sn_callV (j := j7_without) (pc := 26) (jc := j7_asTold) (As := []) (s7_asTold M) mm_hvV (by simp [Value.category]) (Nat.le_of_ble_eq_true rfl) q7_asTold rfl (by decide) rfl rfl ⟨by decide, by decide⟩ w_ml_X7_194 w_im_X7_asTold w_se_X7_asTold rfl (Nat.le_of_ble_eq_true rfl) dX7_without_26 ?_
    intro M
    show Snd injI j7_without mm_X0 29 [some (.ref 46), some (.int x1)] [] M _
    refine sn_aload_n (j := j7_without) (pc := 29) rfl rfl dX7_without_29 ?_
    refine sn_iload_n (j := j7_without) (pc := 30) rfl rfl dX7_without_30 ?_
    refine p_X7_207 (j := j7_without) (pc := 31) rfl dX7_without_31 (fun M => ?_)
    refine sn_aload_n (j := j7_without) (pc := 34) rfl rfl dX7_without_34 ?_
    refine sn_callV (j := j7_without) (pc := 35) (jc := j7_costNow) (As := []) (s7_costNow M) mm_hvI (by simp [Value.category]) (Nat.le_of_ble_eq_true rfl) q7_costNow rfl (by decide) rfl rfl ⟨by decide, by decide⟩ w_ml_X7_262 w_im_X7_costNow w_se_X7_costNow rfl (Nat.le_of_ble_eq_true rfl) dX7_without_35 ?_
    rintro ⟨r_3, M⟩
    show Snd injI j7_without mm_X0 38 [some (.ref 46), some (.int x1)] [.int r_3] M _
    exact sn_iret (j := j7_without) (pc := 38) rfl dX7_without_38
  · refine sn_iconst (j := j7_without) (pc := 23) (-1) rfl dX7_without_23 ?_
    exact sn_iret (j := j7_without) (pc := 24) rfl dX7_without_24

abbrev j7_rankOf : mm_J := (yX7_rankOf, cX7_rankOf, 5, (some .int), 3)
theorem dX7_rankOf_0 : decode cX7_rankOf 0 = .ok (.aload_n 0, 1) := by decide +kernel
theorem dX7_rankOf_1 : decode cX7_rankOf 1 = .ok (.getfield 25, 3) := by decide +kernel
theorem dX7_rankOf_4 : decode cX7_rankOf 4 = .ok (.iconst 4, 1) := by decide +kernel
theorem dX7_rankOf_5 : decode cX7_rankOf 5 = .ok (.iload_n 3, 1) := by decide +kernel
theorem dX7_rankOf_6 : decode cX7_rankOf 6 = .ok (.imul, 1) := by decide +kernel
theorem dX7_rankOf_7 : decode cX7_rankOf 7 = .ok (.iload_n 2, 1) := by decide +kernel
theorem dX7_rankOf_8 : decode cX7_rankOf 8 = .ok (.iadd, 1) := by decide +kernel
theorem dX7_rankOf_9 : decode cX7_rankOf 9 = .ok (.iaload, 1) := by decide +kernel
theorem dX7_rankOf_10 : decode cX7_rankOf 10 = .ok (.istore 4, 2) := by decide +kernel
theorem dX7_rankOf_12 : decode cX7_rankOf 12 = .ok (.iload_n 1, 1) := by decide +kernel
theorem dX7_rankOf_13 : decode cX7_rankOf 13 = .ok (.tableswitch 46 0 2 #[27, 29, 36], 27) := by decide +kernel
theorem dX7_rankOf_40 : decode cX7_rankOf 40 = .ok (.iload_n 2, 1) := by decide +kernel
theorem dX7_rankOf_41 : decode cX7_rankOf 41 = .ok (.ireturn, 1) := by decide +kernel
theorem dX7_rankOf_42 : decode cX7_rankOf 42 = .ok (.aload_n 0, 1) := by decide +kernel
theorem dX7_rankOf_43 : decode cX7_rankOf 43 = .ok (.iload_n 2, 1) := by decide +kernel
theorem dX7_rankOf_44 : decode cX7_rankOf 44 = .ok (.iconst 5, 1) := by decide +kernel
theorem dX7_rankOf_45 : decode cX7_rankOf 45 = .ok (.invokevirtual 181, 3) := by decide +kernel
theorem dX7_rankOf_48 : decode cX7_rankOf 48 = .ok (.ireturn, 1) := by decide +kernel
theorem dX7_rankOf_49 : decode cX7_rankOf 49 = .ok (.iload 4, 2) := by decide +kernel
theorem dX7_rankOf_51 : decode cX7_rankOf 51 = .ok (.aload_n 0, 1) := by decide +kernel
theorem dX7_rankOf_52 : decode cX7_rankOf 52 = .ok (.iload_n 2, 1) := by decide +kernel
theorem dX7_rankOf_53 : decode cX7_rankOf 53 = .ok (.iconst 3, 1) := by decide +kernel
theorem dX7_rankOf_54 : decode cX7_rankOf 54 = .ok (.invokevirtual 181, 3) := by decide +kernel
theorem dX7_rankOf_57 : decode cX7_rankOf 57 = .ok (.isub, 1) := by decide +kernel
theorem dX7_rankOf_58 : decode cX7_rankOf 58 = .ok (.ireturn, 1) := by decide +kernel
theorem dX7_rankOf_59 : decode cX7_rankOf 59 = .ok (.aload_n 0, 1) := by decide +kernel
theorem dX7_rankOf_60 : decode cX7_rankOf 60 = .ok (.iload_n 2, 1) := by decide +kernel
theorem dX7_rankOf_61 : decode cX7_rankOf 61 = .ok (.iconst 5, 1) := by decide +kernel
theorem dX7_rankOf_62 : decode cX7_rankOf 62 = .ok (.invokevirtual 181, 3) := by decide +kernel
theorem dX7_rankOf_65 : decode cX7_rankOf 65 = .ok (.iload_n 3, 1) := by decide +kernel
theorem dX7_rankOf_66 : decode cX7_rankOf 66 = .ok (.isub, 1) := by decide +kernel
theorem dX7_rankOf_67 : decode cX7_rankOf 67 = .ok (.aload_n 0, 1) := by decide +kernel
theorem dX7_rankOf_68 : decode cX7_rankOf 68 = .ok (.iload_n 2, 1) := by decide +kernel
theorem dX7_rankOf_69 : decode cX7_rankOf 69 = .ok (.iload 4, 2) := by decide +kernel
theorem dX7_rankOf_71 : decode cX7_rankOf 71 = .ok (.aload_n 0, 1) := by decide +kernel
theorem dX7_rankOf_72 : decode cX7_rankOf 72 = .ok (.iload_n 2, 1) := by decide +kernel
theorem dX7_rankOf_73 : decode cX7_rankOf 73 = .ok (.iconst 3, 1) := by decide +kernel
theorem dX7_rankOf_74 : decode cX7_rankOf 74 = .ok (.invokevirtual 181, 3) := by decide +kernel
theorem dX7_rankOf_77 : decode cX7_rankOf 77 = .ok (.invokevirtual 197, 3) := by decide +kernel
theorem dX7_rankOf_80 : decode cX7_rankOf 80 = .ok (.isub, 1) := by decide +kernel
theorem dX7_rankOf_81 : decode cX7_rankOf 81 = .ok (.ireturn, 1) := by decide +kernel
def f7_rankOf (x1 : Int32) (x2 : Int32) (x3 : Int32) (M : mm_M) : Option (Int32 × mm_M) :=
  aI 52 36 ((4 * x3) + x2) M (fun w_1 => if x1 = 0 then (some (x2, M)) else (if x1 = 1 then (cI (f7_of x2 5 M) (fun r_3 M => some (r_3, M))) else (if x1 = 2 then (cI (f7_of x2 3 M) (fun r_4 M => some (w_1 - r_4, M))) else (cI (f7_of x2 5 M) (fun r_5 M => cI (f7_of x2 3 M) (fun r_6 M => cI (f7_slotsOf x2 w_1 r_6 M) (fun r_7 M => some ((r_5 - x3) - r_7, M))))))))
set_option maxHeartbeats 2000000 in
theorem s7_rankOf (x1 : Int32) (x2 : Int32) (x3 : Int32) (M : mm_M) : Snd injI j7_rankOf mm_X0 0 [some (.ref 46), some (.int x1), some (.int x2), some (.int x3)] [] M (f7_rankOf x1 x2 x3 M) := by
  refine Snd.wk (lo' := [some (.ref 46), some (.int x1), some (.int x2), some (.int x3), none]) ?_ (by simp [mm_le])
  unfold f7_rankOf
  refine sn_aload_n (j := j7_rankOf) (pc := 0) rfl rfl dX7_rankOf_0 ?_
  refine g_X7_25 (j := j7_rankOf) (pc := 1) rfl dX7_rankOf_1 ?_
  refine sn_iconst (j := j7_rankOf) (pc := 4) 4 rfl dX7_rankOf_4 ?_
  refine sn_iload_n (j := j7_rankOf) (pc := 5) rfl rfl dX7_rankOf_5 ?_
  refine sn_imul (j := j7_rankOf) (pc := 6) dX7_rankOf_6 ?_
  refine sn_iload_n (j := j7_rankOf) (pc := 7) rfl rfl dX7_rankOf_7 ?_
  refine sn_iadd (j := j7_rankOf) (pc := 8) dX7_rankOf_8 ?_
  refine sn_iald (j := j7_rankOf) (pc := 9) rfl ⟨by decide, by decide⟩ dX7_rankOf_9 (fun w_1 => ?_)
  refine sn_istore (j := j7_rankOf) (pc := 10) (by decide) (lo' := [some (.ref 46), some (.int x1), some (.int x2), some (.int x3), some (.int w_1)]) rfl dX7_rankOf_10 ?_
  refine sn_iload_n (j := j7_rankOf) (pc := 12) rfl rfl dX7_rankOf_12 ?_
  refine Snd.ifc (fun hx_2_0 => ?_) (fun hx_2_0 => ?_)
  · refine sn_tbl (j := j7_rankOf) (pc := 13) 40 hx_2_0 rfl dX7_rankOf_13 (by decide) (by decide) rfl rfl ?_
    refine sn_iload_n (j := j7_rankOf) (pc := 40) rfl rfl dX7_rankOf_40 ?_
    exact sn_iret (j := j7_rankOf) (pc := 41) rfl dX7_rankOf_41
  refine Snd.ifc (fun hx_2_1 => ?_) (fun hx_2_1 => ?_)
  · refine sn_tbl (j := j7_rankOf) (pc := 13) 42 hx_2_1 rfl dX7_rankOf_13 (by decide) (by decide) rfl rfl ?_
    refine sn_aload_n (j := j7_rankOf) (pc := 42) rfl rfl dX7_rankOf_42 ?_
    refine sn_iload_n (j := j7_rankOf) (pc := 43) rfl rfl dX7_rankOf_43 ?_
    refine sn_iconst (j := j7_rankOf) (pc := 44) 5 rfl dX7_rankOf_44 ?_
    refine sn_callV (j := j7_rankOf) (pc := 45) (jc := j7_of) (As := [.int x2, .int 5]) (s7_of x2 5 M) mm_hvI (by simp [Value.category]) (Nat.le_of_ble_eq_true rfl) q7_of rfl (by decide) rfl rfl ⟨by decide, by decide⟩ w_ml_X7_181 w_im_X7_of w_se_X7_of rfl (Nat.le_of_ble_eq_true rfl) dX7_rankOf_45 ?_
    rintro ⟨r_3, M⟩
    show Snd injI j7_rankOf mm_X0 48 [some (.ref 46), some (.int x1), some (.int x2), some (.int x3), some (.int w_1)] [.int r_3] M _
    exact sn_iret (j := j7_rankOf) (pc := 48) rfl dX7_rankOf_48
  refine Snd.ifc (fun hx_2_2 => ?_) (fun hx_2_2 => ?_)
  · refine sn_tbl (j := j7_rankOf) (pc := 13) 49 hx_2_2 rfl dX7_rankOf_13 (by decide) (by decide) rfl rfl ?_
    refine sn_iload (j := j7_rankOf) (pc := 49) rfl dX7_rankOf_49 ?_
    refine sn_aload_n (j := j7_rankOf) (pc := 51) rfl rfl dX7_rankOf_51 ?_
    refine sn_iload_n (j := j7_rankOf) (pc := 52) rfl rfl dX7_rankOf_52 ?_
    refine sn_iconst (j := j7_rankOf) (pc := 53) 3 rfl dX7_rankOf_53 ?_
    refine sn_callV (j := j7_rankOf) (pc := 54) (jc := j7_of) (As := [.int x2, .int 3]) (s7_of x2 3 M) mm_hvI (by simp [Value.category]) (Nat.le_of_ble_eq_true rfl) q7_of rfl (by decide) rfl rfl ⟨by decide, by decide⟩ w_ml_X7_181 w_im_X7_of w_se_X7_of rfl (Nat.le_of_ble_eq_true rfl) dX7_rankOf_54 ?_
    rintro ⟨r_4, M⟩
    show Snd injI j7_rankOf mm_X0 57 [some (.ref 46), some (.int x1), some (.int x2), some (.int x3), some (.int w_1)] [.int r_4, .int w_1] M _
    refine sn_isub (j := j7_rankOf) (pc := 57) dX7_rankOf_57 ?_
    exact sn_iret (j := j7_rankOf) (pc := 58) rfl dX7_rankOf_58
  refine sn_tblO (j := j7_rankOf) (pc := 13) 59 dX7_rankOf_13 (by have := lv_neT hx_2_0 (show (0 : Int32).toInt = 0 from rfl); have := lv_neT hx_2_1 (show (1 : Int32).toInt = 1 from rfl); have := lv_neT hx_2_2 (show (2 : Int32).toInt = 2 from rfl); omega) rfl ?_
  refine sn_aload_n (j := j7_rankOf) (pc := 59) rfl rfl dX7_rankOf_59 ?_
  refine sn_iload_n (j := j7_rankOf) (pc := 60) rfl rfl dX7_rankOf_60 ?_
  refine sn_iconst (j := j7_rankOf) (pc := 61) 5 rfl dX7_rankOf_61 ?_
  refine sn_callV (j := j7_rankOf) (pc := 62) (jc := j7_of) (As := [.int x2, .int 5]) (s7_of x2 5 M) mm_hvI (by simp [Value.category]) (Nat.le_of_ble_eq_true rfl) q7_of rfl (by decide) rfl rfl ⟨by decide, by decide⟩ w_ml_X7_181 w_im_X7_of w_se_X7_of rfl (Nat.le_of_ble_eq_true rfl) dX7_rankOf_62 ?_
  rintro ⟨r_5, M⟩
  show Snd injI j7_rankOf mm_X0 65 [some (.ref 46), some (.int x1), some (.int x2), some (.int x3), some (.int w_1)] [.int r_5] M _
  refine sn_iload_n (j := j7_rankOf) (pc := 65) rfl rfl dX7_rankOf_65 ?_
  refine sn_isub (j := j7_rankOf) (pc := 66) dX7_rankOf_66 ?_
  refine sn_aload_n (j := j7_rankOf) (pc := 67) rfl rfl dX7_rankOf_67 ?_
  refine sn_iload_n (j := j7_rankOf) (pc := 68) rfl rfl dX7_rankOf_68 ?_
  refine sn_iload (j := j7_rankOf) (pc := 69) rfl dX7_rankOf_69 ?_
  refine sn_aload_n (j := j7_rankOf) (pc := 71) rfl rfl dX7_rankOf_71 ?_
  refine sn_iload_n (j := j7_rankOf) (pc := 72) rfl rfl dX7_rankOf_72 ?_
  refine sn_iconst (j := j7_rankOf) (pc := 73) 3 rfl dX7_rankOf_73 ?_
  refine sn_callV (j := j7_rankOf) (pc := 74) (jc := j7_of) (As := [.int x2, .int 3]) (s7_of x2 3 M) mm_hvI (by simp [Value.category]) (Nat.le_of_ble_eq_true rfl) q7_of rfl (by decide) rfl rfl ⟨by decide, by decide⟩ w_ml_X7_181 w_im_X7_of w_se_X7_of rfl (Nat.le_of_ble_eq_true rfl) dX7_rankOf_74 ?_
  rintro ⟨r_6, M⟩
  show Snd injI j7_rankOf mm_X0 77 [some (.ref 46), some (.int x1), some (.int x2), some (.int x3), some (.int w_1)] [.int r_6, .int w_1, .int x2, .ref 46, .int (r_5 - x3)] M _
  refine sn_callV (j := j7_rankOf) (pc := 77) (jc := j7_slotsOf) (As := [.int x2, .int w_1, .int r_6]) (s7_slotsOf x2 w_1 r_6 M) mm_hvI (by simp [Value.category]) (Nat.le_of_ble_eq_true rfl) q7_slotsOf rfl (by decide) rfl rfl ⟨by decide, by decide⟩ w_ml_X7_197 w_im_X7_slotsOf w_se_X7_slotsOf rfl (Nat.le_of_ble_eq_true rfl) dX7_rankOf_77 ?_
  rintro ⟨r_7, M⟩
  show Snd injI j7_rankOf mm_X0 80 [some (.ref 46), some (.int x1), some (.int x2), some (.int x3), some (.int w_1)] [.int r_7, .int (r_5 - x3)] M _
  refine sn_isub (j := j7_rankOf) (pc := 80) dX7_rankOf_80 ?_
  exact sn_iret (j := j7_rankOf) (pc := 81) rfl dX7_rankOf_81

abbrev j7_setBy : mm_J := (yX7_setBy, cX7_setBy, 8, (some .int), 4)
theorem dX7_setBy_0 : decode cX7_setBy 0 = .ok (.iconst 0, 1) := by decide +kernel
theorem dX7_setBy_1 : decode cX7_setBy 1 = .ok (.istore_n 3, 1) := by decide +kernel
theorem dX7_setBy_2 : decode cX7_setBy 2 = .ok (.iconst 0, 1) := by decide +kernel
theorem dX7_setBy_3 : decode cX7_setBy 3 = .ok (.istore 4, 2) := by decide +kernel
theorem dX7_setBy_5 : decode cX7_setBy 5 = .ok (.iload 4, 2) := by decide +kernel
theorem dX7_setBy_7 : decode cX7_setBy 7 = .ok (.aload_n 0, 1) := by decide +kernel
theorem dX7_setBy_8 : decode cX7_setBy 8 = .ok (.getfield 7, 3) := by decide +kernel
theorem dX7_setBy_11 : decode cX7_setBy 11 = .ok (.iconst 1, 1) := by decide +kernel
theorem dX7_setBy_12 : decode cX7_setBy 12 = .ok (.iaload, 1) := by decide +kernel
theorem dX7_setBy_13 : decode cX7_setBy 13 = .ok (.if_icmp .ge 134, 3) := by decide +kernel
theorem dX7_setBy_16 : decode cX7_setBy 16 = .ok (.aload_n 0, 1) := by decide +kernel
theorem dX7_setBy_17 : decode cX7_setBy 17 = .ok (.iload 4, 2) := by decide +kernel
theorem dX7_setBy_19 : decode cX7_setBy 19 = .ok (.iload_n 2, 1) := by decide +kernel
theorem dX7_setBy_20 : decode cX7_setBy 20 = .ok (.invokevirtual 210, 3) := by decide +kernel
theorem dX7_setBy_23 : decode cX7_setBy 23 = .ok (.ifCond .eq 118, 3) := by decide +kernel
theorem dX7_setBy_26 : decode cX7_setBy 26 = .ok (.aload_n 0, 1) := by decide +kernel
theorem dX7_setBy_27 : decode cX7_setBy 27 = .ok (.getfield 25, 3) := by decide +kernel
theorem dX7_setBy_30 : decode cX7_setBy 30 = .ok (.iconst 4, 1) := by decide +kernel
theorem dX7_setBy_31 : decode cX7_setBy 31 = .ok (.iload_n 2, 1) := by decide +kernel
theorem dX7_setBy_32 : decode cX7_setBy 32 = .ok (.imul, 1) := by decide +kernel
theorem dX7_setBy_33 : decode cX7_setBy 33 = .ok (.iload 4, 2) := by decide +kernel
theorem dX7_setBy_35 : decode cX7_setBy 35 = .ok (.iadd, 1) := by decide +kernel
theorem dX7_setBy_36 : decode cX7_setBy 36 = .ok (.iaload, 1) := by decide +kernel
theorem dX7_setBy_37 : decode cX7_setBy 37 = .ok (.aload_n 0, 1) := by decide +kernel
theorem dX7_setBy_38 : decode cX7_setBy 38 = .ok (.iload 4, 2) := by decide +kernel
theorem dX7_setBy_40 : decode cX7_setBy 40 = .ok (.iconst 3, 1) := by decide +kernel
theorem dX7_setBy_41 : decode cX7_setBy 41 = .ok (.invokevirtual 181, 3) := by decide +kernel
theorem dX7_setBy_44 : decode cX7_setBy 44 = .ok (.if_icmp .lt 6, 3) := by decide +kernel
theorem dX7_setBy_47 : decode cX7_setBy 47 = .ok (.goto 94, 3) := by decide +kernel
theorem dX7_setBy_50 : decode cX7_setBy 50 = .ok (.aload_n 0, 1) := by decide +kernel
theorem dX7_setBy_51 : decode cX7_setBy 51 = .ok (.iload_n 1, 1) := by decide +kernel
theorem dX7_setBy_52 : decode cX7_setBy 52 = .ok (.iload 4, 2) := by decide +kernel
theorem dX7_setBy_54 : decode cX7_setBy 54 = .ok (.iload_n 2, 1) := by decide +kernel
theorem dX7_setBy_55 : decode cX7_setBy 55 = .ok (.invokevirtual 268, 3) := by decide +kernel
theorem dX7_setBy_58 : decode cX7_setBy 58 = .ok (.istore 5, 2) := by decide +kernel
theorem dX7_setBy_60 : decode cX7_setBy 60 = .ok (.iload_n 3, 1) := by decide +kernel
theorem dX7_setBy_61 : decode cX7_setBy 61 = .ok (.istore 6, 2) := by decide +kernel
theorem dX7_setBy_63 : decode cX7_setBy 63 = .ok (.iload 6, 2) := by decide +kernel
theorem dX7_setBy_65 : decode cX7_setBy 65 = .ok (.ifCond .le 55, 3) := by decide +kernel
theorem dX7_setBy_68 : decode cX7_setBy 68 = .ok (.aload_n 0, 1) := by decide +kernel
theorem dX7_setBy_69 : decode cX7_setBy 69 = .ok (.getfield 53, 3) := by decide +kernel
theorem dX7_setBy_72 : decode cX7_setBy 72 = .ok (.iload 6, 2) := by decide +kernel
theorem dX7_setBy_74 : decode cX7_setBy 74 = .ok (.iconst 1, 1) := by decide +kernel
theorem dX7_setBy_75 : decode cX7_setBy 75 = .ok (.isub, 1) := by decide +kernel
theorem dX7_setBy_76 : decode cX7_setBy 76 = .ok (.iaload, 1) := by decide +kernel
theorem dX7_setBy_77 : decode cX7_setBy 77 = .ok (.iload 5, 2) := by decide +kernel
theorem dX7_setBy_79 : decode cX7_setBy 79 = .ok (.if_icmp .le 41, 3) := by decide +kernel
theorem dX7_setBy_82 : decode cX7_setBy 82 = .ok (.aload_n 0, 1) := by decide +kernel
theorem dX7_setBy_83 : decode cX7_setBy 83 = .ok (.getfield 50, 3) := by decide +kernel
theorem dX7_setBy_86 : decode cX7_setBy 86 = .ok (.iload 6, 2) := by decide +kernel
theorem dX7_setBy_88 : decode cX7_setBy 88 = .ok (.aload_n 0, 1) := by decide +kernel
theorem dX7_setBy_89 : decode cX7_setBy 89 = .ok (.getfield 50, 3) := by decide +kernel
theorem dX7_setBy_92 : decode cX7_setBy 92 = .ok (.iload 6, 2) := by decide +kernel
theorem dX7_setBy_94 : decode cX7_setBy 94 = .ok (.iconst 1, 1) := by decide +kernel
theorem dX7_setBy_95 : decode cX7_setBy 95 = .ok (.isub, 1) := by decide +kernel
theorem dX7_setBy_96 : decode cX7_setBy 96 = .ok (.iaload, 1) := by decide +kernel
theorem dX7_setBy_97 : decode cX7_setBy 97 = .ok (.iastore, 1) := by decide +kernel
theorem dX7_setBy_98 : decode cX7_setBy 98 = .ok (.aload_n 0, 1) := by decide +kernel
theorem dX7_setBy_99 : decode cX7_setBy 99 = .ok (.getfield 53, 3) := by decide +kernel
theorem dX7_setBy_102 : decode cX7_setBy 102 = .ok (.iload 6, 2) := by decide +kernel
theorem dX7_setBy_104 : decode cX7_setBy 104 = .ok (.aload_n 0, 1) := by decide +kernel
theorem dX7_setBy_105 : decode cX7_setBy 105 = .ok (.getfield 53, 3) := by decide +kernel
theorem dX7_setBy_108 : decode cX7_setBy 108 = .ok (.iload 6, 2) := by decide +kernel
theorem dX7_setBy_110 : decode cX7_setBy 110 = .ok (.iconst 1, 1) := by decide +kernel
theorem dX7_setBy_111 : decode cX7_setBy 111 = .ok (.isub, 1) := by decide +kernel
theorem dX7_setBy_112 : decode cX7_setBy 112 = .ok (.iaload, 1) := by decide +kernel
theorem dX7_setBy_113 : decode cX7_setBy 113 = .ok (.iastore, 1) := by decide +kernel
theorem dX7_setBy_114 : decode cX7_setBy 114 = .ok (.iinc 6 (-1), 3) := by decide +kernel
theorem dX7_setBy_117 : decode cX7_setBy 117 = .ok (.goto (-54), 3) := by decide +kernel
theorem dX7_setBy_120 : decode cX7_setBy 120 = .ok (.aload_n 0, 1) := by decide +kernel
theorem dX7_setBy_121 : decode cX7_setBy 121 = .ok (.getfield 50, 3) := by decide +kernel
theorem dX7_setBy_124 : decode cX7_setBy 124 = .ok (.iload 6, 2) := by decide +kernel
theorem dX7_setBy_126 : decode cX7_setBy 126 = .ok (.iload 4, 2) := by decide +kernel
theorem dX7_setBy_128 : decode cX7_setBy 128 = .ok (.iastore, 1) := by decide +kernel
theorem dX7_setBy_129 : decode cX7_setBy 129 = .ok (.aload_n 0, 1) := by decide +kernel
theorem dX7_setBy_130 : decode cX7_setBy 130 = .ok (.getfield 53, 3) := by decide +kernel
theorem dX7_setBy_133 : decode cX7_setBy 133 = .ok (.iload 6, 2) := by decide +kernel
theorem dX7_setBy_135 : decode cX7_setBy 135 = .ok (.iload 5, 2) := by decide +kernel
theorem dX7_setBy_137 : decode cX7_setBy 137 = .ok (.iastore, 1) := by decide +kernel
theorem dX7_setBy_138 : decode cX7_setBy 138 = .ok (.iinc 3 1, 3) := by decide +kernel
theorem dX7_setBy_141 : decode cX7_setBy 141 = .ok (.iinc 4 1, 3) := by decide +kernel
theorem dX7_setBy_144 : decode cX7_setBy 144 = .ok (.goto (-139), 3) := by decide +kernel
theorem dX7_setBy_147 : decode cX7_setBy 147 = .ok (.iconst 0, 1) := by decide +kernel
theorem dX7_setBy_148 : decode cX7_setBy 148 = .ok (.istore 4, 2) := by decide +kernel
theorem dX7_setBy_150 : decode cX7_setBy 150 = .ok (.iconst 0, 1) := by decide +kernel
theorem dX7_setBy_151 : decode cX7_setBy 151 = .ok (.istore 5, 2) := by decide +kernel
theorem dX7_setBy_153 : decode cX7_setBy 153 = .ok (.iconst 0, 1) := by decide +kernel
theorem dX7_setBy_154 : decode cX7_setBy 154 = .ok (.istore 6, 2) := by decide +kernel
theorem dX7_setBy_156 : decode cX7_setBy 156 = .ok (.iload 6, 2) := by decide +kernel
theorem dX7_setBy_158 : decode cX7_setBy 158 = .ok (.iload_n 3, 1) := by decide +kernel
theorem dX7_setBy_159 : decode cX7_setBy 159 = .ok (.if_icmp .ge 83, 3) := by decide +kernel
theorem dX7_setBy_162 : decode cX7_setBy 162 = .ok (.aload_n 0, 1) := by decide +kernel
theorem dX7_setBy_163 : decode cX7_setBy 163 = .ok (.aload_n 0, 1) := by decide +kernel
theorem dX7_setBy_164 : decode cX7_setBy 164 = .ok (.getfield 50, 3) := by decide +kernel
theorem dX7_setBy_167 : decode cX7_setBy 167 = .ok (.iload 6, 2) := by decide +kernel
theorem dX7_setBy_169 : decode cX7_setBy 169 = .ok (.iaload, 1) := by decide +kernel
theorem dX7_setBy_170 : decode cX7_setBy 170 = .ok (.aload_n 0, 1) := by decide +kernel
theorem dX7_setBy_171 : decode cX7_setBy 171 = .ok (.getfield 25, 3) := by decide +kernel
theorem dX7_setBy_174 : decode cX7_setBy 174 = .ok (.iconst 4, 1) := by decide +kernel
theorem dX7_setBy_175 : decode cX7_setBy 175 = .ok (.iload_n 2, 1) := by decide +kernel
theorem dX7_setBy_176 : decode cX7_setBy 176 = .ok (.imul, 1) := by decide +kernel
theorem dX7_setBy_177 : decode cX7_setBy 177 = .ok (.aload_n 0, 1) := by decide +kernel
theorem dX7_setBy_178 : decode cX7_setBy 178 = .ok (.getfield 50, 3) := by decide +kernel
theorem dX7_setBy_181 : decode cX7_setBy 181 = .ok (.iload 6, 2) := by decide +kernel
theorem dX7_setBy_183 : decode cX7_setBy 183 = .ok (.iaload, 1) := by decide +kernel
theorem dX7_setBy_184 : decode cX7_setBy 184 = .ok (.iadd, 1) := by decide +kernel
theorem dX7_setBy_185 : decode cX7_setBy 185 = .ok (.iaload, 1) := by decide +kernel
theorem dX7_setBy_186 : decode cX7_setBy 186 = .ok (.invokevirtual 191, 3) := by decide +kernel
theorem dX7_setBy_189 : decode cX7_setBy 189 = .ok (.istore 7, 2) := by decide +kernel
theorem dX7_setBy_191 : decode cX7_setBy 191 = .ok (.iload 4, 2) := by decide +kernel
theorem dX7_setBy_193 : decode cX7_setBy 193 = .ok (.invokestatic 175, 3) := by decide +kernel
theorem dX7_setBy_196 : decode cX7_setBy 196 = .ok (.aload_n 0, 1) := by decide +kernel
theorem dX7_setBy_197 : decode cX7_setBy 197 = .ok (.getfield 201, 3) := by decide +kernel
theorem dX7_setBy_200 : decode cX7_setBy 200 = .ok (.if_icmp .ge 36, 3) := by decide +kernel
theorem dX7_setBy_203 : decode cX7_setBy 203 = .ok (.iload 5, 2) := by decide +kernel
theorem dX7_setBy_205 : decode cX7_setBy 205 = .ok (.iload 7, 2) := by decide +kernel
theorem dX7_setBy_207 : decode cX7_setBy 207 = .ok (.iadd, 1) := by decide +kernel
theorem dX7_setBy_208 : decode cX7_setBy 208 = .ok (.aload_n 0, 1) := by decide +kernel
theorem dX7_setBy_209 : decode cX7_setBy 209 = .ok (.getfield 204, 3) := by decide +kernel
theorem dX7_setBy_212 : decode cX7_setBy 212 = .ok (.if_icmp .gt 24, 3) := by decide +kernel
theorem dX7_setBy_215 : decode cX7_setBy 215 = .ok (.iload 4, 2) := by decide +kernel
theorem dX7_setBy_217 : decode cX7_setBy 217 = .ok (.iconst 1, 1) := by decide +kernel
theorem dX7_setBy_218 : decode cX7_setBy 218 = .ok (.aload_n 0, 1) := by decide +kernel
theorem dX7_setBy_219 : decode cX7_setBy 219 = .ok (.getfield 50, 3) := by decide +kernel
theorem dX7_setBy_222 : decode cX7_setBy 222 = .ok (.iload 6, 2) := by decide +kernel
theorem dX7_setBy_224 : decode cX7_setBy 224 = .ok (.iaload, 1) := by decide +kernel
theorem dX7_setBy_225 : decode cX7_setBy 225 = .ok (.ishl, 1) := by decide +kernel
theorem dX7_setBy_226 : decode cX7_setBy 226 = .ok (.ior, 1) := by decide +kernel
theorem dX7_setBy_227 : decode cX7_setBy 227 = .ok (.istore 4, 2) := by decide +kernel
theorem dX7_setBy_229 : decode cX7_setBy 229 = .ok (.iload 5, 2) := by decide +kernel
theorem dX7_setBy_231 : decode cX7_setBy 231 = .ok (.iload 7, 2) := by decide +kernel
theorem dX7_setBy_233 : decode cX7_setBy 233 = .ok (.iadd, 1) := by decide +kernel
theorem dX7_setBy_234 : decode cX7_setBy 234 = .ok (.istore 5, 2) := by decide +kernel
theorem dX7_setBy_236 : decode cX7_setBy 236 = .ok (.iinc 6 1, 3) := by decide +kernel
theorem dX7_setBy_239 : decode cX7_setBy 239 = .ok (.goto (-83), 3) := by decide +kernel
theorem dX7_setBy_242 : decode cX7_setBy 242 = .ok (.iload 4, 2) := by decide +kernel
theorem dX7_setBy_244 : decode cX7_setBy 244 = .ok (.ireturn, 1) := by decide +kernel
def l7_setBy_236 (rec156 : Int32 → Int32 → Int32 → Int32 → Int32 → mm_M → Option (Int32 × mm_M)) (x2 : Int32) (x3 : Int32) (x4 : Int32) (x5 : Int32) (x6 : Int32) (M : mm_M) : Option (Int32 × mm_M) :=
  rec156 x2 x3 x4 x5 (x6 + 1) M
set_option maxHeartbeats 2000000 in
theorem sl7_setBy_236 (rec156 : Int32 → Int32 → Int32 → Int32 → Int32 → mm_M → Option (Int32 × mm_M)) (hrec156 : ∀ (x2 : Int32) (x3 : Int32) (x4 : Int32) (x5 : Int32) (x6 : Int32) (M : mm_M), Snd injI j7_setBy mm_X0 156 [some (.ref 46), none, some (.int x2), some (.int x3), some (.int x4), some (.int x5), some (.int x6), none] [] M (rec156 x2 x3 x4 x5 x6 M)) (x2 : Int32) (x3 : Int32) (x4 : Int32) (x5 : Int32) (x6 : Int32)  (M : mm_M) : Snd injI j7_setBy mm_X0 236 [some (.ref 46), none, some (.int x2), some (.int x3), some (.int x4), some (.int x5), some (.int x6), none] [] M (l7_setBy_236 rec156 x2 x3 x4 x5 x6 M) := by
  unfold l7_setBy_236
  refine sn_iinc (j := j7_setBy) (pc := 236) 1 rfl (by decide) rfl (lo' := [some (.ref 46), none, some (.int x2), some (.int x3), some (.int x4), some (.int x5), some (.int (x6 + 1)), none]) rfl dX7_setBy_236 ?_
  refine sn_goto (j := j7_setBy) (pc := 239) 156 rfl dX7_setBy_239 ?_
  exact Snd.wk (hrec156 x2 x3 x4 x5 (x6 + 1) M ) (by simp [mm_le])
def b7_setBy_156  (rec156 : Int32 → Int32 → Int32 → Int32 → Int32 → mm_M → Option (Int32 × mm_M)) (x2 : Int32) (x3 : Int32) (x4 : Int32) (x5 : Int32) (x6 : Int32) (M : mm_M) : Option (Int32 × mm_M) :=
  if x3 ≤ x6 then (some (x4, M)) else (aI 60 4 x6 M (fun w_1 => aI 60 4 x6 M (fun w_2 => aI 52 36 ((4 * x2) + w_2) M (fun w_3 => cI (f7_takesOf w_1 w_3 M) (fun r_4 M => cI (f7_bits x4 M) (fun r_5 M => bI (mI M 46 11) (fun v_6 => if v_6 ≤ r_5 then (l7_setBy_236 rec156 x2 x3 x4 x5 x6 M) else (bI (mI M 46 13) (fun v_7 => if v_7 < (x5 + r_4) then (l7_setBy_236 rec156 x2 x3 x4 x5 x6 M) else (aI 60 4 x6 M (fun w_8 => bI (x4 ||| (1 <<< (w_8 &&& 31))) (fun x4_9 => bI (x5 + r_4) (fun x5_10 => l7_setBy_236 rec156 x2 x3 x4_9 x5_10 x6 M)))))))))))))
set_option maxHeartbeats 2000000 in
theorem sb7_setBy_156   (rec156 : Int32 → Int32 → Int32 → Int32 → Int32 → mm_M → Option (Int32 × mm_M)) (hrec156 : ∀ (x2 : Int32) (x3 : Int32) (x4 : Int32) (x5 : Int32) (x6 : Int32) (M : mm_M), Snd injI j7_setBy mm_X0 156 [some (.ref 46), none, some (.int x2), some (.int x3), some (.int x4), some (.int x5), some (.int x6), none] [] M (rec156 x2 x3 x4 x5 x6 M)) (x2 : Int32) (x3 : Int32) (x4 : Int32) (x5 : Int32) (x6 : Int32)  (M : mm_M) : Snd injI j7_setBy mm_X0 156 [some (.ref 46), none, some (.int x2), some (.int x3), some (.int x4), some (.int x5), some (.int x6), none] [] M (b7_setBy_156  rec156 x2 x3 x4 x5 x6 M) := by
  unfold b7_setBy_156
  refine sn_iload (j := j7_setBy) (pc := 156) rfl dX7_setBy_156 ?_
  refine sn_iload_n (j := j7_setBy) (pc := 158) rfl rfl dX7_setBy_158 ?_
  refine sn_icmp_ge (j := j7_setBy) (pc := 159) 242 rfl dX7_setBy_159 ?_ ?_
  · refine sn_iload (j := j7_setBy) (pc := 242) rfl dX7_setBy_242 ?_
    exact sn_iret (j := j7_setBy) (pc := 244) rfl dX7_setBy_244
  · refine sn_aload_n (j := j7_setBy) (pc := 162) rfl rfl dX7_setBy_162 ?_
    refine sn_aload_n (j := j7_setBy) (pc := 163) rfl rfl dX7_setBy_163 ?_
    refine g_X7_50 (j := j7_setBy) (pc := 164) rfl dX7_setBy_164 ?_
    refine sn_iload (j := j7_setBy) (pc := 167) rfl dX7_setBy_167 ?_
    refine sn_iald (j := j7_setBy) (pc := 169) rfl ⟨by decide, by decide⟩ dX7_setBy_169 (fun w_1 => ?_)
    refine sn_aload_n (j := j7_setBy) (pc := 170) rfl rfl dX7_setBy_170 ?_
    refine g_X7_25 (j := j7_setBy) (pc := 171) rfl dX7_setBy_171 ?_
    refine sn_iconst (j := j7_setBy) (pc := 174) 4 rfl dX7_setBy_174 ?_
    refine sn_iload_n (j := j7_setBy) (pc := 175) rfl rfl dX7_setBy_175 ?_
    refine sn_imul (j := j7_setBy) (pc := 176) dX7_setBy_176 ?_
    refine sn_aload_n (j := j7_setBy) (pc := 177) rfl rfl dX7_setBy_177 ?_
    refine g_X7_50 (j := j7_setBy) (pc := 178) rfl dX7_setBy_178 ?_
    refine sn_iload (j := j7_setBy) (pc := 181) rfl dX7_setBy_181 ?_
    refine sn_iald (j := j7_setBy) (pc := 183) rfl ⟨by decide, by decide⟩ dX7_setBy_183 (fun w_2 => ?_)
    refine sn_iadd (j := j7_setBy) (pc := 184) dX7_setBy_184 ?_
    refine sn_iald (j := j7_setBy) (pc := 185) rfl ⟨by decide, by decide⟩ dX7_setBy_185 (fun w_3 => ?_)
    refine sn_callV (j := j7_setBy) (pc := 186) (jc := j7_takesOf) (As := [.int w_1, .int w_3]) (s7_takesOf w_1 w_3 M) mm_hvI (by simp [Value.category]) (Nat.le_of_ble_eq_true rfl) q7_takesOf rfl (by decide) rfl rfl ⟨by decide, by decide⟩ w_ml_X7_191 w_im_X7_takesOf w_se_X7_takesOf rfl (Nat.le_of_ble_eq_true rfl) dX7_setBy_186 ?_
    rintro ⟨r_4, M⟩
    show Snd injI j7_setBy mm_X0 189 [some (.ref 46), none, some (.int x2), some (.int x3), some (.int x4), some (.int x5), some (.int x6), none] [.int r_4] M _
    refine sn_istore (j := j7_setBy) (pc := 189) (by decide) (lo' := [some (.ref 46), none, some (.int x2), some (.int x3), some (.int x4), some (.int x5), some (.int x6), some (.int r_4)]) rfl dX7_setBy_189 ?_
    refine sn_iload (j := j7_setBy) (pc := 191) rfl dX7_setBy_191 ?_
    refine sn_callS (j := j7_setBy) (pc := 193) (jc := j7_bits) (As := [.int x4]) (s7_bits x4 M) mm_hvI (by simp [Value.category]) (Nat.le_of_ble_eq_true rfl) q7_bits rfl (by decide) w_ml_X7_175 w_st_X7_bits rfl (Nat.le_of_ble_eq_true rfl) dX7_setBy_193 ?_
    rintro ⟨r_5, M⟩
    show Snd injI j7_setBy mm_X0 196 [some (.ref 46), none, some (.int x2), some (.int x3), some (.int x4), some (.int x5), some (.int x6), some (.int r_4)] [.int r_5] M _
    refine sn_aload_n (j := j7_setBy) (pc := 196) rfl rfl dX7_setBy_196 ?_
    refine g_X7_201 (j := j7_setBy) (pc := 197) rfl dX7_setBy_197 ?_
    refine Snd.bI (fun v_6 => ?_)
    refine sn_icmp_ge (j := j7_setBy) (pc := 200) 236 rfl dX7_setBy_200 ?_ ?_
    · exact Snd.wk (sl7_setBy_236 rec156 hrec156 x2 x3 x4 x5 x6 M) (by simp [mm_le])
    · refine sn_iload (j := j7_setBy) (pc := 203) rfl dX7_setBy_203 ?_
      refine sn_iload (j := j7_setBy) (pc := 205) rfl dX7_setBy_205 ?_
      refine sn_iadd (j := j7_setBy) (pc := 207) dX7_setBy_207 ?_
      refine sn_aload_n (j := j7_setBy) (pc := 208) rfl rfl dX7_setBy_208 ?_
      refine g_X7_204 (j := j7_setBy) (pc := 209) rfl dX7_setBy_209 ?_
      refine Snd.bI (fun v_7 => ?_)
      refine sn_icmp_gt (j := j7_setBy) (pc := 212) 236 rfl dX7_setBy_212 ?_ ?_
      · exact Snd.wk (sl7_setBy_236 rec156 hrec156 x2 x3 x4 x5 x6 M) (by simp [mm_le])
      · refine sn_iload (j := j7_setBy) (pc := 215) rfl dX7_setBy_215 ?_
        refine sn_iconst (j := j7_setBy) (pc := 217) 1 rfl dX7_setBy_217 ?_
        refine sn_aload_n (j := j7_setBy) (pc := 218) rfl rfl dX7_setBy_218 ?_
        refine g_X7_50 (j := j7_setBy) (pc := 219) rfl dX7_setBy_219 ?_
        refine sn_iload (j := j7_setBy) (pc := 222) rfl dX7_setBy_222 ?_
        refine sn_iald (j := j7_setBy) (pc := 224) rfl ⟨by decide, by decide⟩ dX7_setBy_224 (fun w_8 => ?_)
        refine sn_ishl (j := j7_setBy) (pc := 225) dX7_setBy_225 ?_
        refine sn_ior (j := j7_setBy) (pc := 226) dX7_setBy_226 ?_
        refine sn_istoreB (j := j7_setBy) (pc := 227) (fun x4_9 => [some (.ref 46), none, some (.int x2), some (.int x3), some (.int x4_9), some (.int x5), some (.int x6), some (.int r_4)]) (by decide) (fun _ => rfl) dX7_setBy_227 (fun x4_9 => ?_)
        refine sn_iload (j := j7_setBy) (pc := 229) rfl dX7_setBy_229 ?_
        refine sn_iload (j := j7_setBy) (pc := 231) rfl dX7_setBy_231 ?_
        refine sn_iadd (j := j7_setBy) (pc := 233) dX7_setBy_233 ?_
        refine sn_istoreB (j := j7_setBy) (pc := 234) (fun x5_10 => [some (.ref 46), none, some (.int x2), some (.int x3), some (.int x4_9), some (.int x5_10), some (.int x6), some (.int r_4)]) (by decide) (fun _ => rfl) dX7_setBy_234 (fun x5_10 => ?_)
        exact Snd.wk (sl7_setBy_236 rec156 hrec156 x2 x3 x4_9 x5_10 x6 M) (by simp [mm_le])
def l7_setBy_156  : Nat → Int32 → Int32 → Int32 → Int32 → Int32 → mm_M → Option (Int32 × mm_M)
  | 0 => fun _ _ _ _ _ _ => none
  | n + 1 => fun x2 x3 x4 x5 x6 M => b7_setBy_156  (l7_setBy_156  n) x2 x3 x4 x5 x6 M
theorem sl7_setBy_156   : ∀ (n : Nat) (x2 : Int32) (x3 : Int32) (x4 : Int32) (x5 : Int32) (x6 : Int32)  (M : mm_M), Snd injI j7_setBy mm_X0 156 [some (.ref 46), none, some (.int x2), some (.int x3), some (.int x4), some (.int x5), some (.int x6), none] [] M (l7_setBy_156  n x2 x3 x4 x5 x6 M)
  | 0 => fun _ _ _ _ _  _ => Snd.none
  | n + 1 => fun x2 x3 x4 x5 x6  M => sb7_setBy_156   (l7_setBy_156  n) (fun x2 x3 x4 x5 x6 M  => sl7_setBy_156   n x2 x3 x4 x5 x6  M) x2 x3 x4 x5 x6  M
def l7_setBy_141 (rec5 : Int32 → Int32 → Int32 → Int32 → mm_M → Option (Int32 × mm_M)) (x1 : Int32) (x2 : Int32) (x3 : Int32) (x4 : Int32) (M : mm_M) : Option (Int32 × mm_M) :=
  rec5 x1 x2 x3 (x4 + 1) M
set_option maxHeartbeats 2000000 in
theorem sl7_setBy_141 (rec5 : Int32 → Int32 → Int32 → Int32 → mm_M → Option (Int32 × mm_M)) (hrec5 : ∀ (x1 : Int32) (x2 : Int32) (x3 : Int32) (x4 : Int32) (M : mm_M), Snd injI j7_setBy mm_X0 5 [some (.ref 46), some (.int x1), some (.int x2), some (.int x3), some (.int x4), none, none, none] [] M (rec5 x1 x2 x3 x4 M)) (x1 : Int32) (x2 : Int32) (x3 : Int32) (x4 : Int32)  (M : mm_M) : Snd injI j7_setBy mm_X0 141 [some (.ref 46), some (.int x1), some (.int x2), some (.int x3), some (.int x4), none, none, none] [] M (l7_setBy_141 rec5 x1 x2 x3 x4 M) := by
  unfold l7_setBy_141
  refine sn_iinc (j := j7_setBy) (pc := 141) 1 rfl (by decide) rfl (lo' := [some (.ref 46), some (.int x1), some (.int x2), some (.int x3), some (.int (x4 + 1)), none, none, none]) rfl dX7_setBy_141 ?_
  refine sn_goto (j := j7_setBy) (pc := 144) 5 rfl dX7_setBy_144 ?_
  exact Snd.wk (hrec5 x1 x2 x3 (x4 + 1) M ) (by simp [mm_le])
def l7_setBy_120 (rec5 : Int32 → Int32 → Int32 → Int32 → mm_M → Option (Int32 × mm_M)) (x1 : Int32) (x2 : Int32) (x3 : Int32) (x4 : Int32) (x5 : Int32) (x6 : Int32) (M : mm_M) : Option (Int32 × mm_M) :=
  uI 60 4 x6 x4 M (fun M => uI 61 4 x6 x5 M (fun M => l7_setBy_141 rec5 x1 x2 (x3 + 1) x4 M))
set_option maxHeartbeats 2000000 in
theorem sl7_setBy_120 (rec5 : Int32 → Int32 → Int32 → Int32 → mm_M → Option (Int32 × mm_M)) (hrec5 : ∀ (x1 : Int32) (x2 : Int32) (x3 : Int32) (x4 : Int32) (M : mm_M), Snd injI j7_setBy mm_X0 5 [some (.ref 46), some (.int x1), some (.int x2), some (.int x3), some (.int x4), none, none, none] [] M (rec5 x1 x2 x3 x4 M)) (x1 : Int32) (x2 : Int32) (x3 : Int32) (x4 : Int32) (x5 : Int32) (x6 : Int32)  (M : mm_M) : Snd injI j7_setBy mm_X0 120 [some (.ref 46), some (.int x1), some (.int x2), some (.int x3), some (.int x4), some (.int x5), some (.int x6), none] [] M (l7_setBy_120 rec5 x1 x2 x3 x4 x5 x6 M) := by
  unfold l7_setBy_120
  refine sn_aload_n (j := j7_setBy) (pc := 120) rfl rfl dX7_setBy_120 ?_
  refine g_X7_50 (j := j7_setBy) (pc := 121) rfl dX7_setBy_121 ?_
  refine sn_iload (j := j7_setBy) (pc := 124) rfl dX7_setBy_124 ?_
  refine sn_iload (j := j7_setBy) (pc := 126) rfl dX7_setBy_126 ?_
  refine sn_iast (j := j7_setBy) (pc := 128) rfl ⟨by decide, by decide⟩ dX7_setBy_128 (fun M => ?_)
  refine sn_aload_n (j := j7_setBy) (pc := 129) rfl rfl dX7_setBy_129 ?_
  refine g_X7_53 (j := j7_setBy) (pc := 130) rfl dX7_setBy_130 ?_
  refine sn_iload (j := j7_setBy) (pc := 133) rfl dX7_setBy_133 ?_
  refine sn_iload (j := j7_setBy) (pc := 135) rfl dX7_setBy_135 ?_
  refine sn_iast (j := j7_setBy) (pc := 137) rfl ⟨by decide, by decide⟩ dX7_setBy_137 (fun M => ?_)
  refine sn_iinc (j := j7_setBy) (pc := 138) 1 rfl (by decide) rfl (lo' := [some (.ref 46), some (.int x1), some (.int x2), some (.int (x3 + 1)), some (.int x4), some (.int x5), some (.int x6), none]) rfl dX7_setBy_138 ?_
  exact Snd.wk (sl7_setBy_141 rec5 hrec5 x1 x2 (x3 + 1) x4 M) (by simp [mm_le])
def b7_setBy_63 (rec5 : Int32 → Int32 → Int32 → Int32 → mm_M → Option (Int32 × mm_M)) (rec63 : Int32 → Int32 → Int32 → Int32 → Int32 → Int32 → mm_M → Option (Int32 × mm_M)) (x1 : Int32) (x2 : Int32) (x3 : Int32) (x4 : Int32) (x5 : Int32) (x6 : Int32) (M : mm_M) : Option (Int32 × mm_M) :=
  if x6 ≤ 0 then (l7_setBy_120 rec5 x1 x2 x3 x4 x5 x6 M) else (aI 61 4 (x6 - 1) M (fun w_11 => if w_11 ≤ x5 then (l7_setBy_120 rec5 x1 x2 x3 x4 x5 x6 M) else (aI 60 4 (x6 - 1) M (fun w_12 => uI 60 4 x6 w_12 M (fun M => aI 61 4 (x6 - 1) M (fun w_13 => uI 61 4 x6 w_13 M (fun M => rec63 x1 x2 x3 x4 x5 (x6 + (-1)) M)))))))
set_option maxHeartbeats 2000000 in
theorem sb7_setBy_63 (rec5 : Int32 → Int32 → Int32 → Int32 → mm_M → Option (Int32 × mm_M)) (hrec5 : ∀ (x1 : Int32) (x2 : Int32) (x3 : Int32) (x4 : Int32) (M : mm_M), Snd injI j7_setBy mm_X0 5 [some (.ref 46), some (.int x1), some (.int x2), some (.int x3), some (.int x4), none, none, none] [] M (rec5 x1 x2 x3 x4 M)) (rec63 : Int32 → Int32 → Int32 → Int32 → Int32 → Int32 → mm_M → Option (Int32 × mm_M)) (hrec63 : ∀ (x1 : Int32) (x2 : Int32) (x3 : Int32) (x4 : Int32) (x5 : Int32) (x6 : Int32) (M : mm_M), Snd injI j7_setBy mm_X0 63 [some (.ref 46), some (.int x1), some (.int x2), some (.int x3), some (.int x4), some (.int x5), some (.int x6), none] [] M (rec63 x1 x2 x3 x4 x5 x6 M)) (x1 : Int32) (x2 : Int32) (x3 : Int32) (x4 : Int32) (x5 : Int32) (x6 : Int32)  (M : mm_M) : Snd injI j7_setBy mm_X0 63 [some (.ref 46), some (.int x1), some (.int x2), some (.int x3), some (.int x4), some (.int x5), some (.int x6), none] [] M (b7_setBy_63 rec5 rec63 x1 x2 x3 x4 x5 x6 M) := by
  unfold b7_setBy_63
  refine sn_iload (j := j7_setBy) (pc := 63) rfl dX7_setBy_63 ?_
  refine sn_if_le (j := j7_setBy) (pc := 65) 120 rfl dX7_setBy_65 ?_ ?_
  · exact Snd.wk (sl7_setBy_120 rec5 hrec5 x1 x2 x3 x4 x5 x6 M) (by simp [mm_le])
  · refine sn_aload_n (j := j7_setBy) (pc := 68) rfl rfl dX7_setBy_68 ?_
    refine g_X7_53 (j := j7_setBy) (pc := 69) rfl dX7_setBy_69 ?_
    refine sn_iload (j := j7_setBy) (pc := 72) rfl dX7_setBy_72 ?_
    refine sn_iconst (j := j7_setBy) (pc := 74) 1 rfl dX7_setBy_74 ?_
    refine sn_isub (j := j7_setBy) (pc := 75) dX7_setBy_75 ?_
    refine sn_iald (j := j7_setBy) (pc := 76) rfl ⟨by decide, by decide⟩ dX7_setBy_76 (fun w_11 => ?_)
    refine sn_iload (j := j7_setBy) (pc := 77) rfl dX7_setBy_77 ?_
    refine sn_icmp_le (j := j7_setBy) (pc := 79) 120 rfl dX7_setBy_79 ?_ ?_
    · exact Snd.wk (sl7_setBy_120 rec5 hrec5 x1 x2 x3 x4 x5 x6 M) (by simp [mm_le])
    · refine sn_aload_n (j := j7_setBy) (pc := 82) rfl rfl dX7_setBy_82 ?_
      refine g_X7_50 (j := j7_setBy) (pc := 83) rfl dX7_setBy_83 ?_
      refine sn_iload (j := j7_setBy) (pc := 86) rfl dX7_setBy_86 ?_
      refine sn_aload_n (j := j7_setBy) (pc := 88) rfl rfl dX7_setBy_88 ?_
      refine g_X7_50 (j := j7_setBy) (pc := 89) rfl dX7_setBy_89 ?_
      refine sn_iload (j := j7_setBy) (pc := 92) rfl dX7_setBy_92 ?_
      refine sn_iconst (j := j7_setBy) (pc := 94) 1 rfl dX7_setBy_94 ?_
      refine sn_isub (j := j7_setBy) (pc := 95) dX7_setBy_95 ?_
      refine sn_iald (j := j7_setBy) (pc := 96) rfl ⟨by decide, by decide⟩ dX7_setBy_96 (fun w_12 => ?_)
      refine sn_iast (j := j7_setBy) (pc := 97) rfl ⟨by decide, by decide⟩ dX7_setBy_97 (fun M => ?_)
      refine sn_aload_n (j := j7_setBy) (pc := 98) rfl rfl dX7_setBy_98 ?_
      refine g_X7_53 (j := j7_setBy) (pc := 99) rfl dX7_setBy_99 ?_
      refine sn_iload (j := j7_setBy) (pc := 102) rfl dX7_setBy_102 ?_
      refine sn_aload_n (j := j7_setBy) (pc := 104) rfl rfl dX7_setBy_104 ?_
      refine g_X7_53 (j := j7_setBy) (pc := 105) rfl dX7_setBy_105 ?_
      refine sn_iload (j := j7_setBy) (pc := 108) rfl dX7_setBy_108 ?_
      refine sn_iconst (j := j7_setBy) (pc := 110) 1 rfl dX7_setBy_110 ?_
      refine sn_isub (j := j7_setBy) (pc := 111) dX7_setBy_111 ?_
      refine sn_iald (j := j7_setBy) (pc := 112) rfl ⟨by decide, by decide⟩ dX7_setBy_112 (fun w_13 => ?_)
      refine sn_iast (j := j7_setBy) (pc := 113) rfl ⟨by decide, by decide⟩ dX7_setBy_113 (fun M => ?_)
      refine sn_iinc (j := j7_setBy) (pc := 114) (-1) rfl (by decide) rfl (lo' := [some (.ref 46), some (.int x1), some (.int x2), some (.int x3), some (.int x4), some (.int x5), some (.int (x6 + (-1))), none]) rfl dX7_setBy_114 ?_
      refine sn_goto (j := j7_setBy) (pc := 117) 63 rfl dX7_setBy_117 ?_
      exact Snd.wk (hrec63 x1 x2 x3 x4 x5 (x6 + (-1)) M ) (by simp [mm_le])
def l7_setBy_63 (rec5 : Int32 → Int32 → Int32 → Int32 → mm_M → Option (Int32 × mm_M)) : Nat → Int32 → Int32 → Int32 → Int32 → Int32 → Int32 → mm_M → Option (Int32 × mm_M)
  | 0 => fun _ _ _ _ _ _ _ => none
  | n + 1 => fun x1 x2 x3 x4 x5 x6 M => b7_setBy_63 rec5 (l7_setBy_63 rec5 n) x1 x2 x3 x4 x5 x6 M
theorem sl7_setBy_63 (rec5 : Int32 → Int32 → Int32 → Int32 → mm_M → Option (Int32 × mm_M)) (hrec5 : ∀ (x1 : Int32) (x2 : Int32) (x3 : Int32) (x4 : Int32) (M : mm_M), Snd injI j7_setBy mm_X0 5 [some (.ref 46), some (.int x1), some (.int x2), some (.int x3), some (.int x4), none, none, none] [] M (rec5 x1 x2 x3 x4 M)) : ∀ (n : Nat) (x1 : Int32) (x2 : Int32) (x3 : Int32) (x4 : Int32) (x5 : Int32) (x6 : Int32)  (M : mm_M), Snd injI j7_setBy mm_X0 63 [some (.ref 46), some (.int x1), some (.int x2), some (.int x3), some (.int x4), some (.int x5), some (.int x6), none] [] M (l7_setBy_63 rec5 n x1 x2 x3 x4 x5 x6 M)
  | 0 => fun _ _ _ _ _ _  _ => Snd.none
  | n + 1 => fun x1 x2 x3 x4 x5 x6  M => sb7_setBy_63 rec5 hrec5 (l7_setBy_63 rec5 n) (fun x1 x2 x3 x4 x5 x6 M  => sl7_setBy_63 rec5 hrec5 n x1 x2 x3 x4 x5 x6  M) x1 x2 x3 x4 x5 x6  M
def b7_setBy_5  (rec5 : Int32 → Int32 → Int32 → Int32 → mm_M → Option (Int32 × mm_M)) (x1 : Int32) (x2 : Int32) (x3 : Int32) (x4 : Int32) (M : mm_M) : Option (Int32 × mm_M) :=
  aI 47 82 1 M (fun w_14 => if w_14 ≤ x4 then (l7_setBy_156 FU x2 x3 0 0 0 M) else (cI (f7_isThere x4 x2 M) (fun r_15 M => if r_15 = 0 then (l7_setBy_141 rec5 x1 x2 x3 x4 M) else (aI 52 36 ((4 * x2) + x4) M (fun w_16 => cI (f7_of x4 3 M) (fun r_17 M => if w_16 < r_17 then (cI (f7_rankOf x1 x4 x2 M) (fun r_18 M => l7_setBy_63 rec5 FU x1 x2 x3 x4 r_18 x3 M)) else (l7_setBy_141 rec5 x1 x2 x3 x4 M)))))))
set_option maxHeartbeats 2000000 in
theorem sb7_setBy_5   (rec5 : Int32 → Int32 → Int32 → Int32 → mm_M → Option (Int32 × mm_M)) (hrec5 : ∀ (x1 : Int32) (x2 : Int32) (x3 : Int32) (x4 : Int32) (M : mm_M), Snd injI j7_setBy mm_X0 5 [some (.ref 46), some (.int x1), some (.int x2), some (.int x3), some (.int x4), none, none, none] [] M (rec5 x1 x2 x3 x4 M)) (x1 : Int32) (x2 : Int32) (x3 : Int32) (x4 : Int32)  (M : mm_M) : Snd injI j7_setBy mm_X0 5 [some (.ref 46), some (.int x1), some (.int x2), some (.int x3), some (.int x4), none, none, none] [] M (b7_setBy_5  rec5 x1 x2 x3 x4 M) := by
  unfold b7_setBy_5
  refine sn_iload (j := j7_setBy) (pc := 5) rfl dX7_setBy_5 ?_
  refine sn_aload_n (j := j7_setBy) (pc := 7) rfl rfl dX7_setBy_7 ?_
  refine g_X7_7 (j := j7_setBy) (pc := 8) rfl dX7_setBy_8 ?_
  refine sn_iconst (j := j7_setBy) (pc := 11) 1 rfl dX7_setBy_11 ?_
  refine sn_iald (j := j7_setBy) (pc := 12) rfl ⟨by decide, by decide⟩ dX7_setBy_12 (fun w_14 => ?_)
  refine sn_icmp_ge (j := j7_setBy) (pc := 13) 147 rfl dX7_setBy_13 ?_ ?_
  · refine sn_iconst (j := j7_setBy) (pc := 147) 0 rfl dX7_setBy_147 ?_
    refine sn_istore (j := j7_setBy) (pc := 148) (by decide) (lo' := [some (.ref 46), some (.int x1), some (.int x2), some (.int x3), some (.int 0), none, none, none]) rfl dX7_setBy_148 ?_
    refine sn_iconst (j := j7_setBy) (pc := 150) 0 rfl dX7_setBy_150 ?_
    refine sn_istore (j := j7_setBy) (pc := 151) (by decide) (lo' := [some (.ref 46), some (.int x1), some (.int x2), some (.int x3), some (.int 0), some (.int 0), none, none]) rfl dX7_setBy_151 ?_
    refine sn_iconst (j := j7_setBy) (pc := 153) 0 rfl dX7_setBy_153 ?_
    refine sn_istore (j := j7_setBy) (pc := 154) (by decide) (lo' := [some (.ref 46), some (.int x1), some (.int x2), some (.int x3), some (.int 0), some (.int 0), some (.int 0), none]) rfl dX7_setBy_154 ?_
    exact Snd.wk (sl7_setBy_156 FU x2 x3 0 0 0 M) (by simp [mm_le])
  · refine sn_aload_n (j := j7_setBy) (pc := 16) rfl rfl dX7_setBy_16 ?_
    refine sn_iload (j := j7_setBy) (pc := 17) rfl dX7_setBy_17 ?_
    refine sn_iload_n (j := j7_setBy) (pc := 19) rfl rfl dX7_setBy_19 ?_
    refine sn_callV (j := j7_setBy) (pc := 20) (jc := j7_isThere) (As := [.int x4, .int x2]) (s7_isThere x4 x2 M) mm_hvI (by simp [Value.category]) (Nat.le_of_ble_eq_true rfl) q7_isThere rfl (by decide) rfl rfl ⟨by decide, by decide⟩ w_ml_X7_210 w_im_X7_isThere w_se_X7_isThere rfl (Nat.le_of_ble_eq_true rfl) dX7_setBy_20 ?_
    rintro ⟨r_15, M⟩
    show Snd injI j7_setBy mm_X0 23 [some (.ref 46), some (.int x1), some (.int x2), some (.int x3), some (.int x4), none, none, none] [.int r_15] M _
    refine sn_if_eq (j := j7_setBy) (pc := 23) 141 rfl dX7_setBy_23 ?_ ?_
    · exact Snd.wk (sl7_setBy_141 rec5 hrec5 x1 x2 x3 x4 M) (by simp [mm_le])
    · refine sn_aload_n (j := j7_setBy) (pc := 26) rfl rfl dX7_setBy_26 ?_
      refine g_X7_25 (j := j7_setBy) (pc := 27) rfl dX7_setBy_27 ?_
      refine sn_iconst (j := j7_setBy) (pc := 30) 4 rfl dX7_setBy_30 ?_
      refine sn_iload_n (j := j7_setBy) (pc := 31) rfl rfl dX7_setBy_31 ?_
      refine sn_imul (j := j7_setBy) (pc := 32) dX7_setBy_32 ?_
      refine sn_iload (j := j7_setBy) (pc := 33) rfl dX7_setBy_33 ?_
      refine sn_iadd (j := j7_setBy) (pc := 35) dX7_setBy_35 ?_
      refine sn_iald (j := j7_setBy) (pc := 36) rfl ⟨by decide, by decide⟩ dX7_setBy_36 (fun w_16 => ?_)
      refine sn_aload_n (j := j7_setBy) (pc := 37) rfl rfl dX7_setBy_37 ?_
      refine sn_iload (j := j7_setBy) (pc := 38) rfl dX7_setBy_38 ?_
      refine sn_iconst (j := j7_setBy) (pc := 40) 3 rfl dX7_setBy_40 ?_
      refine sn_callV (j := j7_setBy) (pc := 41) (jc := j7_of) (As := [.int x4, .int 3]) (s7_of x4 3 M) mm_hvI (by simp [Value.category]) (Nat.le_of_ble_eq_true rfl) q7_of rfl (by decide) rfl rfl ⟨by decide, by decide⟩ w_ml_X7_181 w_im_X7_of w_se_X7_of rfl (Nat.le_of_ble_eq_true rfl) dX7_setBy_41 ?_
      rintro ⟨r_17, M⟩
      show Snd injI j7_setBy mm_X0 44 [some (.ref 46), some (.int x1), some (.int x2), some (.int x3), some (.int x4), none, none, none] [.int r_17, .int w_16] M _
      refine sn_icmp_lt (j := j7_setBy) (pc := 44) 50 rfl dX7_setBy_44 ?_ ?_
      · refine sn_aload_n (j := j7_setBy) (pc := 50) rfl rfl dX7_setBy_50 ?_
        refine sn_iload_n (j := j7_setBy) (pc := 51) rfl rfl dX7_setBy_51 ?_
        refine sn_iload (j := j7_setBy) (pc := 52) rfl dX7_setBy_52 ?_
        refine sn_iload_n (j := j7_setBy) (pc := 54) rfl rfl dX7_setBy_54 ?_
        refine sn_callV (j := j7_setBy) (pc := 55) (jc := j7_rankOf) (As := [.int x1, .int x4, .int x2]) (s7_rankOf x1 x4 x2 M) mm_hvI (by simp [Value.category]) (Nat.le_of_ble_eq_true rfl) q7_rankOf rfl (by decide) rfl rfl ⟨by decide, by decide⟩ w_ml_X7_268 w_im_X7_rankOf w_se_X7_rankOf rfl (Nat.le_of_ble_eq_true rfl) dX7_setBy_55 ?_
        rintro ⟨r_18, M⟩
        show Snd injI j7_setBy mm_X0 58 [some (.ref 46), some (.int x1), some (.int x2), some (.int x3), some (.int x4), none, none, none] [.int r_18] M _
        refine sn_istore (j := j7_setBy) (pc := 58) (by decide) (lo' := [some (.ref 46), some (.int x1), some (.int x2), some (.int x3), some (.int x4), some (.int r_18), none, none]) rfl dX7_setBy_58 ?_
        refine sn_iload_n (j := j7_setBy) (pc := 60) rfl rfl dX7_setBy_60 ?_
        refine sn_istore (j := j7_setBy) (pc := 61) (by decide) (lo' := [some (.ref 46), some (.int x1), some (.int x2), some (.int x3), some (.int x4), some (.int r_18), some (.int x3), none]) rfl dX7_setBy_61 ?_
        exact Snd.wk (sl7_setBy_63 rec5 hrec5 FU x1 x2 x3 x4 r_18 x3 M) (by simp [mm_le])
      · refine sn_goto (j := j7_setBy) (pc := 47) 141 rfl dX7_setBy_47 ?_
        exact Snd.wk (sl7_setBy_141 rec5 hrec5 x1 x2 x3 x4 M) (by simp [mm_le])
def l7_setBy_5  : Nat → Int32 → Int32 → Int32 → Int32 → mm_M → Option (Int32 × mm_M)
  | 0 => fun _ _ _ _ _ => none
  | n + 1 => fun x1 x2 x3 x4 M => b7_setBy_5  (l7_setBy_5  n) x1 x2 x3 x4 M
theorem sl7_setBy_5   : ∀ (n : Nat) (x1 : Int32) (x2 : Int32) (x3 : Int32) (x4 : Int32)  (M : mm_M), Snd injI j7_setBy mm_X0 5 [some (.ref 46), some (.int x1), some (.int x2), some (.int x3), some (.int x4), none, none, none] [] M (l7_setBy_5  n x1 x2 x3 x4 M)
  | 0 => fun _ _ _ _  _ => Snd.none
  | n + 1 => fun x1 x2 x3 x4  M => sb7_setBy_5   (l7_setBy_5  n) (fun x1 x2 x3 x4 M  => sl7_setBy_5   n x1 x2 x3 x4  M) x1 x2 x3 x4  M
def f7_setBy (x1 : Int32) (x2 : Int32) (M : mm_M) : Option (Int32 × mm_M) :=
  l7_setBy_5 FU x1 x2 0 0 M
set_option maxHeartbeats 2000000 in
theorem s7_setBy (x1 : Int32) (x2 : Int32) (M : mm_M) : Snd injI j7_setBy mm_X0 0 [some (.ref 46), some (.int x1), some (.int x2)] [] M (f7_setBy x1 x2 M) := by
  refine Snd.wk (lo' := [some (.ref 46), some (.int x1), some (.int x2), none, none, none, none, none]) ?_ (by simp [mm_le])
  unfold f7_setBy
  refine sn_iconst (j := j7_setBy) (pc := 0) 0 rfl dX7_setBy_0 ?_
  refine sn_istore_n (j := j7_setBy) (pc := 1) rfl (by decide) (lo' := [some (.ref 46), some (.int x1), some (.int x2), some (.int 0), none, none, none, none]) rfl dX7_setBy_1 ?_
  refine sn_iconst (j := j7_setBy) (pc := 2) 0 rfl dX7_setBy_2 ?_
  refine sn_istore (j := j7_setBy) (pc := 3) (by decide) (lo' := [some (.ref 46), some (.int x1), some (.int x2), some (.int 0), some (.int 0), none, none, none]) rfl dX7_setBy_3 ?_
  exact Snd.wk (sl7_setBy_5 FU x1 x2 0 0 M) (by simp [mm_le])

abbrev j7_rules : mm_J := (yX7_rules, cX7_rules, 3, none, 5)
theorem dX7_rules_0 : decode cX7_rules 0 = .ok (.aload_n 0, 1) := by decide +kernel
theorem dX7_rules_1 : decode cX7_rules 1 = .ok (.invokevirtual 194, 3) := by decide +kernel
theorem dX7_rules_4 : decode cX7_rules 4 = .ok (.iconst 0, 1) := by decide +kernel
theorem dX7_rules_5 : decode cX7_rules 5 = .ok (.istore_n 2, 1) := by decide +kernel
theorem dX7_rules_6 : decode cX7_rules 6 = .ok (.iload_n 2, 1) := by decide +kernel
theorem dX7_rules_7 : decode cX7_rules 7 = .ok (.bipush 8, 2) := by decide +kernel
theorem dX7_rules_9 : decode cX7_rules 9 = .ok (.if_icmp .ge 16, 3) := by decide +kernel
theorem dX7_rules_12 : decode cX7_rules 12 = .ok (.aload_n 0, 1) := by decide +kernel
theorem dX7_rules_13 : decode cX7_rules 13 = .ok (.getfield 22, 3) := by decide +kernel
theorem dX7_rules_16 : decode cX7_rules 16 = .ok (.iload_n 2, 1) := by decide +kernel
theorem dX7_rules_17 : decode cX7_rules 17 = .ok (.iconst 0, 1) := by decide +kernel
theorem dX7_rules_18 : decode cX7_rules 18 = .ok (.iastore, 1) := by decide +kernel
theorem dX7_rules_19 : decode cX7_rules 19 = .ok (.iinc 2 1, 3) := by decide +kernel
theorem dX7_rules_22 : decode cX7_rules 22 = .ok (.goto (-16), 3) := by decide +kernel
theorem dX7_rules_25 : decode cX7_rules 25 = .ok (.iconst 0, 1) := by decide +kernel
theorem dX7_rules_26 : decode cX7_rules 26 = .ok (.istore_n 2, 1) := by decide +kernel
theorem dX7_rules_27 : decode cX7_rules 27 = .ok (.iload_n 2, 1) := by decide +kernel
theorem dX7_rules_28 : decode cX7_rules 28 = .ok (.aload_n 0, 1) := by decide +kernel
theorem dX7_rules_29 : decode cX7_rules 29 = .ok (.getfield 7, 3) := by decide +kernel
theorem dX7_rules_32 : decode cX7_rules 32 = .ok (.iconst 0, 1) := by decide +kernel
theorem dX7_rules_33 : decode cX7_rules 33 = .ok (.iaload, 1) := by decide +kernel
theorem dX7_rules_34 : decode cX7_rules 34 = .ok (.if_icmp .ge 25, 3) := by decide +kernel
theorem dX7_rules_37 : decode cX7_rules 37 = .ok (.aload_n 0, 1) := by decide +kernel
theorem dX7_rules_38 : decode cX7_rules 38 = .ok (.invokevirtual 213, 3) := by decide +kernel
theorem dX7_rules_41 : decode cX7_rules 41 = .ok (.aload_n 0, 1) := by decide +kernel
theorem dX7_rules_42 : decode cX7_rules 42 = .ok (.getfield 22, 3) := by decide +kernel
theorem dX7_rules_45 : decode cX7_rules 45 = .ok (.iload_n 2, 1) := by decide +kernel
theorem dX7_rules_46 : decode cX7_rules 46 = .ok (.aload_n 0, 1) := by decide +kernel
theorem dX7_rules_47 : decode cX7_rules 47 = .ok (.iload_n 1, 1) := by decide +kernel
theorem dX7_rules_48 : decode cX7_rules 48 = .ok (.iload_n 2, 1) := by decide +kernel
theorem dX7_rules_49 : decode cX7_rules 49 = .ok (.invokevirtual 271, 3) := by decide +kernel
theorem dX7_rules_52 : decode cX7_rules 52 = .ok (.iastore, 1) := by decide +kernel
theorem dX7_rules_53 : decode cX7_rules 53 = .ok (.iinc 2 1, 3) := by decide +kernel
theorem dX7_rules_56 : decode cX7_rules 56 = .ok (.goto (-29), 3) := by decide +kernel
theorem dX7_rules_59 : decode cX7_rules 59 = .ok (.aload_n 0, 1) := by decide +kernel
theorem dX7_rules_60 : decode cX7_rules 60 = .ok (.invokevirtual 213, 3) := by decide +kernel
theorem dX7_rules_63 : decode cX7_rules 63 = .ok (.return_, 1) := by decide +kernel
def b7_rules_27  (rec27 : Int32 → Int32 → mm_M → Option (mm_M)) (x1 : Int32) (x2 : Int32) (M : mm_M) : Option (mm_M) :=
  aI 47 82 0 M (fun w_1 => if w_1 ≤ x2 then (cV (f7_goes M) (fun M => some M)) else (cV (f7_goes M) (fun M => cI (f7_setBy x1 x2 M) (fun r_2 M => uI 51 8 x2 r_2 M (fun M => rec27 x1 (x2 + 1) M)))))
set_option maxHeartbeats 2000000 in
theorem sb7_rules_27   (rec27 : Int32 → Int32 → mm_M → Option (mm_M)) (hrec27 : ∀ (x1 : Int32) (x2 : Int32) (M : mm_M), Snd injV j7_rules mm_X0 27 [some (.ref 46), some (.int x1), some (.int x2)] [] M (rec27 x1 x2 M)) (x1 : Int32) (x2 : Int32)  (M : mm_M) : Snd injV j7_rules mm_X0 27 [some (.ref 46), some (.int x1), some (.int x2)] [] M (b7_rules_27  rec27 x1 x2 M) := by
  unfold b7_rules_27
  refine sn_iload_n (j := j7_rules) (pc := 27) rfl rfl dX7_rules_27 ?_
  refine sn_aload_n (j := j7_rules) (pc := 28) rfl rfl dX7_rules_28 ?_
  refine g_X7_7 (j := j7_rules) (pc := 29) rfl dX7_rules_29 ?_
  refine sn_iconst (j := j7_rules) (pc := 32) 0 rfl dX7_rules_32 ?_
  refine sn_iald (j := j7_rules) (pc := 33) rfl ⟨by decide, by decide⟩ dX7_rules_33 (fun w_1 => ?_)
  refine sn_icmp_ge (j := j7_rules) (pc := 34) 59 rfl dX7_rules_34 ?_ ?_
  · refine sn_aload_n (j := j7_rules) (pc := 59) rfl rfl dX7_rules_59 ?_
    refine sn_callV (j := j7_rules) (pc := 60) (jc := j7_goes) (As := []) (s7_goes M) mm_hvV (by simp [Value.category]) (Nat.le_of_ble_eq_true rfl) q7_goes rfl (by decide) rfl rfl ⟨by decide, by decide⟩ w_ml_X7_213 w_im_X7_goes w_se_X7_goes rfl (Nat.le_of_ble_eq_true rfl) dX7_rules_60 ?_
    intro M
    show Snd injV j7_rules mm_X0 63 [some (.ref 46), some (.int x1), some (.int x2)] [] M _
    exact sn_vret (j := j7_rules) (pc := 63) rfl dX7_rules_63
  · refine sn_aload_n (j := j7_rules) (pc := 37) rfl rfl dX7_rules_37 ?_
    refine sn_callV (j := j7_rules) (pc := 38) (jc := j7_goes) (As := []) (s7_goes M) mm_hvV (by simp [Value.category]) (Nat.le_of_ble_eq_true rfl) q7_goes rfl (by decide) rfl rfl ⟨by decide, by decide⟩ w_ml_X7_213 w_im_X7_goes w_se_X7_goes rfl (Nat.le_of_ble_eq_true rfl) dX7_rules_38 ?_
    intro M
    show Snd injV j7_rules mm_X0 41 [some (.ref 46), some (.int x1), some (.int x2)] [] M _
    refine sn_aload_n (j := j7_rules) (pc := 41) rfl rfl dX7_rules_41 ?_
    refine g_X7_22 (j := j7_rules) (pc := 42) rfl dX7_rules_42 ?_
    refine sn_iload_n (j := j7_rules) (pc := 45) rfl rfl dX7_rules_45 ?_
    refine sn_aload_n (j := j7_rules) (pc := 46) rfl rfl dX7_rules_46 ?_
    refine sn_iload_n (j := j7_rules) (pc := 47) rfl rfl dX7_rules_47 ?_
    refine sn_iload_n (j := j7_rules) (pc := 48) rfl rfl dX7_rules_48 ?_
    refine sn_callV (j := j7_rules) (pc := 49) (jc := j7_setBy) (As := [.int x1, .int x2]) (s7_setBy x1 x2 M) mm_hvI (by simp [Value.category]) (Nat.le_of_ble_eq_true rfl) q7_setBy rfl (by decide) rfl rfl ⟨by decide, by decide⟩ w_ml_X7_271 w_im_X7_setBy w_se_X7_setBy rfl (Nat.le_of_ble_eq_true rfl) dX7_rules_49 ?_
    rintro ⟨r_2, M⟩
    show Snd injV j7_rules mm_X0 52 [some (.ref 46), some (.int x1), some (.int x2)] [.int r_2, .int x2, .ref 51] M _
    refine sn_iast (j := j7_rules) (pc := 52) rfl ⟨by decide, by decide⟩ dX7_rules_52 (fun M => ?_)
    refine sn_iinc (j := j7_rules) (pc := 53) 1 rfl (by decide) rfl (lo' := [some (.ref 46), some (.int x1), some (.int (x2 + 1))]) rfl dX7_rules_53 ?_
    refine sn_goto (j := j7_rules) (pc := 56) 27 rfl dX7_rules_56 ?_
    exact Snd.wk (hrec27 x1 (x2 + 1) M ) (by simp [mm_le])
def l7_rules_27  : Nat → Int32 → Int32 → mm_M → Option (mm_M)
  | 0 => fun _ _ _ => none
  | n + 1 => fun x1 x2 M => b7_rules_27  (l7_rules_27  n) x1 x2 M
theorem sl7_rules_27   : ∀ (n : Nat) (x1 : Int32) (x2 : Int32)  (M : mm_M), Snd injV j7_rules mm_X0 27 [some (.ref 46), some (.int x1), some (.int x2)] [] M (l7_rules_27  n x1 x2 M)
  | 0 => fun _ _  _ => Snd.none
  | n + 1 => fun x1 x2  M => sb7_rules_27   (l7_rules_27  n) (fun x1 x2 M  => sl7_rules_27   n x1 x2  M) x1 x2  M
def b7_rules_6  (rec6 : Int32 → Int32 → mm_M → Option (mm_M)) (x1 : Int32) (x2 : Int32) (M : mm_M) : Option (mm_M) :=
  if 8 ≤ x2 then (l7_rules_27 FU x1 0 M) else (uI 51 8 x2 0 M (fun M => rec6 x1 (x2 + 1) M))
set_option maxHeartbeats 2000000 in
theorem sb7_rules_6   (rec6 : Int32 → Int32 → mm_M → Option (mm_M)) (hrec6 : ∀ (x1 : Int32) (x2 : Int32) (M : mm_M), Snd injV j7_rules mm_X0 6 [some (.ref 46), some (.int x1), some (.int x2)] [] M (rec6 x1 x2 M)) (x1 : Int32) (x2 : Int32)  (M : mm_M) : Snd injV j7_rules mm_X0 6 [some (.ref 46), some (.int x1), some (.int x2)] [] M (b7_rules_6  rec6 x1 x2 M) := by
  unfold b7_rules_6
  refine sn_iload_n (j := j7_rules) (pc := 6) rfl rfl dX7_rules_6 ?_
  refine sn_bipush (j := j7_rules) (pc := 7) 8 rfl dX7_rules_7 ?_
  refine sn_icmp_ge (j := j7_rules) (pc := 9) 25 rfl dX7_rules_9 ?_ ?_
  · refine sn_iconst (j := j7_rules) (pc := 25) 0 rfl dX7_rules_25 ?_
    refine sn_istore_n (j := j7_rules) (pc := 26) rfl (by decide) (lo' := [some (.ref 46), some (.int x1), some (.int 0)]) rfl dX7_rules_26 ?_
    exact Snd.wk (sl7_rules_27 FU x1 0 M) (by simp [mm_le])
  · refine sn_aload_n (j := j7_rules) (pc := 12) rfl rfl dX7_rules_12 ?_
    refine g_X7_22 (j := j7_rules) (pc := 13) rfl dX7_rules_13 ?_
    refine sn_iload_n (j := j7_rules) (pc := 16) rfl rfl dX7_rules_16 ?_
    refine sn_iconst (j := j7_rules) (pc := 17) 0 rfl dX7_rules_17 ?_
    refine sn_iast (j := j7_rules) (pc := 18) rfl ⟨by decide, by decide⟩ dX7_rules_18 (fun M => ?_)
    refine sn_iinc (j := j7_rules) (pc := 19) 1 rfl (by decide) rfl (lo' := [some (.ref 46), some (.int x1), some (.int (x2 + 1))]) rfl dX7_rules_19 ?_
    refine sn_goto (j := j7_rules) (pc := 22) 6 rfl dX7_rules_22 ?_
    exact Snd.wk (hrec6 x1 (x2 + 1) M ) (by simp [mm_le])
def l7_rules_6  : Nat → Int32 → Int32 → mm_M → Option (mm_M)
  | 0 => fun _ _ _ => none
  | n + 1 => fun x1 x2 M => b7_rules_6  (l7_rules_6  n) x1 x2 M
theorem sl7_rules_6   : ∀ (n : Nat) (x1 : Int32) (x2 : Int32)  (M : mm_M), Snd injV j7_rules mm_X0 6 [some (.ref 46), some (.int x1), some (.int x2)] [] M (l7_rules_6  n x1 x2 M)
  | 0 => fun _ _  _ => Snd.none
  | n + 1 => fun x1 x2  M => sb7_rules_6   (l7_rules_6  n) (fun x1 x2 M  => sl7_rules_6   n x1 x2  M) x1 x2  M
def f7_rules (x1 : Int32) (M : mm_M) : Option (mm_M) :=
  cV (f7_asTold M) (fun M => l7_rules_6 FU x1 0 M)
set_option maxHeartbeats 2000000 in
theorem s7_rules (x1 : Int32) (M : mm_M) : Snd injV j7_rules mm_X0 0 [some (.ref 46), some (.int x1)] [] M (f7_rules x1 M) := by
  refine Snd.wk (lo' := [some (.ref 46), some (.int x1), none]) ?_ (by simp [mm_le])
  unfold f7_rules
  refine sn_aload_n (j := j7_rules) (pc := 0) rfl rfl dX7_rules_0 ?_
  refine sn_callV (j := j7_rules) (pc := 1) (jc := j7_asTold) (As := []) (s7_asTold M) mm_hvV (by simp [Value.category]) (Nat.le_of_ble_eq_true rfl) q7_asTold rfl (by decide) rfl rfl ⟨by decide, by decide⟩ w_ml_X7_194 w_im_X7_asTold w_se_X7_asTold rfl (Nat.le_of_ble_eq_true rfl) dX7_rules_1 ?_
  intro M
  show Snd injV j7_rules mm_X0 4 [some (.ref 46), some (.int x1), none] [] M _
  refine sn_iconst (j := j7_rules) (pc := 4) 0 rfl dX7_rules_4 ?_
  refine sn_istore_n (j := j7_rules) (pc := 5) rfl (by decide) (lo' := [some (.ref 46), some (.int x1), some (.int 0)]) rfl dX7_rules_5 ?_
  exact Snd.wk (sl7_rules_6 FU x1 0 M) (by simp [mm_le])

abbrev j7_rule : mm_J := (yX7_rule, cX7_rule, 3, (some .int), 6)
theorem dX7_rule_0 : decode cX7_rule 0 = .ok (.aload_n 0, 1) := by decide +kernel
theorem dX7_rule_1 : decode cX7_rule 1 = .ok (.iconst 0, 1) := by decide +kernel
theorem dX7_rule_2 : decode cX7_rule 2 = .ok (.putfield 56, 3) := by decide +kernel
theorem dX7_rule_5 : decode cX7_rule 5 = .ok (.iload_n 1, 1) := by decide +kernel
theorem dX7_rule_6 : decode cX7_rule 6 = .ok (.iconst 0, 1) := by decide +kernel
theorem dX7_rule_7 : decode cX7_rule 7 = .ok (.iconst 3, 1) := by decide +kernel
theorem dX7_rule_8 : decode cX7_rule 8 = .ok (.invokestatic 60, 3) := by decide +kernel
theorem dX7_rule_11 : decode cX7_rule 11 = .ok (.ifCond .eq 30, 3) := by decide +kernel
theorem dX7_rule_14 : decode cX7_rule 14 = .ok (.iload_n 2, 1) := by decide +kernel
theorem dX7_rule_15 : decode cX7_rule 15 = .ok (.iconst 0, 1) := by decide +kernel
theorem dX7_rule_16 : decode cX7_rule 16 = .ok (.iconst 3, 1) := by decide +kernel
theorem dX7_rule_17 : decode cX7_rule 17 = .ok (.invokestatic 60, 3) := by decide +kernel
theorem dX7_rule_20 : decode cX7_rule 20 = .ok (.ifCond .ne 23, 3) := by decide +kernel
theorem dX7_rule_23 : decode cX7_rule 23 = .ok (.iload_n 2, 1) := by decide +kernel
theorem dX7_rule_24 : decode cX7_rule 24 = .ok (.bipush 10, 2) := by decide +kernel
theorem dX7_rule_26 : decode cX7_rule 26 = .ok (.bipush 9, 2) := by decide +kernel
theorem dX7_rule_28 : decode cX7_rule 28 = .ok (.aload_n 0, 1) := by decide +kernel
theorem dX7_rule_29 : decode cX7_rule 29 = .ok (.getfield 7, 3) := by decide +kernel
theorem dX7_rule_32 : decode cX7_rule 32 = .ok (.iconst 0, 1) := by decide +kernel
theorem dX7_rule_33 : decode cX7_rule 33 = .ok (.iaload, 1) := by decide +kernel
theorem dX7_rule_34 : decode cX7_rule 34 = .ok (.iadd, 1) := by decide +kernel
theorem dX7_rule_35 : decode cX7_rule 35 = .ok (.invokestatic 60, 3) := by decide +kernel
theorem dX7_rule_38 : decode cX7_rule 38 = .ok (.ifCond .ne 5, 3) := by decide +kernel
theorem dX7_rule_41 : decode cX7_rule 41 = .ok (.iconst (-1), 1) := by decide +kernel
theorem dX7_rule_42 : decode cX7_rule 42 = .ok (.ireturn, 1) := by decide +kernel
theorem dX7_rule_43 : decode cX7_rule 43 = .ok (.aload_n 0, 1) := by decide +kernel
theorem dX7_rule_44 : decode cX7_rule 44 = .ok (.iload_n 1, 1) := by decide +kernel
theorem dX7_rule_45 : decode cX7_rule 45 = .ok (.invokevirtual 274, 3) := by decide +kernel
theorem dX7_rule_48 : decode cX7_rule 48 = .ok (.iload_n 2, 1) := by decide +kernel
theorem dX7_rule_49 : decode cX7_rule 49 = .ok (.bipush 10, 2) := by decide +kernel
theorem dX7_rule_51 : decode cX7_rule 51 = .ok (.if_icmp .ge 11, 3) := by decide +kernel
theorem dX7_rule_54 : decode cX7_rule 54 = .ok (.aload_n 0, 1) := by decide +kernel
theorem dX7_rule_55 : decode cX7_rule 55 = .ok (.iload_n 2, 1) := by decide +kernel
theorem dX7_rule_56 : decode cX7_rule 56 = .ok (.invokevirtual 228, 3) := by decide +kernel
theorem dX7_rule_59 : decode cX7_rule 59 = .ok (.goto 12, 3) := by decide +kernel
theorem dX7_rule_62 : decode cX7_rule 62 = .ok (.aload_n 0, 1) := by decide +kernel
theorem dX7_rule_63 : decode cX7_rule 63 = .ok (.getfield 22, 3) := by decide +kernel
theorem dX7_rule_66 : decode cX7_rule 66 = .ok (.iload_n 2, 1) := by decide +kernel
theorem dX7_rule_67 : decode cX7_rule 67 = .ok (.bipush 10, 2) := by decide +kernel
theorem dX7_rule_69 : decode cX7_rule 69 = .ok (.isub, 1) := by decide +kernel
theorem dX7_rule_70 : decode cX7_rule 70 = .ok (.iaload, 1) := by decide +kernel
theorem dX7_rule_71 : decode cX7_rule 71 = .ok (.ireturn, 1) := by decide +kernel
def l7_rule_71  (s0 : Int32) (M : mm_M) : Option (Int32 × mm_M) :=
  some (s0, M)
set_option maxHeartbeats 2000000 in
theorem sl7_rule_71   (s0 : Int32)  (M : mm_M) : Snd injI j7_rule mm_X0 71 [none, none, none] [.int s0] M (l7_rule_71  s0 M) := by
  unfold l7_rule_71
  exact sn_iret (j := j7_rule) (pc := 71) rfl dX7_rule_71
def l7_rule_43  (x1 : Int32) (x2 : Int32) (M : mm_M) : Option (Int32 × mm_M) :=
  cV (f7_rules x1 M) (fun M => if 10 ≤ x2 then (aI 51 8 (x2 - 10) M (fun w_1 => l7_rule_71 w_1 M)) else (cI (f7_sumOf x2 M) (fun r_2 M => l7_rule_71 r_2 M)))
set_option maxHeartbeats 2000000 in
theorem sl7_rule_43   (x1 : Int32) (x2 : Int32)  (M : mm_M) : Snd injI j7_rule mm_X0 43 [some (.ref 46), some (.int x1), some (.int x2)] [] M (l7_rule_43  x1 x2 M) := by
  unfold l7_rule_43
  refine sn_aload_n (j := j7_rule) (pc := 43) rfl rfl dX7_rule_43 ?_
  refine sn_iload_n (j := j7_rule) (pc := 44) rfl rfl dX7_rule_44 ?_
  refine sn_callV (j := j7_rule) (pc := 45) (jc := j7_rules) (As := [.int x1]) (s7_rules x1 M) mm_hvV (by simp [Value.category]) (Nat.le_of_ble_eq_true rfl) q7_rules rfl (by decide) rfl rfl ⟨by decide, by decide⟩ w_ml_X7_274 w_im_X7_rules w_se_X7_rules rfl (Nat.le_of_ble_eq_true rfl) dX7_rule_45 ?_
  intro M
  show Snd injI j7_rule mm_X0 48 [some (.ref 46), some (.int x1), some (.int x2)] [] M _
  refine sn_iload_n (j := j7_rule) (pc := 48) rfl rfl dX7_rule_48 ?_
  refine sn_bipush (j := j7_rule) (pc := 49) 10 rfl dX7_rule_49 ?_
  refine sn_icmp_ge (j := j7_rule) (pc := 51) 62 rfl dX7_rule_51 ?_ ?_
  · refine sn_aload_n (j := j7_rule) (pc := 62) rfl rfl dX7_rule_62 ?_
    refine g_X7_22 (j := j7_rule) (pc := 63) rfl dX7_rule_63 ?_
    refine sn_iload_n (j := j7_rule) (pc := 66) rfl rfl dX7_rule_66 ?_
    refine sn_bipush (j := j7_rule) (pc := 67) 10 rfl dX7_rule_67 ?_
    refine sn_isub (j := j7_rule) (pc := 69) dX7_rule_69 ?_
    refine sn_iald (j := j7_rule) (pc := 70) rfl ⟨by decide, by decide⟩ dX7_rule_70 (fun w_1 => ?_)
    exact Snd.wk (sl7_rule_71 w_1 M) (by simp [mm_le])
  · refine sn_aload_n (j := j7_rule) (pc := 54) rfl rfl dX7_rule_54 ?_
    refine sn_iload_n (j := j7_rule) (pc := 55) rfl rfl dX7_rule_55 ?_
    refine sn_callV (j := j7_rule) (pc := 56) (jc := j7_sumOf) (As := [.int x2]) (s7_sumOf x2 M) mm_hvI (by simp [Value.category]) (Nat.le_of_ble_eq_true rfl) q7_sumOf rfl (by decide) rfl rfl ⟨by decide, by decide⟩ w_ml_X7_228 w_im_X7_sumOf w_se_X7_sumOf rfl (Nat.le_of_ble_eq_true rfl) dX7_rule_56 ?_
    rintro ⟨r_2, M⟩
    show Snd injI j7_rule mm_X0 59 [some (.ref 46), some (.int x1), some (.int x2)] [.int r_2] M _
    refine sn_goto (j := j7_rule) (pc := 59) 71 rfl dX7_rule_59 ?_
    exact Snd.wk (sl7_rule_71 r_2 M) (by simp [mm_le])
def l7_rule_41   (M : mm_M) : Option (Int32 × mm_M) :=
  some ((-1), M)
set_option maxHeartbeats 2000000 in
theorem sl7_rule_41     (M : mm_M) : Snd injI j7_rule mm_X0 41 [none, none, none] [] M (l7_rule_41   M) := by
  unfold l7_rule_41
  refine sn_iconst (j := j7_rule) (pc := 41) (-1) rfl dX7_rule_41 ?_
  exact sn_iret (j := j7_rule) (pc := 42) rfl dX7_rule_42
def f7_rule (x1 : Int32) (x2 : Int32) (M : mm_M) : Option (Int32 × mm_M) :=
  bM (sI M 46 0 0) (fun M => cI (f7_in x1 0 3 M) (fun r_3 M => if r_3 = 0 then (l7_rule_41 M) else (cI (f7_in x2 0 3 M) (fun r_4 M => if r_4 = 0 then (aI 47 82 0 M (fun w_5 => cI (f7_in x2 10 (9 + w_5) M) (fun r_6 M => if r_6 = 0 then (l7_rule_41 M) else (l7_rule_43 x1 x2 M)))) else (l7_rule_43 x1 x2 M)))))
set_option maxHeartbeats 2000000 in
theorem s7_rule (x1 : Int32) (x2 : Int32) (M : mm_M) : Snd injI j7_rule mm_X0 0 [some (.ref 46), some (.int x1), some (.int x2)] [] M (f7_rule x1 x2 M) := by
  refine Snd.wk (lo' := [some (.ref 46), some (.int x1), some (.int x2)]) ?_ (by simp [mm_le])
  unfold f7_rule
  refine sn_aload_n (j := j7_rule) (pc := 0) rfl rfl dX7_rule_0 ?_
  refine sn_iconst (j := j7_rule) (pc := 1) 0 rfl dX7_rule_1 ?_
  refine p_X7_56 (j := j7_rule) (pc := 2) rfl dX7_rule_2 (fun M => ?_)
  refine sn_iload_n (j := j7_rule) (pc := 5) rfl rfl dX7_rule_5 ?_
  refine sn_iconst (j := j7_rule) (pc := 6) 0 rfl dX7_rule_6 ?_
  refine sn_iconst (j := j7_rule) (pc := 7) 3 rfl dX7_rule_7 ?_
  refine sn_callS (j := j7_rule) (pc := 8) (jc := j7_in) (As := [.int x1, .int 0, .int 3]) (s7_in x1 0 3 M) mm_hvI (by simp [Value.category]) (Nat.le_of_ble_eq_true rfl) q7_in rfl (by decide) w_ml_X7_60 w_st_X7_in rfl (Nat.le_of_ble_eq_true rfl) dX7_rule_8 ?_
  rintro ⟨r_3, M⟩
  show Snd injI j7_rule mm_X0 11 [some (.ref 46), some (.int x1), some (.int x2)] [.int r_3] M _
  refine sn_if_eq (j := j7_rule) (pc := 11) 41 rfl dX7_rule_11 ?_ ?_
  · exact Snd.wk (sl7_rule_41 M) (by simp [mm_le])
  · refine sn_iload_n (j := j7_rule) (pc := 14) rfl rfl dX7_rule_14 ?_
    refine sn_iconst (j := j7_rule) (pc := 15) 0 rfl dX7_rule_15 ?_
    refine sn_iconst (j := j7_rule) (pc := 16) 3 rfl dX7_rule_16 ?_
    refine sn_callS (j := j7_rule) (pc := 17) (jc := j7_in) (As := [.int x2, .int 0, .int 3]) (s7_in x2 0 3 M) mm_hvI (by simp [Value.category]) (Nat.le_of_ble_eq_true rfl) q7_in rfl (by decide) w_ml_X7_60 w_st_X7_in rfl (Nat.le_of_ble_eq_true rfl) dX7_rule_17 ?_
    rintro ⟨r_4, M⟩
    show Snd injI j7_rule mm_X0 20 [some (.ref 46), some (.int x1), some (.int x2)] [.int r_4] M _
    refine sn_if_ne (j := j7_rule) (pc := 20) 43 rfl dX7_rule_20 ?_ ?_
    · exact Snd.wk (sl7_rule_43 x1 x2 M) (by simp [mm_le])
    · refine sn_iload_n (j := j7_rule) (pc := 23) rfl rfl dX7_rule_23 ?_
      refine sn_bipush (j := j7_rule) (pc := 24) 10 rfl dX7_rule_24 ?_
      refine sn_bipush (j := j7_rule) (pc := 26) 9 rfl dX7_rule_26 ?_
      refine sn_aload_n (j := j7_rule) (pc := 28) rfl rfl dX7_rule_28 ?_
      refine g_X7_7 (j := j7_rule) (pc := 29) rfl dX7_rule_29 ?_
      refine sn_iconst (j := j7_rule) (pc := 32) 0 rfl dX7_rule_32 ?_
      refine sn_iald (j := j7_rule) (pc := 33) rfl ⟨by decide, by decide⟩ dX7_rule_33 (fun w_5 => ?_)
      refine sn_iadd (j := j7_rule) (pc := 34) dX7_rule_34 ?_
      refine sn_callS (j := j7_rule) (pc := 35) (jc := j7_in) (As := [.int x2, .int 10, .int (9 + w_5)]) (s7_in x2 10 (9 + w_5) M) mm_hvI (by simp [Value.category]) (Nat.le_of_ble_eq_true rfl) q7_in rfl (by decide) w_ml_X7_60 w_st_X7_in rfl (Nat.le_of_ble_eq_true rfl) dX7_rule_35 ?_
      rintro ⟨r_6, M⟩
      show Snd injI j7_rule mm_X0 38 [some (.ref 46), some (.int x1), some (.int x2)] [.int r_6] M _
      refine sn_if_ne (j := j7_rule) (pc := 38) 43 rfl dX7_rule_38 ?_ ?_
      · exact Snd.wk (sl7_rule_43 x1 x2 M) (by simp [mm_le])
      · exact Snd.wk (sl7_rule_41 M) (by simp [mm_le])

abbrev j7_takeRule : mm_J := (yX7_takeRule, cX7_takeRule, 2, (some .int), 6)
theorem dX7_takeRule_0 : decode cX7_takeRule 0 = .ok (.aload_n 0, 1) := by decide +kernel
theorem dX7_takeRule_1 : decode cX7_takeRule 1 = .ok (.iconst 0, 1) := by decide +kernel
theorem dX7_takeRule_2 : decode cX7_takeRule 2 = .ok (.putfield 56, 3) := by decide +kernel
theorem dX7_takeRule_5 : decode cX7_takeRule 5 = .ok (.iload_n 1, 1) := by decide +kernel
theorem dX7_takeRule_6 : decode cX7_takeRule 6 = .ok (.iconst 0, 1) := by decide +kernel
theorem dX7_takeRule_7 : decode cX7_takeRule 7 = .ok (.iconst 3, 1) := by decide +kernel
theorem dX7_takeRule_8 : decode cX7_takeRule 8 = .ok (.invokestatic 60, 3) := by decide +kernel
theorem dX7_takeRule_11 : decode cX7_takeRule 11 = .ok (.ifCond .ne 5, 3) := by decide +kernel
theorem dX7_takeRule_14 : decode cX7_takeRule 14 = .ok (.iconst (-1), 1) := by decide +kernel
theorem dX7_takeRule_15 : decode cX7_takeRule 15 = .ok (.ireturn, 1) := by decide +kernel
theorem dX7_takeRule_16 : decode cX7_takeRule 16 = .ok (.aload_n 0, 1) := by decide +kernel
theorem dX7_takeRule_17 : decode cX7_takeRule 17 = .ok (.iload_n 1, 1) := by decide +kernel
theorem dX7_takeRule_18 : decode cX7_takeRule 18 = .ok (.invokevirtual 274, 3) := by decide +kernel
theorem dX7_takeRule_21 : decode cX7_takeRule 21 = .ok (.aload_n 0, 1) := by decide +kernel
theorem dX7_takeRule_22 : decode cX7_takeRule 22 = .ok (.invokevirtual 259, 3) := by decide +kernel
theorem dX7_takeRule_25 : decode cX7_takeRule 25 = .ok (.ireturn, 1) := by decide +kernel
def f7_takeRule (x1 : Int32) (M : mm_M) : Option (Int32 × mm_M) :=
  bM (sI M 46 0 0) (fun M => cI (f7_in x1 0 3 M) (fun r_1 M => if r_1 = 0 then (some ((-1), M)) else (cV (f7_rules x1 M) (fun M => cI (f7_stands M) (fun r_2 M => some (r_2, M))))))
set_option maxHeartbeats 2000000 in
theorem s7_takeRule (x1 : Int32) (M : mm_M) : Snd injI j7_takeRule mm_X0 0 [some (.ref 46), some (.int x1)] [] M (f7_takeRule x1 M) := by
  refine Snd.wk (lo' := [some (.ref 46), some (.int x1)]) ?_ (by simp [mm_le])
  unfold f7_takeRule
  refine sn_aload_n (j := j7_takeRule) (pc := 0) rfl rfl dX7_takeRule_0 ?_
  refine sn_iconst (j := j7_takeRule) (pc := 1) 0 rfl dX7_takeRule_1 ?_
  refine p_X7_56 (j := j7_takeRule) (pc := 2) rfl dX7_takeRule_2 (fun M => ?_)
  refine sn_iload_n (j := j7_takeRule) (pc := 5) rfl rfl dX7_takeRule_5 ?_
  refine sn_iconst (j := j7_takeRule) (pc := 6) 0 rfl dX7_takeRule_6 ?_
  refine sn_iconst (j := j7_takeRule) (pc := 7) 3 rfl dX7_takeRule_7 ?_
  refine sn_callS (j := j7_takeRule) (pc := 8) (jc := j7_in) (As := [.int x1, .int 0, .int 3]) (s7_in x1 0 3 M) mm_hvI (by simp [Value.category]) (Nat.le_of_ble_eq_true rfl) q7_in rfl (by decide) w_ml_X7_60 w_st_X7_in rfl (Nat.le_of_ble_eq_true rfl) dX7_takeRule_8 ?_
  rintro ⟨r_1, M⟩
  show Snd injI j7_takeRule mm_X0 11 [some (.ref 46), some (.int x1)] [.int r_1] M _
  refine sn_if_ne (j := j7_takeRule) (pc := 11) 16 rfl dX7_takeRule_11 ?_ ?_
  · refine sn_aload_n (j := j7_takeRule) (pc := 16) rfl rfl dX7_takeRule_16 ?_
    refine sn_iload_n (j := j7_takeRule) (pc := 17) rfl rfl dX7_takeRule_17 ?_
    refine sn_callV (j := j7_takeRule) (pc := 18) (jc := j7_rules) (As := [.int x1]) (s7_rules x1 M) mm_hvV (by simp [Value.category]) (Nat.le_of_ble_eq_true rfl) q7_rules rfl (by decide) rfl rfl ⟨by decide, by decide⟩ w_ml_X7_274 w_im_X7_rules w_se_X7_rules rfl (Nat.le_of_ble_eq_true rfl) dX7_takeRule_18 ?_
    intro M
    show Snd injI j7_takeRule mm_X0 21 [some (.ref 46), some (.int x1)] [] M _
    refine sn_aload_n (j := j7_takeRule) (pc := 21) rfl rfl dX7_takeRule_21 ?_
    refine sn_callV (j := j7_takeRule) (pc := 22) (jc := j7_stands) (As := []) (s7_stands M) mm_hvI (by simp [Value.category]) (Nat.le_of_ble_eq_true rfl) q7_stands rfl (by decide) rfl rfl ⟨by decide, by decide⟩ w_ml_X7_259 w_im_X7_stands w_se_X7_stands rfl (Nat.le_of_ble_eq_true rfl) dX7_takeRule_22 ?_
    rintro ⟨r_2, M⟩
    show Snd injI j7_takeRule mm_X0 25 [some (.ref 46), some (.int x1)] [.int r_2] M _
    exact sn_iret (j := j7_takeRule) (pc := 25) rfl dX7_takeRule_25
  · refine sn_iconst (j := j7_takeRule) (pc := 14) (-1) rfl dX7_takeRule_14 ?_
    exact sn_iret (j := j7_takeRule) (pc := 15) rfl dX7_takeRule_15

abbrev j7_bestRule : mm_J := (yX7_bestRule, cX7_bestRule, 5, (some .int), 6)
theorem dX7_bestRule_0 : decode cX7_bestRule 0 = .ok (.aload_n 0, 1) := by decide +kernel
theorem dX7_bestRule_1 : decode cX7_bestRule 1 = .ok (.iconst 0, 1) := by decide +kernel
theorem dX7_bestRule_2 : decode cX7_bestRule 2 = .ok (.putfield 56, 3) := by decide +kernel
theorem dX7_bestRule_5 : decode cX7_bestRule 5 = .ok (.iconst (-1), 1) := by decide +kernel
theorem dX7_bestRule_6 : decode cX7_bestRule 6 = .ok (.istore_n 1, 1) := by decide +kernel
theorem dX7_bestRule_7 : decode cX7_bestRule 7 = .ok (.iconst 0, 1) := by decide +kernel
theorem dX7_bestRule_8 : decode cX7_bestRule 8 = .ok (.istore_n 2, 1) := by decide +kernel
theorem dX7_bestRule_9 : decode cX7_bestRule 9 = .ok (.iconst 0, 1) := by decide +kernel
theorem dX7_bestRule_10 : decode cX7_bestRule 10 = .ok (.istore_n 3, 1) := by decide +kernel
theorem dX7_bestRule_11 : decode cX7_bestRule 11 = .ok (.iconst 0, 1) := by decide +kernel
theorem dX7_bestRule_12 : decode cX7_bestRule 12 = .ok (.istore 4, 2) := by decide +kernel
theorem dX7_bestRule_14 : decode cX7_bestRule 14 = .ok (.iload 4, 2) := by decide +kernel
theorem dX7_bestRule_16 : decode cX7_bestRule 16 = .ok (.iconst 4, 1) := by decide +kernel
theorem dX7_bestRule_17 : decode cX7_bestRule 17 = .ok (.if_icmp .ge 62, 3) := by decide +kernel
theorem dX7_bestRule_20 : decode cX7_bestRule 20 = .ok (.aload_n 0, 1) := by decide +kernel
theorem dX7_bestRule_21 : decode cX7_bestRule 21 = .ok (.iload 4, 2) := by decide +kernel
theorem dX7_bestRule_23 : decode cX7_bestRule 23 = .ok (.invokevirtual 274, 3) := by decide +kernel
theorem dX7_bestRule_26 : decode cX7_bestRule 26 = .ok (.iload_n 1, 1) := by decide +kernel
theorem dX7_bestRule_27 : decode cX7_bestRule 27 = .ok (.iconst (-1), 1) := by decide +kernel
theorem dX7_bestRule_28 : decode cX7_bestRule 28 = .ok (.if_icmp .eq 30, 3) := by decide +kernel
theorem dX7_bestRule_31 : decode cX7_bestRule 31 = .ok (.aload_n 0, 1) := by decide +kernel
theorem dX7_bestRule_32 : decode cX7_bestRule 32 = .ok (.iconst 3, 1) := by decide +kernel
theorem dX7_bestRule_33 : decode cX7_bestRule 33 = .ok (.invokevirtual 228, 3) := by decide +kernel
theorem dX7_bestRule_36 : decode cX7_bestRule 36 = .ok (.iload_n 2, 1) := by decide +kernel
theorem dX7_bestRule_37 : decode cX7_bestRule 37 = .ok (.if_icmp .lt 21, 3) := by decide +kernel
theorem dX7_bestRule_40 : decode cX7_bestRule 40 = .ok (.aload_n 0, 1) := by decide +kernel
theorem dX7_bestRule_41 : decode cX7_bestRule 41 = .ok (.iconst 3, 1) := by decide +kernel
theorem dX7_bestRule_42 : decode cX7_bestRule 42 = .ok (.invokevirtual 228, 3) := by decide +kernel
theorem dX7_bestRule_45 : decode cX7_bestRule 45 = .ok (.iload_n 2, 1) := by decide +kernel
theorem dX7_bestRule_46 : decode cX7_bestRule 46 = .ok (.if_icmp .ne 27, 3) := by decide +kernel
theorem dX7_bestRule_49 : decode cX7_bestRule 49 = .ok (.aload_n 0, 1) := by decide +kernel
theorem dX7_bestRule_50 : decode cX7_bestRule 50 = .ok (.iconst 0, 1) := by decide +kernel
theorem dX7_bestRule_51 : decode cX7_bestRule 51 = .ok (.invokevirtual 228, 3) := by decide +kernel
theorem dX7_bestRule_54 : decode cX7_bestRule 54 = .ok (.iload_n 3, 1) := by decide +kernel
theorem dX7_bestRule_55 : decode cX7_bestRule 55 = .ok (.if_icmp .ge 18, 3) := by decide +kernel
theorem dX7_bestRule_58 : decode cX7_bestRule 58 = .ok (.iload 4, 2) := by decide +kernel
theorem dX7_bestRule_60 : decode cX7_bestRule 60 = .ok (.istore_n 1, 1) := by decide +kernel
theorem dX7_bestRule_61 : decode cX7_bestRule 61 = .ok (.aload_n 0, 1) := by decide +kernel
theorem dX7_bestRule_62 : decode cX7_bestRule 62 = .ok (.iconst 3, 1) := by decide +kernel
theorem dX7_bestRule_63 : decode cX7_bestRule 63 = .ok (.invokevirtual 228, 3) := by decide +kernel
theorem dX7_bestRule_66 : decode cX7_bestRule 66 = .ok (.istore_n 2, 1) := by decide +kernel
theorem dX7_bestRule_67 : decode cX7_bestRule 67 = .ok (.aload_n 0, 1) := by decide +kernel
theorem dX7_bestRule_68 : decode cX7_bestRule 68 = .ok (.iconst 0, 1) := by decide +kernel
theorem dX7_bestRule_69 : decode cX7_bestRule 69 = .ok (.invokevirtual 228, 3) := by decide +kernel
theorem dX7_bestRule_72 : decode cX7_bestRule 72 = .ok (.istore_n 3, 1) := by decide +kernel
theorem dX7_bestRule_73 : decode cX7_bestRule 73 = .ok (.iinc 4 1, 3) := by decide +kernel
theorem dX7_bestRule_76 : decode cX7_bestRule 76 = .ok (.goto (-62), 3) := by decide +kernel
theorem dX7_bestRule_79 : decode cX7_bestRule 79 = .ok (.iload_n 1, 1) := by decide +kernel
theorem dX7_bestRule_80 : decode cX7_bestRule 80 = .ok (.ireturn, 1) := by decide +kernel
def l7_bestRule_73 (rec14 : Int32 → Int32 → Int32 → Int32 → mm_M → Option (Int32 × mm_M)) (x1 : Int32) (x2 : Int32) (x3 : Int32) (x4 : Int32) (M : mm_M) : Option (Int32 × mm_M) :=
  rec14 x1 x2 x3 (x4 + 1) M
set_option maxHeartbeats 2000000 in
theorem sl7_bestRule_73 (rec14 : Int32 → Int32 → Int32 → Int32 → mm_M → Option (Int32 × mm_M)) (hrec14 : ∀ (x1 : Int32) (x2 : Int32) (x3 : Int32) (x4 : Int32) (M : mm_M), Snd injI j7_bestRule mm_X0 14 [some (.ref 46), some (.int x1), some (.int x2), some (.int x3), some (.int x4)] [] M (rec14 x1 x2 x3 x4 M)) (x1 : Int32) (x2 : Int32) (x3 : Int32) (x4 : Int32)  (M : mm_M) : Snd injI j7_bestRule mm_X0 73 [some (.ref 46), some (.int x1), some (.int x2), some (.int x3), some (.int x4)] [] M (l7_bestRule_73 rec14 x1 x2 x3 x4 M) := by
  unfold l7_bestRule_73
  refine sn_iinc (j := j7_bestRule) (pc := 73) 1 rfl (by decide) rfl (lo' := [some (.ref 46), some (.int x1), some (.int x2), some (.int x3), some (.int (x4 + 1))]) rfl dX7_bestRule_73 ?_
  refine sn_goto (j := j7_bestRule) (pc := 76) 14 rfl dX7_bestRule_76 ?_
  exact Snd.wk (hrec14 x1 x2 x3 (x4 + 1) M ) (by simp [mm_le])
def l7_bestRule_58 (rec14 : Int32 → Int32 → Int32 → Int32 → mm_M → Option (Int32 × mm_M)) (x4 : Int32) (M : mm_M) : Option (Int32 × mm_M) :=
  cI (f7_sumOf 3 M) (fun r_1 M => cI (f7_sumOf 0 M) (fun r_2 M => l7_bestRule_73 rec14 x4 r_1 r_2 x4 M))
set_option maxHeartbeats 2000000 in
theorem sl7_bestRule_58 (rec14 : Int32 → Int32 → Int32 → Int32 → mm_M → Option (Int32 × mm_M)) (hrec14 : ∀ (x1 : Int32) (x2 : Int32) (x3 : Int32) (x4 : Int32) (M : mm_M), Snd injI j7_bestRule mm_X0 14 [some (.ref 46), some (.int x1), some (.int x2), some (.int x3), some (.int x4)] [] M (rec14 x1 x2 x3 x4 M)) (x4 : Int32)  (M : mm_M) : Snd injI j7_bestRule mm_X0 58 [some (.ref 46), none, none, none, some (.int x4)] [] M (l7_bestRule_58 rec14 x4 M) := by
  unfold l7_bestRule_58
  refine sn_iload (j := j7_bestRule) (pc := 58) rfl dX7_bestRule_58 ?_
  refine sn_istore_n (j := j7_bestRule) (pc := 60) rfl (by decide) (lo' := [some (.ref 46), some (.int x4), none, none, some (.int x4)]) rfl dX7_bestRule_60 ?_
  refine sn_aload_n (j := j7_bestRule) (pc := 61) rfl rfl dX7_bestRule_61 ?_
  refine sn_iconst (j := j7_bestRule) (pc := 62) 3 rfl dX7_bestRule_62 ?_
  refine sn_callV (j := j7_bestRule) (pc := 63) (jc := j7_sumOf) (As := [.int 3]) (s7_sumOf 3 M) mm_hvI (by simp [Value.category]) (Nat.le_of_ble_eq_true rfl) q7_sumOf rfl (by decide) rfl rfl ⟨by decide, by decide⟩ w_ml_X7_228 w_im_X7_sumOf w_se_X7_sumOf rfl (Nat.le_of_ble_eq_true rfl) dX7_bestRule_63 ?_
  rintro ⟨r_1, M⟩
  show Snd injI j7_bestRule mm_X0 66 [some (.ref 46), some (.int x4), none, none, some (.int x4)] [.int r_1] M _
  refine sn_istore_n (j := j7_bestRule) (pc := 66) rfl (by decide) (lo' := [some (.ref 46), some (.int x4), some (.int r_1), none, some (.int x4)]) rfl dX7_bestRule_66 ?_
  refine sn_aload_n (j := j7_bestRule) (pc := 67) rfl rfl dX7_bestRule_67 ?_
  refine sn_iconst (j := j7_bestRule) (pc := 68) 0 rfl dX7_bestRule_68 ?_
  refine sn_callV (j := j7_bestRule) (pc := 69) (jc := j7_sumOf) (As := [.int 0]) (s7_sumOf 0 M) mm_hvI (by simp [Value.category]) (Nat.le_of_ble_eq_true rfl) q7_sumOf rfl (by decide) rfl rfl ⟨by decide, by decide⟩ w_ml_X7_228 w_im_X7_sumOf w_se_X7_sumOf rfl (Nat.le_of_ble_eq_true rfl) dX7_bestRule_69 ?_
  rintro ⟨r_2, M⟩
  show Snd injI j7_bestRule mm_X0 72 [some (.ref 46), some (.int x4), some (.int r_1), none, some (.int x4)] [.int r_2] M _
  refine sn_istore_n (j := j7_bestRule) (pc := 72) rfl (by decide) (lo' := [some (.ref 46), some (.int x4), some (.int r_1), some (.int r_2), some (.int x4)]) rfl dX7_bestRule_72 ?_
  exact Snd.wk (sl7_bestRule_73 rec14 hrec14 x4 r_1 r_2 x4 M) (by simp [mm_le])
def b7_bestRule_14  (rec14 : Int32 → Int32 → Int32 → Int32 → mm_M → Option (Int32 × mm_M)) (x1 : Int32) (x2 : Int32) (x3 : Int32) (x4 : Int32) (M : mm_M) : Option (Int32 × mm_M) :=
  if 4 ≤ x4 then (some (x1, M)) else (cV (f7_rules x4 M) (fun M => if x1 = (-1) then (l7_bestRule_58 rec14 x4 M) else (cI (f7_sumOf 3 M) (fun r_3 M => if r_3 < x2 then (l7_bestRule_58 rec14 x4 M) else (cI (f7_sumOf 3 M) (fun r_4 M => if r_4 = x2 then (cI (f7_sumOf 0 M) (fun r_5 M => if x3 ≤ r_5 then (l7_bestRule_73 rec14 x1 x2 x3 x4 M) else (l7_bestRule_58 rec14 x4 M))) else (l7_bestRule_73 rec14 x1 x2 x3 x4 M)))))))
set_option maxHeartbeats 2000000 in
theorem sb7_bestRule_14   (rec14 : Int32 → Int32 → Int32 → Int32 → mm_M → Option (Int32 × mm_M)) (hrec14 : ∀ (x1 : Int32) (x2 : Int32) (x3 : Int32) (x4 : Int32) (M : mm_M), Snd injI j7_bestRule mm_X0 14 [some (.ref 46), some (.int x1), some (.int x2), some (.int x3), some (.int x4)] [] M (rec14 x1 x2 x3 x4 M)) (x1 : Int32) (x2 : Int32) (x3 : Int32) (x4 : Int32)  (M : mm_M) : Snd injI j7_bestRule mm_X0 14 [some (.ref 46), some (.int x1), some (.int x2), some (.int x3), some (.int x4)] [] M (b7_bestRule_14  rec14 x1 x2 x3 x4 M) := by
  unfold b7_bestRule_14
  refine sn_iload (j := j7_bestRule) (pc := 14) rfl dX7_bestRule_14 ?_
  refine sn_iconst (j := j7_bestRule) (pc := 16) 4 rfl dX7_bestRule_16 ?_
  refine sn_icmp_ge (j := j7_bestRule) (pc := 17) 79 rfl dX7_bestRule_17 ?_ ?_
  · refine sn_iload_n (j := j7_bestRule) (pc := 79) rfl rfl dX7_bestRule_79 ?_
    exact sn_iret (j := j7_bestRule) (pc := 80) rfl dX7_bestRule_80
  · refine sn_aload_n (j := j7_bestRule) (pc := 20) rfl rfl dX7_bestRule_20 ?_
    refine sn_iload (j := j7_bestRule) (pc := 21) rfl dX7_bestRule_21 ?_
    refine sn_callV (j := j7_bestRule) (pc := 23) (jc := j7_rules) (As := [.int x4]) (s7_rules x4 M) mm_hvV (by simp [Value.category]) (Nat.le_of_ble_eq_true rfl) q7_rules rfl (by decide) rfl rfl ⟨by decide, by decide⟩ w_ml_X7_274 w_im_X7_rules w_se_X7_rules rfl (Nat.le_of_ble_eq_true rfl) dX7_bestRule_23 ?_
    intro M
    show Snd injI j7_bestRule mm_X0 26 [some (.ref 46), some (.int x1), some (.int x2), some (.int x3), some (.int x4)] [] M _
    refine sn_iload_n (j := j7_bestRule) (pc := 26) rfl rfl dX7_bestRule_26 ?_
    refine sn_iconst (j := j7_bestRule) (pc := 27) (-1) rfl dX7_bestRule_27 ?_
    refine sn_icmp_eq (j := j7_bestRule) (pc := 28) 58 rfl dX7_bestRule_28 ?_ ?_
    · exact Snd.wk (sl7_bestRule_58 rec14 hrec14 x4 M) (by simp [mm_le])
    · refine sn_aload_n (j := j7_bestRule) (pc := 31) rfl rfl dX7_bestRule_31 ?_
      refine sn_iconst (j := j7_bestRule) (pc := 32) 3 rfl dX7_bestRule_32 ?_
      refine sn_callV (j := j7_bestRule) (pc := 33) (jc := j7_sumOf) (As := [.int 3]) (s7_sumOf 3 M) mm_hvI (by simp [Value.category]) (Nat.le_of_ble_eq_true rfl) q7_sumOf rfl (by decide) rfl rfl ⟨by decide, by decide⟩ w_ml_X7_228 w_im_X7_sumOf w_se_X7_sumOf rfl (Nat.le_of_ble_eq_true rfl) dX7_bestRule_33 ?_
      rintro ⟨r_3, M⟩
      show Snd injI j7_bestRule mm_X0 36 [some (.ref 46), some (.int x1), some (.int x2), some (.int x3), some (.int x4)] [.int r_3] M _
      refine sn_iload_n (j := j7_bestRule) (pc := 36) rfl rfl dX7_bestRule_36 ?_
      refine sn_icmp_lt (j := j7_bestRule) (pc := 37) 58 rfl dX7_bestRule_37 ?_ ?_
      · exact Snd.wk (sl7_bestRule_58 rec14 hrec14 x4 M) (by simp [mm_le])
      · refine sn_aload_n (j := j7_bestRule) (pc := 40) rfl rfl dX7_bestRule_40 ?_
        refine sn_iconst (j := j7_bestRule) (pc := 41) 3 rfl dX7_bestRule_41 ?_
        refine sn_callV (j := j7_bestRule) (pc := 42) (jc := j7_sumOf) (As := [.int 3]) (s7_sumOf 3 M) mm_hvI (by simp [Value.category]) (Nat.le_of_ble_eq_true rfl) q7_sumOf rfl (by decide) rfl rfl ⟨by decide, by decide⟩ w_ml_X7_228 w_im_X7_sumOf w_se_X7_sumOf rfl (Nat.le_of_ble_eq_true rfl) dX7_bestRule_42 ?_
        rintro ⟨r_4, M⟩
        show Snd injI j7_bestRule mm_X0 45 [some (.ref 46), some (.int x1), some (.int x2), some (.int x3), some (.int x4)] [.int r_4] M _
        refine sn_iload_n (j := j7_bestRule) (pc := 45) rfl rfl dX7_bestRule_45 ?_
        refine sn_icmp_ne (j := j7_bestRule) (pc := 46) 73 rfl dX7_bestRule_46 ?_ ?_
        · exact Snd.wk (sl7_bestRule_73 rec14 hrec14 x1 x2 x3 x4 M) (by simp [mm_le])
        · refine sn_aload_n (j := j7_bestRule) (pc := 49) rfl rfl dX7_bestRule_49 ?_
          refine sn_iconst (j := j7_bestRule) (pc := 50) 0 rfl dX7_bestRule_50 ?_
          refine sn_callV (j := j7_bestRule) (pc := 51) (jc := j7_sumOf) (As := [.int 0]) (s7_sumOf 0 M) mm_hvI (by simp [Value.category]) (Nat.le_of_ble_eq_true rfl) q7_sumOf rfl (by decide) rfl rfl ⟨by decide, by decide⟩ w_ml_X7_228 w_im_X7_sumOf w_se_X7_sumOf rfl (Nat.le_of_ble_eq_true rfl) dX7_bestRule_51 ?_
          rintro ⟨r_5, M⟩
          show Snd injI j7_bestRule mm_X0 54 [some (.ref 46), some (.int x1), some (.int x2), some (.int x3), some (.int x4)] [.int r_5] M _
          refine sn_iload_n (j := j7_bestRule) (pc := 54) rfl rfl dX7_bestRule_54 ?_
          refine sn_icmp_ge (j := j7_bestRule) (pc := 55) 73 rfl dX7_bestRule_55 ?_ ?_
          · exact Snd.wk (sl7_bestRule_73 rec14 hrec14 x1 x2 x3 x4 M) (by simp [mm_le])
          · exact Snd.wk (sl7_bestRule_58 rec14 hrec14 x4 M) (by simp [mm_le])
def l7_bestRule_14  : Nat → Int32 → Int32 → Int32 → Int32 → mm_M → Option (Int32 × mm_M)
  | 0 => fun _ _ _ _ _ => none
  | n + 1 => fun x1 x2 x3 x4 M => b7_bestRule_14  (l7_bestRule_14  n) x1 x2 x3 x4 M
theorem sl7_bestRule_14   : ∀ (n : Nat) (x1 : Int32) (x2 : Int32) (x3 : Int32) (x4 : Int32)  (M : mm_M), Snd injI j7_bestRule mm_X0 14 [some (.ref 46), some (.int x1), some (.int x2), some (.int x3), some (.int x4)] [] M (l7_bestRule_14  n x1 x2 x3 x4 M)
  | 0 => fun _ _ _ _  _ => Snd.none
  | n + 1 => fun x1 x2 x3 x4  M => sb7_bestRule_14   (l7_bestRule_14  n) (fun x1 x2 x3 x4 M  => sl7_bestRule_14   n x1 x2 x3 x4  M) x1 x2 x3 x4  M
def f7_bestRule  (M : mm_M) : Option (Int32 × mm_M) :=
  bM (sI M 46 0 0) (fun M => l7_bestRule_14 FU (-1) 0 0 0 M)
set_option maxHeartbeats 2000000 in
theorem s7_bestRule  (M : mm_M) : Snd injI j7_bestRule mm_X0 0 [some (.ref 46)] [] M (f7_bestRule  M) := by
  refine Snd.wk (lo' := [some (.ref 46), none, none, none, none]) ?_ (by simp [mm_le])
  unfold f7_bestRule
  refine sn_aload_n (j := j7_bestRule) (pc := 0) rfl rfl dX7_bestRule_0 ?_
  refine sn_iconst (j := j7_bestRule) (pc := 1) 0 rfl dX7_bestRule_1 ?_
  refine p_X7_56 (j := j7_bestRule) (pc := 2) rfl dX7_bestRule_2 (fun M => ?_)
  refine sn_iconst (j := j7_bestRule) (pc := 5) (-1) rfl dX7_bestRule_5 ?_
  refine sn_istore_n (j := j7_bestRule) (pc := 6) rfl (by decide) (lo' := [some (.ref 46), some (.int ((-1))), none, none, none]) rfl dX7_bestRule_6 ?_
  refine sn_iconst (j := j7_bestRule) (pc := 7) 0 rfl dX7_bestRule_7 ?_
  refine sn_istore_n (j := j7_bestRule) (pc := 8) rfl (by decide) (lo' := [some (.ref 46), some (.int ((-1))), some (.int 0), none, none]) rfl dX7_bestRule_8 ?_
  refine sn_iconst (j := j7_bestRule) (pc := 9) 0 rfl dX7_bestRule_9 ?_
  refine sn_istore_n (j := j7_bestRule) (pc := 10) rfl (by decide) (lo' := [some (.ref 46), some (.int ((-1))), some (.int 0), some (.int 0), none]) rfl dX7_bestRule_10 ?_
  refine sn_iconst (j := j7_bestRule) (pc := 11) 0 rfl dX7_bestRule_11 ?_
  refine sn_istore (j := j7_bestRule) (pc := 12) (by decide) (lo' := [some (.ref 46), some (.int ((-1))), some (.int 0), some (.int 0), some (.int 0)]) rfl dX7_bestRule_12 ?_
  exact Snd.wk (sl7_bestRule_14 FU (-1) 0 0 0 M) (by simp [mm_le])
