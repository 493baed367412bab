/-! STATEMENTS: class and reference side by side, each in its own memory -/
def sOK (S : sS) : Prop := sWF S ∧ ∀ k, 82 ≤ k → S k = 0
def cC (M : mm_M) (d : Nat) (B : Nat → Nat) (n : Nat) (S : sS) (p : Nat) : Prop := vD M d S ∧ vTk M B n p ∧ mI M 22 1 = 0
def cR (M : mm_M) (B : Nat → Nat) (n : Nat) (S : sS) (a : Nat) : Prop := (∀ k, k < 82 → mI M 48 k = nI (S k)) ∧ vA M B n a
abbrev cCl (d : Nat) : Nat → Prop := fun c => c = 20 ∨ c = 22 ∨ (d ≤ c ∧ c ≤ d + 8)
abbrev cRf : Nat → Prop := fun c => c = 46 ∨ c = 48
def RG (M M' : mm_M) : Prop := Fr cRf M M' ∧ ∀ k, k ≠ 6 → k ≠ 8 → k ≠ 9 → mI M' 46 k = mI M 46 k
def RX (M M' : mm_M) : Prop := Fr cRf M M' ∧ ∀ k, k ≠ 6 → k ≠ 7 → k ≠ 8 → k ≠ 9 → mI M' 46 k = mI M 46 k
theorem RG.tr {M M1 M2 : mm_M} (h1 : RG M M1) (h2 : RG M1 M2) : RG M M2 := ⟨h1.1.tr h2.1, fun k a b c => (h2.2 k a b c).trans (h1.2 k a b c)⟩
theorem RG.rf {M : mm_M} : RG M M := ⟨Fr.rf, fun _ _ _ _ => rfl⟩
theorem RS.g {M M1 : mm_M} (h : RS M M1) : RG M M1 := ⟨h.1.wd (fun c z => Or.inl z), h.2⟩
theorem RE.x {M M1 : mm_M} (h : RE M M1) : RX M M1 := ⟨h.1.wd (fun c z => Or.inl z), h.2⟩
theorem RG.x {M M1 M2 : mm_M} (h : RG M M1) (h2 : RX M1 M2) : RX M M2 := ⟨h.1.tr h2.1, fun k a b c d => (h2.2 k a b c d).trans (h.2 k a c d)⟩
theorem RG.s48 (M : mm_M) (k : Nat) (v : Int32) : RG M (sI M 48 k v) := ⟨Fr.sI (Or.inr rfl), fun _ _ _ _ => mI_sI_c _ _ _ _ (by decide)⟩
/-- what comes of a statement's body: the class's fc, the reference's fr -/
def Stm (d : Nat) (B : Nat → Nat) (n p : Nat) (Mc Mr : mm_M) (fc : Option mm_M) (fr : Option (Int32 × mm_M)) : Prop :=
  ∃ Mc' Mr', Fr (cCl d) Mc Mc' ∧ fc = some Mc' ∧
    ((∃ S' a', fr = some (1, Mr') ∧ RG Mr Mr' ∧ a' ≤ n ∧ p < sskip B n a' ∧ sOK S' ∧ cC Mc' d B n S' (sskip B n a') ∧ cR Mr' B n S' a') ∨
     (∃ F, fr = some (0, Mr') ∧ RX Mr Mr' ∧ 0 < F ∧ F < 10000 ∧ mI Mc' 22 1 = nI F ∧ mI Mr' 46 7 = nI F))
section STM
variable {B : Nat → Nat} {n d : Nat} {S : sS}
theorem vDo {M M' : mm_M} {P : Nat → Prop} (h : vD M d S) (hf : Fr P M M') (hP : ∀ c, P c → 20 ≤ c) : vD M' d S := h.mv hf hP
theorem skge {a p : Nat} (h : sskip B n a = p) : a ≤ p := by rw [← h]; exact runT_ge _ _ _ _
theorem skle {a p : Nat} (ha : a ≤ n) (h : sskip B n a = p) : p ≤ n := by rw [← h]; exact runT_le ha
theorem jnum (hB : ∀ i, B i < 256) (hn : n ≤ 400) {Mc Mr : mm_M} {a p : Nat} (ha : a ≤ n) (hp : sskip B n a = p) (hc : vTk Mc B n p) (h0 : mI Mc 22 1 = 0) (hr : vA Mr B n a) (lo hi : Int32) :
    (∃ v Mc' Mr', f3_readNumber lo hi Mc = some (nI v, Mc') ∧ f7_readNumber lo hi Mr = some (1, Mr') ∧ Fr (fun c => c = 20) Mc Mc' ∧ RS Mr Mr' ∧ vTk Mc' B n (sskip B n (tb B n p)) ∧ vA Mr' B n (tb B n p) ∧ mI Mr' 46 8 = nI v ∧ mI Mr' 46 9 = nI p ∧ v < 10000 ∧ okI (nI v) lo hi = true ∧ p < n ∧ tb B n p ≤ n ∧ p < tb B n p) ∨
    (∃ F Mc' Mr', f3_readNumber lo hi Mc = some (-1, Mc') ∧ f7_readNumber lo hi Mr = some (0, Mr') ∧ Fr (fun c => c = 22) Mc Mc' ∧ RE Mr Mr' ∧ 0 < F ∧ F < 10000 ∧ mI Mc' 22 1 = nI F ∧ mI Mr' 46 7 = nI F) := by
  have hpn := skle ha hp
  obtain ⟨x1, x2⟩ := x_readNumber hB hn hpn hc h0 lo hi
  obtain ⟨y1, y2⟩ := y_readNumber hB hn ha hp hr lo hi
  cases hv : rdF B n p lo hi with
  | some v =>
    obtain ⟨Mc', a1, a2, a3⟩ := x1 v hv
    obtain ⟨Mr', b1, b2, b3, b4, b5⟩ := y1 v hv
    obtain ⟨l1, l2, l3, -⟩ := rdF_lt hv
    have ht := tb_le (B := B) hpn
    exact Or.inl ⟨v, Mc', Mr', a1, b1, a2, b2, a3, b3, b4, b5, l1, l2, l3, ht.2.1, ht.2.2 l3⟩
  | none =>
    obtain ⟨Mr', b1, b2, b3⟩ := y2 hv
    obtain ⟨l1, l2⟩ := rdE_bd (B := B) (n := n) (show p ≤ 400 by omega)
    exact Or.inr ⟨rdE B n p, _, Mr', x2 hv, b1, Fr.sI rfl, b2, l1, l2, mI_sI_eq _ _ _ _, b3⟩
theorem updS_same (S : sS) (k : Nat) : updS S k (S k) = S := by
  funext j
  unfold updS
  by_cases h : j = k
  · rw [if_pos h, h]
  · rw [if_neg h]
theorem x_chgS {M : mm_M} (hv : vD M d S) {w v : Nat} (hw3 : w < 3) (h1 : 1 ≤ v) (h2 : v ≤ ([4, 50, 200] : List Nat).getD w 0) : ∃ r M', f0_changeSetting d (nI w) (nI v) M = some (r, M') ∧ Fr (fun c => d ≤ c ∧ c ≤ d + 8) M M' ∧ vD M' d (updS S (3 + w) v) := by
  rcases x_settingCanBe (nI w) (nI v) M with ⟨w', v', -, -, -, -, -, hs⟩ | ⟨hs, hno⟩
  · unfold f0_changeSetting l0_changeSetting_18
    rw [if_pos hv.ok, hs, cI_some, if_neg (by decide), aI_in (by omega) (by omega), hv.set w hw3]
    by_cases he : nI (S (3 + w)) = nI v
    · rw [if_pos he]
      refine ⟨0, M, rfl, Fr.rf, ?_⟩
      have hE := vE_upd hv.E (i := 1) (k := w) (by omega) hw3 v
      have : sI M (d + 1) w (nI v) = sI M (d + 1) w (mI M (d + 1) w) := by rw [hv.set w hw3, he]
      refine (show vE M d (updS S (3 + w) v) from ⟨hv.ok, fun i k hi hk => ?_⟩).D
      have e := hE.2 i k hi hk
      rw [mI_sI] at e
      by_cases hc : d + i = d + 1 ∧ k = w
      · rw [if_pos hc] at e
        obtain ⟨c1, c2⟩ := hc
        have : i = 1 := by omega
        subst this; subst c2
        rw [hv.set k hw3, he]
        exact e
      · rw [if_neg hc] at e
        exact e
    · rw [if_neg he, uI_in (by omega) (by omega)]
      exact ⟨1, _, rfl, Fr.sI (by omega), (vE_upd hv.E (i := 1) (k := w) (by omega) hw3 v).D⟩
  · exact absurd ⟨w, v, hw3, h1, h2, rfl, rfl⟩ hno
theorem x_chgP {M : mm_M} (hv : vD M d S) (hw : sWF S) {s v : Nat} (hs : s < S 0) (h2 : v ≤ 99) : ∃ r M', f0_changePrice d (nI s) (nI v) M = some (r, M') ∧ Fr (fun c => d ≤ c ∧ c ≤ d + 8) M M' ∧ vD M' d (updS S (6 + s) v) := by
  have hT := hw.T
  unfold f0_changePrice l0_changePrice_28
  rw [if_pos hv.ok, x_hasSlot hv, cI_some, okR_nI (by omega) (by omega), decide_eq_true hs, it_t, if_neg (by decide), if_neg (nI_pos (by omega)), if_neg (by rw [nx_l99, nx_lt (by omega) (by omega)]; omega), aI_in (by omega) (by omega), hv.price s (by omega)]
  by_cases he : nI (S (6 + s)) = nI v
  · rw [if_pos he]
    refine ⟨0, M, rfl, Fr.rf, ?_⟩
    have hp := hw.price s (by omega)
    have : S (6 + s) = v := by rw [nx_eq (by omega) (by omega)] at he; exact he
    rw [← this, updS_same]
    exact hv
  · rw [if_neg he, uI_in (by omega) (by omega)]
    exact ⟨1, _, rfl, Fr.sI (by omega), (vE_upd hv.E (i := 2) (k := s) (by omega) (show s < 8 by omega) v).D⟩
theorem cR_upd {M : mm_M} {a k v : Nat} (h : cR M B n S a) : cR (sI M 48 k (nI v)) B n (updS S k v) a := ⟨fun j hj => by
  by_cases he : j = k
  · subst he; rw [mI_sI_eq, updS_eq]
  · rw [mI_sI_k _ _ _ he, updS_ne _ _ he]; exact h.1 j hj, h.2.mv (Fr.sI (P := fun c => c = 48) rfl) (by decide) (by decide)⟩
theorem fr22 {M M' : mm_M} (h : Fr (fun c => c = 22) M M') : Fr (cCl d) M M' := h.wd (fun c z => Or.inr (Or.inl z))
theorem fr20 {M M' : mm_M} (h : Fr (fun c => c = 20) M M') : Fr (cCl d) M M' := h.wd (fun c z => Or.inl z)
theorem frd {M M' : mm_M} (h : Fr (fun c => d ≤ c ∧ c ≤ d + 8) M M') : Fr (cCl d) M M' := h.wd (fun c z => Or.inr (Or.inr z))
theorem cR_rs {M M' : mm_M} {a a' : Nat} (h : cR M B n S a) (hf : RS M M') (hv : vA M' B n a') : cR M' B n S a' := ⟨fun k hk => by rw [hf.1.mI (by decide)]; exact h.1 k hk, hv⟩
theorem updz {k v : Nat} (hz : ∀ j, 82 ≤ j → S j = 0) (hk : k < 82) : ∀ j, 82 ≤ j → updS S k v j = 0 := fun j hj => by rw [updS_ne _ _ (by omega)]; exact hz j hj
/-- plugs, power, limit -/
theorem j_setting (hB : ∀ i, B i < 256) (hn : n ≤ 400) {Mc Mr : mm_M} {p w : Nat} (hS : sOK S) (hp : p < n) (hw3 : w < 3) (hc : cC Mc d B n S p) (hr : cR Mr B n S (tb B n p)) : Stm d B n p Mc Mr (f3_readSetting d (nI w) Mc) (f7_reads (nI (3 + w)) 1 (nI (([4, 50, 200] : List Nat).getD w 0)) Mr) := by
  have hm := most_le hw3
  have hd := isD_le hc.1.ok
  have ht := tb_le (B := B) (show p ≤ n by omega)
  have tab : ∀ w : Fin 3, mm_ro 0 w.1 = nI (([4, 50, 200] : List Nat).getD w.1 0) := by decide +kernel
  have tw := tab ⟨w, hw3⟩
  simp only at tw
  obtain ⟨M1, e1, e2, e3⟩ := x_step hB hn (by omega) hc.2.1
  have h22 : mI M1 22 1 = 0 := by rw [e2.mI (by decide)]; exact hc.2.2
  have hD1 := hc.1.mv e2 (fun c z => by omega)
  rcases jnum hB hn ht.2.1 rfl e3 h22 hr.2 1 (nI (([4, 50, 200] : List Nat).getD w 0)) with ⟨v, Mc', Mr', a1, a2, a3, a4, a5, a6, a7, a8, a9, a10, a11, a12, a13⟩ | ⟨F, Mc', Mr', a1, a2, a3, a4, a5, a6, a7, a8⟩
  · obtain ⟨v', v1, v2, ve⟩ := okI_t (a := 1) (by omega) (by omega) a10
    have : v = v' := by rw [nx_eq (by omega) (by omega)] at ve; exact ve
    subst this
    have hD2 := hD1.mv a3 (fun c z => by omega)
    obtain ⟨r, M3, g1, g2, g3⟩ := x_chgS hD2 hw3 v1 v2
    have hge := skge (B := B) (n := n) (a := tb B n p) rfl
    have hge2 := skge (B := B) (n := n) (a := tb B n (sskip B n (tb B n p))) rfl
    refine ⟨M3, sI Mr' 48 (3 + w) (nI v), (fr20 e2).tr ((fr20 a3).tr (frd g2)), ?_, Or.inl ⟨updS S (3 + w) v, tb B n (sskip B n (tb B n p)), ?_, a4.g.tr (RG.s48 _ _ _), a12, by omega, ?_, ⟨g3, a5.mv g2 (fun z => by omega) (fun z => by omega), ?_⟩, cR_upd (cR_rs hr a4 a6)⟩⟩
    · unfold f3_readSetting l3_readSetting_30
      rw [if_pos hc.1.ok, e1, cV_some, aT_in hw3 (by omega), tw, a1, cI_some, if_neg (by rw [nx_neg1 (by omega)]; exact fun z => z), g1, cI_some]
    · unfold f7_reads
      rw [a2, cI_some, if_neg (by decide), bI_eq, a7, uI_in (by omega) (by omega)]
      rfl
    · refine ⟨sWF_one hS.1 (by omega) (by omega) (fun z => ?_) (fun z => ?_) (fun z => ?_) (fun z => by omega), updz hS.2 (by omega)⟩
      · have : w = 0 := by omega
        subst this; exact ⟨v1, v2⟩
      · have : w = 1 := by omega
        subst this; exact ⟨v1, v2⟩
      · have : w = 2 := by omega
        subst this; exact ⟨v1, v2⟩
    · rw [g2.mI (fun z => by omega), a3.mI (by decide)]; exact h22
  · refine ⟨Mc', Mr', (fr20 e2).tr (fr22 a3), ?_, Or.inr ⟨F, ?_, a4.x, a5, a6, a7, a8⟩⟩
    · unfold f3_readSetting l3_readSetting_30
      rw [if_pos hc.1.ok, e1, cV_some, aT_in hw3 (by omega), tw, a1, cI_some, if_pos rfl]
    · unfold f7_reads
      rw [a2, cI_some, if_pos rfl]
      rfl
theorem pnT {x : Nat} (T : Nat) (hT : T < 1000) (h : okI (nI x) 0 (nI T - 1) = true) (hx : x < 10000) : x < T := by
  obtain ⟨b, b1, b2⟩ := okI_p (by omega) h
  rw [nx_eq (by omega) (by omega)] at b2
  omega
theorem j_price (hB : ∀ i, B i < 256) (hn : n ≤ 400) {Mc Mr : mm_M} {p : Nat} (hS : sOK S) (hp : p < n) (hc : cC Mc d B n S p) (hr : cR Mr B n S (tb B n p)) : Stm d B n p Mc Mr (f3_readPrice d Mc) (f7_readPrice Mr) := by
  have hw := hS.1
  have hT := hw.T
  have hd := isD_le hc.1.ok
  have ht := tb_le (B := B) (show p ≤ n by omega)
  obtain ⟨M1, e1, e2, e3⟩ := x_step hB hn (by omega) hc.2.1
  have h22 : mI M1 22 1 = 0 := by rw [e2.mI (by decide)]; exact hc.2.2
  have hD1 := hc.1.mv e2 (fun c z => by omega)
  have hge := skge (B := B) (n := n) (a := tb B n p) rfl
  have r0 : mI Mr 48 0 = nI (S 0) := hr.1 0 (by omega)
  rcases jnum hB hn ht.2.1 rfl e3 h22 hr.2 0 (nI (S 0) - 1) with ⟨s, Mc1, Mr1, a1, a2, a3, a4, a5, a6, a7, a8, a9, a10, a11, a12, a13⟩ | ⟨F, Mc', Mr', a1, a2, a3, a4, a5, a6, a7, a8⟩
  · have hs := pnT (S 0) (by omega) a10 a9
    have hD2 := hD1.mv a3 (fun c z => by omega)
    have h22' : mI Mc1 22 1 = 0 := by rw [a3.mI (by decide)]; exact h22
    have hr1 := cR_rs hr a4 a6
    have hge1 := skge (B := B) (n := n) (a := tb B n (sskip B n (tb B n p))) rfl
    rcases jnum hB hn a12 rfl a5 h22' hr1.2 0 99 with ⟨v, Mc2, Mr2, b1, b2, b3, b4, b5, b6, b7, b8, b9, b10, b11, b12, b13⟩ | ⟨F, Mc', Mr', b1, b2, b3, b4, b5, b6, b7, b8⟩
    · obtain ⟨v', v1, v2, ve⟩ := okI_t (a := 0) (b := 99) (by omega) (by omega) b10
      have : v = v' := by rw [nx_eq (by omega) (by omega)] at ve; exact ve
      subst this
      have hD3 := hD2.mv b3 (fun c z => by omega)
      obtain ⟨r, M3, g1, g2, g3⟩ := x_chgP hD3 hw hs v2
      have hge2 := skge (B := B) (n := n) (a := tb B n (sskip B n (tb B n (sskip B n (tb B n p))))) rfl
      refine ⟨M3, sI Mr2 48 (6 + s) (nI v), (fr20 e2).tr ((fr20 a3).tr ((fr20 b3).tr (frd g2))), ?_, Or.inl ⟨updS S (6 + s) v, _, ?_, a4.g.tr (b4.g.tr (RG.s48 _ _ _)), b12, by omega, ?_, ⟨g3, b5.mv g2 (fun z => by omega) (fun z => by omega), ?_⟩, cR_upd (cR_rs hr1 b4 b6)⟩⟩
      · unfold f3_readPrice l3_readPrice_45
        rw [if_pos hc.1.ok, e1, cV_some, bI_eq, hD1.T, a1, cI_some, if_neg (by rw [nx_neg1 (by omega)]; exact fun z => z), b1, cI_some, if_neg (by rw [nx_neg1 (by omega)]; exact fun z => z), g1, cI_some]
      · unfold f7_readPrice l7_readPrice_38 f7_reads
        rw [aI_z (by omega) (by omega), r0, a2, cI_some, if_neg (by decide), bI_eq, a7, nx_l6, nx_add, b2, cI_some, if_neg (by decide), bI_eq, b7, uI_in (by omega) (by omega), rZ1, cI_some, if_neg (by decide)]
        rfl
      · exact ⟨sWF_one hw (by omega) (by omega) (fun z => by omega) (fun z => by omega) (fun z => by omega) (fun z => v2), updz hS.2 (by omega)⟩
      · rw [g2.mI (fun z => by omega), b3.mI (by decide)]; exact h22'
    · refine ⟨Mc', Mr', (fr20 e2).tr ((fr20 a3).tr (fr22 b3)), ?_, Or.inr ⟨F, ?_, a4.g.x b4.x, b5, b6, b7, b8⟩⟩
      · unfold f3_readPrice l3_readPrice_45
        rw [if_pos hc.1.ok, e1, cV_some, bI_eq, hD1.T, a1, cI_some, if_neg (by rw [nx_neg1 (by omega)]; exact fun z => z), b1, cI_some, if_pos rfl]
      · unfold f7_readPrice l7_readPrice_37 l7_readPrice_38 f7_reads
        rw [aI_z (by omega) (by omega), r0, a2, cI_some, if_neg (by decide), bI_eq, a7, nx_l6, nx_add, b2, cI_some, if_pos rfl, rZ0, cI_some, if_pos rfl]
        rfl
  · refine ⟨Mc', Mr', (fr20 e2).tr (fr22 a3), ?_, Or.inr ⟨F, ?_, a4.x, a5, a6, a7, a8⟩⟩
    · unfold f3_readPrice
      rw [if_pos hc.1.ok, e1, cV_some, bI_eq, hD1.T, a1, cI_some, if_pos rfl]
    · unfold f7_readPrice l7_readPrice_37 l7_readPrice_38
      rw [aI_z (by omega) (by omega), r0, a2, cI_some, if_pos rfl]
      rfl
-- slots
def sslt (S : sS) (v : Nat) : sS := rowS (rowS (updS (updS S 0 v) 1 0) 6 8 (fun _ => 10)) 74 8 (fun _ => 0)
theorem row2 (S : sS) (s : Nat) (hs : s ≤ 8) : updS (updS (rowS (rowS S 6 s (fun _ => 10)) 74 s (fun _ => 0)) (6 + s) 10) (74 + s) 0 = rowS (rowS S 6 (s + 1) (fun _ => 10)) 74 (s + 1) (fun _ => 0) := by
  funext j
  unfold updS rowS
  by_cases h1 : j = 74 + s
  · rw [if_pos h1, if_pos (by omega)]
  · rw [if_neg h1]
    by_cases h2 : j = 6 + s
    · rw [if_pos h2, if_neg (by omega), if_pos (by omega)]
    · rw [if_neg h2]
      by_cases h3 : 74 ≤ j ∧ j < 74 + s
      · rw [if_pos h3, if_pos (by omega)]
      · rw [if_neg h3]
        by_cases h4 : 6 ≤ j ∧ j < 6 + s
        · rw [if_pos h4, if_neg (by omega), if_pos (by omega)]
        · rw [if_neg h4, if_neg (by omega), if_neg (by omega)]
theorem y_rs31 : ∀ (k s k' a : Nat) (M : mm_M), s + k = 8 → k < k' → cR M B n (rowS (rowS S 6 s (fun _ => 10)) 74 s (fun _ => 0)) a → ∃ M', l7_readSlots_31 k' (nI s) M = some (1, M') ∧ RG M M' ∧ cR M' B n (rowS (rowS S 6 8 (fun _ => 10)) 74 8 (fun _ => 0)) a := by
  intro k
  induction k with
  | zero =>
    intro s k' a M hk hk' h
    obtain ⟨k', rfl⟩ : ∃ j, k' = j + 1 := ⟨k' - 1, by omega⟩
    have hs : s = 8 := by omega
    subst hs
    refine ⟨M, ?_, RG.rf, h⟩
    unfold l7_readSlots_31 b7_readSlots_31
    rw [nx_l8, if_pos (by rw [nx_le (by omega) (by omega)]; omega)]
    rfl
  | succ k ih =>
    intro s k' a M hk hk' h
    obtain ⟨k', rfl⟩ : ∃ j, k' = j + 1 := ⟨k' - 1, by omega⟩
    have h1 := cR_upd (k := 74 + s) (v := 0) (cR_upd (k := 6 + s) (v := 10) h)
    rw [row2 S s (by omega)] at h1
    obtain ⟨M', g1, g2, g3⟩ := ih (s + 1) k' a _ (by omega) (by omega) h1
    refine ⟨M', ?_, ((RG.s48 _ _ _).tr (RG.s48 _ _ _)).tr g2, g3⟩
    unfold l7_readSlots_31 b7_readSlots_31
    rw [nx_l8, if_neg (by rw [nx_le (by omega) (by omega)]; omega), nx_l6, nx_add, uI_in (by omega) (by omega), nx_l74, nx_add, uI_in (by omega) (by omega), show nI s + 1 = nI (s + 1) from nx_add s 1]
    exact g1
theorem dA2 {d : Nat} (h : isD d = true) : isA (d + 2) = true ∧ mm_n (d + 2) = 8 := by rcases isD_or h with rfl | rfl <;> decide
theorem x_beginAnew {M : mm_M} (hv : vD M d S) (v : Nat) : ∃ M', f0_beginAnew d (nI v) M = some M' ∧ Fr (fun c => d ≤ c ∧ c ≤ d + 8) M M' ∧ vD M' d (sslt S v) := by
  have hd := isD_le hv.ok
  obtain ⟨a1, a2, -⟩ := dA hv.ok
  obtain ⟨b1, b2⟩ := dA2 hv.ok
  have e0 : vE (sI M (d + 0) 0 (nI v)) d (updS S (dix 0 0) v) := vE_upd hv.E (i := 0) (k := 0) (by omega) (by decide) v
  have e1 : vE (sI (sI M (d + 0) 0 (nI v)) (d + 0) 2 (nI 0)) d (updS (updS S (dix 0 0) v) (dix 0 2) 0) := vE_upd e0 (i := 0) (k := 2) (by omega) (by decide) 0
  have e1 : vE (sI (sI M d 0 (nI v)) d 2 (nI 0)) d (updS (updS S 0 v) 1 0) := e1
  obtain ⟨M2, g1, g2, g3⟩ := x_fill b1 b2 (nI 10) (sI (sI M d 0 (nI v)) d 2 (nI 0))
  have e2 : vE M2 d (rowS (updS (updS S 0 v) 1 0) (6 + 0) 8 (fun _ => 10)) := vE_rng e1 (i := 2) (a := 6) (k0 := 0) (n := 8) (g := fun _ => 10) (by omega) (fun k => rfl) (by decide) (fun j hj => by
    have hj : j < 8 := hj
    rw [g3 j hj, if_pos (by omega)]) (fun i' h1 h2 j => g2.mI (fun z => h2 (by omega)) j)
  obtain ⟨M3, k1, k2, k3⟩ := x_fill a1 a2 (nI 0) M2
  have e3 : vE M3 d (rowS (rowS (updS (updS S 0 v) 1 0) (6 + 0) 8 (fun _ => 10)) (74 + 0) 8 (fun _ => 0)) := vE_rng e2 (i := 3) (a := 74) (k0 := 0) (n := 8) (g := fun _ => 0) (by omega) (fun k => rfl) (by decide) (fun j hj => by
    have hj : j < 8 := hj
    rw [k3 j hj, if_pos (by omega)]) (fun i' h1 h2 j => k2.mI (fun z => h2 (by omega)) j)
  refine ⟨M3, ?_, (((Fr.sI (P := fun c => d ≤ c ∧ c ≤ d + 8) (by omega)).tr (Fr.sI (by omega))).tr (g2.wd (fun c z => by omega))).tr (k2.wd (fun c z => by omega)), e3.D⟩
  unfold f0_beginAnew
  rw [if_pos hv.ok, bM_eq, bM_eq, show fJ_fill_53178 (d + 2) 10 (sI (sI M d 0 (nI v)) d 2 0) = some M2 from g1, cV_some, show fJ_fill_53178 (d + 3) 0 M2 = some M3 from k1, cV_some]
theorem sOK_slt (hS : sOK S) {v : Nat} (h1 : 1 ≤ v) (h8 : v ≤ 8) : sOK (sslt S v) := by
  have hw := hS.1
  have e0 : sslt S v 0 = v := by unfold sslt; rw [rowS_out _ _ (by omega), rowS_out _ _ (by omega), updS_ne _ _ (by omega), updS_eq]
  have e1 : sslt S v 1 = 0 := by unfold sslt; rw [rowS_out _ _ (by omega), rowS_out _ _ (by omega), updS_eq]
  have ne : ∀ j, 2 ≤ j → (j < 6 ∨ 14 ≤ j) → (j < 74 ∨ 82 ≤ j) → sslt S v j = S j := fun j h1 h2 h3 => by
    unfold sslt; rw [rowS_out _ _ (by omega), rowS_out _ _ (by omega), updS_ne _ _ (by omega), updS_ne _ _ (by omega)]
  have ep : ∀ s, s < 8 → sslt S v (6 + s) = 10 := fun s hs => by unfold sslt; rw [rowS_out _ _ (by omega), rowS_in _ _ (by omega) (by omega)]
  have es : ∀ s, s < 8 → sslt S v (74 + s) = 0 := fun s hs => by unfold sslt; rw [rowS_in _ _ (by omega) (by omega)]
  generalize sslt S v = S' at e0 e1 ne ep es ⊢
  refine ⟨⟨by rw [e0]; exact ⟨h1, h8⟩, by rw [e1]; omega, by rw [ne 2 (by omega) (by omega) (by omega)]; exact hw.C, by rw [ne 3 (by omega) (by omega) (by omega)]; exact hw.plug, by rw [ne 4 (by omega) (by omega) (by omega)]; exact hw.pow, by rw [ne 5 (by omega) (by omega) (by omega)]; exact hw.lim, fun s hs => by rw [ep s hs]; omega, fun c hc => ?_, fun b hb => by rw [e1] at hb; omega, fun b hb => by rw [ne _ (by omega) (by omega) (by omega)]; exact hw.com b hb, fun s hs => by rw [es s hs]; exact two_pow_pos _, fun s _ hs => es s hs⟩, fun k hk => by rw [ne k (by omega) (by omega) (by omega)]; exact hS.2 k hk⟩
  have hC := hw.C
  rw [ne 2 (by omega) (by omega) (by omega)] at hc
  have h := hw.crv c hc
  rw [ne (14 + 9 * c) (by omega) (by omega) (by omega), ne (14 + 9 * c + 1) (by omega) (by omega) (by omega)]
  refine ⟨h.1, h.2.1, fun k hk => ?_⟩
  rw [ne (14 + 9 * c + 1 + 2 * k) (by omega) (by omega) (by omega), ne (14 + 9 * c + 2 + 2 * k) (by omega) (by omega) (by omega)]
  exact h.2.2 k hk
theorem j_slots (hB : ∀ i, B i < 256) (hn : n ≤ 400) {Mc Mr : mm_M} {p : Nat} (hS : sOK S) (hp : p < n) (hc : cC Mc d B n S p) (hr : cR Mr B n S (tb B n p)) : Stm d B n p Mc Mr (f3_readSlots d Mc) (f7_readSlots Mr) := by
  have hd := isD_le hc.1.ok
  have ht := tb_le (B := B) (show p ≤ n by omega)
  obtain ⟨M1, e1, e2, e3⟩ := x_step hB hn (by omega) hc.2.1
  have h22 : mI M1 22 1 = 0 := by rw [e2.mI (by decide)]; exact hc.2.2
  have hD1 := hc.1.mv e2 (fun c z => by omega)
  have hge := skge (B := B) (n := n) (a := tb B n p) rfl
  rcases jnum hB hn ht.2.1 rfl e3 h22 hr.2 1 8 with ⟨v, Mc1, Mr1, a1, a2, a3, a4, a5, a6, a7, a8, a9, a10, a11, a12, a13⟩ | ⟨F, Mc', Mr', a1, a2, a3, a4, a5, a6, a7, a8⟩
  · obtain ⟨v', v1, v2, ve⟩ := okI_t (a := 1) (b := 8) (by omega) (by omega) a10
    have : v = v' := by rw [nx_eq (by omega) (by omega)] at ve; exact ve
    subst this
    have hD2 := hD1.mv a3 (fun c z => by omega)
    obtain ⟨M3, g1, g2, g3⟩ := x_beginAnew hD2 v
    have hr1 := cR_rs hr a4 a6
    have hr2 : cR (sI (sI Mr1 48 0 (nI v)) 48 1 (nI 0)) B n (rowS (rowS (updS (updS S 0 v) 1 0) 6 0 (fun _ => 10)) 74 0 (fun _ => 0)) (tb B n (sskip B n (tb B n p))) := by
      rw [rowS_0, rowS_0]
      exact cR_upd (cR_upd hr1)
    obtain ⟨Mr3, k1, k2, k3⟩ := y_rs31 8 0 FU _ _ (by omega) (by have := FU_big; omega) hr2
    have hge2 := skge (B := B) (n := n) (a := tb B n (sskip B n (tb B n p))) rfl
    refine ⟨M3, Mr3, (fr20 e2).tr ((fr20 a3).tr (frd g2)), ?_, Or.inl ⟨sslt S v, _, ?_, a4.g.tr (((RG.s48 _ _ _).tr (RG.s48 _ _ _)).tr k2), a12, by omega, sOK_slt hS v1 v2, ⟨g3, a5.mv g2 (fun z => by omega) (fun z => by omega), ?_⟩, k3⟩⟩
    · unfold f3_readSlots l3_readSlots_25
      rw [if_pos hc.1.ok, e1, cV_some, a1, cI_some, if_neg (by rw [nx_neg1 (by omega)]; exact fun z => z), g1, cV_some]
    · unfold f7_readSlots
      rw [a2, cI_some, if_neg (by decide), bI_eq, a7, show uI (α := Int32 × mm_M) 48 82 0 (nI v) Mr1 = uI 48 82 (nI 0) (nI v) Mr1 from rfl, uI_in (by omega) (by omega), show uI (α := Int32 × mm_M) 48 82 1 0 (sI Mr1 48 0 (nI v)) = uI 48 82 (nI 1) (nI 0) (sI Mr1 48 0 (nI v)) from rfl, uI_in (by omega) (by omega)]
      exact k1
    · rw [g2.mI (fun z => by omega), a3.mI (by decide)]; exact h22
  · refine ⟨Mc', Mr', (fr20 e2).tr (fr22 a3), ?_, Or.inr ⟨F, ?_, a4.x, a5, a6, a7, a8⟩⟩
    · unfold f3_readSlots l3_readSlots_25
      rw [if_pos hc.1.ok, e1, cV_some, a1, cI_some, if_pos rfl]
    · unfold f7_readSlots
      rw [a2, cI_some, if_pos rfl]
      rfl
end STM
