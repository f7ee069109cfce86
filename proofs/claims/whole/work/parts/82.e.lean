theorem hd_X11_sum : yX11_sum.cls = RX11 ∧ yX11_sum.cls ≠ "java/lang/invoke/MethodHandle" ∧ yX11_sum.cls ≠ "java/lang/invoke/VarHandle" ∧ (parseMethodDescriptor yX11_sum.desc).map (fun d => d.parameters.length) = some 1 := by decide +kernel
set_option maxRecDepth 100000 in
set_option maxHeartbeats 4000000 in
theorem mX11_sum (l : Launch) (D : va_G) (cy : Nat → ClassId) (B : Nat) (v0 : Nat) (v1 : Int32) (σ : St) (h0 : kM[v0]? = some 11) {post : Int32 → St → Prop} (h : wX11_sum v0 v1 σ post) : Met l yX11_sum (Cond.code yX11_sum cX11_sum 2 (some .int) :: WALL) (rmD 4) (PcW D cy B kM σ [.ref (B + v0), .int v1]) (va_Qi post (BW D cy B kM) (AW B 26)) 0 0 (AW B 26) := by
  refine Met.ofK (cc := cX11_sum) (maxL := 2) (ret := (some .int)) (by decide +kernel) rfl kM_len ?_
  intro p e s m below meth c X hP
  obtain ⟨⟨hx, hb, hml, hown, hts⟩, hr, hlk, hK, hN, hZ⟩ := id X
  have hD : ∀ σ, va_D (AW B 26) (wW cy B kM σ) := AW_D kM_len
  have hS : va_S (AW B 26) s.heap s.heap [] := va_S.rf
  have hl := lv_entry ([.ref (B + v0), .int v1]) (n := 2) (Nat.le_of_ble_eq_true rfl)
  rw [lg_entry_eq]
  generalize (lg_sl ([.ref (B + v0), .int v1]) ++ List.replicate (2 - (lg_sl ([.ref (B + v0), .int v1])).length) Slot.unset).toArray = ls at hl ⊢
  have hl : lv_has ls 2 [(0, .ref (B + v0)), (1, .int v1)] := hl
  unfold wX11_sum at h
  refine lv_aload_n hx hb dX11_sum_0 rfl (lv_at hl 0 rfl) ?_
  refine lv_iconst (v := (0 : Int32)) hx hb dX11_sum_1 (by decide) ?_
  refine rk_puti X hP hD hS (C := RX11) (T := TX11) (N := 44) (ci := 11) wix_11 h0 rfl rfl tyX11 tyX11_ok nmX11 0 (by decide) (wi_30 _ (List.mem_of_getElem? (i := 1) rfl)) rfl rfl (by decide +kernel) (Nat.le_of_ble_eq_true rfl) rfl dX11_sum_2 (fun H locs hP hS => ?_)
  obtain ⟨s1, es1⟩ : ∃ z : St, z = u1 σ v0 0 (0 : Int32) := ⟨_, rfl⟩
  rw [← es1] at hP
  have h := h s1 es1
  refine lv_aload_n hx hb dX11_sum_5 rfl (lv_at hl 0 rfl) ?_
  refine lv_iload_n hx hb dX11_sum_6 rfl (lv_at hl 1 rfl) ?_
  refine rk_callz (va_runV (As := [.int v1]) (rest := []) X.1 (mX11_laysIndex l D cy B v0 v1 s1 h0 h) (cwV 1 hts (gW_V (wi_40 _ (List.mem_of_getElem? (i := 2) rfl)) (wi_40 _ (List.mem_of_getElem? (i := 3) rfl)) (wi_40 _ (List.mem_of_getElem? (i := 4) rfl)) (wi_30 _ (List.mem_of_getElem? (i := 9) rfl)) (wi_39 _ (List.mem_of_getElem? (i := 15) rfl))) rfl rfl rfl hd_X11_laysIndex ⟨Nat.le_of_ble_eq_true rfl, Nat.le_of_ble_eq_true rfl⟩) (rk_preV X hS hP h0 rfl rfl [.int v1]) rfl rfl hl.1 rfl (lv_room (Nat.le_of_ble_eq_true rfl)) dX11_sum_7 ⟨Nat.zero_le _, Nat.zero_le _⟩) hS (fun _ h => h) (fun r1 s2 H locs h hP hS => ?_)
  refine lv_if_eq (tgt := 21) hx hb dX11_sum_10 (by decide) (fun c1 => ?_) (fun c1 => ?_)
  · have h := h.1 (b2i_f c1)
    refine lv_iconst (v := (-1 : Int32)) hx hb dX11_sum_21 (by decide) ?_
    exact rk_iret X rfl kM_len h hP hS dX11_sum_22
  · have h := h.2 (b2i_t c1)
    refine lv_aload_n hx hb dX11_sum_13 rfl (lv_at hl 0 rfl) ?_
    refine lv_iconst (v := (0 : Int32)) hx hb dX11_sum_14 (by decide) ?_
    refine rk_calli (va_runV (As := [.int (0 : Int32)]) (rest := []) X.1 (mX11_summed l D cy B v0 (0 : Int32) s2 h0 h) (cwV 1 hts (gW_V (wi_40 _ (List.mem_of_getElem? (i := 5) rfl)) (wi_40 _ (List.mem_of_getElem? (i := 6) rfl)) (wi_40 _ (List.mem_of_getElem? (i := 7) rfl)) (wi_30 _ (List.mem_of_getElem? (i := 9) rfl)) (wi_40 _ (List.mem_of_getElem? (i := 1) rfl))) rfl rfl rfl hd_X11_summed ⟨Nat.le_of_ble_eq_true rfl, Nat.le_of_ble_eq_true rfl⟩) (rk_preV X hS hP h0 rfl rfl [.int (0 : Int32)]) rfl rfl hl.1 rfl (lv_room (Nat.le_of_ble_eq_true rfl)) dX11_sum_15 ⟨Nat.zero_le _, Nat.zero_le _⟩) hS (fun _ h => h) (fun r2 s3 H locs h hP hS => ?_)
    refine lv_goto (tgt := 22) hx hb dX11_sum_18 (by decide) ?_
    exact rk_iret X rfl kM_len h hP hS dX11_sum_22

theorem hd_X11_ways : yX11_ways.cls = RX11 ∧ yX11_ways.cls ≠ "java/lang/invoke/MethodHandle" ∧ yX11_ways.cls ≠ "java/lang/invoke/VarHandle" ∧ (parseMethodDescriptor yX11_ways.desc).map (fun d => d.parameters.length) = some 1 := by decide +kernel
set_option maxRecDepth 100000 in
set_option maxHeartbeats 4000000 in
theorem mX11_ways (l : Launch) (D : va_G) (cy : Nat → ClassId) (B : Nat) (v0 : Nat) (v1 : Int32) (σ : St) (h0 : kM[v0]? = some 11) {post : Int32 → St → Prop} (h : wX11_ways v0 v1 σ post) : Met l yX11_ways (Cond.code yX11_ways cX11_ways 2 (some .int) :: WALL) (rmD 4) (PcW D cy B kM σ [.ref (B + v0), .int v1]) (va_Qi post (BW D cy B kM) (AW B 26)) 0 0 (AW B 26) := by
  refine Met.ofK (cc := cX11_ways) (maxL := 2) (ret := (some .int)) (by decide +kernel) rfl kM_len ?_
  intro p e s m below meth c X hP
  obtain ⟨⟨hx, hb, hml, hown, hts⟩, hr, hlk, hK, hN, hZ⟩ := id X
  have hD : ∀ σ, va_D (AW B 26) (wW cy B kM σ) := AW_D kM_len
  have hS : va_S (AW B 26) s.heap s.heap [] := va_S.rf
  have hl := lv_entry ([.ref (B + v0), .int v1]) (n := 2) (Nat.le_of_ble_eq_true rfl)
  rw [lg_entry_eq]
  generalize (lg_sl ([.ref (B + v0), .int v1]) ++ List.replicate (2 - (lg_sl ([.ref (B + v0), .int v1])).length) Slot.unset).toArray = ls at hl ⊢
  have hl : lv_has ls 2 [(0, .ref (B + v0)), (1, .int v1)] := hl
  unfold wX11_ways at h
  refine lv_aload_n hx hb dX11_ways_0 rfl (lv_at hl 0 rfl) ?_
  refine lv_iconst (v := (0 : Int32)) hx hb dX11_ways_1 (by decide) ?_
  refine rk_puti X hP hD hS (C := RX11) (T := TX11) (N := 44) (ci := 11) wix_11 h0 rfl rfl tyX11 tyX11_ok nmX11 0 (by decide) (wi_30 _ (List.mem_of_getElem? (i := 1) rfl)) rfl rfl (by decide +kernel) (Nat.le_of_ble_eq_true rfl) rfl dX11_ways_2 (fun H locs hP hS => ?_)
  obtain ⟨s1, es1⟩ : ∃ z : St, z = u1 σ v0 0 (0 : Int32) := ⟨_, rfl⟩
  rw [← es1] at hP
  have h := h s1 es1
  refine lv_aload_n hx hb dX11_ways_5 rfl (lv_at hl 0 rfl) ?_
  refine lv_iload_n hx hb dX11_ways_6 rfl (lv_at hl 1 rfl) ?_
  refine rk_callz (va_runV (As := [.int v1]) (rest := []) X.1 (mX11_laysIndex l D cy B v0 v1 s1 h0 h) (cwV 1 hts (gW_V (wi_40 _ (List.mem_of_getElem? (i := 2) rfl)) (wi_40 _ (List.mem_of_getElem? (i := 3) rfl)) (wi_40 _ (List.mem_of_getElem? (i := 4) rfl)) (wi_30 _ (List.mem_of_getElem? (i := 9) rfl)) (wi_39 _ (List.mem_of_getElem? (i := 15) rfl))) rfl rfl rfl hd_X11_laysIndex ⟨Nat.le_of_ble_eq_true rfl, Nat.le_of_ble_eq_true rfl⟩) (rk_preV X hS hP h0 rfl rfl [.int v1]) rfl rfl hl.1 rfl (lv_room (Nat.le_of_ble_eq_true rfl)) dX11_ways_7 ⟨Nat.zero_le _, Nat.zero_le _⟩) hS (fun _ h => h) (fun r1 s2 H locs h hP hS => ?_)
  refine lv_if_eq (tgt := 21) hx hb dX11_ways_10 (by decide) (fun c1 => ?_) (fun c1 => ?_)
  · have h := h.1 (b2i_f c1)
    refine lv_iconst (v := (-1 : Int32)) hx hb dX11_ways_21 (by decide) ?_
    exact rk_iret X rfl kM_len h hP hS dX11_ways_22
  · have h := h.2 (b2i_t c1)
    refine lv_aload_n hx hb dX11_ways_13 rfl (lv_at hl 0 rfl) ?_
    refine lv_iconst (v := (1 : Int32)) hx hb dX11_ways_14 (by decide) ?_
    refine rk_calli (va_runV (As := [.int (1 : Int32)]) (rest := []) X.1 (mX11_summed l D cy B v0 (1 : Int32) s2 h0 h) (cwV 1 hts (gW_V (wi_40 _ (List.mem_of_getElem? (i := 5) rfl)) (wi_40 _ (List.mem_of_getElem? (i := 6) rfl)) (wi_40 _ (List.mem_of_getElem? (i := 7) rfl)) (wi_30 _ (List.mem_of_getElem? (i := 9) rfl)) (wi_40 _ (List.mem_of_getElem? (i := 1) rfl))) rfl rfl rfl hd_X11_summed ⟨Nat.le_of_ble_eq_true rfl, Nat.le_of_ble_eq_true rfl⟩) (rk_preV X hS hP h0 rfl rfl [.int (1 : Int32)]) rfl rfl hl.1 rfl (lv_room (Nat.le_of_ble_eq_true rfl)) dX11_ways_15 ⟨Nat.zero_le _, Nat.zero_le _⟩) hS (fun _ h => h) (fun r2 s3 H locs h hP hS => ?_)
    refine lv_goto (tgt := 22) hx hb dX11_ways_18 (by decide) ?_
    exact rk_iret X rfl kM_len h hP hS dX11_ways_22

theorem hd_X11_total : yX11_total.cls = RX11 ∧ yX11_total.cls ≠ "java/lang/invoke/MethodHandle" ∧ yX11_total.cls ≠ "java/lang/invoke/VarHandle" ∧ (parseMethodDescriptor yX11_total.desc).map (fun d => d.parameters.length) = some 0 := by decide +kernel
set_option maxRecDepth 100000 in
set_option maxHeartbeats 4000000 in
theorem tX11_total_11 {p : Program} {l : Launch} {e : Env} {s : State} {m : MethodId} {av : Array Value} {below : List Frame} {meth : Method} {c : Code} {D : va_G} {cy : Nat → ClassId} {B : Nat} (X : kC p s m av meth c cX11_total 2 (some .int) WALL RX11 D cy (AW B 26)) {post : Int32 → St → Prop} : ∀ (n : Nat) (v0 : Nat) (v1 : Int32) (σ : St), kM[v0]? = some 11 → wX11_total_11 post n v0 v1 σ → ∀ (H : Heap) (locs : List Loc) (ls : Array Slot), va_P D vwCl (wW cy B kM σ) H → va_S (AW B 26) s.heap H locs → lv_has ls 2 [(0, .ref (B + v0)), (1, .int v1)] → W p l e (rmD 4) s m av below meth c H locs 0 0 (MQ below (va_Qi post (BW D cy B kM) (AW B 26)) av s 0 0 (AW B 26)) (F0 m 11 ls []) := by
  obtain ⟨⟨hx, hb, hml, hown, hts⟩, hr, hlk, hK, hN, hZ⟩ := id X
  have hD : ∀ σ, va_D (AW B 26) (wW cy B kM σ) := AW_D kM_len
  intro n
  induction n with
  | zero => intro v0 v1 σ h0 h; exact absurd h id
  | succ n ih =>
    intro v0 v1 σ h0 h H locs ls hP hS hl
    rw [wX11_total_11] at h
    refine lv_iload_n hx hb dX11_total_11 rfl (lv_at hl 1 rfl) ?_
    refine lv_aload_n hx hb dX11_total_12 rfl (lv_at hl 0 rfl) ?_
    refine rk_get X hP (C := RX11) (T := TX11) (N := 44) (ci := 11) wix_11 h0 rfl rfl 39 (by decide) (wi_39 _ (List.mem_of_getElem? (i := 0) rfl)) rfl rfl dX11_total_13 ?_
    refine lv_icmp_ge (tgt := 37) hx hb dX11_total_16 (by decide) (fun c1 => ?_) (fun c1 => ?_)
    · have h := h.1 c1
      refine lv_aload_n hx hb dX11_total_37 rfl (lv_at hl 0 rfl) ?_
      refine lv_iconst (v := (0 : Int32)) hx hb dX11_total_38 (by decide) ?_
      refine rk_calli (va_runV (As := [.int (0 : Int32)]) (rest := []) X.1 (mX11_summed l D cy B v0 (0 : Int32) σ h0 h) (cwV 1 hts (gW_V (wi_40 _ (List.mem_of_getElem? (i := 5) rfl)) (wi_40 _ (List.mem_of_getElem? (i := 6) rfl)) (wi_40 _ (List.mem_of_getElem? (i := 7) rfl)) (wi_30 _ (List.mem_of_getElem? (i := 9) rfl)) (wi_40 _ (List.mem_of_getElem? (i := 1) rfl))) rfl rfl rfl hd_X11_summed ⟨Nat.le_of_ble_eq_true rfl, Nat.le_of_ble_eq_true rfl⟩) (rk_preV X hS hP h0 rfl rfl [.int (0 : Int32)]) rfl rfl hl.1 rfl (lv_room (Nat.le_of_ble_eq_true rfl)) dX11_total_39 ⟨Nat.zero_le _, Nat.zero_le _⟩) hS (fun _ h => h) (fun r1 s1 H locs h hP hS => ?_)
      exact rk_iret X rfl kM_len h hP hS dX11_total_42
    · have h := h.2 c1
      refine lv_aload_n hx hb dX11_total_19 rfl (lv_at hl 0 rfl) ?_
      refine rk_get X hP (C := RX11) (T := TX11) (N := 44) (ci := 11) wix_11 h0 rfl rfl 40 (by decide) (wi_29 _ (List.mem_of_getElem? (i := 20) rfl)) rfl rfl dX11_total_20 ?_
      refine lv_aload_n hx hb dX11_total_23 rfl (lv_at hl 0 rfl) ?_
      refine rk_get X hP (C := RX11) (T := TX11) (N := 44) (ci := 11) wix_11 h0 rfl rfl 38 (by decide) (wi_29 _ (List.mem_of_getElem? (i := 19) rfl)) rfl rfl dX11_total_24 ?_
      refine lv_iload_n hx hb dX11_total_27 rfl (lv_at hl 1 rfl) ?_
      obtain ⟨b1, h⟩ := h
      refine rk_iald X hP (n := 24) (klM_X11_38 h0) (fun _ _ => rfl) b1 dX11_total_28 ?_
      refine lv_iconst (v := (2 : Int32)) hx hb dX11_total_29 (by decide) ?_
      obtain ⟨b2, h⟩ := h
      refine rk_iast X hP hD hS (n := 24) (klM_X11_40 h0) (fun _ _ => rfl) b2 dX11_total_30 (fun H locs hP hS => ?_)
      obtain ⟨s2, es2⟩ : ∃ z : St, z = u1 σ (v0 + 23) (σ.1 (v0 + 22) v1.toNatClampNeg).toNatClampNeg (2 : Int32) := ⟨_, rfl⟩
      rw [← es2] at hP
      have h := h s2 es2
      obtain ⟨x1, ex1⟩ : ∃ y : Int32, y = v1 + (1 : Int32) := ⟨_, rfl⟩
      have h := h x1 ex1
      refine lv_iinc (v := x1) (lv' := [(1, .int x1), (0, .ref (B + v0))]) hx hb dX11_total_31 hl (k := 1) rfl (by rw [ex1]; rfl) (by decide) rfl (fun ls hl => ?_)
      refine lv_goto (tgt := 11) hx hb dX11_total_34 (by decide) ?_
      exact ih _ _ _ h0 h _ _ _ hP hS (lv_sub hl [1, 0] rfl)
set_option maxRecDepth 100000 in
set_option maxHeartbeats 4000000 in
theorem mX11_total (l : Launch) (D : va_G) (cy : Nat → ClassId) (B : Nat) (v0 : Nat) (σ : St) (h0 : kM[v0]? = some 11) {post : Int32 → St → Prop} (h : wX11_total v0 σ post) : Met l yX11_total (Cond.code yX11_total cX11_total 2 (some .int) :: WALL) (rmD 4) (PcW D cy B kM σ [.ref (B + v0)]) (va_Qi post (BW D cy B kM) (AW B 26)) 0 0 (AW B 26) := by
  refine Met.ofK (cc := cX11_total) (maxL := 2) (ret := (some .int)) (by decide +kernel) rfl kM_len ?_
  intro p e s m below meth c X hP
  obtain ⟨⟨hx, hb, hml, hown, hts⟩, hr, hlk, hK, hN, hZ⟩ := id X
  have hD : ∀ σ, va_D (AW B 26) (wW cy B kM σ) := AW_D kM_len
  have hS : va_S (AW B 26) s.heap s.heap [] := va_S.rf
  have hl := lv_entry ([.ref (B + v0)]) (n := 2) (Nat.le_of_ble_eq_true rfl)
  rw [lg_entry_eq]
  generalize (lg_sl ([.ref (B + v0)]) ++ List.replicate (2 - (lg_sl ([.ref (B + v0)])).length) Slot.unset).toArray = ls at hl ⊢
  have hl : lv_has ls 2 [(0, .ref (B + v0))] := hl
  unfold wX11_total at h
  refine lv_aload_n hx hb dX11_total_0 rfl (lv_at hl 0 rfl) ?_
  refine lv_iconst (v := (0 : Int32)) hx hb dX11_total_1 (by decide) ?_
  refine rk_puti X hP hD hS (C := RX11) (T := TX11) (N := 44) (ci := 11) wix_11 h0 rfl rfl tyX11 tyX11_ok nmX11 0 (by decide) (wi_30 _ (List.mem_of_getElem? (i := 1) rfl)) rfl rfl (by decide +kernel) (Nat.le_of_ble_eq_true rfl) rfl dX11_total_2 (fun H locs hP hS => ?_)
  obtain ⟨s1, es1⟩ : ∃ z : St, z = u1 σ v0 0 (0 : Int32) := ⟨_, rfl⟩
  rw [← es1] at hP
  have h := h s1 es1
  refine lv_aload_n hx hb dX11_total_5 rfl (lv_at hl 0 rfl) ?_
  refine rk_callv (va_runV (As := []) (rest := []) X.1 (mX11_laysOpen l D cy B v0 s1 h0 h) (cwV 0 hts (gW_V (wi_39 _ (List.mem_of_getElem? (i := 5) rfl)) (wi_39 _ (List.mem_of_getElem? (i := 6) rfl)) (wi_39 _ (List.mem_of_getElem? (i := 7) rfl)) (wi_30 _ (List.mem_of_getElem? (i := 9) rfl)) (wi_38 _ (List.mem_of_getElem? (i := 23) rfl))) rfl rfl rfl hd_X11_laysOpen ⟨Nat.le_of_ble_eq_true rfl, Nat.le_of_ble_eq_true rfl⟩) (rk_preV X hS hP h0 rfl rfl []) rfl rfl hl.1 rfl (lv_room (Nat.le_of_ble_eq_true rfl)) dX11_total_6 ⟨Nat.zero_le _, Nat.zero_le _⟩) hS (fun _ h => h) (fun s2 H locs h hP hS => ?_)
  refine lv_iconst (v := (0 : Int32)) hx hb dX11_total_9 (by decide) ?_
  refine lv_istore_n (lv' := [(1, .int (0 : Int32)), (0, .ref (B + v0))]) hx hb dX11_total_10 rfl hl (by decide) rfl (fun ls hl => ?_)
  obtain ⟨j, h⟩ := h
  exact tX11_total_11 X j _ _ _ h0 h _ _ _ hP hS (lv_sub hl [1, 0] rfl)

theorem hd_X11_isInside : yX11_isInside.cls = RX11 ∧ yX11_isInside.cls ≠ "java/lang/invoke/MethodHandle" ∧ yX11_isInside.cls ≠ "java/lang/invoke/VarHandle" ∧ (parseMethodDescriptor yX11_isInside.desc).map (fun d => d.parameters.length) = some 2 := by decide +kernel
set_option maxRecDepth 100000 in
set_option maxHeartbeats 4000000 in
theorem mX11_isInside (l : Launch) (D : va_G) (cy : Nat → ClassId) (B : Nat) (v0 : Nat) (v1 : Int32) (v2 : Int32) (σ : St) (h0 : kM[v0]? = some 11) {post : Bool → St → Prop} (h : wX11_isInside v0 v1 v2 σ post) : Met l yX11_isInside (Cond.code yX11_isInside cX11_isInside 3 (some .boolean) :: WALL) (rmD 0) (PcW D cy B kM σ [.ref (B + v0), .int v1, .int v2]) (Qz post D cy B kM 26) 0 0 (AW B 26) := by
  refine Met.ofK (cc := cX11_isInside) (maxL := 3) (ret := (some .boolean)) (by decide +kernel) rfl kM_len ?_
  intro p e s m below meth c X hP
  obtain ⟨⟨hx, hb, hml, hown, hts⟩, hr, hlk, hK, hN, hZ⟩ := id X
  have hD : ∀ σ, va_D (AW B 26) (wW cy B kM σ) := AW_D kM_len
  have hS : va_S (AW B 26) s.heap s.heap [] := va_S.rf
  have hl := lv_entry ([.ref (B + v0), .int v1, .int v2]) (n := 3) (Nat.le_of_ble_eq_true rfl)
  rw [lg_entry_eq]
  generalize (lg_sl ([.ref (B + v0), .int v1, .int v2]) ++ List.replicate (3 - (lg_sl ([.ref (B + v0), .int v1, .int v2])).length) Slot.unset).toArray = ls at hl ⊢
  have hl : lv_has ls 3 [(0, .ref (B + v0)), (1, .int v1), (2, .int v2)] := hl
  unfold wX11_isInside at h
  refine lv_iload_n hx hb dX11_isInside_0 rfl (lv_at hl 2 rfl) ?_
  refine lv_aload_n hx hb dX11_isInside_1 rfl (lv_at hl 0 rfl) ?_
  refine rk_get X hP (C := RX11) (T := TX11) (N := 44) (ci := 11) wix_11 h0 rfl rfl 30 (by decide) (wi_29 _ (List.mem_of_getElem? (i := 13) rfl)) rfl rfl dX11_isInside_2 ?_
  refine lv_bipush (v := (96 : Int32)) hx hb dX11_isInside_5 (by decide) ?_
  refine lv_iconst (v := (2 : Int32)) hx hb dX11_isInside_7 (by decide) ?_
  refine lv_iload_n hx hb dX11_isInside_8 rfl (lv_at hl 1 rfl) ?_
  refine lv_imul hx hb dX11_isInside_9 ?_
  refine lv_iadd hx hb dX11_isInside_10 ?_
  refine lv_topi (fun x1 ex1 => ?_)
  have h := h x1 ex1
  obtain ⟨b1, h⟩ := h
  refine rk_iald X hP (n := 117) (klM_X11_30 h0) (fun _ _ => rfl) b1 dX11_isInside_11 ?_
  refine lv_iconst (v := (4 : Int32)) hx hb dX11_isInside_12 (by decide) ?_
  refine lv_idiv hx hb dX11_isInside_13 (by decide) ?_
  refine lv_ishr hx hb dX11_isInside_14 ?_
  refine lv_iconst (v := (1 : Int32)) hx hb dX11_isInside_15 (by decide) ?_
  refine lv_iand hx hb dX11_isInside_16 ?_
  refine lv_iconst (v := (1 : Int32)) hx hb dX11_isInside_17 (by decide) ?_
  refine lv_icmp_ne (tgt := 48) hx hb dX11_isInside_18 (by decide) (fun c1 => ?_) (fun c1 => ?_)
  · have h := h.1 c1
    refine lv_iconst (v := (0 : Int32)) hx hb dX11_isInside_48 (by decide) ?_
    exact rk_zret X kM_len false h hP hS dX11_isInside_49
  · have h := h.2 c1
    refine lv_iload_n hx hb dX11_isInside_21 rfl (lv_at hl 2 rfl) ?_
    refine lv_aload_n hx hb dX11_isInside_22 rfl (lv_at hl 0 rfl) ?_
    refine rk_get X hP (C := RX11) (T := TX11) (N := 44) (ci := 11) wix_11 h0 rfl rfl 30 (by decide) (wi_29 _ (List.mem_of_getElem? (i := 13) rfl)) rfl rfl dX11_isInside_23 ?_
    refine lv_bipush (v := (96 : Int32)) hx hb dX11_isInside_26 (by decide) ?_
    refine lv_iconst (v := (2 : Int32)) hx hb dX11_isInside_28 (by decide) ?_
    refine lv_iload_n hx hb dX11_isInside_29 rfl (lv_at hl 1 rfl) ?_
    refine lv_imul hx hb dX11_isInside_30 ?_
    refine lv_iadd hx hb dX11_isInside_31 ?_
    refine lv_iconst (v := (1 : Int32)) hx hb dX11_isInside_32 (by decide) ?_
    refine lv_iadd hx hb dX11_isInside_33 ?_
    refine lv_topi (fun x2 ex2 => ?_)
    have h := h x2 ex2
    obtain ⟨b2, h⟩ := h
    refine rk_iald X hP (n := 117) (klM_X11_30 h0) (fun _ _ => rfl) b2 dX11_isInside_34 ?_
    refine lv_iconst (v := (4 : Int32)) hx hb dX11_isInside_35 (by decide) ?_
    refine lv_idiv hx hb dX11_isInside_36 (by decide) ?_
    refine lv_ishr hx hb dX11_isInside_37 ?_
    refine lv_iconst (v := (1 : Int32)) hx hb dX11_isInside_38 (by decide) ?_
    refine lv_iand hx hb dX11_isInside_39 ?_
    refine lv_iconst (v := (1 : Int32)) hx hb dX11_isInside_40 (by decide) ?_
    refine lv_icmp_ne (tgt := 48) hx hb dX11_isInside_41 (by decide) (fun c2 => ?_) (fun c2 => ?_)
    · have h := h.1 c2
      refine lv_iconst (v := (0 : Int32)) hx hb dX11_isInside_48 (by decide) ?_
      exact rk_zret X kM_len false h hP hS dX11_isInside_49
    · have h := h.2 c2
      refine lv_iconst (v := (1 : Int32)) hx hb dX11_isInside_44 (by decide) ?_
      refine lv_goto (tgt := 49) hx hb dX11_isInside_45 (by decide) ?_
      exact rk_zret X kM_len true h hP hS dX11_isInside_49

theorem hd_X11_within_ : yX11_within_.cls = RX11 ∧ yX11_within_.cls ≠ "java/lang/invoke/MethodHandle" ∧ yX11_within_.cls ≠ "java/lang/invoke/VarHandle" ∧ (parseMethodDescriptor yX11_within_.desc).map (fun d => d.parameters.length) = some 1 := by decide +kernel
set_option maxRecDepth 100000 in
set_option maxHeartbeats 4000000 in
theorem tX11_within__95 {p : Program} {l : Launch} {e : Env} {s : State} {m : MethodId} {av : Array Value} {below : List Frame} {meth : Method} {c : Code} {D : va_G} {cy : Nat → ClassId} {B : Nat} (X : kC p s m av meth c cX11_within_ 6 (some .int) WALL RX11 D cy (AW B 26)) {post : Int32 → St → Prop} {R66 : Nat → Int32 → Int32 → Int32 → Int32 → St → Prop} (hR66 : ∀ (v0 : Nat) (v1 : Int32) (v2 : Int32) (v3 : Int32) (v4 : Int32) (σ : St), kM[v0]? = some 11 → R66 v0 v1 v2 v3 v4 σ → ∀ (H : Heap) (locs : List Loc) (ls : Array Slot), va_P D vwCl (wW cy B kM σ) H → va_S (AW B 26) s.heap H locs → lv_has ls 6 [(0, .ref (B + v0)), (1, .int v1), (2, .int v2), (3, .int v3), (4, .int v4)] → W p l e (rmD 3) s m av below meth c H locs 0 0 (MQ below (va_Qi post (BW D cy B kM) (AW B 26)) av s 0 0 (AW B 26)) (F0 m 66 ls [])) : ∀ (n : Nat) (v0 : Nat) (v1 : Int32) (v2 : Int32) (v3 : Int32) (v4 : Int32) (v5 : Int32) (σ : St), kM[v0]? = some 11 → wX11_within__95 post R66 n v0 v1 v2 v3 v4 v5 σ → ∀ (H : Heap) (locs : List Loc) (ls : Array Slot), va_P D vwCl (wW cy B kM σ) H → va_S (AW B 26) s.heap H locs → lv_has ls 6 [(0, .ref (B + v0)), (1, .int v1), (2, .int v2), (3, .int v3), (4, .int v4), (5, .int v5)] → W p l e (rmD 3) s m av below meth c H locs 0 0 (MQ below (va_Qi post (BW D cy B kM) (AW B 26)) av s 0 0 (AW B 26)) (F0 m 95 ls []) := by
  obtain ⟨⟨hx, hb, hml, hown, hts⟩, hr, hlk, hK, hN, hZ⟩ := id X
  have hD : ∀ σ, va_D (AW B 26) (wW cy B kM σ) := AW_D kM_len
  intro n
  induction n with
  | zero => intro v0 v1 v2 v3 v4 v5 σ h0 h; exact absurd h id
  | succ n ih =>
    intro v0 v1 v2 v3 v4 v5 σ h0 h H locs ls hP hS hl
    rw [wX11_within__95] at h
    refine lv_iload hx hb dX11_within__95 (lv_at hl 5 rfl) ?_
    refine lv_bipush (v := (24 : Int32)) hx hb dX11_within__97 (by decide) ?_
    refine lv_icmp_ge (tgt := 116) hx hb dX11_within__99 (by decide) (fun c1 => ?_) (fun c1 => ?_)
    · have h := h.1 c1
      refine lv_aload_n hx hb dX11_within__116 rfl (lv_at hl 0 rfl) ?_
      refine lv_iload hx hb dX11_within__117 (lv_at hl 4 rfl) ?_
      refine rk_callv (va_runV (As := [.int v4]) (rest := []) X.1 (mX11_setsWires l D cy B v0 v4 σ h0 h) (cwV 1 hts (gW_V (wi_39 _ (List.mem_of_getElem? (i := 16) rfl)) (wi_39 _ (List.mem_of_getElem? (i := 17) rfl)) (wi_39 _ (List.mem_of_getElem? (i := 18) rfl)) (wi_30 _ (List.mem_of_getElem? (i := 9) rfl)) (wi_39 _ (List.mem_of_getElem? (i := 8) rfl))) rfl rfl rfl hd_X11_setsWires ⟨Nat.le_of_ble_eq_true rfl, Nat.le_of_ble_eq_true rfl⟩) (rk_preV X hS hP h0 rfl rfl [.int v4]) rfl rfl hl.1 rfl (lv_room (Nat.le_of_ble_eq_true rfl)) dX11_within__119 ⟨Nat.zero_le _, Nat.zero_le _⟩) hS (fun _ h => h) (fun s1 H locs h hP hS => ?_)
      refine lv_iload_n hx hb dX11_within__122 rfl (lv_at hl 3 rfl) ?_
      refine lv_aload_n hx hb dX11_within__123 rfl (lv_at hl 0 rfl) ?_
      refine lv_iload_n hx hb dX11_within__124 rfl (lv_at hl 1 rfl) ?_
      refine rk_calli (va_runV (As := [.int v1]) (rest := [.int v3]) X.1 (mX11_product l D cy B v0 v1 s1 h0 h) (cwV 1 hts (gW_V (wi_39 _ (List.mem_of_getElem? (i := 22) rfl)) (wi_39 _ (List.mem_of_getElem? (i := 23) rfl)) (wi_40 _ (List.mem_of_getElem? (i := 0) rfl)) (wi_30 _ (List.mem_of_getElem? (i := 9) rfl)) (wi_39 _ (List.mem_of_getElem? (i := 10) rfl))) rfl rfl rfl hd_X11_product ⟨Nat.le_of_ble_eq_true rfl, Nat.le_of_ble_eq_true rfl⟩) (rk_preV X hS hP h0 rfl rfl [.int v1]) rfl rfl hl.1 rfl (lv_room (Nat.le_of_ble_eq_true rfl)) dX11_within__125 ⟨Nat.zero_le _, Nat.zero_le _⟩) hS (fun _ h => h) (fun r1 s2 H locs h hP hS => ?_)
      refine lv_iadd hx hb dX11_within__128 ?_
      refine lv_aload_n hx hb dX11_within__129 rfl (lv_at hl 0 rfl) ?_
      refine rk_calli (va_runV (As := []) (rest := [.int (v3 + r1)]) X.1 (mX11_p l D cy B v0 s2 h0 h) (cwV 0 hts (gW_V (wi_35 _ (List.mem_of_getElem? (i := 21) rfl)) (wi_35 _ (List.mem_of_getElem? (i := 22) rfl)) (wi_35 _ (List.mem_of_getElem? (i := 23) rfl)) (wi_30 _ (List.mem_of_getElem? (i := 9) rfl)) (wi_35 _ (List.mem_of_getElem? (i := 4) rfl))) rfl rfl rfl hd_X11_p ⟨Nat.le_of_ble_eq_true rfl, Nat.le_of_ble_eq_true rfl⟩) (rk_preV X hS hP h0 rfl rfl []) rfl rfl hl.1 rfl (lv_room (Nat.le_of_ble_eq_true rfl)) dX11_within__130 ⟨Nat.zero_le _, Nat.zero_le _⟩) hS (fun _ h => h) (fun r2 s3 H locs h hP hS => ?_)
      obtain ⟨z1, h⟩ := h
      refine lv_irem hx hb dX11_within__133 z1 ?_
      refine lv_topi (fun x1 ex1 => ?_)
      have h := h x1 ex1
      refine lv_istore_n (lv' := [(3, .int x1), (0, .ref (B + v0)), (1, .int v1), (2, .int v2), (4, .int v4), (5, .int v5)]) hx hb dX11_within__134 rfl hl (by decide) rfl (fun ls hl => ?_)
      obtain ⟨x2, ex2⟩ : ∃ y : Int32, y = v4 + (1 : Int32) := ⟨_, rfl⟩
      have h := h x2 ex2
      refine lv_iinc (v := x2) (lv' := [(4, .int x2), (3, .int x1), (0, .ref (B + v0)), (1, .int v1), (2, .int v2), (5, .int v5)]) hx hb dX11_within__135 hl (k := 4) rfl (by rw [ex2]; rfl) (by decide) rfl (fun ls hl => ?_)
      refine lv_goto (tgt := 66) hx hb dX11_within__138 (by decide) ?_
      exact hR66 _ _ _ _ _ _ h0 h _ _ _ hP hS (lv_sub hl [2, 3, 4, 1, 0] rfl)
    · have h := h.2 c1
      refine lv_aload_n hx hb dX11_within__102 rfl (lv_at hl 0 rfl) ?_
      refine rk_get X hP (C := RX11) (T := TX11) (N := 44) (ci := 11) wix_11 h0 rfl rfl 40 (by decide) (wi_29 _ (List.mem_of_getElem? (i := 20) rfl)) rfl rfl dX11_within__103 ?_
      refine lv_iload hx hb dX11_within__106 (lv_at hl 5 rfl) ?_
      refine lv_iconst (v := (0 : Int32)) hx hb dX11_within__108 (by decide) ?_
      obtain ⟨b1, h⟩ := h
      refine rk_iast X hP hD hS (n := 24) (klM_X11_40 h0) (fun _ _ => rfl) b1 dX11_within__109 (fun H locs hP hS => ?_)
      obtain ⟨s4, es4⟩ : ∃ z : St, z = u1 σ (v0 + 23) v5.toNatClampNeg (0 : Int32) := ⟨_, rfl⟩
      rw [← es4] at hP
      have h := h s4 es4
      obtain ⟨x3, ex3⟩ : ∃ y : Int32, y = v5 + (1 : Int32) := ⟨_, rfl⟩
      have h := h x3 ex3
      refine lv_iinc (v := x3) (lv' := [(5, .int x3), (0, .ref (B + v0)), (1, .int v1), (2, .int v2), (3, .int v3), (4, .int v4)]) hx hb dX11_within__110 hl (k := 5) rfl (by rw [ex3]; rfl) (by decide) rfl (fun ls hl => ?_)
      refine lv_goto (tgt := 95) hx hb dX11_within__113 (by decide) ?_
      exact ih _ _ _ _ _ _ _ h0 h _ _ _ hP hS (lv_sub hl [1, 2, 3, 4, 5, 0] rfl)
set_option maxRecDepth 100000 in
set_option maxHeartbeats 4000000 in
theorem tX11_within__66 {p : Program} {l : Launch} {e : Env} {s : State} {m : MethodId} {av : Array Value} {below : List Frame} {meth : Method} {c : Code} {D : va_G} {cy : Nat → ClassId} {B : Nat} (X : kC p s m av meth c cX11_within_ 6 (some .int) WALL RX11 D cy (AW B 26)) {post : Int32 → St → Prop} : ∀ (n : Nat) (v0 : Nat) (v1 : Int32) (v2 : Int32) (v3 : Int32) (v4 : Int32) (σ : St), kM[v0]? = some 11 → wX11_within__66 post n v0 v1 v2 v3 v4 σ → ∀ (H : Heap) (locs : List Loc) (ls : Array Slot), va_P D vwCl (wW cy B kM σ) H → va_S (AW B 26) s.heap H locs → lv_has ls 6 [(0, .ref (B + v0)), (1, .int v1), (2, .int v2), (3, .int v3), (4, .int v4)] → W p l e (rmD 3) s m av below meth c H locs 0 0 (MQ below (va_Qi post (BW D cy B kM) (AW B 26)) av s 0 0 (AW B 26)) (F0 m 66 ls []) := by
  obtain ⟨⟨hx, hb, hml, hown, hts⟩, hr, hlk, hK, hN, hZ⟩ := id X
  have hD : ∀ σ, va_D (AW B 26) (wW cy B kM σ) := AW_D kM_len
  intro n
  induction n with
  | zero => intro v0 v1 v2 v3 v4 σ h0 h; exact absurd h id
  | succ n ih =>
    intro v0 v1 v2 v3 v4 σ h0 h H locs ls hP hS hl
    rw [wX11_within__66] at h
    refine lv_iload hx hb dX11_within__66 (lv_at hl 4 rfl) ?_
    refine lv_iconst (v := (1 : Int32)) hx hb dX11_within__68 (by decide) ?_
    refine lv_aload_n hx hb dX11_within__69 rfl (lv_at hl 0 rfl) ?_
    refine rk_get X hP (C := RX11) (T := TX11) (N := 44) (ci := 11) wix_11 h0 rfl rfl 30 (by decide) (wi_29 _ (List.mem_of_getElem? (i := 13) rfl)) rfl rfl dX11_within__70 ?_
    refine lv_bipush (v := (116 : Int32)) hx hb dX11_within__73 (by decide) ?_
    have b1 : vp_in (116 : Int32) 117 := by unfold vp_in; decide
    refine rk_iald X hP (n := 117) (klM_X11_30 h0) (fun _ _ => rfl) b1 dX11_within__75 ?_
    refine lv_ishl hx hb dX11_within__76 ?_
    refine lv_icmp_ge (tgt := 141) hx hb dX11_within__77 (by decide) (fun c1 => ?_) (fun c1 => ?_)
    · have h := h.1 c1
      refine lv_iload_n hx hb dX11_within__141 rfl (lv_at hl 3 rfl) ?_
      exact rk_iret X rfl kM_len h hP hS dX11_within__142
    · have h := h.2 c1
      refine lv_iload hx hb dX11_within__80 (lv_at hl 4 rfl) ?_
      refine lv_iload_n hx hb dX11_within__82 rfl (lv_at hl 2 rfl) ?_
      refine lv_iconst (v := (-1 : Int32)) hx hb dX11_within__83 (by decide) ?_
      refine lv_ixor hx hb dX11_within__84 ?_
      refine lv_iand hx hb dX11_within__85 ?_
      refine lv_if_eq (tgt := 92) hx hb dX11_within__86 (by decide) (fun c2 => ?_) (fun c2 => ?_)
      · have h := h.1 c2
        refine lv_iconst (v := (0 : Int32)) hx hb dX11_within__92 (by decide) ?_
        refine lv_istore (lv' := [(5, .int (0 : Int32)), (0, .ref (B + v0)), (1, .int v1), (2, .int v2), (3, .int v3), (4, .int v4)]) hx hb dX11_within__93 hl (by decide) rfl (fun ls hl => ?_)
        obtain ⟨j, h⟩ := h
        exact tX11_within__95 X ih j _ _ _ _ _ _ _ h0 h _ _ _ hP hS (lv_sub hl [1, 2, 3, 4, 5, 0] rfl)
      · have h := h.2 c2
        refine lv_goto (tgt := 135) hx hb dX11_within__89 (by decide) ?_
        obtain ⟨x1, ex1⟩ : ∃ y : Int32, y = v4 + (1 : Int32) := ⟨_, rfl⟩
        have h := h x1 ex1
        refine lv_iinc (v := x1) (lv' := [(4, .int x1), (0, .ref (B + v0)), (1, .int v1), (2, .int v2), (3, .int v3)]) hx hb dX11_within__135 hl (k := 4) rfl (by rw [ex1]; rfl) (by decide) rfl (fun ls hl => ?_)
        refine lv_goto (tgt := 66) hx hb dX11_within__138 (by decide) ?_
        exact ih _ _ _ _ _ _ h0 h _ _ _ hP hS (lv_sub hl [1, 2, 3, 4, 0] rfl)
set_option maxRecDepth 100000 in
set_option maxHeartbeats 4000000 in
theorem tX11_within__53 {p : Program} {l : Launch} {e : Env} {s : State} {m : MethodId} {av : Array Value} {below : List Frame} {meth : Method} {c : Code} {D : va_G} {cy : Nat → ClassId} {B : Nat} (X : kC p s m av meth c cX11_within_ 6 (some .int) WALL RX11 D cy (AW B 26)) {post : Int32 → St → Prop} {R25 : Nat → Int32 → Int32 → Int32 → St → Prop} (hR25 : ∀ (v0 : Nat) (v1 : Int32) (v2 : Int32) (v3 : Int32) (σ : St), kM[v0]? = some 11 → R25 v0 v1 v2 v3 σ → ∀ (H : Heap) (locs : List Loc) (ls : Array Slot), va_P D vwCl (wW cy B kM σ) H → va_S (AW B 26) s.heap H locs → lv_has ls 6 [(0, .ref (B + v0)), (1, .int v1), (2, .int v2), (3, .int v3)] → W p l e (rmD 3) s m av below meth c H locs 0 0 (MQ below (va_Qi post (BW D cy B kM) (AW B 26)) av s 0 0 (AW B 26)) (F0 m 25 ls [])) : ∀ (v0 : Nat) (v1 : Int32) (v3 : Int32) (t0 : Int32) (t1 : Int32) (σ : St), kM[v0]? = some 11 → wX11_within__53 post R25 v0 v1 v3 t0 t1 σ → ∀ (H : Heap) (locs : List Loc) (ls : Array Slot), va_P D vwCl (wW cy B kM σ) H → va_S (AW B 26) s.heap H locs → lv_has ls 6 [(0, .ref (B + v0)), (1, .int v1), (3, .int v3)] → W p l e (rmD 3) s m av below meth c H locs 0 0 (MQ below (va_Qi post (BW D cy B kM) (AW B 26)) av s 0 0 (AW B 26)) (F0 m 53 ls [.int t1, .int t0]) := by
  obtain ⟨⟨hx, hb, hml, hown, hts⟩, hr, hlk, hK, hN, hZ⟩ := id X
  have hD : ∀ σ, va_D (AW B 26) (wW cy B kM σ) := AW_D kM_len
  intro v0 v1 v3 t0 t1 σ h0 h H locs ls hP hS hl
  unfold wX11_within__53 at h
  refine lv_ior hx hb dX11_within__53 ?_
  refine lv_topi (fun x1 ex1 => ?_)
  have h := h x1 ex1
  refine lv_istore_n (lv' := [(2, .int x1), (0, .ref (B + v0)), (1, .int v1), (3, .int v3)]) hx hb dX11_within__54 rfl hl (by decide) rfl (fun ls hl => ?_)
  obtain ⟨x2, ex2⟩ : ∃ y : Int32, y = v3 + (1 : Int32) := ⟨_, rfl⟩
  have h := h x2 ex2
  refine lv_iinc (v := x2) (lv' := [(3, .int x2), (2, .int x1), (0, .ref (B + v0)), (1, .int v1)]) hx hb dX11_within__55 hl (k := 3) rfl (by rw [ex2]; rfl) (by decide) rfl (fun ls hl => ?_)
  refine lv_goto (tgt := 25) hx hb dX11_within__58 (by decide) ?_
  exact hR25 _ _ _ _ _ h0 h _ _ _ hP hS (lv_sub hl [2, 3, 1, 0] rfl)
set_option maxRecDepth 100000 in
set_option maxHeartbeats 4000000 in
theorem tX11_within__25 {p : Program} {l : Launch} {e : Env} {s : State} {m : MethodId} {av : Array Value} {below : List Frame} {meth : Method} {c : Code} {D : va_G} {cy : Nat → ClassId} {B : Nat} (X : kC p s m av meth c cX11_within_ 6 (some .int) WALL RX11 D cy (AW B 26)) {post : Int32 → St → Prop} : ∀ (n : Nat) (v0 : Nat) (v1 : Int32) (v2 : Int32) (v3 : Int32) (σ : St), kM[v0]? = some 11 → wX11_within__25 post n v0 v1 v2 v3 σ → ∀ (H : Heap) (locs : List Loc) (ls : Array Slot), va_P D vwCl (wW cy B kM σ) H → va_S (AW B 26) s.heap H locs → lv_has ls 6 [(0, .ref (B + v0)), (1, .int v1), (2, .int v2), (3, .int v3)] → W p l e (rmD 3) s m av below meth c H locs 0 0 (MQ below (va_Qi post (BW D cy B kM) (AW B 26)) av s 0 0 (AW B 26)) (F0 m 25 ls []) := by
  obtain ⟨⟨hx, hb, hml, hown, hts⟩, hr, hlk, hK, hN, hZ⟩ := id X
  have hD : ∀ σ, va_D (AW B 26) (wW cy B kM σ) := AW_D kM_len
  intro n
  induction n with
  | zero => intro v0 v1 v2 v3 σ h0 h; exact absurd h id
  | succ n ih =>
    intro v0 v1 v2 v3 σ h0 h H locs ls hP hS hl
    rw [wX11_within__25] at h
    refine lv_iload_n hx hb dX11_within__25 rfl (lv_at hl 3 rfl) ?_
    refine lv_aload_n hx hb dX11_within__26 rfl (lv_at hl 0 rfl) ?_
    refine rk_get X hP (C := RX11) (T := TX11) (N := 44) (ci := 11) wix_11 h0 rfl rfl 30 (by decide) (wi_29 _ (List.mem_of_getElem? (i := 13) rfl)) rfl rfl dX11_within__27 ?_
    refine lv_bipush (v := (116 : Int32)) hx hb dX11_within__30 (by decide) ?_
    have b1 : vp_in (116 : Int32) 117 := by unfold vp_in; decide
    refine rk_iald X hP (n := 117) (klM_X11_30 h0) (fun _ _ => rfl) b1 dX11_within__32 ?_
    refine lv_icmp_ge (tgt := 61) hx hb dX11_within__33 (by decide) (fun c1 => ?_) (fun c1 => ?_)
    · have h := h.1 c1
      refine lv_iconst (v := (0 : Int32)) hx hb dX11_within__61 (by decide) ?_
      refine lv_istore_n (lv' := [(3, .int (0 : Int32)), (0, .ref (B + v0)), (1, .int v1), (2, .int v2)]) hx hb dX11_within__62 rfl hl (by decide) rfl (fun ls hl => ?_)
      refine lv_iconst (v := (0 : Int32)) hx hb dX11_within__63 (by decide) ?_
      refine lv_istore (lv' := [(4, .int (0 : Int32)), (3, .int (0 : Int32)), (0, .ref (B + v0)), (1, .int v1), (2, .int v2)]) hx hb dX11_within__64 hl (by decide) rfl (fun ls hl => ?_)
      obtain ⟨j, h⟩ := h
      exact tX11_within__66 X j _ _ _ _ _ _ h0 h _ _ _ hP hS (lv_sub hl [2, 3, 4, 1, 0] rfl)
    · have h := h.2 c1
      refine lv_iload_n hx hb dX11_within__36 rfl (lv_at hl 2 rfl) ?_
      refine lv_aload_n hx hb dX11_within__37 rfl (lv_at hl 0 rfl) ?_
      refine lv_iload_n hx hb dX11_within__38 rfl (lv_at hl 3 rfl) ?_
      refine lv_iload_n hx hb dX11_within__39 rfl (lv_at hl 1 rfl) ?_
      refine rk_callz (va_runV (As := [.int v3, .int v1]) (rest := [.int v2]) X.1 (mX11_isInside l D cy B v0 v3 v1 σ h0 h) (cwV 2 hts (gW_V (wi_40 _ (List.mem_of_getElem? (i := 12) rfl)) (wi_40 _ (List.mem_of_getElem? (i := 13) rfl)) (wi_40 _ (List.mem_of_getElem? (i := 14) rfl)) (wi_30 _ (List.mem_of_getElem? (i := 9) rfl)) (wi_40 _ (List.mem_of_getElem? (i := 11) rfl))) rfl rfl rfl hd_X11_isInside ⟨Nat.le_of_ble_eq_true rfl, Nat.le_of_ble_eq_true rfl⟩) (rk_preV X hS hP h0 rfl rfl [.int v3, .int v1]) rfl rfl hl.1 rfl (lv_room (Nat.le_of_ble_eq_true rfl)) dX11_within__40 ⟨Nat.zero_le _, Nat.zero_le _⟩) hS (fun _ h => h) (fun r1 s1 H locs h hP hS => ?_)
      refine lv_if_eq (tgt := 52) hx hb dX11_within__43 (by decide) (fun c2 => ?_) (fun c2 => ?_)
      · have h := h.1 (b2i_f c2)
        refine lv_iconst (v := (0 : Int32)) hx hb dX11_within__52 (by decide) ?_
        exact tX11_within__53 X ih _ _ _ _ _ _ h0 h _ _ _ hP hS (lv_sub hl [0, 1, 3] rfl)
      · have h := h.2 (b2i_t c2)
        refine lv_iconst (v := (1 : Int32)) hx hb dX11_within__46 (by decide) ?_
        refine lv_iload_n hx hb dX11_within__47 rfl (lv_at hl 3 rfl) ?_
        refine lv_ishl hx hb dX11_within__48 ?_
        refine lv_goto (tgt := 53) hx hb dX11_within__49 (by decide) ?_
        exact tX11_within__53 X ih _ _ _ _ _ _ h0 h _ _ _ hP hS (lv_sub hl [0, 1, 3] rfl)
set_option maxRecDepth 100000 in
set_option maxHeartbeats 4000000 in
theorem mX11_within_ (l : Launch) (D : va_G) (cy : Nat → ClassId) (B : Nat) (v0 : Nat) (v1 : Int32) (σ : St) (h0 : kM[v0]? = some 11) {post : Int32 → St → Prop} (h : wX11_within_ v0 v1 σ post) : Met l yX11_within_ (Cond.code yX11_within_ cX11_within_ 6 (some .int) :: WALL) (rmD 3) (PcW D cy B kM σ [.ref (B + v0), .int v1]) (va_Qi post (BW D cy B kM) (AW B 26)) 0 0 (AW B 26) := by
  refine Met.ofK (cc := cX11_within_) (maxL := 6) (ret := (some .int)) (by decide +kernel) rfl kM_len ?_
  intro p e s m below meth c X hP
  obtain ⟨⟨hx, hb, hml, hown, hts⟩, hr, hlk, hK, hN, hZ⟩ := id X
  have hD : ∀ σ, va_D (AW B 26) (wW cy B kM σ) := AW_D kM_len
  have hS : va_S (AW B 26) s.heap s.heap [] := va_S.rf
  have hl := lv_entry ([.ref (B + v0), .int v1]) (n := 6) (Nat.le_of_ble_eq_true rfl)
  rw [lg_entry_eq]
  generalize (lg_sl ([.ref (B + v0), .int v1]) ++ List.replicate (6 - (lg_sl ([.ref (B + v0), .int v1])).length) Slot.unset).toArray = ls at hl ⊢
  have hl : lv_has ls 6 [(0, .ref (B + v0)), (1, .int v1)] := hl
  unfold wX11_within_ at h
  refine lv_aload_n hx hb dX11_within__0 rfl (lv_at hl 0 rfl) ?_
  refine lv_iconst (v := (0 : Int32)) hx hb dX11_within__1 (by decide) ?_
  refine rk_puti X hP hD hS (C := RX11) (T := TX11) (N := 44) (ci := 11) wix_11 h0 rfl rfl tyX11 tyX11_ok nmX11 0 (by decide) (wi_30 _ (List.mem_of_getElem? (i := 1) rfl)) rfl rfl (by decide +kernel) (Nat.le_of_ble_eq_true rfl) rfl dX11_within__2 (fun H locs hP hS => ?_)
  obtain ⟨s1, es1⟩ : ∃ z : St, z = u1 σ v0 0 (0 : Int32) := ⟨_, rfl⟩
  rw [← es1] at hP
  have h := h s1 es1
  refine lv_iload_n hx hb dX11_within__5 rfl (lv_at hl 1 rfl) ?_
  refine lv_i2l hx hb dX11_within__6 rfl ?_
  refine lv_lconst (v := (0 : Int64)) hx hb dX11_within__7 (by decide) ?_
  refine lv_aload_n hx hb dX11_within__8 rfl (lv_at hl 0 rfl) ?_
  refine rk_calli (va_runV (As := []) (rest := [.long (0 : Int64), .long (v1.toInt64)]) X.1 (mX11_allNodes l D cy B v0 s1 h0 h) (cwV 0 hts (gW_V (wi_39 _ (List.mem_of_getElem? (i := 19) rfl)) (wi_39 _ (List.mem_of_getElem? (i := 20) rfl)) (wi_39 _ (List.mem_of_getElem? (i := 21) rfl)) (wi_30 _ (List.mem_of_getElem? (i := 9) rfl)) (wi_39 _ (List.mem_of_getElem? (i := 14) rfl))) rfl rfl rfl hd_X11_allNodes ⟨Nat.le_of_ble_eq_true rfl, Nat.le_of_ble_eq_true rfl⟩) (rk_preV X hS hP h0 rfl rfl []) rfl rfl hl.1 rfl (lv_room (Nat.le_of_ble_eq_true rfl)) dX11_within__9 ⟨Nat.zero_le _, Nat.zero_le _⟩) hS (fun _ h => h) (fun r1 s2 H locs h hP hS => ?_)
  refine lv_i2l hx hb dX11_within__12 rfl ?_
  refine rk_callz (va_runS (As := [.long (v1.toInt64), .long (0 : Int64), .long (r1.toInt64)]) (rest := []) X.1 (mX11_within l D cy B (v1.toInt64) (0 : Int64) (r1.toInt64) s2 h) (va_cwS 3 hts (gW_S (wi_31 _ (List.mem_of_getElem? (i := 2) rfl)) (wi_31 _ (List.mem_of_getElem? (i := 3) rfl)) (wi_30 _ (List.mem_of_getElem? (i := 9) rfl)) (wi_30 _ (List.mem_of_getElem? (i := 2) rfl))) rfl rfl rfl hd_X11_within ⟨Nat.le_of_ble_eq_true rfl, Nat.le_of_ble_eq_true rfl⟩) (rk_preS X hS hP [.long (v1.toInt64), .long (0 : Int64), .long (r1.toInt64)]) rfl rfl hl.1 rfl (lv_room (Nat.le_of_ble_eq_true rfl)) dX11_within__13 ⟨Nat.zero_le _, Nat.zero_le _⟩) hS (fun _ h => h) (fun r2 s3 H locs h hP hS => ?_)
  refine lv_if_ne (tgt := 21) hx hb dX11_within__16 (by decide) (fun c1 => ?_) (fun c1 => ?_)
  · have h := h.1 (b2i_t c1)
    refine lv_iconst (v := (0 : Int32)) hx hb dX11_within__21 (by decide) ?_
    refine lv_istore_n (lv' := [(2, .int (0 : Int32)), (0, .ref (B + v0)), (1, .int v1)]) hx hb dX11_within__22 rfl hl (by decide) rfl (fun ls hl => ?_)
    refine lv_iconst (v := (0 : Int32)) hx hb dX11_within__23 (by decide) ?_
    refine lv_istore_n (lv' := [(3, .int (0 : Int32)), (2, .int (0 : Int32)), (0, .ref (B + v0)), (1, .int v1)]) hx hb dX11_within__24 rfl hl (by decide) rfl (fun ls hl => ?_)
    obtain ⟨j, h⟩ := h
    exact tX11_within__25 X j _ _ _ _ _ h0 h _ _ _ hP hS (lv_sub hl [2, 3, 1, 0] rfl)
  · have h := h.2 (b2i_f c1)
    refine lv_iconst (v := (-1 : Int32)) hx hb dX11_within__19 (by decide) ?_
    exact rk_iret X rfl kM_len h hP hS dX11_within__20

theorem hd_X11_edgeOf : yX11_edgeOf.cls = RX11 ∧ yX11_edgeOf.cls ≠ "java/lang/invoke/MethodHandle" ∧ yX11_edgeOf.cls ≠ "java/lang/invoke/VarHandle" ∧ (parseMethodDescriptor yX11_edgeOf.desc).map (fun d => d.parameters.length) = some 1 := by decide +kernel
set_option maxRecDepth 100000 in
set_option maxHeartbeats 4000000 in
theorem tX11_edgeOf_131 {p : Program} {l : Launch} {e : Env} {s : State} {m : MethodId} {av : Array Value} {below : List Frame} {meth : Method} {c : Code} {D : va_G} {cy : Nat → ClassId} {B : Nat} (X : kC p s m av meth c cX11_edgeOf 7 (some .int) WALL RX11 D cy (AW B 26)) {post : Int32 → St → Prop} {R4 : Nat → Int32 → Int32 → Int32 → St → Prop} (hR4 : ∀ (v0 : Nat) (v1 : Int32) (v2 : Int32) (v3 : Int32) (σ : St), kM[v0]? = some 11 → R4 v0 v1 v2 v3 σ → ∀ (H : Heap) (locs : List Loc) (ls : Array Slot), va_P D vwCl (wW cy B kM σ) H → va_S (AW B 26) s.heap H locs → lv_has ls 7 [(0, .ref (B + v0)), (1, .int v1), (2, .int v2), (3, .int v3)] → W p l e (rmD 1) s m av below meth c H locs 0 0 (MQ below (va_Qi post (BW D cy B kM) (AW B 26)) av s 0 0 (AW B 26)) (F0 m 4 ls [])) {R17 : Nat → Int32 → Int32 → Int32 → Int32 → St → Prop} (hR17 : ∀ (v0 : Nat) (v1 : Int32) (v2 : Int32) (v3 : Int32) (v4 : Int32) (σ : St), kM[v0]? = some 11 → R17 v0 v1 v2 v3 v4 σ → ∀ (H : Heap) (locs : List Loc) (ls : Array Slot), va_P D vwCl (wW cy B kM σ) H → va_S (AW B 26) s.heap H locs → lv_has ls 7 [(0, .ref (B + v0)), (1, .int v1), (2, .int v2), (3, .int v3), (4, .int v4)] → W p l e (rmD 1) s m av below meth c H locs 0 0 (MQ below (va_Qi post (BW D cy B kM) (AW B 26)) av s 0 0 (AW B 26)) (F0 m 17 ls [])) : ∀ (v0 : Nat) (v1 : Int32) (v3 : Int32) (v4 : Int32) (t0 : Int32) (t1 : Int32) (σ : St), kM[v0]? = some 11 → wX11_edgeOf_131 post R4 R17 v0 v1 v3 v4 t0 t1 σ → ∀ (H : Heap) (locs : List Loc) (ls : Array Slot), va_P D vwCl (wW cy B kM σ) H → va_S (AW B 26) s.heap H locs → lv_has ls 7 [(0, .ref (B + v0)), (1, .int v1), (3, .int v3), (4, .int v4)] → W p l e (rmD 1) s m av below meth c H locs 0 0 (MQ below (va_Qi post (BW D cy B kM) (AW B 26)) av s 0 0 (AW B 26)) (F0 m 131 ls [.int t1, .int t0]) := by
  obtain ⟨⟨hx, hb, hml, hown, hts⟩, hr, hlk, hK, hN, hZ⟩ := id X
  have hD : ∀ σ, va_D (AW B 26) (wW cy B kM σ) := AW_D kM_len
  intro v0 v1 v3 v4 t0 t1 σ h0 h H locs ls hP hS hl
  unfold wX11_edgeOf_131 at h
  refine lv_iadd hx hb dX11_edgeOf_131 ?_
  refine lv_topi (fun x1 ex1 => ?_)
  have h := h x1 ex1
  refine lv_istore_n (lv' := [(2, .int x1), (0, .ref (B + v0)), (1, .int v1), (3, .int v3), (4, .int v4)]) hx hb dX11_edgeOf_132 rfl hl (by decide) rfl (fun ls hl => ?_)
  obtain ⟨x2, ex2⟩ : ∃ y : Int32, y = v4 + (1 : Int32) := ⟨_, rfl⟩
  have h := h x2 ex2
  refine lv_iinc (v := x2) (lv' := [(4, .int x2), (2, .int x1), (0, .ref (B + v0)), (1, .int v1), (3, .int v3)]) hx hb dX11_edgeOf_133 hl (k := 4) rfl (by rw [ex2]; rfl) (by decide) rfl (fun ls hl => ?_)
  refine lv_goto (tgt := 17) hx hb dX11_edgeOf_136 (by decide) ?_
  exact hR17 _ _ _ _ _ _ h0 h _ _ _ hP hS (lv_sub hl [2, 3, 1, 4, 0] rfl)
set_option maxRecDepth 100000 in
set_option maxHeartbeats 4000000 in
theorem tX11_edgeOf_126 {p : Program} {l : Launch} {e : Env} {s : State} {m : MethodId} {av : Array Value} {below : List Frame} {meth : Method} {c : Code} {D : va_G} {cy : Nat → ClassId} {B : Nat} (X : kC p s m av meth c cX11_edgeOf 7 (some .int) WALL RX11 D cy (AW B 26)) {post : Int32 → St → Prop} {R4 : Nat → Int32 → Int32 → Int32 → St → Prop} (hR4 : ∀ (v0 : Nat) (v1 : Int32) (v2 : Int32) (v3 : Int32) (σ : St), kM[v0]? = some 11 → R4 v0 v1 v2 v3 σ → ∀ (H : Heap) (locs : List Loc) (ls : Array Slot), va_P D vwCl (wW cy B kM σ) H → va_S (AW B 26) s.heap H locs → lv_has ls 7 [(0, .ref (B + v0)), (1, .int v1), (2, .int v2), (3, .int v3)] → W p l e (rmD 1) s m av below meth c H locs 0 0 (MQ below (va_Qi post (BW D cy B kM) (AW B 26)) av s 0 0 (AW B 26)) (F0 m 4 ls [])) {R17 : Nat → Int32 → Int32 → Int32 → Int32 → St → Prop} (hR17 : ∀ (v0 : Nat) (v1 : Int32) (v2 : Int32) (v3 : Int32) (v4 : Int32) (σ : St), kM[v0]? = some 11 → R17 v0 v1 v2 v3 v4 σ → ∀ (H : Heap) (locs : List Loc) (ls : Array Slot), va_P D vwCl (wW cy B kM σ) H → va_S (AW B 26) s.heap H locs → lv_has ls 7 [(0, .ref (B + v0)), (1, .int v1), (2, .int v2), (3, .int v3), (4, .int v4)] → W p l e (rmD 1) s m av below meth c H locs 0 0 (MQ below (va_Qi post (BW D cy B kM) (AW B 26)) av s 0 0 (AW B 26)) (F0 m 17 ls [])) : ∀ (v0 : Nat) (v1 : Int32) (v3 : Int32) (v4 : Int32) (t0 : Int32) (σ : St), kM[v0]? = some 11 → wX11_edgeOf_126 post R4 R17 v0 v1 v3 v4 t0 σ → ∀ (H : Heap) (locs : List Loc) (ls : Array Slot), va_P D vwCl (wW cy B kM σ) H → va_S (AW B 26) s.heap H locs → lv_has ls 7 [(0, .ref (B + v0)), (1, .int v1), (3, .int v3), (4, .int v4)] → W p l e (rmD 1) s m av below meth c H locs 0 0 (MQ below (va_Qi post (BW D cy B kM) (AW B 26)) av s 0 0 (AW B 26)) (F0 m 126 ls [.int t0]) := by
  obtain ⟨⟨hx, hb, hml, hown, hts⟩, hr, hlk, hK, hN, hZ⟩ := id X
  have hD : ∀ σ, va_D (AW B 26) (wW cy B kM σ) := AW_D kM_len
  intro v0 v1 v3 v4 t0 σ h0 h H locs ls hP hS hl
  unfold wX11_edgeOf_126 at h
  refine lv_iconst (v := (1 : Int32)) hx hb dX11_edgeOf_126 (by decide) ?_
  refine lv_goto (tgt := 131) hx hb dX11_edgeOf_127 (by decide) ?_
  exact tX11_edgeOf_131 X hR4 hR17 _ _ _ _ _ _ _ h0 h _ _ _ hP hS (lv_sub hl [0, 1, 2, 3] rfl)
set_option maxRecDepth 100000 in
set_option maxHeartbeats 4000000 in
theorem tX11_edgeOf_107 {p : Program} {l : Launch} {e : Env} {s : State} {m : MethodId} {av : Array Value} {below : List Frame} {meth : Method} {c : Code} {D : va_G} {cy : Nat → ClassId} {B : Nat} (X : kC p s m av meth c cX11_edgeOf 7 (some .int) WALL RX11 D cy (AW B 26)) {post : Int32 → St → Prop} {R4 : Nat → Int32 → Int32 → Int32 → St → Prop} (hR4 : ∀ (v0 : Nat) (v1 : Int32) (v2 : Int32) (v3 : Int32) (σ : St), kM[v0]? = some 11 → R4 v0 v1 v2 v3 σ → ∀ (H : Heap) (locs : List Loc) (ls : Array Slot), va_P D vwCl (wW cy B kM σ) H → va_S (AW B 26) s.heap H locs → lv_has ls 7 [(0, .ref (B + v0)), (1, .int v1), (2, .int v2), (3, .int v3)] → W p l e (rmD 1) s m av below meth c H locs 0 0 (MQ below (va_Qi post (BW D cy B kM) (AW B 26)) av s 0 0 (AW B 26)) (F0 m 4 ls [])) {R17 : Nat → Int32 → Int32 → Int32 → Int32 → St → Prop} (hR17 : ∀ (v0 : Nat) (v1 : Int32) (v2 : Int32) (v3 : Int32) (v4 : Int32) (σ : St), kM[v0]? = some 11 → R17 v0 v1 v2 v3 v4 σ → ∀ (H : Heap) (locs : List Loc) (ls : Array Slot), va_P D vwCl (wW cy B kM σ) H → va_S (AW B 26) s.heap H locs → lv_has ls 7 [(0, .ref (B + v0)), (1, .int v1), (2, .int v2), (3, .int v3), (4, .int v4)] → W p l e (rmD 1) s m av below meth c H locs 0 0 (MQ below (va_Qi post (BW D cy B kM) (AW B 26)) av s 0 0 (AW B 26)) (F0 m 17 ls [])) : ∀ (v0 : Nat) (v1 : Int32) (v2 : Int32) (v3 : Int32) (v4 : Int32) (v5 : Int32) (t0 : Int32) (σ : St), kM[v0]? = some 11 → wX11_edgeOf_107 post R4 R17 v0 v1 v2 v3 v4 v5 t0 σ → ∀ (H : Heap) (locs : List Loc) (ls : Array Slot), va_P D vwCl (wW cy B kM σ) H → va_S (AW B 26) s.heap H locs → lv_has ls 7 [(0, .ref (B + v0)), (1, .int v1), (2, .int v2), (3, .int v3), (4, .int v4), (5, .int v5)] → W p l e (rmD 1) s m av below meth c H locs 0 0 (MQ below (va_Qi post (BW D cy B kM) (AW B 26)) av s 0 0 (AW B 26)) (F0 m 107 ls [.int t0]) := by
  obtain ⟨⟨hx, hb, hml, hown, hts⟩, hr, hlk, hK, hN, hZ⟩ := id X
  have hD : ∀ σ, va_D (AW B 26) (wW cy B kM σ) := AW_D kM_len
  intro v0 v1 v2 v3 v4 v5 t0 σ h0 h H locs ls hP hS hl
  unfold wX11_edgeOf_107 at h
  refine lv_istore (lv' := [(6, .int t0), (0, .ref (B + v0)), (1, .int v1), (2, .int v2), (3, .int v3), (4, .int v4), (5, .int v5)]) hx hb dX11_edgeOf_107 hl (by decide) rfl (fun ls hl => ?_)
  refine lv_iload_n hx hb dX11_edgeOf_109 rfl (lv_at hl 3 rfl) ?_
  refine lv_iload hx hb dX11_edgeOf_110 (lv_at hl 6 rfl) ?_
  refine lv_if_lt (tgt := 126) hx hb dX11_edgeOf_112 (by decide) (fun c1 => ?_) (fun c1 => ?_)
  · have h := h.1 c1
    exact tX11_edgeOf_126 X hR4 hR17 _ _ _ _ _ _ h0 h _ _ _ hP hS (lv_sub hl [1, 2, 4, 5] rfl)
  · have h := h.2 c1
    refine lv_iload_n hx hb dX11_edgeOf_115 rfl (lv_at hl 2 rfl) ?_
    refine lv_iload hx hb dX11_edgeOf_116 (lv_at hl 0 rfl) ?_
    refine lv_iconst (v := (4 : Int32)) hx hb dX11_edgeOf_118 (by decide) ?_
    refine lv_idiv hx hb dX11_edgeOf_119 (by decide) ?_
    refine lv_ishr hx hb dX11_edgeOf_120 ?_
    refine lv_iconst (v := (1 : Int32)) hx hb dX11_edgeOf_121 (by decide) ?_
    refine lv_iand hx hb dX11_edgeOf_122 ?_
    refine lv_if_ne (tgt := 130) hx hb dX11_edgeOf_123 (by decide) (fun c2 => ?_) (fun c2 => ?_)
    · have h := h.1 c2
      refine lv_iconst (v := (0 : Int32)) hx hb dX11_edgeOf_130 (by decide) ?_
      exact tX11_edgeOf_131 X hR4 hR17 _ _ _ _ _ _ _ h0 h _ _ _ hP hS (lv_sub hl [1, 2, 4, 5] rfl)
    · have h := h.2 c2
      exact tX11_edgeOf_126 X hR4 hR17 _ _ _ _ _ _ h0 h _ _ _ hP hS (lv_sub hl [1, 2, 4, 5] rfl)
set_option maxRecDepth 100000 in
set_option maxHeartbeats 4000000 in
theorem tX11_edgeOf_17 {p : Program} {l : Launch} {e : Env} {s : State} {m : MethodId} {av : Array Value} {below : List Frame} {meth : Method} {c : Code} {D : va_G} {cy : Nat → ClassId} {B : Nat} (X : kC p s m av meth c cX11_edgeOf 7 (some .int) WALL RX11 D cy (AW B 26)) {post : Int32 → St → Prop} {R4 : Nat → Int32 → Int32 → Int32 → St → Prop} (hR4 : ∀ (v0 : Nat) (v1 : Int32) (v2 : Int32) (v3 : Int32) (σ : St), kM[v0]? = some 11 → R4 v0 v1 v2 v3 σ → ∀ (H : Heap) (locs : List Loc) (ls : Array Slot), va_P D vwCl (wW cy B kM σ) H → va_S (AW B 26) s.heap H locs → lv_has ls 7 [(0, .ref (B + v0)), (1, .int v1), (2, .int v2), (3, .int v3)] → W p l e (rmD 1) s m av below meth c H locs 0 0 (MQ below (va_Qi post (BW D cy B kM) (AW B 26)) av s 0 0 (AW B 26)) (F0 m 4 ls [])) : ∀ (n : Nat) (v0 : Nat) (v1 : Int32) (v2 : Int32) (v3 : Int32) (v4 : Int32) (σ : St), kM[v0]? = some 11 → wX11_edgeOf_17 post R4 n v0 v1 v2 v3 v4 σ → ∀ (H : Heap) (locs : List Loc) (ls : Array Slot), va_P D vwCl (wW cy B kM σ) H → va_S (AW B 26) s.heap H locs → lv_has ls 7 [(0, .ref (B + v0)), (1, .int v1), (2, .int v2), (3, .int v3), (4, .int v4)] → W p l e (rmD 1) s m av below meth c H locs 0 0 (MQ below (va_Qi post (BW D cy B kM) (AW B 26)) av s 0 0 (AW B 26)) (F0 m 17 ls []) := by
  obtain ⟨⟨hx, hb, hml, hown, hts⟩, hr, hlk, hK, hN, hZ⟩ := id X
  have hD : ∀ σ, va_D (AW B 26) (wW cy B kM σ) := AW_D kM_len
  intro n
  induction n with
  | zero => intro v0 v1 v2 v3 v4 σ h0 h; exact absurd h id
  | succ n ih =>
    intro v0 v1 v2 v3 v4 σ h0 h H locs ls hP hS hl
    rw [wX11_edgeOf_17] at h
    refine lv_iload hx hb dX11_edgeOf_17 (lv_at hl 4 rfl) ?_
    refine lv_aload_n hx hb dX11_edgeOf_19 rfl (lv_at hl 0 rfl) ?_
    refine lv_iload_n hx hb dX11_edgeOf_20 rfl (lv_at hl 3 rfl) ?_
    refine rk_calli (va_runV (As := [.int v3]) (rest := [.int v4]) X.1 (mX11_legsAt l D cy B v0 v3 σ h0 h) (cwV 1 hts (gW_V (wi_38 _ (List.mem_of_getElem? (i := 15) rfl)) (wi_38 _ (List.mem_of_getElem? (i := 16) rfl)) (wi_38 _ (List.mem_of_getElem? (i := 17) rfl)) (wi_30 _ (List.mem_of_getElem? (i := 9) rfl)) (wi_35 _ (List.mem_of_getElem? (i := 9) rfl))) rfl rfl rfl hd_X11_legsAt ⟨Nat.le_of_ble_eq_true rfl, Nat.le_of_ble_eq_true rfl⟩) (rk_preV X hS hP h0 rfl rfl [.int v3]) rfl rfl hl.1 rfl (lv_room (Nat.le_of_ble_eq_true rfl)) dX11_edgeOf_21 ⟨Nat.zero_le _, Nat.zero_le _⟩) hS (fun _ h => h) (fun r1 s1 H locs h hP hS => ?_)
    refine lv_icmp_ge (tgt := 139) hx hb dX11_edgeOf_24 (by decide) (fun c1 => ?_) (fun c1 => ?_)
    · have h := h.1 c1
      obtain ⟨x1, ex1⟩ : ∃ y : Int32, y = v3 + (1 : Int32) := ⟨_, rfl⟩
      have h := h x1 ex1
      refine lv_iinc (v := x1) (lv' := [(3, .int x1), (0, .ref (B + v0)), (1, .int v1), (2, .int v2), (4, .int v4)]) hx hb dX11_edgeOf_139 hl (k := 3) rfl (by rw [ex1]; rfl) (by decide) rfl (fun ls hl => ?_)
      refine lv_goto (tgt := 4) hx hb dX11_edgeOf_142 (by decide) ?_
      exact hR4 _ _ _ _ _ h0 h _ _ _ hP hS (lv_sub hl [1, 2, 3, 0] rfl)
    · have h := h.2 c1
      refine lv_iload_n hx hb dX11_edgeOf_27 rfl (lv_at hl 1 rfl) ?_
      refine lv_iload_n hx hb dX11_edgeOf_28 rfl (lv_at hl 3 rfl) ?_
      refine lv_ishr hx hb dX11_edgeOf_29 ?_
      refine lv_iconst (v := (1 : Int32)) hx hb dX11_edgeOf_30 (by decide) ?_
      refine lv_iand hx hb dX11_edgeOf_31 ?_
      refine lv_iconst (v := (1 : Int32)) hx hb dX11_edgeOf_32 (by decide) ?_
      refine lv_icmp_ne (tgt := 139) hx hb dX11_edgeOf_33 (by decide) (fun c2 => ?_) (fun c2 => ?_)
      · have h := h.1 c2
        obtain ⟨x2, ex2⟩ : ∃ y : Int32, y = v3 + (1 : Int32) := ⟨_, rfl⟩
        have h := h x2 ex2
        refine lv_iinc (v := x2) (lv' := [(3, .int x2), (0, .ref (B + v0)), (1, .int v1), (2, .int v2), (4, .int v4)]) hx hb dX11_edgeOf_139 hl (k := 3) rfl (by rw [ex2]; rfl) (by decide) rfl (fun ls hl => ?_)
        refine lv_goto (tgt := 4) hx hb dX11_edgeOf_142 (by decide) ?_
        exact hR4 _ _ _ _ _ h0 h _ _ _ hP hS (lv_sub hl [1, 2, 3, 0] rfl)
      · have h := h.2 c2
        refine lv_aload_n hx hb dX11_edgeOf_36 rfl (lv_at hl 0 rfl) ?_
        refine lv_iconst (v := (4 : Int32)) hx hb dX11_edgeOf_37 (by decide) ?_
        refine lv_iload_n hx hb dX11_edgeOf_38 rfl (lv_at hl 3 rfl) ?_
        refine lv_imul hx hb dX11_edgeOf_39 ?_
        refine lv_iload hx hb dX11_edgeOf_40 (lv_at hl 4 rfl) ?_
        refine lv_iadd hx hb dX11_edgeOf_42 ?_
        refine rk_calli (va_runV (As := [.int (((4 : Int32) * v3) + v4)]) (rest := []) X.1 (mX11_wireAt l D cy B v0 (((4 : Int32) * v3) + v4) s1 h0 h) (cwV 1 hts (gW_V (wi_39 _ (List.mem_of_getElem? (i := 1) rfl)) (wi_39 _ (List.mem_of_getElem? (i := 2) rfl)) (wi_39 _ (List.mem_of_getElem? (i := 3) rfl)) (wi_30 _ (List.mem_of_getElem? (i := 9) rfl)) (wi_38 _ (List.mem_of_getElem? (i := 22) rfl))) rfl rfl rfl hd_X11_wireAt ⟨Nat.le_of_ble_eq_true rfl, Nat.le_of_ble_eq_true rfl⟩) (rk_preV X hS hP h0 rfl rfl [.int (((4 : Int32) * v3) + v4)]) rfl rfl hl.1 rfl (lv_room (Nat.le_of_ble_eq_true rfl)) dX11_edgeOf_43 ⟨Nat.zero_le _, Nat.zero_le _⟩) hS (fun _ h => h) (fun r2 s2 H locs h hP hS => ?_)
        refine lv_istore (lv' := [(5, .int r2), (0, .ref (B + v0)), (1, .int v1), (2, .int v2), (3, .int v3), (4, .int v4)]) hx hb dX11_edgeOf_46 hl (by decide) rfl (fun ls hl => ?_)
        refine lv_iload hx hb dX11_edgeOf_48 (lv_at hl 0 rfl) ?_
        refine lv_if_ge (tgt := 57) hx hb dX11_edgeOf_50 (by decide) (fun c3 => ?_) (fun c3 => ?_)
        · have h := h.1 c3
          refine lv_aload_n hx hb dX11_edgeOf_57 rfl (lv_at hl 1 rfl) ?_
          refine rk_get X hP (C := RX11) (T := TX11) (N := 44) (ci := 11) wix_11 h0 rfl rfl 30 (by decide) (wi_29 _ (List.mem_of_getElem? (i := 13) rfl)) rfl rfl dX11_edgeOf_58 ?_
          refine lv_bipush (v := (96 : Int32)) hx hb dX11_edgeOf_61 (by decide) ?_
          refine lv_iconst (v := (2 : Int32)) hx hb dX11_edgeOf_63 (by decide) ?_
          refine lv_iload hx hb dX11_edgeOf_64 (lv_at hl 0 rfl) ?_
          refine lv_imul hx hb dX11_edgeOf_66 ?_
          refine lv_iadd hx hb dX11_edgeOf_67 ?_
          refine lv_topi (fun x3 ex3 => ?_)
          have h := h x3 ex3
          obtain ⟨b1, h⟩ := h
          refine rk_iald X hP (n := 117) (klM_X11_30 h0) (fun _ _ => rfl) b1 dX11_edgeOf_68 ?_
          refine lv_iconst (v := (4 : Int32)) hx hb dX11_edgeOf_69 (by decide) ?_
          refine lv_iload_n hx hb dX11_edgeOf_70 rfl (lv_at hl 4 rfl) ?_
          refine lv_imul hx hb dX11_edgeOf_71 ?_
          refine lv_iload hx hb dX11_edgeOf_72 (lv_at hl 5 rfl) ?_
          refine lv_iadd hx hb dX11_edgeOf_74 ?_
          refine lv_icmp_ne (tgt := 95) hx hb dX11_edgeOf_75 (by decide) (fun c4 => ?_) (fun c4 => ?_)
          · have h := h.1 c4
            refine lv_aload_n hx hb dX11_edgeOf_95 rfl (lv_at hl 1 rfl) ?_
            refine rk_get X hP (C := RX11) (T := TX11) (N := 44) (ci := 11) wix_11 h0 rfl rfl 30 (by decide) (wi_29 _ (List.mem_of_getElem? (i := 13) rfl)) rfl rfl dX11_edgeOf_96 ?_
            refine lv_bipush (v := (96 : Int32)) hx hb dX11_edgeOf_99 (by decide) ?_
            refine lv_iconst (v := (2 : Int32)) hx hb dX11_edgeOf_101 (by decide) ?_
            refine lv_iload hx hb dX11_edgeOf_102 (lv_at hl 0 rfl) ?_
            refine lv_imul hx hb dX11_edgeOf_104 ?_
            refine lv_iadd hx hb dX11_edgeOf_105 ?_
            refine lv_topi (fun x4 ex4 => ?_)
            have h := h x4 ex4
            obtain ⟨b2, h⟩ := h
            refine rk_iald X hP (n := 117) (klM_X11_30 h0) (fun _ _ => rfl) b2 dX11_edgeOf_106 ?_
            exact tX11_edgeOf_107 X hR4 ih _ _ _ _ _ _ _ _ h0 h _ _ _ hP hS (lv_sub hl [1, 2, 3, 4, 5, 0] rfl)
          · have h := h.2 c4
            refine lv_aload_n hx hb dX11_edgeOf_78 rfl (lv_at hl 1 rfl) ?_
            refine rk_get X hP (C := RX11) (T := TX11) (N := 44) (ci := 11) wix_11 h0 rfl rfl 30 (by decide) (wi_29 _ (List.mem_of_getElem? (i := 13) rfl)) rfl rfl dX11_edgeOf_79 ?_
            refine lv_bipush (v := (96 : Int32)) hx hb dX11_edgeOf_82 (by decide) ?_
            refine lv_iconst (v := (2 : Int32)) hx hb dX11_edgeOf_84 (by decide) ?_
            refine lv_iload hx hb dX11_edgeOf_85 (lv_at hl 0 rfl) ?_
            refine lv_imul hx hb dX11_edgeOf_87 ?_
            refine lv_iadd hx hb dX11_edgeOf_88 ?_
            refine lv_iconst (v := (1 : Int32)) hx hb dX11_edgeOf_89 (by decide) ?_
            refine lv_iadd hx hb dX11_edgeOf_90 ?_
            refine lv_topi (fun x5 ex5 => ?_)
            have h := h x5 ex5
            obtain ⟨b3, h⟩ := h
            refine rk_iald X hP (n := 117) (klM_X11_30 h0) (fun _ _ => rfl) b3 dX11_edgeOf_91 ?_
            refine lv_goto (tgt := 107) hx hb dX11_edgeOf_92 (by decide) ?_
            exact tX11_edgeOf_107 X hR4 ih _ _ _ _ _ _ _ _ h0 h _ _ _ hP hS (lv_sub hl [1, 2, 3, 4, 5, 0] rfl)
        · have h := h.2 c3
          refine lv_iconst (v := (-1 : Int32)) hx hb dX11_edgeOf_53 (by decide) ?_
          refine lv_goto (tgt := 107) hx hb dX11_edgeOf_54 (by decide) ?_
          exact tX11_edgeOf_107 X hR4 ih _ _ _ _ _ _ _ _ h0 h _ _ _ hP hS (lv_sub hl [1, 2, 3, 4, 5, 0] rfl)
set_option maxRecDepth 100000 in
set_option maxHeartbeats 4000000 in
theorem tX11_edgeOf_4 {p : Program} {l : Launch} {e : Env} {s : State} {m : MethodId} {av : Array Value} {below : List Frame} {meth : Method} {c : Code} {D : va_G} {cy : Nat → ClassId} {B : Nat} (X : kC p s m av meth c cX11_edgeOf 7 (some .int) WALL RX11 D cy (AW B 26)) {post : Int32 → St → Prop} : ∀ (n : Nat) (v0 : Nat) (v1 : Int32) (v2 : Int32) (v3 : Int32) (σ : St), kM[v0]? = some 11 → wX11_edgeOf_4 post n v0 v1 v2 v3 σ → ∀ (H : Heap) (locs : List Loc) (ls : Array Slot), va_P D vwCl (wW cy B kM σ) H → va_S (AW B 26) s.heap H locs → lv_has ls 7 [(0, .ref (B + v0)), (1, .int v1), (2, .int v2), (3, .int v3)] → W p l e (rmD 1) s m av below meth c H locs 0 0 (MQ below (va_Qi post (BW D cy B kM) (AW B 26)) av s 0 0 (AW B 26)) (F0 m 4 ls []) := by
  obtain ⟨⟨hx, hb, hml, hown, hts⟩, hr, hlk, hK, hN, hZ⟩ := id X
  have hD : ∀ σ, va_D (AW B 26) (wW cy B kM σ) := AW_D kM_len
  intro n
  induction n with
  | zero => intro v0 v1 v2 v3 σ h0 h; exact absurd h id
  | succ n ih =>
    intro v0 v1 v2 v3 σ h0 h H locs ls hP hS hl
    rw [wX11_edgeOf_4] at h
    refine lv_iload_n hx hb dX11_edgeOf_4 rfl (lv_at hl 3 rfl) ?_
    refine lv_aload_n hx hb dX11_edgeOf_5 rfl (lv_at hl 0 rfl) ?_
    refine rk_get X hP (C := RX11) (T := TX11) (N := 44) (ci := 11) wix_11 h0 rfl rfl 16 (by decide) (wi_29 _ (List.mem_of_getElem? (i := 1) rfl)) rfl rfl dX11_edgeOf_6 ?_
    refine lv_iconst (v := (0 : Int32)) hx hb dX11_edgeOf_9 (by decide) ?_
    have b1 : vp_in (0 : Int32) 2 := by unfold vp_in; decide
    refine rk_iald X hP (n := 2) (klM_X11_16 h0) (fun _ _ => rfl) b1 dX11_edgeOf_10 ?_
    refine lv_icmp_ge (tgt := 145) hx hb dX11_edgeOf_11 (by decide) (fun c1 => ?_) (fun c1 => ?_)
    · have h := h.1 c1
      refine lv_iload_n hx hb dX11_edgeOf_145 rfl (lv_at hl 2 rfl) ?_
      exact rk_iret X rfl kM_len h hP hS dX11_edgeOf_146
    · have h := h.2 c1
      refine lv_iconst (v := (0 : Int32)) hx hb dX11_edgeOf_14 (by decide) ?_
      refine lv_istore (lv' := [(4, .int (0 : Int32)), (0, .ref (B + v0)), (1, .int v1), (2, .int v2), (3, .int v3)]) hx hb dX11_edgeOf_15 hl (by decide) rfl (fun ls hl => ?_)
      obtain ⟨j, h⟩ := h
      exact tX11_edgeOf_17 X ih j _ _ _ _ _ _ h0 h _ _ _ hP hS (lv_sub hl [1, 2, 3, 4, 0] rfl)
set_option maxRecDepth 100000 in
set_option maxHeartbeats 4000000 in
theorem mX11_edgeOf (l : Launch) (D : va_G) (cy : Nat → ClassId) (B : Nat) (v0 : Nat) (v1 : Int32) (σ : St) (h0 : kM[v0]? = some 11) {post : Int32 → St → Prop} (h : wX11_edgeOf v0 v1 σ post) : Met l yX11_edgeOf (Cond.code yX11_edgeOf cX11_edgeOf 7 (some .int) :: WALL) (rmD 1) (PcW D cy B kM σ [.ref (B + v0), .int v1]) (va_Qi post (BW D cy B kM) (AW B 26)) 0 0 (AW B 26) := by
  refine Met.ofK (cc := cX11_edgeOf) (maxL := 7) (ret := (some .int)) (by decide +kernel) rfl kM_len ?_
  intro p e s m below meth c X hP
  obtain ⟨⟨hx, hb, hml, hown, hts⟩, hr, hlk, hK, hN, hZ⟩ := id X
  have hD : ∀ σ, va_D (AW B 26) (wW cy B kM σ) := AW_D kM_len
  have hS : va_S (AW B 26) s.heap s.heap [] := va_S.rf
  have hl := lv_entry ([.ref (B + v0), .int v1]) (n := 7) (Nat.le_of_ble_eq_true rfl)
  rw [lg_entry_eq]
  generalize (lg_sl ([.ref (B + v0), .int v1]) ++ List.replicate (7 - (lg_sl ([.ref (B + v0), .int v1])).length) Slot.unset).toArray = ls at hl ⊢
  have hl : lv_has ls 7 [(0, .ref (B + v0)), (1, .int v1)] := hl
  unfold wX11_edgeOf at h
  refine lv_iconst (v := (0 : Int32)) hx hb dX11_edgeOf_0 (by decide) ?_
  refine lv_istore_n (lv' := [(2, .int (0 : Int32)), (0, .ref (B + v0)), (1, .int v1)]) hx hb dX11_edgeOf_1 rfl hl (by decide) rfl (fun ls hl => ?_)
  refine lv_iconst (v := (0 : Int32)) hx hb dX11_edgeOf_2 (by decide) ?_
  refine lv_istore_n (lv' := [(3, .int (0 : Int32)), (2, .int (0 : Int32)), (0, .ref (B + v0)), (1, .int v1)]) hx hb dX11_edgeOf_3 rfl hl (by decide) rfl (fun ls hl => ?_)
  obtain ⟨j, h⟩ := h
  exact tX11_edgeOf_4 X j _ _ _ _ _ h0 h _ _ _ hP hS (lv_sub hl [2, 3, 1, 0] rfl)

theorem hd_X11_takesOn : yX11_takesOn.cls = RX11 ∧ yX11_takesOn.cls ≠ "java/lang/invoke/MethodHandle" ∧ yX11_takesOn.cls ≠ "java/lang/invoke/VarHandle" ∧ (parseMethodDescriptor yX11_takesOn.desc).map (fun d => d.parameters.length) = some 3 := by decide +kernel
set_option maxRecDepth 100000 in
set_option maxHeartbeats 4000000 in
theorem tX11_takesOn_123 {p : Program} {l : Launch} {e : Env} {s : State} {m : MethodId} {av : Array Value} {below : List Frame} {meth : Method} {c : Code} {D : va_G} {cy : Nat → ClassId} {B : Nat} (X : kC p s m av meth c cX11_takesOn 6 none WALL RX11 D cy (AW B 26)) {post : St → Prop} {REC : Nat → Int32 → Int32 → Int32 → St → (St → Prop) → Prop} {d : Nat} (hREC : ∀ (v0 : Nat) (v1 : Int32) (v2 : Int32) (v3 : Int32) (σ : St) (post : St → Prop), kM[v0]? = some 11 → REC v0 v1 v2 v3 σ post → Met l yX11_takesOn (Cond.code yX11_takesOn cX11_takesOn 6 none :: WALL) (rmD (d + 3)) (PcW D cy B kM σ [.ref (B + v0), .int v1, .int v2, .int v3]) (va_Qv post (BW D cy B kM) (AW B 26)) 0 0 (AW B 26)) {R57 : Nat → Int32 → Int32 → Int32 → Int32 → St → Prop} (hR57 : ∀ (v0 : Nat) (v1 : Int32) (v2 : Int32) (v3 : Int32) (v4 : Int32) (σ : St), kM[v0]? = some 11 → R57 v0 v1 v2 v3 v4 σ → ∀ (H : Heap) (locs : List Loc) (ls : Array Slot), va_P D vwCl (wW cy B kM σ) H → va_S (AW B 26) s.heap H locs → lv_has ls 6 [(0, .ref (B + v0)), (1, .int v1), (2, .int v2), (3, .int v3), (4, .int v4)] → W p l e (rmD (d + 4)) s m av below meth c H locs 0 0 (MQ below (va_Qv post (BW D cy B kM) (AW B 26)) av s 0 0 (AW B 26)) (F0 m 57 ls [])) : ∀ (v0 : Nat) (v1 : Int32) (v2 : Int32) (v3 : Int32) (v4 : Int32) (t0 : Nat) (t1 : Int32) (t2 : Int32) (t3 : Int32) (σ : St), kM[v0]? = some 11 → kM[t0]? = some 11 → wX11_takesOn_123 REC post R57 v0 v1 v2 v3 v4 t0 t1 t2 t3 σ → ∀ (H : Heap) (locs : List Loc) (ls : Array Slot), va_P D vwCl (wW cy B kM σ) H → va_S (AW B 26) s.heap H locs → lv_has ls 6 [(0, .ref (B + v0)), (1, .int v1), (2, .int v2), (3, .int v3), (4, .int v4)] → W p l e (rmD (d + 4)) s m av below meth c H locs 0 0 (MQ below (va_Qv post (BW D cy B kM) (AW B 26)) av s 0 0 (AW B 26)) (F0 m 123 ls [.int t3, .int t2, .int t1, .ref (B + t0)]) := by
  obtain ⟨⟨hx, hb, hml, hown, hts⟩, hr, hlk, hK, hN, hZ⟩ := id X
  have hD : ∀ σ, va_D (AW B 26) (wW cy B kM σ) := AW_D kM_len
  intro v0 v1 v2 v3 v4 t0 t1 t2 t3 σ h0 g0 h H locs ls hP hS hl
  unfold wX11_takesOn_123 at h
  refine rk_callv (va_runV (As := [.int t1, .int t2, .int t3]) (rest := []) X.1 (hREC t0 t1 t2 t3 σ _ g0 h) (cwV 3 hts (gW_V (wi_40 _ (List.mem_of_getElem? (i := 22) rfl)) (wi_40 _ (List.mem_of_getElem? (i := 23) rfl)) (wi_41 _ (List.mem_of_getElem? (i := 0) rfl)) (wi_30 _ (List.mem_of_getElem? (i := 9) rfl)) (wi_40 _ (List.mem_of_getElem? (i := 17) rfl))) rfl rfl rfl hd_X11_takesOn ⟨by simp only [rmD]; omega, by simp only [rmD]; omega⟩) (rk_preV X hS hP g0 rfl rfl [.int t1, .int t2, .int t3]) rfl rfl hl.1 rfl (lv_room (Nat.le_of_ble_eq_true rfl)) dX11_takesOn_123 ⟨Nat.zero_le _, Nat.zero_le _⟩) hS (fun _ h => h) (fun s1 H locs h hP hS => ?_)
  obtain ⟨x1, ex1⟩ : ∃ y : Int32, y = v4 + (1 : Int32) := ⟨_, rfl⟩
  have h := h x1 ex1
  refine lv_iinc (v := x1) (lv' := [(4, .int x1), (0, .ref (B + v0)), (1, .int v1), (2, .int v2), (3, .int v3)]) hx hb dX11_takesOn_126 hl (k := 4) rfl (by rw [ex1]; rfl) (by decide) rfl (fun ls hl => ?_)
  refine lv_goto (tgt := 57) hx hb dX11_takesOn_129 (by decide) ?_
  exact hR57 _ _ _ _ _ _ h0 h _ _ _ hP hS (lv_sub hl [1, 2, 3, 4, 0] rfl)
set_option maxRecDepth 100000 in
set_option maxHeartbeats 4000000 in
theorem tX11_takesOn_57 {p : Program} {l : Launch} {e : Env} {s : State} {m : MethodId} {av : Array Value} {below : List Frame} {meth : Method} {c : Code} {D : va_G} {cy : Nat → ClassId} {B : Nat} (X : kC p s m av meth c cX11_takesOn 6 none WALL RX11 D cy (AW B 26)) {post : St → Prop} {REC : Nat → Int32 → Int32 → Int32 → St → (St → Prop) → Prop} {d : Nat} (hREC : ∀ (v0 : Nat) (v1 : Int32) (v2 : Int32) (v3 : Int32) (σ : St) (post : St → Prop), kM[v0]? = some 11 → REC v0 v1 v2 v3 σ post → Met l yX11_takesOn (Cond.code yX11_takesOn cX11_takesOn 6 none :: WALL) (rmD (d + 3)) (PcW D cy B kM σ [.ref (B + v0), .int v1, .int v2, .int v3]) (va_Qv post (BW D cy B kM) (AW B 26)) 0 0 (AW B 26)) : ∀ (n : Nat) (v0 : Nat) (v1 : Int32) (v2 : Int32) (v3 : Int32) (v4 : Int32) (σ : St), kM[v0]? = some 11 → wX11_takesOn_57 REC post n v0 v1 v2 v3 v4 σ → ∀ (H : Heap) (locs : List Loc) (ls : Array Slot), va_P D vwCl (wW cy B kM σ) H → va_S (AW B 26) s.heap H locs → lv_has ls 6 [(0, .ref (B + v0)), (1, .int v1), (2, .int v2), (3, .int v3), (4, .int v4)] → W p l e (rmD (d + 4)) s m av below meth c H locs 0 0 (MQ below (va_Qv post (BW D cy B kM) (AW B 26)) av s 0 0 (AW B 26)) (F0 m 57 ls []) := by
  obtain ⟨⟨hx, hb, hml, hown, hts⟩, hr, hlk, hK, hN, hZ⟩ := id X
  have hD : ∀ σ, va_D (AW B 26) (wW cy B kM σ) := AW_D kM_len
  intro n
  induction n with
  | zero => intro v0 v1 v2 v3 v4 σ h0 h; exact absurd h id
  | succ n ih =>
    intro v0 v1 v2 v3 v4 σ h0 h H locs ls hP hS hl
    rw [wX11_takesOn_57] at h
    refine lv_iload hx hb dX11_takesOn_57 (lv_at hl 4 rfl) ?_
    refine lv_aload_n hx hb dX11_takesOn_59 rfl (lv_at hl 0 rfl) ?_
    refine rk_get X hP (C := RX11) (T := TX11) (N := 44) (ci := 11) wix_11 h0 rfl rfl 16 (by decide) (wi_29 _ (List.mem_of_getElem? (i := 1) rfl)) rfl rfl dX11_takesOn_60 ?_
    refine lv_iconst (v := (0 : Int32)) hx hb dX11_takesOn_63 (by decide) ?_
    have b1 : vp_in (0 : Int32) 2 := by unfold vp_in; decide
    refine rk_iald X hP (n := 2) (klM_X11_16 h0) (fun _ _ => rfl) b1 dX11_takesOn_64 ?_
    refine lv_icmp_ge (tgt := 132) hx hb dX11_takesOn_65 (by decide) (fun c1 => ?_) (fun c1 => ?_)
    · have h := h.1 c1
      exact rk_vret X kM_len h hP hS dX11_takesOn_132
    · have h := h.2 c1
      refine lv_iload_n hx hb dX11_takesOn_68 rfl (lv_at hl 2 rfl) ?_
      refine lv_iload hx hb dX11_takesOn_69 (lv_at hl 4 rfl) ?_
      refine lv_ishr hx hb dX11_takesOn_71 ?_
      refine lv_iconst (v := (1 : Int32)) hx hb dX11_takesOn_72 (by decide) ?_
      refine lv_iand hx hb dX11_takesOn_73 ?_
      refine lv_iconst (v := (1 : Int32)) hx hb dX11_takesOn_74 (by decide) ?_
      refine lv_icmp_ne (tgt := 81) hx hb dX11_takesOn_75 (by decide) (fun c2 => ?_) (fun c2 => ?_)
      · have h := h.1 c2
        refine lv_aload_n hx hb dX11_takesOn_81 rfl (lv_at hl 0 rfl) ?_
        refine rk_get X hP (C := RX11) (T := TX11) (N := 44) (ci := 11) wix_11 h0 rfl rfl 41 (by decide) (wi_29 _ (List.mem_of_getElem? (i := 21) rfl)) rfl rfl dX11_takesOn_82 ?_
        refine lv_iload_n hx hb dX11_takesOn_85 rfl (lv_at hl 1 rfl) ?_
        refine lv_iload hx hb dX11_takesOn_86 (lv_at hl 4 rfl) ?_
        obtain ⟨b2, h⟩ := h
        refine rk_iast X hP hD hS (n := 6) (klM_X11_41 h0) (fun _ _ => rfl) b2 dX11_takesOn_88 (fun H locs hP hS => ?_)
        obtain ⟨s1, es1⟩ : ∃ z : St, z = u1 σ (v0 + 24) v1.toNatClampNeg v4 := ⟨_, rfl⟩
        rw [← es1] at hP
        have h := h s1 es1
        refine lv_aload_n hx hb dX11_takesOn_89 rfl (lv_at hl 0 rfl) ?_
        refine lv_iload_n hx hb dX11_takesOn_90 rfl (lv_at hl 2 rfl) ?_
        refine lv_iconst (v := (1 : Int32)) hx hb dX11_takesOn_91 (by decide) ?_
        refine lv_iload hx hb dX11_takesOn_92 (lv_at hl 4 rfl) ?_
        refine lv_ishl hx hb dX11_takesOn_94 ?_
        refine lv_ior hx hb dX11_takesOn_95 ?_
        refine rk_calli (va_runV (As := [.int (v2 ||| ((1 : Int32) <<< (v4 &&& 31)))]) (rest := []) X.1 (mX11_edgeOf l D cy B v0 (v2 ||| ((1 : Int32) <<< (v4 &&& 31))) s1 h0 h) (cwV 1 hts (gW_V (wi_40 _ (List.mem_of_getElem? (i := 19) rfl)) (wi_40 _ (List.mem_of_getElem? (i := 20) rfl)) (wi_40 _ (List.mem_of_getElem? (i := 21) rfl)) (wi_30 _ (List.mem_of_getElem? (i := 9) rfl)) (wi_40 _ (List.mem_of_getElem? (i := 16) rfl))) rfl rfl rfl hd_X11_edgeOf ⟨by simp only [rmD]; omega, by simp only [rmD]; omega⟩) (rk_preV X hS hP h0 rfl rfl [.int (v2 ||| ((1 : Int32) <<< (v4 &&& 31)))]) rfl rfl hl.1 rfl (lv_room (Nat.le_of_ble_eq_true rfl)) dX11_takesOn_96 ⟨Nat.zero_le _, Nat.zero_le _⟩) hS (fun _ h => h) (fun r1 s2 H locs h hP hS => ?_)
        refine lv_istore (lv' := [(5, .int r1), (0, .ref (B + v0)), (1, .int v1), (2, .int v2), (3, .int v3), (4, .int v4)]) hx hb dX11_takesOn_99 hl (by decide) rfl (fun ls hl => ?_)
        refine lv_aload_n hx hb dX11_takesOn_101 rfl (lv_at hl 1 rfl) ?_
        refine lv_iload_n hx hb dX11_takesOn_102 rfl (lv_at hl 2 rfl) ?_
        refine lv_iconst (v := (1 : Int32)) hx hb dX11_takesOn_103 (by decide) ?_
        refine lv_iadd hx hb dX11_takesOn_104 ?_
        refine lv_iload_n hx hb dX11_takesOn_105 rfl (lv_at hl 3 rfl) ?_
        refine lv_iconst (v := (1 : Int32)) hx hb dX11_takesOn_106 (by decide) ?_
        refine lv_iload hx hb dX11_takesOn_107 (lv_at hl 5 rfl) ?_
        refine lv_ishl hx hb dX11_takesOn_109 ?_
        refine lv_ior hx hb dX11_takesOn_110 ?_
        refine lv_iload hx hb dX11_takesOn_111 (lv_at hl 0 rfl) ?_
        refine lv_iload_n hx hb dX11_takesOn_113 rfl (lv_at hl 4 rfl) ?_
        refine lv_icmp_le (tgt := 122) hx hb dX11_takesOn_114 (by decide) (fun c3 => ?_) (fun c3 => ?_)
        · have h := h.1 c3
          refine lv_iload_n hx hb dX11_takesOn_122 rfl (lv_at hl 4 rfl) ?_
          exact tX11_takesOn_123 X hREC ih _ _ _ _ _ _ _ _ _ _ h0 h0 h _ _ _ hP hS (lv_sub hl [1, 2, 3, 4, 5] rfl)
        · have h := h.2 c3
          refine lv_iload hx hb dX11_takesOn_117 (lv_at hl 0 rfl) ?_
          refine lv_goto (tgt := 123) hx hb dX11_takesOn_119 (by decide) ?_
          exact tX11_takesOn_123 X hREC ih _ _ _ _ _ _ _ _ _ _ h0 h0 h _ _ _ hP hS (lv_sub hl [1, 2, 3, 4, 5] rfl)
      · have h := h.2 c2
        refine lv_goto (tgt := 126) hx hb dX11_takesOn_78 (by decide) ?_
        obtain ⟨x1, ex1⟩ : ∃ y : Int32, y = v4 + (1 : Int32) := ⟨_, rfl⟩
        have h := h x1 ex1
        refine lv_iinc (v := x1) (lv' := [(4, .int x1), (0, .ref (B + v0)), (1, .int v1), (2, .int v2), (3, .int v3)]) hx hb dX11_takesOn_126 hl (k := 4) rfl (by rw [ex1]; rfl) (by decide) rfl (fun ls hl => ?_)
        refine lv_goto (tgt := 57) hx hb dX11_takesOn_129 (by decide) ?_
        exact ih _ _ _ _ _ _ h0 h _ _ _ hP hS (lv_sub hl [1, 2, 3, 4, 0] rfl)
set_option maxRecDepth 100000 in
set_option maxHeartbeats 4000000 in
theorem tX11_takesOn_27 {p : Program} {l : Launch} {e : Env} {s : State} {m : MethodId} {av : Array Value} {below : List Frame} {meth : Method} {c : Code} {D : va_G} {cy : Nat → ClassId} {B : Nat} (X : kC p s m av meth c cX11_takesOn 6 none WALL RX11 D cy (AW B 26)) {post : St → Prop} {REC : Nat → Int32 → Int32 → Int32 → St → (St → Prop) → Prop} {d : Nat} (hREC : ∀ (v0 : Nat) (v1 : Int32) (v2 : Int32) (v3 : Int32) (σ : St) (post : St → Prop), kM[v0]? = some 11 → REC v0 v1 v2 v3 σ post → Met l yX11_takesOn (Cond.code yX11_takesOn cX11_takesOn 6 none :: WALL) (rmD (d + 3)) (PcW D cy B kM σ [.ref (B + v0), .int v1, .int v2, .int v3]) (va_Qv post (BW D cy B kM) (AW B 26)) 0 0 (AW B 26)) : ∀ (n : Nat) (v0 : Nat) (v1 : Int32) (v4 : Int32) (σ : St), kM[v0]? = some 11 → wX11_takesOn_27 REC post n v0 v1 v4 σ → ∀ (H : Heap) (locs : List Loc) (ls : Array Slot), va_P D vwCl (wW cy B kM σ) H → va_S (AW B 26) s.heap H locs → lv_has ls 6 [(0, .ref (B + v0)), (1, .int v1), (4, .int v4)] → W p l e (rmD (d + 4)) s m av below meth c H locs 0 0 (MQ below (va_Qv post (BW D cy B kM) (AW B 26)) av s 0 0 (AW B 26)) (F0 m 27 ls []) := by
  obtain ⟨⟨hx, hb, hml, hown, hts⟩, hr, hlk, hK, hN, hZ⟩ := id X
  have hD : ∀ σ, va_D (AW B 26) (wW cy B kM σ) := AW_D kM_len
  intro n
  induction n with
  | zero => intro v0 v1 v4 σ h0 h; exact absurd h id
  | succ n ih =>
    intro v0 v1 v4 σ h0 h H locs ls hP hS hl
    rw [wX11_takesOn_27] at h
    refine lv_iload hx hb dX11_takesOn_27 (lv_at hl 2 rfl) ?_
    refine lv_iload_n hx hb dX11_takesOn_29 rfl (lv_at hl 1 rfl) ?_
    refine lv_icmp_ge (tgt := 53) hx hb dX11_takesOn_30 (by decide) (fun c1 => ?_) (fun c1 => ?_)
    · have h := h.1 c1
      exact rk_vret X kM_len h hP hS dX11_takesOn_53
    · have h := h.2 c1
      refine lv_aload_n hx hb dX11_takesOn_33 rfl (lv_at hl 0 rfl) ?_
      refine rk_get X hP (C := RX11) (T := TX11) (N := 44) (ci := 11) wix_11 h0 rfl rfl 42 (by decide) (wi_29 _ (List.mem_of_getElem? (i := 22) rfl)) rfl rfl dX11_takesOn_34 ?_
      refine lv_iload hx hb dX11_takesOn_37 (lv_at hl 2 rfl) ?_
      refine lv_aload_n hx hb dX11_takesOn_39 rfl (lv_at hl 0 rfl) ?_
      refine rk_get X hP (C := RX11) (T := TX11) (N := 44) (ci := 11) wix_11 h0 rfl rfl 41 (by decide) (wi_29 _ (List.mem_of_getElem? (i := 21) rfl)) rfl rfl dX11_takesOn_40 ?_
      refine lv_iload hx hb dX11_takesOn_43 (lv_at hl 2 rfl) ?_
      obtain ⟨b1, h⟩ := h
      refine rk_iald X hP (n := 6) (klM_X11_41 h0) (fun _ _ => rfl) b1 dX11_takesOn_45 ?_
      obtain ⟨b2, h⟩ := h
      refine rk_iast X hP hD hS (n := 6) (klM_X11_42 h0) (fun _ _ => rfl) b2 dX11_takesOn_46 (fun H locs hP hS => ?_)
      obtain ⟨s1, es1⟩ : ∃ z : St, z = u1 σ (v0 + 25) v4.toNatClampNeg (σ.1 (v0 + 24) v4.toNatClampNeg) := ⟨_, rfl⟩
      rw [← es1] at hP
      have h := h s1 es1
      obtain ⟨x1, ex1⟩ : ∃ y : Int32, y = v4 + (1 : Int32) := ⟨_, rfl⟩
      have h := h x1 ex1
      refine lv_iinc (v := x1) (lv' := [(4, .int x1), (0, .ref (B + v0)), (1, .int v1)]) hx hb dX11_takesOn_47 hl (k := 2) rfl (by rw [ex1]; rfl) (by decide) rfl (fun ls hl => ?_)
      refine lv_goto (tgt := 27) hx hb dX11_takesOn_50 (by decide) ?_
      exact ih _ _ _ _ h0 h _ _ _ hP hS (lv_sub hl [1, 2, 0] rfl)
set_option maxRecDepth 100000 in
set_option maxHeartbeats 4000000 in
theorem mX11_takesOn (l : Launch) (D : va_G) (cy : Nat → ClassId) (B : Nat) : ∀ (n : Nat) (v0 : Nat) (v1 : Int32) (v2 : Int32) (v3 : Int32) (σ : St) (post : St → Prop), kM[v0]? = some 11 → wX11_takesOn n v0 v1 v2 v3 σ post → Met l yX11_takesOn (Cond.code yX11_takesOn cX11_takesOn 6 none :: WALL) (rmD (n + 3)) (PcW D cy B kM σ [.ref (B + v0), .int v1, .int v2, .int v3]) (va_Qv post (BW D cy B kM) (AW B 26)) 0 0 (AW B 26) := by
  intro n
  induction n with
  | zero => intro v0 v1 v2 v3 σ post h0 h; exact absurd h id
  | succ d hREC =>
    intro v0 v1 v2 v3 σ post h0 h
    refine Met.ofK (cc := cX11_takesOn) (maxL := 6) (ret := none) (d := d + 4) (by decide +kernel) rfl kM_len ?_
    intro p e s m below meth c X hP
    obtain ⟨⟨hx, hb, hml, hown, hts⟩, hr, hlk, hK, hN, hZ⟩ := id X
    have hD : ∀ σ, va_D (AW B 26) (wW cy B kM σ) := AW_D kM_len
    have hS : va_S (AW B 26) s.heap s.heap [] := va_S.rf
    have hl := lv_entry ([.ref (B + v0), .int v1, .int v2, .int v3]) (n := 6) (Nat.le_of_ble_eq_true rfl)
    rw [lg_entry_eq]
    generalize (lg_sl ([.ref (B + v0), .int v1, .int v2, .int v3]) ++ List.replicate (6 - (lg_sl ([.ref (B + v0), .int v1, .int v2, .int v3])).length) Slot.unset).toArray = ls at hl ⊢
    have hl : lv_has ls 6 [(0, .ref (B + v0)), (1, .int v1), (2, .int v2), (3, .int v3)] := hl
    rw [wX11_takesOn] at h
    refine lv_iload_n hx hb dX11_takesOn_0 rfl (lv_at hl 3 rfl) ?_
    refine lv_aload_n hx hb dX11_takesOn_1 rfl (lv_at hl 0 rfl) ?_
    refine rk_get X hP (C := RX11) (T := TX11) (N := 44) (ci := 11) wix_11 h0 rfl rfl 43 (by decide) (wi_40 _ (List.mem_of_getElem? (i := 18) rfl)) rfl rfl dX11_takesOn_2 ?_
    refine lv_icmp_lt (tgt := 9) hx hb dX11_takesOn_5 (by decide) (fun c1 => ?_) (fun c1 => ?_)
    · have h := h.1 c1
      refine lv_iload_n hx hb dX11_takesOn_9 rfl (lv_at hl 1 rfl) ?_
      refine lv_aload_n hx hb dX11_takesOn_10 rfl (lv_at hl 0 rfl) ?_
      refine rk_get X hP (C := RX11) (T := TX11) (N := 44) (ci := 11) wix_11 h0 rfl rfl 16 (by decide) (wi_29 _ (List.mem_of_getElem? (i := 1) rfl)) rfl rfl dX11_takesOn_11 ?_
      refine lv_iconst (v := (0 : Int32)) hx hb dX11_takesOn_14 (by decide) ?_
      have b1 : vp_in (0 : Int32) 2 := by unfold vp_in; decide
      refine rk_iald X hP (n := 2) (klM_X11_16 h0) (fun _ _ => rfl) b1 dX11_takesOn_15 ?_
      refine lv_icmp_ne (tgt := 54) hx hb dX11_takesOn_16 (by decide) (fun c2 => ?_) (fun c2 => ?_)
      · have h := h.1 c2
        refine lv_iconst (v := (0 : Int32)) hx hb dX11_takesOn_54 (by decide) ?_
        refine lv_istore (lv' := [(4, .int (0 : Int32)), (0, .ref (B + v0)), (1, .int v1), (2, .int v2), (3, .int v3)]) hx hb dX11_takesOn_55 hl (by decide) rfl (fun ls hl => ?_)
        obtain ⟨j, h⟩ := h
        exact tX11_takesOn_57 X hREC j _ _ _ _ _ _ h0 h _ _ _ hP hS (lv_sub hl [1, 2, 3, 4, 0] rfl)
      · have h := h.2 c2
        refine lv_aload_n hx hb dX11_takesOn_19 rfl (lv_at hl 0 rfl) ?_
        refine lv_iload_n hx hb dX11_takesOn_20 rfl (lv_at hl 3 rfl) ?_
        refine rk_puti X hP hD hS (C := RX11) (T := TX11) (N := 44) (ci := 11) wix_11 h0 rfl rfl tyX11 tyX11_ok nmX11 43 (by decide) (wi_40 _ (List.mem_of_getElem? (i := 18) rfl)) rfl rfl (by decide +kernel) (Nat.le_of_ble_eq_true rfl) rfl dX11_takesOn_21 (fun H locs hP hS => ?_)
        obtain ⟨s1, es1⟩ : ∃ z : St, z = u1 σ v0 43 v3 := ⟨_, rfl⟩
        rw [← es1] at hP
        have h := h s1 es1
        refine lv_iconst (v := (0 : Int32)) hx hb dX11_takesOn_24 (by decide) ?_
        refine lv_istore (lv' := [(4, .int (0 : Int32)), (0, .ref (B + v0)), (1, .int v1), (2, .int v2), (3, .int v3)]) hx hb dX11_takesOn_25 hl (by decide) rfl (fun ls hl => ?_)
        obtain ⟨j, h⟩ := h
        exact tX11_takesOn_27 X hREC j _ _ _ _ h0 h _ _ _ hP hS (lv_sub hl [1, 2, 0] rfl)
    · have h := h.2 c1
      exact rk_vret X kM_len h hP hS dX11_takesOn_8

theorem hd_X11_width : yX11_width.cls = RX11 ∧ yX11_width.cls ≠ "java/lang/invoke/MethodHandle" ∧ yX11_width.cls ≠ "java/lang/invoke/VarHandle" ∧ (parseMethodDescriptor yX11_width.desc).map (fun d => d.parameters.length) = some 1 := by decide +kernel
set_option maxRecDepth 100000 in
set_option maxHeartbeats 4000000 in
theorem mX11_width (l : Launch) (D : va_G) (cy : Nat → ClassId) (B : Nat) (v0 : Nat) (v1 : Int32) (σ : St) (h0 : kM[v0]? = some 11) {post : Int32 → St → Prop} (h : wX11_width v0 v1 σ post) : Met l yX11_width (Cond.code yX11_width cX11_width 2 (some .int) :: WALL) (rmD 12) (PcW D cy B kM σ [.ref (B + v0), .int v1]) (va_Qi post (BW D cy B kM) (AW B 26)) 0 0 (AW B 26) := by
  refine Met.ofK (cc := cX11_width) (maxL := 2) (ret := (some .int)) (by decide +kernel) rfl kM_len ?_
  intro p e s m below meth c X hP
  obtain ⟨⟨hx, hb, hml, hown, hts⟩, hr, hlk, hK, hN, hZ⟩ := id X
  have hD : ∀ σ, va_D (AW B 26) (wW cy B kM σ) := AW_D kM_len
  have hS : va_S (AW B 26) s.heap s.heap [] := va_S.rf
  have hl := lv_entry ([.ref (B + v0), .int v1]) (n := 2) (Nat.le_of_ble_eq_true rfl)
  rw [lg_entry_eq]
  generalize (lg_sl ([.ref (B + v0), .int v1]) ++ List.replicate (2 - (lg_sl ([.ref (B + v0), .int v1])).length) Slot.unset).toArray = ls at hl ⊢
  have hl : lv_has ls 2 [(0, .ref (B + v0)), (1, .int v1)] := hl
  unfold wX11_width at h
  refine lv_aload_n hx hb dX11_width_0 rfl (lv_at hl 0 rfl) ?_
  refine lv_iconst (v := (0 : Int32)) hx hb dX11_width_1 (by decide) ?_
  refine rk_puti X hP hD hS (C := RX11) (T := TX11) (N := 44) (ci := 11) wix_11 h0 rfl rfl tyX11 tyX11_ok nmX11 0 (by decide) (wi_30 _ (List.mem_of_getElem? (i := 1) rfl)) rfl rfl (by decide +kernel) (Nat.le_of_ble_eq_true rfl) rfl dX11_width_2 (fun H locs hP hS => ?_)
  obtain ⟨s1, es1⟩ : ∃ z : St, z = u1 σ v0 0 (0 : Int32) := ⟨_, rfl⟩
  rw [← es1] at hP
  have h := h s1 es1
  refine lv_iload_n hx hb dX11_width_5 rfl (lv_at hl 1 rfl) ?_
  refine lv_i2l hx hb dX11_width_6 rfl ?_
  refine lv_lconst (v := (0 : Int64)) hx hb dX11_width_7 (by decide) ?_
  refine lv_aload_n hx hb dX11_width_8 rfl (lv_at hl 0 rfl) ?_
  refine rk_get X hP (C := RX11) (T := TX11) (N := 44) (ci := 11) wix_11 h0 rfl rfl 16 (by decide) (wi_29 _ (List.mem_of_getElem? (i := 1) rfl)) rfl rfl dX11_width_9 ?_
  refine lv_iconst (v := (0 : Int32)) hx hb dX11_width_12 (by decide) ?_
  have b1 : vp_in (0 : Int32) 2 := by unfold vp_in; decide
  refine rk_iald X hP (n := 2) (klM_X11_16 h0) (fun _ _ => rfl) b1 dX11_width_13 ?_
  refine lv_i2l hx hb dX11_width_14 rfl ?_
  refine rk_callz (va_runS (As := [.long (v1.toInt64), .long (0 : Int64), .long ((s1.1 (v0 + 5) (0 : Int32).toNatClampNeg).toInt64)]) (rest := []) X.1 (mX11_within l D cy B (v1.toInt64) (0 : Int64) ((s1.1 (v0 + 5) (0 : Int32).toNatClampNeg).toInt64) s1 h) (va_cwS 3 hts (gW_S (wi_31 _ (List.mem_of_getElem? (i := 2) rfl)) (wi_31 _ (List.mem_of_getElem? (i := 3) rfl)) (wi_30 _ (List.mem_of_getElem? (i := 9) rfl)) (wi_30 _ (List.mem_of_getElem? (i := 2) rfl))) rfl rfl rfl hd_X11_within ⟨Nat.le_of_ble_eq_true rfl, Nat.le_of_ble_eq_true rfl⟩) (rk_preS X hS hP [.long (v1.toInt64), .long (0 : Int64), .long ((s1.1 (v0 + 5) (0 : Int32).toNatClampNeg).toInt64)]) rfl rfl hl.1 rfl (lv_room (Nat.le_of_ble_eq_true rfl)) dX11_width_15 ⟨Nat.zero_le _, Nat.zero_le _⟩) hS (fun _ h => h) (fun r1 s2 H locs h hP hS => ?_)
  refine lv_if_ne (tgt := 23) hx hb dX11_width_18 (by decide) (fun c1 => ?_) (fun c1 => ?_)
  · have h := h.1 (b2i_t c1)
    refine lv_aload_n hx hb dX11_width_23 rfl (lv_at hl 0 rfl) ?_
    refine lv_bipush (v := (100 : Int32)) hx hb dX11_width_24 (by decide) ?_
    refine rk_puti X hP hD hS (C := RX11) (T := TX11) (N := 44) (ci := 11) wix_11 h0 rfl rfl tyX11 tyX11_ok nmX11 43 (by decide) (wi_40 _ (List.mem_of_getElem? (i := 18) rfl)) rfl rfl (by decide +kernel) (Nat.le_of_ble_eq_true rfl) rfl dX11_width_26 (fun H locs hP hS => ?_)
    obtain ⟨s3, es3⟩ : ∃ z : St, z = u1 s2 v0 43 (100 : Int32) := ⟨_, rfl⟩
    rw [← es3] at hP
    have h := h s3 es3
    refine lv_aload_n hx hb dX11_width_29 rfl (lv_at hl 0 rfl) ?_
    refine lv_iconst (v := (0 : Int32)) hx hb dX11_width_30 (by decide) ?_
    refine lv_iconst (v := (0 : Int32)) hx hb dX11_width_31 (by decide) ?_
    refine lv_iconst (v := (0 : Int32)) hx hb dX11_width_32 (by decide) ?_
    refine rk_callv (va_runV (As := [.int (0 : Int32), .int (0 : Int32), .int (0 : Int32)]) (rest := []) X.1 (mX11_takesOn l D cy B 8 v0 (0 : Int32) (0 : Int32) (0 : Int32) s3 _ h0 h) (cwV 3 hts (gW_V (wi_40 _ (List.mem_of_getElem? (i := 22) rfl)) (wi_40 _ (List.mem_of_getElem? (i := 23) rfl)) (wi_41 _ (List.mem_of_getElem? (i := 0) rfl)) (wi_30 _ (List.mem_of_getElem? (i := 9) rfl)) (wi_40 _ (List.mem_of_getElem? (i := 17) rfl))) rfl rfl rfl hd_X11_takesOn ⟨Nat.le_of_ble_eq_true rfl, Nat.le_of_ble_eq_true rfl⟩) (rk_preV X hS hP h0 rfl rfl [.int (0 : Int32), .int (0 : Int32), .int (0 : Int32)]) rfl rfl hl.1 rfl (lv_room (Nat.le_of_ble_eq_true rfl)) dX11_width_33 ⟨Nat.zero_le _, Nat.zero_le _⟩) hS (fun _ h => h) (fun s4 H locs h hP hS => ?_)
    refine lv_iload_n hx hb dX11_width_36 rfl (lv_at hl 1 rfl) ?_
    refine lv_if_ne (tgt := 47) hx hb dX11_width_37 (by decide) (fun c2 => ?_) (fun c2 => ?_)
    · have h := h.1 c2
      refine lv_aload_n hx hb dX11_width_47 rfl (lv_at hl 0 rfl) ?_
      refine rk_get X hP (C := RX11) (T := TX11) (N := 44) (ci := 11) wix_11 h0 rfl rfl 42 (by decide) (wi_29 _ (List.mem_of_getElem? (i := 22) rfl)) rfl rfl dX11_width_48 ?_
      refine lv_iload_n hx hb dX11_width_51 rfl (lv_at hl 1 rfl) ?_
      refine lv_iconst (v := (1 : Int32)) hx hb dX11_width_52 (by decide) ?_
      refine lv_isub hx hb dX11_width_53 ?_
      refine lv_topi (fun x1 ex1 => ?_)
      have h := h x1 ex1
      obtain ⟨b2, h⟩ := h
      refine rk_iald X hP (n := 6) (klM_X11_42 h0) (fun _ _ => rfl) b2 dX11_width_54 ?_
      exact rk_iret X rfl kM_len h hP hS dX11_width_55
    · have h := h.2 c2
      refine lv_aload_n hx hb dX11_width_40 rfl (lv_at hl 0 rfl) ?_
      refine rk_get X hP (C := RX11) (T := TX11) (N := 44) (ci := 11) wix_11 h0 rfl rfl 43 (by decide) (wi_40 _ (List.mem_of_getElem? (i := 18) rfl)) rfl rfl dX11_width_41 ?_
      refine lv_goto (tgt := 55) hx hb dX11_width_44 (by decide) ?_
      exact rk_iret X rfl kM_len h hP hS dX11_width_55
  · have h := h.2 (b2i_f c1)
    refine lv_iconst (v := (-1 : Int32)) hx hb dX11_width_21 (by decide) ?_
    exact rk_iret X rfl kM_len h hP hS dX11_width_22

theorem hd_X11_keeps : yX11_keeps.cls = RX11 ∧ yX11_keeps.cls ≠ "java/lang/invoke/MethodHandle" ∧ yX11_keeps.cls ≠ "java/lang/invoke/VarHandle" ∧ (parseMethodDescriptor yX11_keeps.desc).map (fun d => d.parameters.length) = some 0 := by decide +kernel
set_option maxRecDepth 100000 in
set_option maxHeartbeats 4000000 in
theorem tX11_keeps_51 {p : Program} {l : Launch} {e : Env} {s : State} {m : MethodId} {av : Array Value} {below : List Frame} {meth : Method} {c : Code} {D : va_G} {cy : Nat → ClassId} {B : Nat} (X : kC p s m av meth c cX11_keeps 2 none WALL RX11 D cy (AW B 26)) {post : St → Prop} : ∀ (n : Nat) (v0 : Nat) (v1 : Int32) (σ : St), kM[v0]? = some 11 → wX11_keeps_51 post n v0 v1 σ → ∀ (H : Heap) (locs : List Loc) (ls : Array Slot), va_P D vwCl (wW cy B kM σ) H → va_S (AW B 26) s.heap H locs → lv_has ls 2 [(0, .ref (B + v0)), (1, .int v1)] → W p l e (rmD 0) s m av below meth c H locs 0 0 (MQ below (va_Qv post (BW D cy B kM) (AW B 26)) av s 0 0 (AW B 26)) (F0 m 51 ls []) := by
  obtain ⟨⟨hx, hb, hml, hown, hts⟩, hr, hlk, hK, hN, hZ⟩ := id X
  have hD : ∀ σ, va_D (AW B 26) (wW cy B kM σ) := AW_D kM_len
  intro n
  induction n with
  | zero => intro v0 v1 σ h0 h; exact absurd h id
  | succ n ih =>
    intro v0 v1 σ h0 h H locs ls hP hS hl
    rw [wX11_keeps_51] at h
    refine lv_iload_n hx hb dX11_keeps_51 rfl (lv_at hl 1 rfl) ?_
    refine lv_bipush (v := (117 : Int32)) hx hb dX11_keeps_52 (by decide) ?_
    refine lv_icmp_ge (tgt := 83) hx hb dX11_keeps_54 (by decide) (fun c1 => ?_) (fun c1 => ?_)
    · have h := h.1 c1
      refine lv_aload_n hx hb dX11_keeps_83 rfl (lv_at hl 0 rfl) ?_
      refine lv_dup hx hb dX11_keeps_84 rfl ?_
      refine rk_get X hP (C := RX11) (T := TX11) (N := 44) (ci := 11) wix_11 h0 rfl rfl 32 (by decide) (wi_34 _ (List.mem_of_getElem? (i := 17) rfl)) rfl rfl dX11_keeps_85 ?_
      refine lv_iconst (v := (1 : Int32)) hx hb dX11_keeps_88 (by decide) ?_
      refine lv_iadd hx hb dX11_keeps_89 ?_
      refine rk_puti X hP hD hS (C := RX11) (T := TX11) (N := 44) (ci := 11) wix_11 h0 rfl rfl tyX11 tyX11_ok nmX11 32 (by decide) (wi_34 _ (List.mem_of_getElem? (i := 17) rfl)) rfl rfl (by decide +kernel) (Nat.le_of_ble_eq_true rfl) rfl dX11_keeps_90 (fun H locs hP hS => ?_)
      obtain ⟨s1, es1⟩ : ∃ z : St, z = u1 σ v0 32 ((σ.1 v0 32) + (1 : Int32)) := ⟨_, rfl⟩
      rw [← es1] at hP
      have h := h s1 es1
      exact rk_vret X kM_len h hP hS dX11_keeps_93
    · have h := h.2 c1
      refine lv_aload_n hx hb dX11_keeps_57 rfl (lv_at hl 0 rfl) ?_
      refine rk_get X hP (C := RX11) (T := TX11) (N := 44) (ci := 11) wix_11 h0 rfl rfl 31 (by decide) (wi_29 _ (List.mem_of_getElem? (i := 14) rfl)) rfl rfl dX11_keeps_58 ?_
      refine lv_bipush (v := (117 : Int32)) hx hb dX11_keeps_61 (by decide) ?_
      refine lv_aload_n hx hb dX11_keeps_63 rfl (lv_at hl 0 rfl) ?_
      refine rk_get X hP (C := RX11) (T := TX11) (N := 44) (ci := 11) wix_11 h0 rfl rfl 32 (by decide) (wi_34 _ (List.mem_of_getElem? (i := 17) rfl)) rfl rfl dX11_keeps_64 ?_
      refine lv_imul hx hb dX11_keeps_67 ?_
      refine lv_iload_n hx hb dX11_keeps_68 rfl (lv_at hl 1 rfl) ?_
      refine lv_iadd hx hb dX11_keeps_69 ?_
      refine lv_aload_n hx hb dX11_keeps_70 rfl (lv_at hl 0 rfl) ?_
      refine rk_get X hP (C := RX11) (T := TX11) (N := 44) (ci := 11) wix_11 h0 rfl rfl 30 (by decide) (wi_29 _ (List.mem_of_getElem? (i := 13) rfl)) rfl rfl dX11_keeps_71 ?_
      refine lv_iload_n hx hb dX11_keeps_74 rfl (lv_at hl 1 rfl) ?_
      obtain ⟨b1, h⟩ := h
      refine rk_iald X hP (n := 117) (klM_X11_30 h0) (fun _ _ => rfl) b1 dX11_keeps_75 ?_
      obtain ⟨b2, h⟩ := h
      refine rk_iast X hP hD hS (n := 1404) (klM_X11_31 h0) (fun _ _ => rfl) b2 dX11_keeps_76 (fun H locs hP hS => ?_)
      obtain ⟨s2, es2⟩ : ∃ z : St, z = u1 σ (v0 + 17) (((117 : Int32) * (σ.1 v0 32)) + v1).toNatClampNeg (σ.1 (v0 + 16) v1.toNatClampNeg) := ⟨_, rfl⟩
      rw [← es2] at hP
      have h := h s2 es2
      obtain ⟨x1, ex1⟩ : ∃ y : Int32, y = v1 + (1 : Int32) := ⟨_, rfl⟩
      have h := h x1 ex1
      refine lv_iinc (v := x1) (lv' := [(1, .int x1), (0, .ref (B + v0))]) hx hb dX11_keeps_77 hl (k := 1) rfl (by rw [ex1]; rfl) (by decide) rfl (fun ls hl => ?_)
      refine lv_goto (tgt := 51) hx hb dX11_keeps_80 (by decide) ?_
      exact ih _ _ _ h0 h _ _ _ hP hS (lv_sub hl [1, 0] rfl)
set_option maxRecDepth 100000 in
set_option maxHeartbeats 4000000 in
theorem tX11_keeps_49 {p : Program} {l : Launch} {e : Env} {s : State} {m : MethodId} {av : Array Value} {below : List Frame} {meth : Method} {c : Code} {D : va_G} {cy : Nat → ClassId} {B : Nat} (X : kC p s m av meth c cX11_keeps 2 none WALL RX11 D cy (AW B 26)) {post : St → Prop} : ∀ (v0 : Nat) (σ : St), kM[v0]? = some 11 → wX11_keeps_49 post v0 σ → ∀ (H : Heap) (locs : List Loc) (ls : Array Slot), va_P D vwCl (wW cy B kM σ) H → va_S (AW B 26) s.heap H locs → lv_has ls 2 [(0, .ref (B + v0))] → W p l e (rmD 0) s m av below meth c H locs 0 0 (MQ below (va_Qv post (BW D cy B kM) (AW B 26)) av s 0 0 (AW B 26)) (F0 m 49 ls []) := by
  obtain ⟨⟨hx, hb, hml, hown, hts⟩, hr, hlk, hK, hN, hZ⟩ := id X
  have hD : ∀ σ, va_D (AW B 26) (wW cy B kM σ) := AW_D kM_len
  intro v0 σ h0 h H locs ls hP hS hl
  unfold wX11_keeps_49 at h
  refine lv_iconst (v := (0 : Int32)) hx hb dX11_keeps_49 (by decide) ?_
  refine lv_istore_n (lv' := [(1, .int (0 : Int32)), (0, .ref (B + v0))]) hx hb dX11_keeps_50 rfl hl (by decide) rfl (fun ls hl => ?_)
  obtain ⟨j, h⟩ := h
  exact tX11_keeps_51 X j _ _ _ h0 h _ _ _ hP hS (lv_sub hl [1, 0] rfl)
set_option maxRecDepth 100000 in
set_option maxHeartbeats 4000000 in
theorem tX11_keeps_11 {p : Program} {l : Launch} {e : Env} {s : State} {m : MethodId} {av : Array Value} {below : List Frame} {meth : Method} {c : Code} {D : va_G} {cy : Nat → ClassId} {B : Nat} (X : kC p s m av meth c cX11_keeps 2 none WALL RX11 D cy (AW B 26)) {post : St → Prop} : ∀ (n : Nat) (v0 : Nat) (v1 : Int32) (σ : St), kM[v0]? = some 11 → wX11_keeps_11 post n v0 v1 σ → ∀ (H : Heap) (locs : List Loc) (ls : Array Slot), va_P D vwCl (wW cy B kM σ) H → va_S (AW B 26) s.heap H locs → lv_has ls 2 [(0, .ref (B + v0)), (1, .int v1)] → W p l e (rmD 0) s m av below meth c H locs 0 0 (MQ below (va_Qv post (BW D cy B kM) (AW B 26)) av s 0 0 (AW B 26)) (F0 m 11 ls []) := by
  obtain ⟨⟨hx, hb, hml, hown, hts⟩, hr, hlk, hK, hN, hZ⟩ := id X
  have hD : ∀ σ, va_D (AW B 26) (wW cy B kM σ) := AW_D kM_len
  intro n
  induction n with
  | zero => intro v0 v1 σ h0 h; exact absurd h id
  | succ n ih =>
    intro v0 v1 σ h0 h H locs ls hP hS hl
    rw [wX11_keeps_11] at h
    refine lv_iload_n hx hb dX11_keeps_11 rfl (lv_at hl 1 rfl) ?_
    refine lv_sipush (v := (1287 : Int32)) hx hb dX11_keeps_12 (by decide) ?_
    refine lv_icmp_ge (tgt := 39) hx hb dX11_keeps_15 (by decide) (fun c1 => ?_) (fun c1 => ?_)
    · have h := h.1 c1
      refine lv_aload_n hx hb dX11_keeps_39 rfl (lv_at hl 0 rfl) ?_
      refine lv_dup hx hb dX11_keeps_40 rfl ?_
      refine rk_get X hP (C := RX11) (T := TX11) (N := 44) (ci := 11) wix_11 h0 rfl rfl 32 (by decide) (wi_34 _ (List.mem_of_getElem? (i := 17) rfl)) rfl rfl dX11_keeps_41 ?_
      refine lv_iconst (v := (1 : Int32)) hx hb dX11_keeps_44 (by decide) ?_
      refine lv_isub hx hb dX11_keeps_45 ?_
      refine rk_puti X hP hD hS (C := RX11) (T := TX11) (N := 44) (ci := 11) wix_11 h0 rfl rfl tyX11 tyX11_ok nmX11 32 (by decide) (wi_34 _ (List.mem_of_getElem? (i := 17) rfl)) rfl rfl (by decide +kernel) (Nat.le_of_ble_eq_true rfl) rfl dX11_keeps_46 (fun H locs hP hS => ?_)
      obtain ⟨s1, es1⟩ : ∃ z : St, z = u1 σ v0 32 ((σ.1 v0 32) - (1 : Int32)) := ⟨_, rfl⟩
      rw [← es1] at hP
      have h := h s1 es1
      exact tX11_keeps_49 X _ _ h0 h _ _ _ hP hS (lv_sub hl [0] rfl)
    · have h := h.2 c1
      refine lv_aload_n hx hb dX11_keeps_18 rfl (lv_at hl 0 rfl) ?_
      refine rk_get X hP (C := RX11) (T := TX11) (N := 44) (ci := 11) wix_11 h0 rfl rfl 31 (by decide) (wi_29 _ (List.mem_of_getElem? (i := 14) rfl)) rfl rfl dX11_keeps_19 ?_
      refine lv_iload_n hx hb dX11_keeps_22 rfl (lv_at hl 1 rfl) ?_
      refine lv_aload_n hx hb dX11_keeps_23 rfl (lv_at hl 0 rfl) ?_
      refine rk_get X hP (C := RX11) (T := TX11) (N := 44) (ci := 11) wix_11 h0 rfl rfl 31 (by decide) (wi_29 _ (List.mem_of_getElem? (i := 14) rfl)) rfl rfl dX11_keeps_24 ?_
      refine lv_iload_n hx hb dX11_keeps_27 rfl (lv_at hl 1 rfl) ?_
      refine lv_bipush (v := (117 : Int32)) hx hb dX11_keeps_28 (by decide) ?_
      refine lv_iadd hx hb dX11_keeps_30 ?_
      refine lv_topi (fun x1 ex1 => ?_)
      have h := h x1 ex1
      obtain ⟨b1, h⟩ := h
      refine rk_iald X hP (n := 1404) (klM_X11_31 h0) (fun _ _ => rfl) b1 dX11_keeps_31 ?_
      obtain ⟨b2, h⟩ := h
      refine rk_iast X hP hD hS (n := 1404) (klM_X11_31 h0) (fun _ _ => rfl) b2 dX11_keeps_32 (fun H locs hP hS => ?_)
      obtain ⟨s2, es2⟩ : ∃ z : St, z = u1 σ (v0 + 17) v1.toNatClampNeg (σ.1 (v0 + 17) x1.toNatClampNeg) := ⟨_, rfl⟩
      rw [← es2] at hP
      have h := h s2 es2
      obtain ⟨x2, ex2⟩ : ∃ y : Int32, y = v1 + (1 : Int32) := ⟨_, rfl⟩
      have h := h x2 ex2
      refine lv_iinc (v := x2) (lv' := [(1, .int x2), (0, .ref (B + v0))]) hx hb dX11_keeps_33 hl (k := 1) rfl (by rw [ex2]; rfl) (by decide) rfl (fun ls hl => ?_)
      refine lv_goto (tgt := 11) hx hb dX11_keeps_36 (by decide) ?_
      exact ih _ _ _ h0 h _ _ _ hP hS (lv_sub hl [1, 0] rfl)
set_option maxRecDepth 100000 in
set_option maxHeartbeats 4000000 in
theorem mX11_keeps (l : Launch) (D : va_G) (cy : Nat → ClassId) (B : Nat) (v0 : Nat) (σ : St) (h0 : kM[v0]? = some 11) {post : St → Prop} (h : wX11_keeps v0 σ post) : Met l yX11_keeps (Cond.code yX11_keeps cX11_keeps 2 none :: WALL) (rmD 0) (PcW D cy B kM σ [.ref (B + v0)]) (va_Qv post (BW D cy B kM) (AW B 26)) 0 0 (AW B 26) := by
  refine Met.ofK (cc := cX11_keeps) (maxL := 2) (ret := none) (by decide +kernel) rfl kM_len ?_
  intro p e s m below meth c X hP
  obtain ⟨⟨hx, hb, hml, hown, hts⟩, hr, hlk, hK, hN, hZ⟩ := id X
  have hD : ∀ σ, va_D (AW B 26) (wW cy B kM σ) := AW_D kM_len
  have hS : va_S (AW B 26) s.heap s.heap [] := va_S.rf
  have hl := lv_entry ([.ref (B + v0)]) (n := 2) (Nat.le_of_ble_eq_true rfl)
  rw [lg_entry_eq]
  generalize (lg_sl ([.ref (B + v0)]) ++ List.replicate (2 - (lg_sl ([.ref (B + v0)])).length) Slot.unset).toArray = ls at hl ⊢
  have hl : lv_has ls 2 [(0, .ref (B + v0))] := hl
  unfold wX11_keeps at h
  refine lv_aload_n hx hb dX11_keeps_0 rfl (lv_at hl 0 rfl) ?_
  refine rk_get X hP (C := RX11) (T := TX11) (N := 44) (ci := 11) wix_11 h0 rfl rfl 32 (by decide) (wi_34 _ (List.mem_of_getElem? (i := 17) rfl)) rfl rfl dX11_keeps_1 ?_
  refine lv_bipush (v := (12 : Int32)) hx hb dX11_keeps_4 (by decide) ?_
  refine lv_icmp_ne (tgt := 49) hx hb dX11_keeps_6 (by decide) (fun c1 => ?_) (fun c1 => ?_)
  · have h := h.1 c1
    exact tX11_keeps_49 X _ _ h0 h _ _ _ hP hS (lv_sub hl [0] rfl)
  · have h := h.2 c1
    refine lv_iconst (v := (0 : Int32)) hx hb dX11_keeps_9 (by decide) ?_
    refine lv_istore_n (lv' := [(1, .int (0 : Int32)), (0, .ref (B + v0))]) hx hb dX11_keeps_10 rfl hl (by decide) rfl (fun ls hl => ?_)
    obtain ⟨j, h⟩ := h
    exact tX11_keeps_11 X j _ _ _ h0 h _ _ _ hP hS (lv_sub hl [1, 0] rfl)

theorem hd_X11_change : yX11_change.cls = RX11 ∧ yX11_change.cls ≠ "java/lang/invoke/MethodHandle" ∧ yX11_change.cls ≠ "java/lang/invoke/VarHandle" ∧ (parseMethodDescriptor yX11_change.desc).map (fun d => d.parameters.length) = some 2 := by decide +kernel
set_option maxRecDepth 100000 in
set_option maxHeartbeats 4000000 in
theorem mX11_change (l : Launch) (D : va_G) (cy : Nat → ClassId) (B : Nat) (v0 : Nat) (v1 : Int32) (v2 : Int32) (σ : St) (h0 : kM[v0]? = some 11) {post : Bool → St → Prop} (h : wX11_change v0 v1 v2 σ post) : Met l yX11_change (Cond.code yX11_change cX11_change 9 (some .boolean) :: WALL) (rmD 2) (PcW D cy B kM σ [.ref (B + v0), .int v1, .int v2]) (Qz post D cy B kM 26) 0 0 (AW B 26) := by
  refine Met.ofK (cc := cX11_change) (maxL := 9) (ret := (some .boolean)) (by decide +kernel) rfl kM_len ?_
  intro p e s m below meth c X hP
  obtain ⟨⟨hx, hb, hml, hown, hts⟩, hr, hlk, hK, hN, hZ⟩ := id X
  have hD : ∀ σ, va_D (AW B 26) (wW cy B kM σ) := AW_D kM_len
  have hS : va_S (AW B 26) s.heap s.heap [] := va_S.rf
  have hl := lv_entry ([.ref (B + v0), .int v1, .int v2]) (n := 9) (Nat.le_of_ble_eq_true rfl)
  rw [lg_entry_eq]
  generalize (lg_sl ([.ref (B + v0), .int v1, .int v2]) ++ List.replicate (9 - (lg_sl ([.ref (B + v0), .int v1, .int v2])).length) Slot.unset).toArray = ls at hl ⊢
  have hl : lv_has ls 9 [(0, .ref (B + v0)), (1, .int v1), (2, .int v2)] := hl
  unfold wX11_change at h
  refine lv_aload_n hx hb dX11_change_0 rfl (lv_at hl 0 rfl) ?_
  refine lv_iconst (v := (0 : Int32)) hx hb dX11_change_1 (by decide) ?_
  refine rk_puti X hP hD hS (C := RX11) (T := TX11) (N := 44) (ci := 11) wix_11 h0 rfl rfl tyX11 tyX11_ok nmX11 0 (by decide) (wi_30 _ (List.mem_of_getElem? (i := 1) rfl)) rfl rfl (by decide +kernel) (Nat.le_of_ble_eq_true rfl) rfl dX11_change_2 (fun H locs hP hS => ?_)
  obtain ⟨s1, es1⟩ : ∃ z : St, z = u1 σ v0 0 (0 : Int32) := ⟨_, rfl⟩
  rw [← es1] at hP
  have h := h s1 es1
  refine lv_aload_n hx hb dX11_change_5 rfl (lv_at hl 0 rfl) ?_
  refine lv_iload_n hx hb dX11_change_6 rfl (lv_at hl 1 rfl) ?_
  refine rk_callz (va_runV (As := [.int v1]) (rest := []) X.1 (mX11_isWire l D cy B v0 v1 s1 h0 h) (cwV 1 hts (gW_V (wi_38 _ (List.mem_of_getElem? (i := 19) rfl)) (wi_38 _ (List.mem_of_getElem? (i := 20) rfl)) (wi_38 _ (List.mem_of_getElem? (i := 21) rfl)) (wi_30 _ (List.mem_of_getElem? (i := 9) rfl)) (wi_35 _ (List.mem_of_getElem? (i := 8) rfl))) rfl rfl rfl hd_X11_isWire ⟨Nat.le_of_ble_eq_true rfl, Nat.le_of_ble_eq_true rfl⟩) (rk_preV X hS hP h0 rfl rfl [.int v1]) rfl rfl hl.1 rfl (lv_room (Nat.le_of_ble_eq_true rfl)) dX11_change_7 ⟨Nat.zero_le _, Nat.zero_le _⟩) hS (fun _ h => h) (fun r1 s2 H locs h hP hS => ?_)
  refine lv_if_eq (tgt := 21) hx hb dX11_change_10 (by decide) (fun c1 => ?_) (fun c1 => ?_)
  · have h := h.1 (b2i_f c1)
    refine lv_iconst (v := (0 : Int32)) hx hb dX11_change_21 (by decide) ?_
    exact rk_zret X kM_len false h hP hS dX11_change_22
  · have h := h.2 (b2i_t c1)
    refine lv_aload_n hx hb dX11_change_13 rfl (lv_at hl 0 rfl) ?_
    refine lv_iload_n hx hb dX11_change_14 rfl (lv_at hl 2 rfl) ?_
    refine rk_callz (va_runV (As := [.int v2]) (rest := []) X.1 (mX11_isBase l D cy B v0 v2 s2 h0 h) (cwV 1 hts (gW_V (wi_37 _ (List.mem_of_getElem? (i := 13) rfl)) (wi_37 _ (List.mem_of_getElem? (i := 14) rfl)) (wi_37 _ (List.mem_of_getElem? (i := 15) rfl)) (wi_30 _ (List.mem_of_getElem? (i := 9) rfl)) (wi_35 _ (List.mem_of_getElem? (i := 6) rfl))) rfl rfl rfl hd_X11_isBase ⟨Nat.le_of_ble_eq_true rfl, Nat.le_of_ble_eq_true rfl⟩) (rk_preV X hS hP h0 rfl rfl [.int v2]) rfl rfl hl.1 rfl (lv_room (Nat.le_of_ble_eq_true rfl)) dX11_change_15 ⟨Nat.zero_le _, Nat.zero_le _⟩) hS (fun _ h => h) (fun r2 s3 H locs h hP hS => ?_)
    refine lv_if_ne (tgt := 23) hx hb dX11_change_18 (by decide) (fun c2 => ?_) (fun c2 => ?_)
    · have h := h.1 (b2i_t c2)
      refine lv_aload_n hx hb dX11_change_23 rfl (lv_at hl 0 rfl) ?_
      refine rk_callv (va_runV (As := []) (rest := []) X.1 (mX11_keeps l D cy B v0 s3 h0 h) (cwV 0 hts (gW_V (wi_41 _ (List.mem_of_getElem? (i := 3) rfl)) (wi_41 _ (List.mem_of_getElem? (i := 4) rfl)) (wi_41 _ (List.mem_of_getElem? (i := 5) rfl)) (wi_30 _ (List.mem_of_getElem? (i := 9) rfl)) (wi_41 _ (List.mem_of_getElem? (i := 2) rfl))) rfl rfl rfl hd_X11_keeps ⟨Nat.le_of_ble_eq_true rfl, Nat.le_of_ble_eq_true rfl⟩) (rk_preV X hS hP h0 rfl rfl []) rfl rfl hl.1 rfl (lv_room (Nat.le_of_ble_eq_true rfl)) dX11_change_24 ⟨Nat.zero_le _, Nat.zero_le _⟩) hS (fun _ h => h) (fun s4 H locs h hP hS => ?_)
      refine lv_aload_n hx hb dX11_change_27 rfl (lv_at hl 0 rfl) ?_
      refine rk_get X hP (C := RX11) (T := TX11) (N := 44) (ci := 11) wix_11 h0 rfl rfl 30 (by decide) (wi_29 _ (List.mem_of_getElem? (i := 13) rfl)) rfl rfl dX11_change_28 ?_
      refine lv_bipush (v := (96 : Int32)) hx hb dX11_change_31 (by decide) ?_
      refine lv_iconst (v := (2 : Int32)) hx hb dX11_change_33 (by decide) ?_
      refine lv_iload_n hx hb dX11_change_34 rfl (lv_at hl 1 rfl) ?_
      refine lv_imul hx hb dX11_change_35 ?_
      refine lv_iadd hx hb dX11_change_36 ?_
      refine lv_topi (fun x1 ex1 => ?_)
      have h := h x1 ex1
      obtain ⟨b1, h⟩ := h
      refine rk_iald X hP (n := 117) (klM_X11_30 h0) (fun _ _ => rfl) b1 dX11_change_37 ?_
      refine lv_topi (fun x2 ex2 => ?_)
      have h := h x2 ex2
      refine lv_istore_n (lv' := [(3, .int x2), (0, .ref (B + v0)), (1, .int v1), (2, .int v2)]) hx hb dX11_change_38 rfl hl (by decide) rfl (fun ls hl => ?_)
      refine lv_aload_n hx hb dX11_change_39 rfl (lv_at hl 1 rfl) ?_
      refine rk_get X hP (C := RX11) (T := TX11) (N := 44) (ci := 11) wix_11 h0 rfl rfl 30 (by decide) (wi_29 _ (List.mem_of_getElem? (i := 13) rfl)) rfl rfl dX11_change_40 ?_
      refine lv_bipush (v := (96 : Int32)) hx hb dX11_change_43 (by decide) ?_
      refine lv_iconst (v := (2 : Int32)) hx hb dX11_change_45 (by decide) ?_
      refine lv_iload_n hx hb dX11_change_46 rfl (lv_at hl 2 rfl) ?_
      refine lv_imul hx hb dX11_change_47 ?_
      refine lv_iadd hx hb dX11_change_48 ?_
      refine lv_iconst (v := (1 : Int32)) hx hb dX11_change_49 (by decide) ?_
      refine lv_iadd hx hb dX11_change_50 ?_
      refine lv_topi (fun x3 ex3 => ?_)
      have h := h x3 ex3
      obtain ⟨b2, h⟩ := h
      refine rk_iald X hP (n := 117) (klM_X11_30 h0) (fun _ _ => rfl) b2 dX11_change_51 ?_
      refine lv_topi (fun x4 ex4 => ?_)
      have h := h x4 ex4
      refine lv_istore (lv' := [(4, .int x4), (3, .int x2), (0, .ref (B + v0)), (1, .int v1), (2, .int v2)]) hx hb dX11_change_52 hl (by decide) rfl (fun ls hl => ?_)
      refine lv_aload_n hx hb dX11_change_54 rfl (lv_at hl 2 rfl) ?_
      refine lv_aload_n hx hb dX11_change_55 rfl (lv_at hl 2 rfl) ?_
      refine lv_iload_n hx hb dX11_change_56 rfl (lv_at hl 4 rfl) ?_
      refine rk_calli (va_runV (As := [.int v2]) (rest := [.ref (B + v0)]) X.1 (mX11_det l D cy B v0 v2 s4 h0 h) (cwV 1 hts (gW_V (wi_37 _ (List.mem_of_getElem? (i := 16) rfl)) (wi_37 _ (List.mem_of_getElem? (i := 17) rfl)) (wi_37 _ (List.mem_of_getElem? (i := 18) rfl)) (wi_30 _ (List.mem_of_getElem? (i := 9) rfl)) (wi_37 _ (List.mem_of_getElem? (i := 10) rfl))) rfl rfl rfl hd_X11_det ⟨Nat.le_of_ble_eq_true rfl, Nat.le_of_ble_eq_true rfl⟩) (rk_preV X hS hP h0 rfl rfl [.int v2]) rfl rfl hl.1 rfl (lv_room (Nat.le_of_ble_eq_true rfl)) dX11_change_57 ⟨Nat.zero_le _, Nat.zero_le _⟩) hS (fun _ h => h) (fun r3 s5 H locs h hP hS => ?_)
      refine rk_calli (va_runV (As := [.int r3]) (rest := []) X.1 (mX11_inverse l D cy B v0 r3 s5 h0 h) (cwV 1 hts (gW_V (wi_36 _ (List.mem_of_getElem? (i := 22) rfl)) (wi_36 _ (List.mem_of_getElem? (i := 23) rfl)) (wi_37 _ (List.mem_of_getElem? (i := 0) rfl)) (wi_30 _ (List.mem_of_getElem? (i := 9) rfl)) (wi_36 _ (List.mem_of_getElem? (i := 18) rfl))) rfl rfl rfl hd_X11_inverse ⟨Nat.le_of_ble_eq_true rfl, Nat.le_of_ble_eq_true rfl⟩) (rk_preV X hS hP h0 rfl rfl [.int r3]) rfl rfl hl.1 rfl (lv_room (Nat.le_of_ble_eq_true rfl)) dX11_change_60 ⟨Nat.zero_le _, Nat.zero_le _⟩) hS (fun _ h => h) (fun r4 s6 H locs h hP hS => ?_)
      refine lv_istore (lv' := [(5, .int r4), (4, .int x4), (3, .int x2), (0, .ref (B + v0)), (1, .int v1), (2, .int v2)]) hx hb dX11_change_63 hl (by decide) rfl (fun ls hl => ?_)
      refine lv_aload_n hx hb dX11_change_65 rfl (lv_at hl 3 rfl) ?_
      refine rk_get X hP (C := RX11) (T := TX11) (N := 44) (ci := 11) wix_11 h0 rfl rfl 22 (by decide) (wi_29 _ (List.mem_of_getElem? (i := 8) rfl)) rfl rfl dX11_change_66 ?_
      refine lv_iconst (v := (4 : Int32)) hx hb dX11_change_69 (by decide) ?_
      refine lv_iload_n hx hb dX11_change_70 rfl (lv_at hl 5 rfl) ?_
      refine lv_imul hx hb dX11_change_71 ?_
      refine lv_topi (fun x5 ex5 => ?_)
      have h := h x5 ex5
      obtain ⟨b3, h⟩ := h
      refine rk_iald X hP (n := 40) (klM_X11_22 h0) (fun _ _ => rfl) b3 dX11_change_72 ?_
      refine lv_topi (fun x6 ex6 => ?_)
      have h := h x6 ex6
      refine lv_istore (lv' := [(6, .int x6), (5, .int r4), (4, .int x4), (3, .int x2), (0, .ref (B + v0)), (1, .int v1), (2, .int v2)]) hx hb dX11_change_73 hl (by decide) rfl (fun ls hl => ?_)
      refine lv_aload_n hx hb dX11_change_75 rfl (lv_at hl 4 rfl) ?_
      refine rk_get X hP (C := RX11) (T := TX11) (N := 44) (ci := 11) wix_11 h0 rfl rfl 22 (by decide) (wi_29 _ (List.mem_of_getElem? (i := 8) rfl)) rfl rfl dX11_change_76 ?_
      refine lv_iconst (v := (4 : Int32)) hx hb dX11_change_79 (by decide) ?_
      refine lv_iload_n hx hb dX11_change_80 rfl (lv_at hl 6 rfl) ?_
      refine lv_imul hx hb dX11_change_81 ?_
      refine lv_iconst (v := (2 : Int32)) hx hb dX11_change_82 (by decide) ?_
      refine lv_iadd hx hb dX11_change_83 ?_
      refine lv_topi (fun x7 ex7 => ?_)
      have h := h x7 ex7
      obtain ⟨b4, h⟩ := h
      refine rk_iald X hP (n := 40) (klM_X11_22 h0) (fun _ _ => rfl) b4 dX11_change_84 ?_
      refine lv_topi (fun x8 ex8 => ?_)
      have h := h x8 ex8
      refine lv_istore (lv' := [(7, .int x8), (6, .int x6), (5, .int r4), (4, .int x4), (3, .int x2), (0, .ref (B + v0)), (1, .int v1), (2, .int v2)]) hx hb dX11_change_85 hl (by decide) rfl (fun ls hl => ?_)
      refine lv_aload_n hx hb dX11_change_87 rfl (lv_at hl 5 rfl) ?_
      refine rk_get X hP (C := RX11) (T := TX11) (N := 44) (ci := 11) wix_11 h0 rfl rfl 22 (by decide) (wi_29 _ (List.mem_of_getElem? (i := 8) rfl)) rfl rfl dX11_change_88 ?_
      refine lv_iconst (v := (4 : Int32)) hx hb dX11_change_91 (by decide) ?_
      refine lv_iload_n hx hb dX11_change_92 rfl (lv_at hl 7 rfl) ?_
      refine lv_imul hx hb dX11_change_93 ?_
      refine lv_iconst (v := (3 : Int32)) hx hb dX11_change_94 (by decide) ?_
      refine lv_iadd hx hb dX11_change_95 ?_
      refine lv_topi (fun x9 ex9 => ?_)
      have h := h x9 ex9
      obtain ⟨b5, h⟩ := h
      refine rk_iald X hP (n := 40) (klM_X11_22 h0) (fun _ _ => rfl) b5 dX11_change_96 ?_
      refine lv_topi (fun x10 ex10 => ?_)
      have h := h x10 ex10
      refine lv_istore (lv' := [(8, .int x10), (7, .int x8), (6, .int x6), (5, .int r4), (4, .int x4), (3, .int x2), (0, .ref (B + v0)), (1, .int v1), (2, .int v2)]) hx hb dX11_change_97 hl (by decide) rfl (fun ls hl => ?_)
      refine lv_aload_n hx hb dX11_change_99 rfl (lv_at hl 6 rfl) ?_
      refine lv_aload_n hx hb dX11_change_100 rfl (lv_at hl 6 rfl) ?_
      refine rk_get X hP (C := RX11) (T := TX11) (N := 44) (ci := 11) wix_11 h0 rfl rfl 30 (by decide) (wi_29 _ (List.mem_of_getElem? (i := 13) rfl)) rfl rfl dX11_change_101 ?_
      refine lv_bipush (v := (16 : Int32)) hx hb dX11_change_104 (by decide) ?_
      refine lv_iload_n hx hb dX11_change_106 rfl (lv_at hl 5 rfl) ?_
      refine lv_iconst (v := (4 : Int32)) hx hb dX11_change_107 (by decide) ?_
      refine lv_idiv hx hb dX11_change_108 (by decide) ?_
      refine lv_imul hx hb dX11_change_109 ?_
      refine lv_aload_n hx hb dX11_change_110 rfl (lv_at hl 6 rfl) ?_
      refine lv_iload_n hx hb dX11_change_111 rfl (lv_at hl 5 rfl) ?_
      refine lv_iconst (v := (4 : Int32)) hx hb dX11_change_112 (by decide) ?_
      refine lv_idiv hx hb dX11_change_113 (by decide) ?_
      refine rk_calli (va_runV (As := [.int (x2 / (4 : Int32))]) (rest := [.int ((16 : Int32) * (x2 / (4 : Int32))), .ref (B + (v0 + 16)), .ref (B + v0)]) X.1 (mX11_legsAt l D cy B v0 (x2 / (4 : Int32)) s6 h0 h) (cwV 1 hts (gW_V (wi_38 _ (List.mem_of_getElem? (i := 15) rfl)) (wi_38 _ (List.mem_of_getElem? (i := 16) rfl)) (wi_38 _ (List.mem_of_getElem? (i := 17) rfl)) (wi_30 _ (List.mem_of_getElem? (i := 9) rfl)) (wi_35 _ (List.mem_of_getElem? (i := 9) rfl))) rfl rfl rfl hd_X11_legsAt ⟨Nat.le_of_ble_eq_true rfl, Nat.le_of_ble_eq_true rfl⟩) (rk_preV X hS hP h0 rfl rfl [.int (x2 / (4 : Int32))]) rfl rfl hl.1 rfl (lv_room (Nat.le_of_ble_eq_true rfl)) dX11_change_114 ⟨Nat.zero_le _, Nat.zero_le _⟩) hS (fun _ h => h) (fun r5 s7 H locs h hP hS => ?_)
      refine lv_iload_n hx hb dX11_change_117 rfl (lv_at hl 5 rfl) ?_
      refine lv_iconst (v := (4 : Int32)) hx hb dX11_change_118 (by decide) ?_
      refine lv_irem hx hb dX11_change_119 (by decide) ?_
      refine lv_iload hx hb dX11_change_120 (lv_at hl 2 rfl) ?_
      refine lv_aload_n hx hb dX11_change_122 rfl (lv_at hl 6 rfl) ?_
      refine rk_get X hP (C := RX11) (T := TX11) (N := 44) (ci := 11) wix_11 h0 rfl rfl 22 (by decide) (wi_29 _ (List.mem_of_getElem? (i := 8) rfl)) rfl rfl dX11_change_123 ?_
      refine lv_iconst (v := (4 : Int32)) hx hb dX11_change_126 (by decide) ?_
      refine lv_iload_n hx hb dX11_change_127 rfl (lv_at hl 8 rfl) ?_
      refine lv_imul hx hb dX11_change_128 ?_
      refine lv_iconst (v := (1 : Int32)) hx hb dX11_change_129 (by decide) ?_
      refine lv_iadd hx hb dX11_change_130 ?_
      refine lv_topi (fun x11 ex11 => ?_)
      have h := h x11 ex11
      obtain ⟨b6, h⟩ := h
      refine rk_iald X hP (n := 40) (klM_X11_22 h0) (fun _ _ => rfl) b6 dX11_change_131 ?_
      refine lv_iload hx hb dX11_change_132 (lv_at hl 1 rfl) ?_
      refine lv_iload hx hb dX11_change_134 (lv_at hl 0 rfl) ?_
      refine rk_callv (va_runV (As := [.ref (B + (v0 + 16)), .int ((16 : Int32) * (x2 / (4 : Int32))), .int r5, .int (x2 - x2 / (4 : Int32) * (4 : Int32)), .int x6, .int (s7.1 (v0 + 11) x11.toNatClampNeg), .int x8, .int x10]) (rest := []) X.1 (mX11_changes l D cy B 117 (by decide) v0 (v0 + 16) ((16 : Int32) * (x2 / (4 : Int32))) r5 (x2 - x2 / (4 : Int32) * (4 : Int32)) x6 (s7.1 (v0 + 11) x11.toNatClampNeg) x8 x10 s7 h0 (klM_X11_30 h0) h) (cwV 8 hts (gW_V (wi_37 _ (List.mem_of_getElem? (i := 21) rfl)) (wi_37 _ (List.mem_of_getElem? (i := 22) rfl)) (wi_37 _ (List.mem_of_getElem? (i := 23) rfl)) (wi_30 _ (List.mem_of_getElem? (i := 9) rfl)) (wi_37 _ (List.mem_of_getElem? (i := 19) rfl))) rfl rfl rfl hd_X11_changes ⟨Nat.le_of_ble_eq_true rfl, Nat.le_of_ble_eq_true rfl⟩) (rk_preV X hS hP h0 rfl rfl [.ref (B + (v0 + 16)), .int ((16 : Int32) * (x2 / (4 : Int32))), .int r5, .int (x2 - x2 / (4 : Int32) * (4 : Int32)), .int x6, .int (s7.1 (v0 + 11) x11.toNatClampNeg), .int x8, .int x10]) rfl rfl hl.1 rfl (lv_room (Nat.le_of_ble_eq_true rfl)) dX11_change_136 ⟨Nat.zero_le _, Nat.zero_le _⟩) hS (fun _ h => h) (fun s8 H locs h hP hS => ?_)
      refine lv_aload_n hx hb dX11_change_139 rfl (lv_at hl 6 rfl) ?_
      refine lv_aload_n hx hb dX11_change_140 rfl (lv_at hl 6 rfl) ?_
      refine rk_get X hP (C := RX11) (T := TX11) (N := 44) (ci := 11) wix_11 h0 rfl rfl 30 (by decide) (wi_29 _ (List.mem_of_getElem? (i := 13) rfl)) rfl rfl dX11_change_141 ?_
      refine lv_bipush (v := (16 : Int32)) hx hb dX11_change_144 (by decide) ?_
      refine lv_iload hx hb dX11_change_146 (lv_at hl 4 rfl) ?_
      refine lv_iconst (v := (4 : Int32)) hx hb dX11_change_148 (by decide) ?_
      refine lv_idiv hx hb dX11_change_149 (by decide) ?_
      refine lv_imul hx hb dX11_change_150 ?_
      refine lv_aload_n hx hb dX11_change_151 rfl (lv_at hl 6 rfl) ?_
      refine lv_iload hx hb dX11_change_152 (lv_at hl 4 rfl) ?_
      refine lv_iconst (v := (4 : Int32)) hx hb dX11_change_154 (by decide) ?_
      refine lv_idiv hx hb dX11_change_155 (by decide) ?_
      refine rk_calli (va_runV (As := [.int (x4 / (4 : Int32))]) (rest := [.int ((16 : Int32) * (x4 / (4 : Int32))), .ref (B + (v0 + 16)), .ref (B + v0)]) X.1 (mX11_legsAt l D cy B v0 (x4 / (4 : Int32)) s8 h0 h) (cwV 1 hts (gW_V (wi_38 _ (List.mem_of_getElem? (i := 15) rfl)) (wi_38 _ (List.mem_of_getElem? (i := 16) rfl)) (wi_38 _ (List.mem_of_getElem? (i := 17) rfl)) (wi_30 _ (List.mem_of_getElem? (i := 9) rfl)) (wi_35 _ (List.mem_of_getElem? (i := 9) rfl))) rfl rfl rfl hd_X11_legsAt ⟨Nat.le_of_ble_eq_true rfl, Nat.le_of_ble_eq_true rfl⟩) (rk_preV X hS hP h0 rfl rfl [.int (x4 / (4 : Int32))]) rfl rfl hl.1 rfl (lv_room (Nat.le_of_ble_eq_true rfl)) dX11_change_156 ⟨Nat.zero_le _, Nat.zero_le _⟩) hS (fun _ h => h) (fun r6 s9 H locs h hP hS => ?_)
      refine lv_iload hx hb dX11_change_159 (lv_at hl 4 rfl) ?_
      refine lv_iconst (v := (4 : Int32)) hx hb dX11_change_161 (by decide) ?_
      refine lv_irem hx hb dX11_change_162 (by decide) ?_
      refine lv_iload hx hb dX11_change_163 (lv_at hl 0 rfl) ?_
      refine lv_iload hx hb dX11_change_165 (lv_at hl 3 rfl) ?_
      refine lv_imul hx hb dX11_change_167 ?_
      refine lv_aload_n hx hb dX11_change_168 rfl (lv_at hl 6 rfl) ?_
      refine rk_calli (va_runV (As := []) (rest := [.int (x10 * r4), .int (x4 - x4 / (4 : Int32) * (4 : Int32)), .int r6, .int ((16 : Int32) * (x4 / (4 : Int32))), .ref (B + (v0 + 16)), .ref (B + v0)]) X.1 (mX11_p l D cy B v0 s9 h0 h) (cwV 0 hts (gW_V (wi_35 _ (List.mem_of_getElem? (i := 21) rfl)) (wi_35 _ (List.mem_of_getElem? (i := 22) rfl)) (wi_35 _ (List.mem_of_getElem? (i := 23) rfl)) (wi_30 _ (List.mem_of_getElem? (i := 9) rfl)) (wi_35 _ (List.mem_of_getElem? (i := 4) rfl))) rfl rfl rfl hd_X11_p ⟨Nat.le_of_ble_eq_true rfl, Nat.le_of_ble_eq_true rfl⟩) (rk_preV X hS hP h0 rfl rfl []) rfl rfl hl.1 rfl (lv_room (Nat.le_of_ble_eq_true rfl)) dX11_change_169 ⟨Nat.zero_le _, Nat.zero_le _⟩) hS (fun _ h => h) (fun r7 s10 H locs h hP hS => ?_)
      obtain ⟨z1, h⟩ := h
      refine lv_irem hx hb dX11_change_172 z1 ?_
      refine lv_iload hx hb dX11_change_173 (lv_at hl 1 rfl) ?_
      refine lv_ineg hx hb dX11_change_175 ?_
      refine lv_iload hx hb dX11_change_176 (lv_at hl 3 rfl) ?_
      refine lv_imul hx hb dX11_change_178 ?_
      refine lv_i2l hx hb dX11_change_179 rfl ?_
      refine lv_aload_n hx hb dX11_change_180 rfl (lv_at hl 6 rfl) ?_
      refine rk_calli (va_runV (As := []) (rest := [.long (((-x8) * r4).toInt64), .int ((x10 * r4) - (x10 * r4) / r7 * r7), .int (x4 - x4 / (4 : Int32) * (4 : Int32)), .int r6, .int ((16 : Int32) * (x4 / (4 : Int32))), .ref (B + (v0 + 16)), .ref (B + v0)]) X.1 (mX11_p l D cy B v0 s10 h0 h) (cwV 0 hts (gW_V (wi_35 _ (List.mem_of_getElem? (i := 21) rfl)) (wi_35 _ (List.mem_of_getElem? (i := 22) rfl)) (wi_35 _ (List.mem_of_getElem? (i := 23) rfl)) (wi_30 _ (List.mem_of_getElem? (i := 9) rfl)) (wi_35 _ (List.mem_of_getElem? (i := 4) rfl))) rfl rfl rfl hd_X11_p ⟨Nat.le_of_ble_eq_true rfl, Nat.le_of_ble_eq_true rfl⟩) (rk_preV X hS hP h0 rfl rfl []) rfl rfl hl.1 rfl (lv_room (Nat.le_of_ble_eq_true rfl)) dX11_change_181 ⟨Nat.zero_le _, Nat.zero_le _⟩) hS (fun _ h => h) (fun r8 s11 H locs h hP hS => ?_)
      refine rk_calli (va_runS (As := [.long (((-x8) * r4).toInt64), .int r8]) (rest := [.int ((x10 * r4) - (x10 * r4) / r7 * r7), .int (x4 - x4 / (4 : Int32) * (4 : Int32)), .int r6, .int ((16 : Int32) * (x4 / (4 : Int32))), .ref (B + (v0 + 16)), .ref (B + v0)]) X.1 (mX11_modulo l D cy B (((-x8) * r4).toInt64) r8 s11 h) (va_cwS 2 hts (gW_S (wi_33 _ (List.mem_of_getElem? (i := 8) rfl)) (wi_33 _ (List.mem_of_getElem? (i := 9) rfl)) (wi_30 _ (List.mem_of_getElem? (i := 9) rfl)) (wi_33 _ (List.mem_of_getElem? (i := 7) rfl))) rfl rfl rfl hd_X11_modulo ⟨Nat.le_of_ble_eq_true rfl, Nat.le_of_ble_eq_true rfl⟩) (rk_preS X hS hP [.long (((-x8) * r4).toInt64), .int r8]) rfl rfl hl.1 rfl (lv_room (Nat.le_of_ble_eq_true rfl)) dX11_change_184 ⟨Nat.zero_le _, Nat.zero_le _⟩) hS (fun _ h => h) (fun r9 s12 H locs h hP hS => ?_)
      refine lv_aload_n hx hb dX11_change_187 rfl (lv_at hl 6 rfl) ?_
      refine rk_get X hP (C := RX11) (T := TX11) (N := 44) (ci := 11) wix_11 h0 rfl rfl 22 (by decide) (wi_29 _ (List.mem_of_getElem? (i := 8) rfl)) rfl rfl dX11_change_188 ?_
      refine lv_iconst (v := (4 : Int32)) hx hb dX11_change_191 (by decide) ?_
      refine lv_iload_n hx hb dX11_change_192 rfl (lv_at hl 8 rfl) ?_
      refine lv_imul hx hb dX11_change_193 ?_
      refine lv_iconst (v := (1 : Int32)) hx hb dX11_change_194 (by decide) ?_
      refine lv_iadd hx hb dX11_change_195 ?_
      refine lv_topi (fun x12 ex12 => ?_)
      have h := h x12 ex12
      obtain ⟨b7, h⟩ := h
      refine rk_iald X hP (n := 40) (klM_X11_22 h0) (fun _ _ => rfl) b7 dX11_change_196 ?_
      refine lv_ineg hx hb dX11_change_197 ?_
      refine lv_iload hx hb dX11_change_198 (lv_at hl 3 rfl) ?_
      refine lv_imul hx hb dX11_change_200 ?_
      refine lv_i2l hx hb dX11_change_201 rfl ?_
      refine lv_aload_n hx hb dX11_change_202 rfl (lv_at hl 6 rfl) ?_
      refine rk_calli (va_runV12 (As := []) (rest := [.long (((-(s12.1 (v0 + 11) x12.toNatClampNeg)) * r4).toInt64), .int r9, .int ((x10 * r4) - (x10 * r4) / r7 * r7), .int (x4 - x4 / (4 : Int32) * (4 : Int32)), .int r6, .int ((16 : Int32) * (x4 / (4 : Int32))), .ref (B + (v0 + 16)), .ref (B + v0)]) X.1 (mX11_p l D cy B v0 s12 h0 h) (cwV 0 hts (gW_V (wi_35 _ (List.mem_of_getElem? (i := 21) rfl)) (wi_35 _ (List.mem_of_getElem? (i := 22) rfl)) (wi_35 _ (List.mem_of_getElem? (i := 23) rfl)) (wi_30 _ (List.mem_of_getElem? (i := 9) rfl)) (wi_35 _ (List.mem_of_getElem? (i := 4) rfl))) rfl rfl rfl hd_X11_p ⟨Nat.le_of_ble_eq_true rfl, Nat.le_of_ble_eq_true rfl⟩) (Nat.le_of_ble_eq_true rfl) (rk_preV X hS hP h0 rfl rfl []) rfl rfl hl.1 rfl (lv_room12 (Nat.le_of_ble_eq_true rfl)) dX11_change_203 ⟨Nat.zero_le _, Nat.zero_le _⟩) hS (fun _ h => h) (fun r10 s13 H locs h hP hS => ?_)
      refine rk_calli (va_runS (As := [.long (((-(s12.1 (v0 + 11) x12.toNatClampNeg)) * r4).toInt64), .int r10]) (rest := [.int r9, .int ((x10 * r4) - (x10 * r4) / r7 * r7), .int (x4 - x4 / (4 : Int32) * (4 : Int32)), .int r6, .int ((16 : Int32) * (x4 / (4 : Int32))), .ref (B + (v0 + 16)), .ref (B + v0)]) X.1 (mX11_modulo l D cy B (((-(s12.1 (v0 + 11) x12.toNatClampNeg)) * r4).toInt64) r10 s13 h) (va_cwS 2 hts (gW_S (wi_33 _ (List.mem_of_getElem? (i := 8) rfl)) (wi_33 _ (List.mem_of_getElem? (i := 9) rfl)) (wi_30 _ (List.mem_of_getElem? (i := 9) rfl)) (wi_33 _ (List.mem_of_getElem? (i := 7) rfl))) rfl rfl rfl hd_X11_modulo ⟨Nat.le_of_ble_eq_true rfl, Nat.le_of_ble_eq_true rfl⟩) (rk_preS X hS hP [.long (((-(s12.1 (v0 + 11) x12.toNatClampNeg)) * r4).toInt64), .int r10]) rfl rfl hl.1 rfl (lv_room (Nat.le_of_ble_eq_true rfl)) dX11_change_206 ⟨Nat.zero_le _, Nat.zero_le _⟩) hS (fun _ h => h) (fun r11 s14 H locs h hP hS => ?_)
      refine lv_iload hx hb dX11_change_209 (lv_at hl 2 rfl) ?_
      refine lv_iload hx hb dX11_change_211 (lv_at hl 3 rfl) ?_
      refine lv_imul hx hb dX11_change_213 ?_
      refine lv_aload_n hx hb dX11_change_214 rfl (lv_at hl 6 rfl) ?_
      refine rk_calli (va_runV12 (As := []) (rest := [.int (x6 * r4), .int r11, .int r9, .int ((x10 * r4) - (x10 * r4) / r7 * r7), .int (x4 - x4 / (4 : Int32) * (4 : Int32)), .int r6, .int ((16 : Int32) * (x4 / (4 : Int32))), .ref (B + (v0 + 16)), .ref (B + v0)]) X.1 (mX11_p l D cy B v0 s14 h0 h) (cwV 0 hts (gW_V (wi_35 _ (List.mem_of_getElem? (i := 21) rfl)) (wi_35 _ (List.mem_of_getElem? (i := 22) rfl)) (wi_35 _ (List.mem_of_getElem? (i := 23) rfl)) (wi_30 _ (List.mem_of_getElem? (i := 9) rfl)) (wi_35 _ (List.mem_of_getElem? (i := 4) rfl))) rfl rfl rfl hd_X11_p ⟨Nat.le_of_ble_eq_true rfl, Nat.le_of_ble_eq_true rfl⟩) (Nat.le_of_ble_eq_true rfl) (rk_preV X hS hP h0 rfl rfl []) rfl rfl hl.1 rfl (lv_room12 (Nat.le_of_ble_eq_true rfl)) dX11_change_215 ⟨Nat.zero_le _, Nat.zero_le _⟩) hS (fun _ h => h) (fun r12 s15 H locs h hP hS => ?_)
      obtain ⟨z2, h⟩ := h
      refine lv_irem hx hb dX11_change_218 z2 ?_
      refine rk_callv (va_runV (As := [.ref (B + (v0 + 16)), .int ((16 : Int32) * (x4 / (4 : Int32))), .int r6, .int (x4 - x4 / (4 : Int32) * (4 : Int32)), .int ((x10 * r4) - (x10 * r4) / r7 * r7), .int r9, .int r11, .int ((x6 * r4) - (x6 * r4) / r12 * r12)]) (rest := []) X.1 (mX11_changes l D cy B 117 (by decide) v0 (v0 + 16) ((16 : Int32) * (x4 / (4 : Int32))) r6 (x4 - x4 / (4 : Int32) * (4 : Int32)) ((x10 * r4) - (x10 * r4) / r7 * r7) r9 r11 ((x6 * r4) - (x6 * r4) / r12 * r12) s15 h0 (klM_X11_30 h0) h) (cwV 8 hts (gW_V (wi_37 _ (List.mem_of_getElem? (i := 21) rfl)) (wi_37 _ (List.mem_of_getElem? (i := 22) rfl)) (wi_37 _ (List.mem_of_getElem? (i := 23) rfl)) (wi_30 _ (List.mem_of_getElem? (i := 9) rfl)) (wi_37 _ (List.mem_of_getElem? (i := 19) rfl))) rfl rfl rfl hd_X11_changes ⟨Nat.le_of_ble_eq_true rfl, Nat.le_of_ble_eq_true rfl⟩) (rk_preV X hS hP h0 rfl rfl [.ref (B + (v0 + 16)), .int ((16 : Int32) * (x4 / (4 : Int32))), .int r6, .int (x4 - x4 / (4 : Int32) * (4 : Int32)), .int ((x10 * r4) - (x10 * r4) / r7 * r7), .int r9, .int r11, .int ((x6 * r4) - (x6 * r4) / r12 * r12)]) rfl rfl hl.1 rfl (lv_room (Nat.le_of_ble_eq_true rfl)) dX11_change_219 ⟨Nat.zero_le _, Nat.zero_le _⟩) hS (fun _ h => h) (fun s16 H locs h hP hS => ?_)
      refine lv_iconst (v := (1 : Int32)) hx hb dX11_change_222 (by decide) ?_
      exact rk_zret X kM_len true h hP hS dX11_change_223
    · have h := h.2 (b2i_f c2)
      refine lv_iconst (v := (0 : Int32)) hx hb dX11_change_21 (by decide) ?_
      exact rk_zret X kM_len false h hP hS dX11_change_22

theorem hd_X11_plug : yX11_plug.cls = RX11 ∧ yX11_plug.cls ≠ "java/lang/invoke/MethodHandle" ∧ yX11_plug.cls ≠ "java/lang/invoke/VarHandle" ∧ (parseMethodDescriptor yX11_plug.desc).map (fun d => d.parameters.length) = some 2 := by decide +kernel
set_option maxRecDepth 100000 in
set_option maxHeartbeats 4000000 in
theorem tX11_plug_43 {p : Program} {l : Launch} {e : Env} {s : State} {m : MethodId} {av : Array Value} {below : List Frame} {meth : Method} {c : Code} {D : va_G} {cy : Nat → ClassId} {B : Nat} (X : kC p s m av meth c cX11_plug 4 (some .boolean) WALL RX11 D cy (AW B 26)) {post : Bool → St → Prop} : ∀ (n : Nat) (v0 : Nat) (v1 : Int32) (v2 : Int32) (v3 : Int32) (σ : St), kM[v0]? = some 11 → wX11_plug_43 post n v0 v1 v2 v3 σ → ∀ (H : Heap) (locs : List Loc) (ls : Array Slot), va_P D vwCl (wW cy B kM σ) H → va_S (AW B 26) s.heap H locs → lv_has ls 4 [(0, .ref (B + v0)), (1, .int v1), (2, .int v2), (3, .int v3)] → W p l e (rmD 2) s m av below meth c H locs 0 0 (MQ below (Qz post D cy B kM 26) av s 0 0 (AW B 26)) (F0 m 43 ls []) := by
  obtain ⟨⟨hx, hb, hml, hown, hts⟩, hr, hlk, hK, hN, hZ⟩ := id X
  have hD : ∀ σ, va_D (AW B 26) (wW cy B kM σ) := AW_D kM_len
  intro n
  induction n with
  | zero => intro v0 v1 v2 v3 σ h0 h; exact absurd h id
  | succ n ih =>
    intro v0 v1 v2 v3 σ h0 h H locs ls hP hS hl
    rw [wX11_plug_43] at h
    refine lv_iload_n hx hb dX11_plug_43 rfl (lv_at hl 3 rfl) ?_
    refine lv_bipush (v := (16 : Int32)) hx hb dX11_plug_44 (by decide) ?_
    refine lv_icmp_ge (tgt := 77) hx hb dX11_plug_46 (by decide) (fun c1 => ?_) (fun c1 => ?_)
    · have h := h.1 c1
      refine lv_iconst (v := (1 : Int32)) hx hb dX11_plug_77 (by decide) ?_
      exact rk_zret X kM_len true h hP hS dX11_plug_78
    · have h := h.2 c1
      refine lv_aload_n hx hb dX11_plug_49 rfl (lv_at hl 0 rfl) ?_
      refine rk_get X hP (C := RX11) (T := TX11) (N := 44) (ci := 11) wix_11 h0 rfl rfl 30 (by decide) (wi_29 _ (List.mem_of_getElem? (i := 13) rfl)) rfl rfl dX11_plug_50 ?_
      refine lv_bipush (v := (16 : Int32)) hx hb dX11_plug_53 (by decide) ?_
      refine lv_iload_n hx hb dX11_plug_55 rfl (lv_at hl 1 rfl) ?_
      refine lv_imul hx hb dX11_plug_56 ?_
      refine lv_iload_n hx hb dX11_plug_57 rfl (lv_at hl 3 rfl) ?_
      refine lv_iadd hx hb dX11_plug_58 ?_
      refine lv_aload_n hx hb dX11_plug_59 rfl (lv_at hl 0 rfl) ?_
      refine rk_get X hP (C := RX11) (T := TX11) (N := 44) (ci := 11) wix_11 h0 rfl rfl 21 (by decide) (wi_29 _ (List.mem_of_getElem? (i := 7) rfl)) rfl rfl dX11_plug_60 ?_
      refine lv_bipush (v := (16 : Int32)) hx hb dX11_plug_63 (by decide) ?_
      refine lv_iload_n hx hb dX11_plug_65 rfl (lv_at hl 2 rfl) ?_
      refine lv_imul hx hb dX11_plug_66 ?_
      refine lv_iload_n hx hb dX11_plug_67 rfl (lv_at hl 3 rfl) ?_
      refine lv_iadd hx hb dX11_plug_68 ?_
      refine lv_topi (fun x1 ex1 => ?_)
      have h := h x1 ex1
      obtain ⟨b1, h⟩ := h
      refine rk_iald X hP (n := 256) (klM_X11_21 h0) (fun _ _ => rfl) b1 dX11_plug_69 ?_
      obtain ⟨b2, h⟩ := h
      refine rk_iast X hP hD hS (n := 117) (klM_X11_30 h0) (fun _ _ => rfl) b2 dX11_plug_70 (fun H locs hP hS => ?_)
      obtain ⟨s1, es1⟩ : ∃ z : St, z = u1 σ (v0 + 16) (((16 : Int32) * v1) + v3).toNatClampNeg (σ.1 (v0 + 10) x1.toNatClampNeg) := ⟨_, rfl⟩
      rw [← es1] at hP
      have h := h s1 es1
      obtain ⟨x2, ex2⟩ : ∃ y : Int32, y = v3 + (1 : Int32) := ⟨_, rfl⟩
      have h := h x2 ex2
      refine lv_iinc (v := x2) (lv' := [(3, .int x2), (0, .ref (B + v0)), (1, .int v1), (2, .int v2)]) hx hb dX11_plug_71 hl (k := 3) rfl (by rw [ex2]; rfl) (by decide) rfl (fun ls hl => ?_)
      refine lv_goto (tgt := 43) hx hb dX11_plug_74 (by decide) ?_
      exact ih _ _ _ _ _ h0 h _ _ _ hP hS (lv_sub hl [1, 2, 3, 0] rfl)
set_option maxRecDepth 100000 in
set_option maxHeartbeats 4000000 in
theorem mX11_plug (l : Launch) (D : va_G) (cy : Nat → ClassId) (B : Nat) (v0 : Nat) (v1 : Int32) (v2 : Int32) (σ : St) (h0 : kM[v0]? = some 11) {post : Bool → St → Prop} (h : wX11_plug v0 v1 v2 σ post) : Met l yX11_plug (Cond.code yX11_plug cX11_plug 4 (some .boolean) :: WALL) (rmD 2) (PcW D cy B kM σ [.ref (B + v0), .int v1, .int v2]) (Qz post D cy B kM 26) 0 0 (AW B 26) := by
  refine Met.ofK (cc := cX11_plug) (maxL := 4) (ret := (some .boolean)) (by decide +kernel) rfl kM_len ?_
  intro p e s m below meth c X hP
  obtain ⟨⟨hx, hb, hml, hown, hts⟩, hr, hlk, hK, hN, hZ⟩ := id X
  have hD : ∀ σ, va_D (AW B 26) (wW cy B kM σ) := AW_D kM_len
  have hS : va_S (AW B 26) s.heap s.heap [] := va_S.rf
  have hl := lv_entry ([.ref (B + v0), .int v1, .int v2]) (n := 4) (Nat.le_of_ble_eq_true rfl)
  rw [lg_entry_eq]
  generalize (lg_sl ([.ref (B + v0), .int v1, .int v2]) ++ List.replicate (4 - (lg_sl ([.ref (B + v0), .int v1, .int v2])).length) Slot.unset).toArray = ls at hl ⊢
  have hl : lv_has ls 4 [(0, .ref (B + v0)), (1, .int v1), (2, .int v2)] := hl
  unfold wX11_plug at h
  refine lv_aload_n hx hb dX11_plug_0 rfl (lv_at hl 0 rfl) ?_
  refine lv_iconst (v := (0 : Int32)) hx hb dX11_plug_1 (by decide) ?_
  refine rk_puti X hP hD hS (C := RX11) (T := TX11) (N := 44) (ci := 11) wix_11 h0 rfl rfl tyX11 tyX11_ok nmX11 0 (by decide) (wi_30 _ (List.mem_of_getElem? (i := 1) rfl)) rfl rfl (by decide +kernel) (Nat.le_of_ble_eq_true rfl) rfl dX11_plug_2 (fun H locs hP hS => ?_)
  obtain ⟨s1, es1⟩ : ∃ z : St, z = u1 σ v0 0 (0 : Int32) := ⟨_, rfl⟩
  rw [← es1] at hP
  have h := h s1 es1
  refine lv_aload_n hx hb dX11_plug_5 rfl (lv_at hl 0 rfl) ?_
  refine lv_iload_n hx hb dX11_plug_6 rfl (lv_at hl 1 rfl) ?_
  refine rk_callz (va_runV (As := [.int v1]) (rest := []) X.1 (mX11_isNode l D cy B v0 v1 s1 h0 h) (cwV 1 hts (gW_V (wi_38 _ (List.mem_of_getElem? (i := 12) rfl)) (wi_38 _ (List.mem_of_getElem? (i := 13) rfl)) (wi_38 _ (List.mem_of_getElem? (i := 14) rfl)) (wi_30 _ (List.mem_of_getElem? (i := 9) rfl)) (wi_35 _ (List.mem_of_getElem? (i := 7) rfl))) rfl rfl rfl hd_X11_isNode ⟨Nat.le_of_ble_eq_true rfl, Nat.le_of_ble_eq_true rfl⟩) (rk_preV X hS hP h0 rfl rfl [.int v1]) rfl rfl hl.1 rfl (lv_room (Nat.le_of_ble_eq_true rfl)) dX11_plug_7 ⟨Nat.zero_le _, Nat.zero_le _⟩) hS (fun _ h => h) (fun r1 s2 H locs h hP hS => ?_)
  refine lv_if_eq (tgt := 35) hx hb dX11_plug_10 (by decide) (fun c1 => ?_) (fun c1 => ?_)
  · have h := h.1 (b2i_f c1)
    refine lv_iconst (v := (0 : Int32)) hx hb dX11_plug_35 (by decide) ?_
    exact rk_zret X kM_len false h hP hS dX11_plug_36
  · have h := h.2 (b2i_t c1)
    refine lv_aload_n hx hb dX11_plug_13 rfl (lv_at hl 0 rfl) ?_
    refine lv_iload_n hx hb dX11_plug_14 rfl (lv_at hl 2 rfl) ?_
    refine rk_callz (va_runV (As := [.int v2]) (rest := []) X.1 (mX11_isTable l D cy B v0 v2 s2 h0 h) (cwV 1 hts (gW_V (wi_35 _ (List.mem_of_getElem? (i := 14) rfl)) (wi_35 _ (List.mem_of_getElem? (i := 15) rfl)) (wi_35 _ (List.mem_of_getElem? (i := 16) rfl)) (wi_30 _ (List.mem_of_getElem? (i := 9) rfl)) (wi_35 _ (List.mem_of_getElem? (i := 5) rfl))) rfl rfl rfl hd_X11_isTable ⟨Nat.le_of_ble_eq_true rfl, Nat.le_of_ble_eq_true rfl⟩) (rk_preV X hS hP h0 rfl rfl [.int v2]) rfl rfl hl.1 rfl (lv_room (Nat.le_of_ble_eq_true rfl)) dX11_plug_15 ⟨Nat.zero_le _, Nat.zero_le _⟩) hS (fun _ h => h) (fun r2 s3 H locs h hP hS => ?_)
    refine lv_if_eq (tgt := 35) hx hb dX11_plug_18 (by decide) (fun c2 => ?_) (fun c2 => ?_)
    · have h := h.1 (b2i_f c2)
      refine lv_iconst (v := (0 : Int32)) hx hb dX11_plug_35 (by decide) ?_
      exact rk_zret X kM_len false h hP hS dX11_plug_36
    · have h := h.2 (b2i_t c2)
      refine lv_aload_n hx hb dX11_plug_21 rfl (lv_at hl 0 rfl) ?_
      refine rk_get X hP (C := RX11) (T := TX11) (N := 44) (ci := 11) wix_11 h0 rfl rfl 20 (by decide) (wi_29 _ (List.mem_of_getElem? (i := 6) rfl)) rfl rfl dX11_plug_22 ?_
      refine lv_iload_n hx hb dX11_plug_25 rfl (lv_at hl 2 rfl) ?_
      obtain ⟨b1, h⟩ := h
      refine rk_iald X hP (n := 16) (klM_X11_20 h0) (fun _ _ => rfl) b1 dX11_plug_26 ?_
      refine lv_aload_n hx hb dX11_plug_27 rfl (lv_at hl 0 rfl) ?_
      refine lv_iload_n hx hb dX11_plug_28 rfl (lv_at hl 1 rfl) ?_
      refine rk_calli (va_runV (As := [.int v1]) (rest := [.int (s3.1 (v0 + 9) v2.toNatClampNeg)]) X.1 (mX11_legsAt l D cy B v0 v1 s3 h0 h) (cwV 1 hts (gW_V (wi_38 _ (List.mem_of_getElem? (i := 15) rfl)) (wi_38 _ (List.mem_of_getElem? (i := 16) rfl)) (wi_38 _ (List.mem_of_getElem? (i := 17) rfl)) (wi_30 _ (List.mem_of_getElem? (i := 9) rfl)) (wi_35 _ (List.mem_of_getElem? (i := 9) rfl))) rfl rfl rfl hd_X11_legsAt ⟨Nat.le_of_ble_eq_true rfl, Nat.le_of_ble_eq_true rfl⟩) (rk_preV X hS hP h0 rfl rfl [.int v1]) rfl rfl hl.1 rfl (lv_room (Nat.le_of_ble_eq_true rfl)) dX11_plug_29 ⟨Nat.zero_le _, Nat.zero_le _⟩) hS (fun _ h => h) (fun r3 s4 H locs h hP hS => ?_)
      refine lv_icmp_eq (tgt := 37) hx hb dX11_plug_32 (by decide) (fun c3 => ?_) (fun c3 => ?_)
      · have h := h.1 c3
        refine lv_aload_n hx hb dX11_plug_37 rfl (lv_at hl 0 rfl) ?_
        refine rk_callv (va_runV (As := []) (rest := []) X.1 (mX11_keeps l D cy B v0 s4 h0 h) (cwV 0 hts (gW_V (wi_41 _ (List.mem_of_getElem? (i := 3) rfl)) (wi_41 _ (List.mem_of_getElem? (i := 4) rfl)) (wi_41 _ (List.mem_of_getElem? (i := 5) rfl)) (wi_30 _ (List.mem_of_getElem? (i := 9) rfl)) (wi_41 _ (List.mem_of_getElem? (i := 2) rfl))) rfl rfl rfl hd_X11_keeps ⟨Nat.le_of_ble_eq_true rfl, Nat.le_of_ble_eq_true rfl⟩) (rk_preV X hS hP h0 rfl rfl []) rfl rfl hl.1 rfl (lv_room (Nat.le_of_ble_eq_true rfl)) dX11_plug_38 ⟨Nat.zero_le _, Nat.zero_le _⟩) hS (fun _ h => h) (fun s5 H locs h hP hS => ?_)
        refine lv_iconst (v := (0 : Int32)) hx hb dX11_plug_41 (by decide) ?_
        refine lv_istore_n (lv' := [(3, .int (0 : Int32)), (0, .ref (B + v0)), (1, .int v1), (2, .int v2)]) hx hb dX11_plug_42 rfl hl (by decide) rfl (fun ls hl => ?_)
        obtain ⟨j, h⟩ := h
        exact tX11_plug_43 X j _ _ _ _ _ h0 h _ _ _ hP hS (lv_sub hl [1, 2, 3, 0] rfl)
      · have h := h.2 c3
        refine lv_iconst (v := (0 : Int32)) hx hb dX11_plug_35 (by decide) ?_
        exact rk_zret X kM_len false h hP hS dX11_plug_36

theorem hd_X11_scale : yX11_scale.cls = RX11 ∧ yX11_scale.cls ≠ "java/lang/invoke/MethodHandle" ∧ yX11_scale.cls ≠ "java/lang/invoke/VarHandle" ∧ (parseMethodDescriptor yX11_scale.desc).map (fun d => d.parameters.length) = some 2 := by decide +kernel
set_option maxRecDepth 100000 in
set_option maxHeartbeats 4000000 in
theorem tX11_scale_37 {p : Program} {l : Launch} {e : Env} {s : State} {m : MethodId} {av : Array Value} {below : List Frame} {meth : Method} {c : Code} {D : va_G} {cy : Nat → ClassId} {B : Nat} (X : kC p s m av meth c cX11_scale 4 (some .boolean) WALL RX11 D cy (AW B 26)) {post : Bool → St → Prop} : ∀ (n : Nat) (v0 : Nat) (v1 : Int32) (v2 : Int32) (v3 : Int32) (σ : St), kM[v0]? = some 11 → wX11_scale_37 post n v0 v1 v2 v3 σ → ∀ (H : Heap) (locs : List Loc) (ls : Array Slot), va_P D vwCl (wW cy B kM σ) H → va_S (AW B 26) s.heap H locs → lv_has ls 4 [(0, .ref (B + v0)), (1, .int v1), (2, .int v2), (3, .int v3)] → W p l e (rmD 2) s m av below meth c H locs 0 0 (MQ below (Qz post D cy B kM 26) av s 0 0 (AW B 26)) (F0 m 37 ls []) := by
  obtain ⟨⟨hx, hb, hml, hown, hts⟩, hr, hlk, hK, hN, hZ⟩ := id X
  have hD : ∀ σ, va_D (AW B 26) (wW cy B kM σ) := AW_D kM_len
  intro n
  induction n with
  | zero => intro v0 v1 v2 v3 σ h0 h; exact absurd h id
  | succ n ih =>
    intro v0 v1 v2 v3 σ h0 h H locs ls hP hS hl
    rw [wX11_scale_37] at h
    refine lv_iload_n hx hb dX11_scale_37 rfl (lv_at hl 3 rfl) ?_
    refine lv_bipush (v := (16 : Int32)) hx hb dX11_scale_38 (by decide) ?_
    refine lv_icmp_ge (tgt := 78) hx hb dX11_scale_40 (by decide) (fun c1 => ?_) (fun c1 => ?_)
    · have h := h.1 c1
      refine lv_iconst (v := (1 : Int32)) hx hb dX11_scale_78 (by decide) ?_
      exact rk_zret X kM_len true h hP hS dX11_scale_79
    · have h := h.2 c1
      refine lv_aload_n hx hb dX11_scale_43 rfl (lv_at hl 0 rfl) ?_
      refine rk_get X hP (C := RX11) (T := TX11) (N := 44) (ci := 11) wix_11 h0 rfl rfl 30 (by decide) (wi_29 _ (List.mem_of_getElem? (i := 13) rfl)) rfl rfl dX11_scale_44 ?_
      refine lv_bipush (v := (16 : Int32)) hx hb dX11_scale_47 (by decide) ?_
      refine lv_iload_n hx hb dX11_scale_49 rfl (lv_at hl 1 rfl) ?_
      refine lv_imul hx hb dX11_scale_50 ?_
      refine lv_iload_n hx hb dX11_scale_51 rfl (lv_at hl 3 rfl) ?_
      refine lv_iadd hx hb dX11_scale_52 ?_
      refine lv_aload_n hx hb dX11_scale_53 rfl (lv_at hl 0 rfl) ?_
      refine rk_get X hP (C := RX11) (T := TX11) (N := 44) (ci := 11) wix_11 h0 rfl rfl 30 (by decide) (wi_29 _ (List.mem_of_getElem? (i := 13) rfl)) rfl rfl dX11_scale_54 ?_
      refine lv_bipush (v := (16 : Int32)) hx hb dX11_scale_57 (by decide) ?_
      refine lv_iload_n hx hb dX11_scale_59 rfl (lv_at hl 1 rfl) ?_
      refine lv_imul hx hb dX11_scale_60 ?_
      refine lv_iload_n hx hb dX11_scale_61 rfl (lv_at hl 3 rfl) ?_
      refine lv_iadd hx hb dX11_scale_62 ?_
      refine lv_topi (fun x1 ex1 => ?_)
      have h := h x1 ex1
      obtain ⟨b1, h⟩ := h
      refine rk_iald X hP (n := 117) (klM_X11_30 h0) (fun _ _ => rfl) b1 dX11_scale_63 ?_
      refine lv_iload_n hx hb dX11_scale_64 rfl (lv_at hl 2 rfl) ?_
      refine lv_imul hx hb dX11_scale_65 ?_
      refine lv_aload_n hx hb dX11_scale_66 rfl (lv_at hl 0 rfl) ?_
      refine rk_calli (va_runV (As := []) (rest := [.int ((σ.1 (v0 + 16) x1.toNatClampNeg) * v2), .int (((16 : Int32) * v1) + v3), .ref (B + (v0 + 16))]) X.1 (mX11_p l D cy B v0 σ h0 h) (cwV 0 hts (gW_V (wi_35 _ (List.mem_of_getElem? (i := 21) rfl)) (wi_35 _ (List.mem_of_getElem? (i := 22) rfl)) (wi_35 _ (List.mem_of_getElem? (i := 23) rfl)) (wi_30 _ (List.mem_of_getElem? (i := 9) rfl)) (wi_35 _ (List.mem_of_getElem? (i := 4) rfl))) rfl rfl rfl hd_X11_p ⟨Nat.le_of_ble_eq_true rfl, Nat.le_of_ble_eq_true rfl⟩) (rk_preV X hS hP h0 rfl rfl []) rfl rfl hl.1 rfl (lv_room (Nat.le_of_ble_eq_true rfl)) dX11_scale_67 ⟨Nat.zero_le _, Nat.zero_le _⟩) hS (fun _ h => h) (fun r1 s1 H locs h hP hS => ?_)
      obtain ⟨z1, h⟩ := h
      refine lv_irem hx hb dX11_scale_70 z1 ?_
      obtain ⟨b2, h⟩ := h
      refine rk_iast X hP hD hS (n := 117) (klM_X11_30 h0) (fun _ _ => rfl) b2 dX11_scale_71 (fun H locs hP hS => ?_)
      obtain ⟨s2, es2⟩ : ∃ z : St, z = u1 s1 (v0 + 16) (((16 : Int32) * v1) + v3).toNatClampNeg (((σ.1 (v0 + 16) x1.toNatClampNeg) * v2) - ((σ.1 (v0 + 16) x1.toNatClampNeg) * v2) / r1 * r1) := ⟨_, rfl⟩
      rw [← es2] at hP
      have h := h s2 es2
      obtain ⟨x2, ex2⟩ : ∃ y : Int32, y = v3 + (1 : Int32) := ⟨_, rfl⟩
      have h := h x2 ex2
      refine lv_iinc (v := x2) (lv' := [(3, .int x2), (0, .ref (B + v0)), (1, .int v1), (2, .int v2)]) hx hb dX11_scale_72 hl (k := 3) rfl (by rw [ex2]; rfl) (by decide) rfl (fun ls hl => ?_)
      refine lv_goto (tgt := 37) hx hb dX11_scale_75 (by decide) ?_
      exact ih _ _ _ _ _ h0 h _ _ _ hP hS (lv_sub hl [1, 2, 3, 0] rfl)
set_option maxRecDepth 100000 in
set_option maxHeartbeats 4000000 in
theorem mX11_scale (l : Launch) (D : va_G) (cy : Nat → ClassId) (B : Nat) (v0 : Nat) (v1 : Int32) (v2 : Int32) (σ : St) (h0 : kM[v0]? = some 11) {post : Bool → St → Prop} (h : wX11_scale v0 v1 v2 σ post) : Met l yX11_scale (Cond.code yX11_scale cX11_scale 4 (some .boolean) :: WALL) (rmD 2) (PcW D cy B kM σ [.ref (B + v0), .int v1, .int v2]) (Qz post D cy B kM 26) 0 0 (AW B 26) := by
  refine Met.ofK (cc := cX11_scale) (maxL := 4) (ret := (some .boolean)) (by decide +kernel) rfl kM_len ?_
  intro p e s m below meth c X hP
  obtain ⟨⟨hx, hb, hml, hown, hts⟩, hr, hlk, hK, hN, hZ⟩ := id X
  have hD : ∀ σ, va_D (AW B 26) (wW cy B kM σ) := AW_D kM_len
  have hS : va_S (AW B 26) s.heap s.heap [] := va_S.rf
  have hl := lv_entry ([.ref (B + v0), .int v1, .int v2]) (n := 4) (Nat.le_of_ble_eq_true rfl)
  rw [lg_entry_eq]
  generalize (lg_sl ([.ref (B + v0), .int v1, .int v2]) ++ List.replicate (4 - (lg_sl ([.ref (B + v0), .int v1, .int v2])).length) Slot.unset).toArray = ls at hl ⊢
  have hl : lv_has ls 4 [(0, .ref (B + v0)), (1, .int v1), (2, .int v2)] := hl
  unfold wX11_scale at h
  refine lv_aload_n hx hb dX11_scale_0 rfl (lv_at hl 0 rfl) ?_
  refine lv_iconst (v := (0 : Int32)) hx hb dX11_scale_1 (by decide) ?_
  refine rk_puti X hP hD hS (C := RX11) (T := TX11) (N := 44) (ci := 11) wix_11 h0 rfl rfl tyX11 tyX11_ok nmX11 0 (by decide) (wi_30 _ (List.mem_of_getElem? (i := 1) rfl)) rfl rfl (by decide +kernel) (Nat.le_of_ble_eq_true rfl) rfl dX11_scale_2 (fun H locs hP hS => ?_)
  obtain ⟨s1, es1⟩ : ∃ z : St, z = u1 σ v0 0 (0 : Int32) := ⟨_, rfl⟩
  rw [← es1] at hP
  have h := h s1 es1
  refine lv_aload_n hx hb dX11_scale_5 rfl (lv_at hl 0 rfl) ?_
  refine lv_iload_n hx hb dX11_scale_6 rfl (lv_at hl 1 rfl) ?_
  refine rk_callz (va_runV (As := [.int v1]) (rest := []) X.1 (mX11_isNode l D cy B v0 v1 s1 h0 h) (cwV 1 hts (gW_V (wi_38 _ (List.mem_of_getElem? (i := 12) rfl)) (wi_38 _ (List.mem_of_getElem? (i := 13) rfl)) (wi_38 _ (List.mem_of_getElem? (i := 14) rfl)) (wi_30 _ (List.mem_of_getElem? (i := 9) rfl)) (wi_35 _ (List.mem_of_getElem? (i := 7) rfl))) rfl rfl rfl hd_X11_isNode ⟨Nat.le_of_ble_eq_true rfl, Nat.le_of_ble_eq_true rfl⟩) (rk_preV X hS hP h0 rfl rfl [.int v1]) rfl rfl hl.1 rfl (lv_room (Nat.le_of_ble_eq_true rfl)) dX11_scale_7 ⟨Nat.zero_le _, Nat.zero_le _⟩) hS (fun _ h => h) (fun r1 s2 H locs h hP hS => ?_)
  refine lv_if_eq (tgt := 29) hx hb dX11_scale_10 (by decide) (fun c1 => ?_) (fun c1 => ?_)
  · have h := h.1 (b2i_f c1)
    refine lv_iconst (v := (0 : Int32)) hx hb dX11_scale_29 (by decide) ?_
    exact rk_zret X kM_len false h hP hS dX11_scale_30
  · have h := h.2 (b2i_t c1)
    refine lv_iload_n hx hb dX11_scale_13 rfl (lv_at hl 2 rfl) ?_
    refine lv_i2l hx hb dX11_scale_14 rfl ?_
    refine lv_lconst (v := (1 : Int64)) hx hb dX11_scale_15 (by decide) ?_
    refine lv_aload_n hx hb dX11_scale_16 rfl (lv_at hl 0 rfl) ?_
    refine rk_calli (va_runV (As := []) (rest := [.long (1 : Int64), .long (v2.toInt64)]) X.1 (mX11_p l D cy B v0 s2 h0 h) (cwV 0 hts (gW_V (wi_35 _ (List.mem_of_getElem? (i := 21) rfl)) (wi_35 _ (List.mem_of_getElem? (i := 22) rfl)) (wi_35 _ (List.mem_of_getElem? (i := 23) rfl)) (wi_30 _ (List.mem_of_getElem? (i := 9) rfl)) (wi_35 _ (List.mem_of_getElem? (i := 4) rfl))) rfl rfl rfl hd_X11_p ⟨Nat.le_of_ble_eq_true rfl, Nat.le_of_ble_eq_true rfl⟩) (rk_preV X hS hP h0 rfl rfl []) rfl rfl hl.1 rfl (lv_room (Nat.le_of_ble_eq_true rfl)) dX11_scale_17 ⟨Nat.zero_le _, Nat.zero_le _⟩) hS (fun _ h => h) (fun r2 s3 H locs h hP hS => ?_)
    refine lv_iconst (v := (1 : Int32)) hx hb dX11_scale_20 (by decide) ?_
    refine lv_isub hx hb dX11_scale_21 ?_
    refine lv_i2l hx hb dX11_scale_22 rfl ?_
    refine rk_callz (va_runS (As := [.long (v2.toInt64), .long (1 : Int64), .long ((r2 - (1 : Int32)).toInt64)]) (rest := []) X.1 (mX11_within l D cy B (v2.toInt64) (1 : Int64) ((r2 - (1 : Int32)).toInt64) s3 h) (va_cwS 3 hts (gW_S (wi_31 _ (List.mem_of_getElem? (i := 2) rfl)) (wi_31 _ (List.mem_of_getElem? (i := 3) rfl)) (wi_30 _ (List.mem_of_getElem? (i := 9) rfl)) (wi_30 _ (List.mem_of_getElem? (i := 2) rfl))) rfl rfl rfl hd_X11_within ⟨Nat.le_of_ble_eq_true rfl, Nat.le_of_ble_eq_true rfl⟩) (rk_preS X hS hP [.long (v2.toInt64), .long (1 : Int64), .long ((r2 - (1 : Int32)).toInt64)]) rfl rfl hl.1 rfl (lv_room (Nat.le_of_ble_eq_true rfl)) dX11_scale_23 ⟨Nat.zero_le _, Nat.zero_le _⟩) hS (fun _ h => h) (fun r3 s4 H locs h hP hS => ?_)
    refine lv_if_ne (tgt := 31) hx hb dX11_scale_26 (by decide) (fun c2 => ?_) (fun c2 => ?_)
    · have h := h.1 (b2i_t c2)
      refine lv_aload_n hx hb dX11_scale_31 rfl (lv_at hl 0 rfl) ?_
      refine rk_callv (va_runV (As := []) (rest := []) X.1 (mX11_keeps l D cy B v0 s4 h0 h) (cwV 0 hts (gW_V (wi_41 _ (List.mem_of_getElem? (i := 3) rfl)) (wi_41 _ (List.mem_of_getElem? (i := 4) rfl)) (wi_41 _ (List.mem_of_getElem? (i := 5) rfl)) (wi_30 _ (List.mem_of_getElem? (i := 9) rfl)) (wi_41 _ (List.mem_of_getElem? (i := 2) rfl))) rfl rfl rfl hd_X11_keeps ⟨Nat.le_of_ble_eq_true rfl, Nat.le_of_ble_eq_true rfl⟩) (rk_preV X hS hP h0 rfl rfl []) rfl rfl hl.1 rfl (lv_room (Nat.le_of_ble_eq_true rfl)) dX11_scale_32 ⟨Nat.zero_le _, Nat.zero_le _⟩) hS (fun _ h => h) (fun s5 H locs h hP hS => ?_)
      refine lv_iconst (v := (0 : Int32)) hx hb dX11_scale_35 (by decide) ?_
      refine lv_istore_n (lv' := [(3, .int (0 : Int32)), (0, .ref (B + v0)), (1, .int v1), (2, .int v2)]) hx hb dX11_scale_36 rfl hl (by decide) rfl (fun ls hl => ?_)
      obtain ⟨j, h⟩ := h
      exact tX11_scale_37 X j _ _ _ _ _ h0 h _ _ _ hP hS (lv_sub hl [1, 2, 3, 0] rfl)
    · have h := h.2 (b2i_f c2)
      refine lv_iconst (v := (0 : Int32)) hx hb dX11_scale_29 (by decide) ?_
      exact rk_zret X kM_len false h hP hS dX11_scale_30

theorem hd_X11_swap : yX11_swap.cls = RX11 ∧ yX11_swap.cls ≠ "java/lang/invoke/MethodHandle" ∧ yX11_swap.cls ≠ "java/lang/invoke/VarHandle" ∧ (parseMethodDescriptor yX11_swap.desc).map (fun d => d.parameters.length) = some 3 := by decide +kernel
set_option maxRecDepth 100000 in
set_option maxHeartbeats 4000000 in
theorem tX11_swap_61 {p : Program} {l : Launch} {e : Env} {s : State} {m : MethodId} {av : Array Value} {below : List Frame} {meth : Method} {c : Code} {D : va_G} {cy : Nat → ClassId} {B : Nat} (X : kC p s m av meth c cX11_swap 7 (some .boolean) WALL RX11 D cy (AW B 26)) {post : Bool → St → Prop} : ∀ (n : Nat) (v0 : Nat) (v1 : Int32) (v2 : Int32) (v3 : Int32) (v4 : Int32) (σ : St), kM[v0]? = some 11 → wX11_swap_61 post n v0 v1 v2 v3 v4 σ → ∀ (H : Heap) (locs : List Loc) (ls : Array Slot), va_P D vwCl (wW cy B kM σ) H → va_S (AW B 26) s.heap H locs → lv_has ls 7 [(0, .ref (B + v0)), (1, .int v1), (2, .int v2), (3, .int v3), (4, .int v4)] → W p l e (rmD 2) s m av below meth c H locs 0 0 (MQ below (Qz post D cy B kM 26) av s 0 0 (AW B 26)) (F0 m 61 ls []) := by
  obtain ⟨⟨hx, hb, hml, hown, hts⟩, hr, hlk, hK, hN, hZ⟩ := id X
  have hD : ∀ σ, va_D (AW B 26) (wW cy B kM σ) := AW_D kM_len
  intro n
  induction n with
  | zero => intro v0 v1 v2 v3 v4 σ h0 h; exact absurd h id
  | succ n ih =>
    intro v0 v1 v2 v3 v4 σ h0 h H locs ls hP hS hl
    rw [wX11_swap_61] at h
    refine lv_iload hx hb dX11_swap_61 (lv_at hl 4 rfl) ?_
    refine lv_iconst (v := (1 : Int32)) hx hb dX11_swap_63 (by decide) ?_
    refine lv_aload_n hx hb dX11_swap_64 rfl (lv_at hl 0 rfl) ?_
    refine lv_iload_n hx hb dX11_swap_65 rfl (lv_at hl 1 rfl) ?_
    refine rk_calli (va_runV (As := [.int v1]) (rest := [.int (1 : Int32), .int v4]) X.1 (mX11_legsAt l D cy B v0 v1 σ h0 h) (cwV 1 hts (gW_V (wi_38 _ (List.mem_of_getElem? (i := 15) rfl)) (wi_38 _ (List.mem_of_getElem? (i := 16) rfl)) (wi_38 _ (List.mem_of_getElem? (i := 17) rfl)) (wi_30 _ (List.mem_of_getElem? (i := 9) rfl)) (wi_35 _ (List.mem_of_getElem? (i := 9) rfl))) rfl rfl rfl hd_X11_legsAt ⟨Nat.le_of_ble_eq_true rfl, Nat.le_of_ble_eq_true rfl⟩) (rk_preV X hS hP h0 rfl rfl [.int v1]) rfl rfl hl.1 rfl (lv_room (Nat.le_of_ble_eq_true rfl)) dX11_swap_66 ⟨Nat.zero_le _, Nat.zero_le _⟩) hS (fun _ h => h) (fun r1 s1 H locs h hP hS => ?_)
    refine lv_ishl hx hb dX11_swap_69 ?_
    refine lv_icmp_ge (tgt := 167) hx hb dX11_swap_70 (by decide) (fun c1 => ?_) (fun c1 => ?_)
    · have h := h.1 c1
      refine lv_iconst (v := (1 : Int32)) hx hb dX11_swap_167 (by decide) ?_
      exact rk_zret X kM_len true h hP hS dX11_swap_168
    · have h := h.2 c1
      refine lv_iload hx hb dX11_swap_73 (lv_at hl 4 rfl) ?_
      refine lv_iload_n hx hb dX11_swap_75 rfl (lv_at hl 2 rfl) ?_
      refine lv_ishr hx hb dX11_swap_76 ?_
      refine lv_iconst (v := (1 : Int32)) hx hb dX11_swap_77 (by decide) ?_
      refine lv_iand hx hb dX11_swap_78 ?_
      refine lv_if_eq (tgt := 161) hx hb dX11_swap_79 (by decide) (fun c2 => ?_) (fun c2 => ?_)
      · have h := h.1 c2
        obtain ⟨x1, ex1⟩ : ∃ y : Int32, y = v4 + (1 : Int32) := ⟨_, rfl⟩
        have h := h x1 ex1
        refine lv_iinc (v := x1) (lv' := [(4, .int x1), (0, .ref (B + v0)), (1, .int v1), (2, .int v2), (3, .int v3)]) hx hb dX11_swap_161 hl (k := 4) rfl (by rw [ex1]; rfl) (by decide) rfl (fun ls hl => ?_)
        refine lv_goto (tgt := 61) hx hb dX11_swap_164 (by decide) ?_
        exact ih _ _ _ _ _ _ h0 h _ _ _ hP hS (lv_sub hl [1, 2, 3, 4, 0] rfl)
      · have h := h.2 c2
        refine lv_iload hx hb dX11_swap_82 (lv_at hl 4 rfl) ?_
        refine lv_iload_n hx hb dX11_swap_84 rfl (lv_at hl 3 rfl) ?_
        refine lv_ishr hx hb dX11_swap_85 ?_
        refine lv_iconst (v := (1 : Int32)) hx hb dX11_swap_86 (by decide) ?_
        refine lv_iand hx hb dX11_swap_87 ?_
        refine lv_iconst (v := (1 : Int32)) hx hb dX11_swap_88 (by decide) ?_
        refine lv_icmp_ne (tgt := 95) hx hb dX11_swap_89 (by decide) (fun c3 => ?_) (fun c3 => ?_)
        · have h := h.1 c3
          refine lv_iload hx hb dX11_swap_95 (lv_at hl 4 rfl) ?_
          refine lv_iconst (v := (1 : Int32)) hx hb dX11_swap_97 (by decide) ?_
          refine lv_iload_n hx hb dX11_swap_98 rfl (lv_at hl 2 rfl) ?_
          refine lv_ishl hx hb dX11_swap_99 ?_
          refine lv_iconst (v := (-1 : Int32)) hx hb dX11_swap_100 (by decide) ?_
          refine lv_ixor hx hb dX11_swap_101 ?_
          refine lv_iand hx hb dX11_swap_102 ?_
          refine lv_iconst (v := (1 : Int32)) hx hb dX11_swap_103 (by decide) ?_
          refine lv_iload_n hx hb dX11_swap_104 rfl (lv_at hl 3 rfl) ?_
          refine lv_ishl hx hb dX11_swap_105 ?_
          refine lv_ior hx hb dX11_swap_106 ?_
          refine lv_topi (fun x2 ex2 => ?_)
          have h := h x2 ex2
          refine lv_istore (lv' := [(5, .int x2), (0, .ref (B + v0)), (1, .int v1), (2, .int v2), (3, .int v3), (4, .int v4)]) hx hb dX11_swap_107 hl (by decide) rfl (fun ls hl => ?_)
          refine lv_aload_n hx hb dX11_swap_109 rfl (lv_at hl 1 rfl) ?_
          refine rk_get X hP (C := RX11) (T := TX11) (N := 44) (ci := 11) wix_11 h0 rfl rfl 30 (by decide) (wi_29 _ (List.mem_of_getElem? (i := 13) rfl)) rfl rfl dX11_swap_110 ?_
          refine lv_bipush (v := (16 : Int32)) hx hb dX11_swap_113 (by decide) ?_
          refine lv_iload_n hx hb dX11_swap_115 rfl (lv_at hl 2 rfl) ?_
          refine lv_imul hx hb dX11_swap_116 ?_
          refine lv_iload hx hb dX11_swap_117 (lv_at hl 5 rfl) ?_
          refine lv_iadd hx hb dX11_swap_119 ?_
          refine lv_topi (fun x3 ex3 => ?_)
          have h := h x3 ex3
          obtain ⟨b1, h⟩ := h
          refine rk_iald X hP (n := 117) (klM_X11_30 h0) (fun _ _ => rfl) b1 dX11_swap_120 ?_
          refine lv_topi (fun x4 ex4 => ?_)
          have h := h x4 ex4
          refine lv_istore (lv' := [(6, .int x4), (5, .int x2), (0, .ref (B + v0)), (1, .int v1), (2, .int v2), (3, .int v3), (4, .int v4)]) hx hb dX11_swap_121 hl (by decide) rfl (fun ls hl => ?_)
          refine lv_aload_n hx hb dX11_swap_123 rfl (lv_at hl 2 rfl) ?_
          refine rk_get X hP (C := RX11) (T := TX11) (N := 44) (ci := 11) wix_11 h0 rfl rfl 30 (by decide) (wi_29 _ (List.mem_of_getElem? (i := 13) rfl)) rfl rfl dX11_swap_124 ?_
          refine lv_bipush (v := (16 : Int32)) hx hb dX11_swap_127 (by decide) ?_
          refine lv_iload_n hx hb dX11_swap_129 rfl (lv_at hl 3 rfl) ?_
          refine lv_imul hx hb dX11_swap_130 ?_
          refine lv_iload hx hb dX11_swap_131 (lv_at hl 6 rfl) ?_
          refine lv_iadd hx hb dX11_swap_133 ?_
          refine lv_aload_n hx hb dX11_swap_134 rfl (lv_at hl 2 rfl) ?_
          refine rk_get X hP (C := RX11) (T := TX11) (N := 44) (ci := 11) wix_11 h0 rfl rfl 30 (by decide) (wi_29 _ (List.mem_of_getElem? (i := 13) rfl)) rfl rfl dX11_swap_135 ?_
          refine lv_bipush (v := (16 : Int32)) hx hb dX11_swap_138 (by decide) ?_
          refine lv_iload_n hx hb dX11_swap_140 rfl (lv_at hl 3 rfl) ?_
          refine lv_imul hx hb dX11_swap_141 ?_
          refine lv_iload hx hb dX11_swap_142 (lv_at hl 1 rfl) ?_
          refine lv_iadd hx hb dX11_swap_144 ?_
          refine lv_topi (fun x5 ex5 => ?_)
          have h := h x5 ex5
          obtain ⟨b2, h⟩ := h
          refine rk_iald X hP (n := 117) (klM_X11_30 h0) (fun _ _ => rfl) b2 dX11_swap_145 ?_
          obtain ⟨b3, h⟩ := h
          refine rk_iast X hP hD hS (n := 117) (klM_X11_30 h0) (fun _ _ => rfl) b3 dX11_swap_146 (fun H locs hP hS => ?_)
          obtain ⟨s2, es2⟩ : ∃ z : St, z = u1 s1 (v0 + 16) (((16 : Int32) * v1) + v4).toNatClampNeg (s1.1 (v0 + 16) x5.toNatClampNeg) := ⟨_, rfl⟩
          rw [← es2] at hP
          have h := h s2 es2
          refine lv_aload_n hx hb dX11_swap_147 rfl (lv_at hl 2 rfl) ?_
          refine rk_get X hP (C := RX11) (T := TX11) (N := 44) (ci := 11) wix_11 h0 rfl rfl 30 (by decide) (wi_29 _ (List.mem_of_getElem? (i := 13) rfl)) rfl rfl dX11_swap_148 ?_
          refine lv_bipush (v := (16 : Int32)) hx hb dX11_swap_151 (by decide) ?_
          refine lv_iload_n hx hb dX11_swap_153 rfl (lv_at hl 3 rfl) ?_
          refine lv_imul hx hb dX11_swap_154 ?_
          refine lv_iload hx hb dX11_swap_155 (lv_at hl 1 rfl) ?_
          refine lv_iadd hx hb dX11_swap_157 ?_
          refine lv_iload hx hb dX11_swap_158 (lv_at hl 0 rfl) ?_
          obtain ⟨b4, h⟩ := h
          refine rk_iast X hP hD hS (n := 117) (klM_X11_30 h0) (fun _ _ => rfl) b4 dX11_swap_160 (fun H locs hP hS => ?_)
          obtain ⟨s3, es3⟩ : ∃ z : St, z = u1 s2 (v0 + 16) (((16 : Int32) * v1) + x2).toNatClampNeg x4 := ⟨_, rfl⟩
          rw [← es3] at hP
          have h := h s3 es3
          obtain ⟨x6, ex6⟩ : ∃ y : Int32, y = v4 + (1 : Int32) := ⟨_, rfl⟩
          have h := h x6 ex6
          refine lv_iinc (v := x6) (lv' := [(4, .int x6), (6, .int x4), (5, .int x2), (0, .ref (B + v0)), (1, .int v1), (2, .int v2), (3, .int v3)]) hx hb dX11_swap_161 hl (k := 6) rfl (by rw [ex6]; rfl) (by decide) rfl (fun ls hl => ?_)
          refine lv_goto (tgt := 61) hx hb dX11_swap_164 (by decide) ?_
          exact ih _ _ _ _ _ _ h0 h _ _ _ hP hS (lv_sub hl [3, 4, 5, 6, 0] rfl)
        · have h := h.2 c3
          refine lv_goto (tgt := 161) hx hb dX11_swap_92 (by decide) ?_
          obtain ⟨x7, ex7⟩ : ∃ y : Int32, y = v4 + (1 : Int32) := ⟨_, rfl⟩
          have h := h x7 ex7
          refine lv_iinc (v := x7) (lv' := [(4, .int x7), (0, .ref (B + v0)), (1, .int v1), (2, .int v2), (3, .int v3)]) hx hb dX11_swap_161 hl (k := 4) rfl (by rw [ex7]; rfl) (by decide) rfl (fun ls hl => ?_)
          refine lv_goto (tgt := 61) hx hb dX11_swap_164 (by decide) ?_
          exact ih _ _ _ _ _ _ h0 h _ _ _ hP hS (lv_sub hl [1, 2, 3, 4, 0] rfl)
set_option maxRecDepth 100000 in
set_option maxHeartbeats 4000000 in
theorem mX11_swap (l : Launch) (D : va_G) (cy : Nat → ClassId) (B : Nat) (v0 : Nat) (v1 : Int32) (v2 : Int32) (v3 : Int32) (σ : St) (h0 : kM[v0]? = some 11) {post : Bool → St → Prop} (h : wX11_swap v0 v1 v2 v3 σ post) : Met l yX11_swap (Cond.code yX11_swap cX11_swap 7 (some .boolean) :: WALL) (rmD 2) (PcW D cy B kM σ [.ref (B + v0), .int v1, .int v2, .int v3]) (Qz post D cy B kM 26) 0 0 (AW B 26) := by
  refine Met.ofK (cc := cX11_swap) (maxL := 7) (ret := (some .boolean)) (by decide +kernel) rfl kM_len ?_
  intro p e s m below meth c X hP
  obtain ⟨⟨hx, hb, hml, hown, hts⟩, hr, hlk, hK, hN, hZ⟩ := id X
  have hD : ∀ σ, va_D (AW B 26) (wW cy B kM σ) := AW_D kM_len
  have hS : va_S (AW B 26) s.heap s.heap [] := va_S.rf
  have hl := lv_entry ([.ref (B + v0), .int v1, .int v2, .int v3]) (n := 7) (Nat.le_of_ble_eq_true rfl)
  rw [lg_entry_eq]
  generalize (lg_sl ([.ref (B + v0), .int v1, .int v2, .int v3]) ++ List.replicate (7 - (lg_sl ([.ref (B + v0), .int v1, .int v2, .int v3])).length) Slot.unset).toArray = ls at hl ⊢
  have hl : lv_has ls 7 [(0, .ref (B + v0)), (1, .int v1), (2, .int v2), (3, .int v3)] := hl
  unfold wX11_swap at h
  refine lv_aload_n hx hb dX11_swap_0 rfl (lv_at hl 0 rfl) ?_
  refine lv_iconst (v := (0 : Int32)) hx hb dX11_swap_1 (by decide) ?_
  refine rk_puti X hP hD hS (C := RX11) (T := TX11) (N := 44) (ci := 11) wix_11 h0 rfl rfl tyX11 tyX11_ok nmX11 0 (by decide) (wi_30 _ (List.mem_of_getElem? (i := 1) rfl)) rfl rfl (by decide +kernel) (Nat.le_of_ble_eq_true rfl) rfl dX11_swap_2 (fun H locs hP hS => ?_)
  obtain ⟨s1, es1⟩ : ∃ z : St, z = u1 σ v0 0 (0 : Int32) := ⟨_, rfl⟩
  rw [← es1] at hP
  have h := h s1 es1
  refine lv_aload_n hx hb dX11_swap_5 rfl (lv_at hl 0 rfl) ?_
  refine lv_iload_n hx hb dX11_swap_6 rfl (lv_at hl 1 rfl) ?_
  refine rk_callz (va_runV (As := [.int v1]) (rest := []) X.1 (mX11_isNode l D cy B v0 v1 s1 h0 h) (cwV 1 hts (gW_V (wi_38 _ (List.mem_of_getElem? (i := 12) rfl)) (wi_38 _ (List.mem_of_getElem? (i := 13) rfl)) (wi_38 _ (List.mem_of_getElem? (i := 14) rfl)) (wi_30 _ (List.mem_of_getElem? (i := 9) rfl)) (wi_35 _ (List.mem_of_getElem? (i := 7) rfl))) rfl rfl rfl hd_X11_isNode ⟨Nat.le_of_ble_eq_true rfl, Nat.le_of_ble_eq_true rfl⟩) (rk_preV X hS hP h0 rfl rfl [.int v1]) rfl rfl hl.1 rfl (lv_room (Nat.le_of_ble_eq_true rfl)) dX11_swap_7 ⟨Nat.zero_le _, Nat.zero_le _⟩) hS (fun _ h => h) (fun r1 s2 H locs h hP hS => ?_)
  refine lv_if_eq (tgt := 52) hx hb dX11_swap_10 (by decide) (fun c1 => ?_) (fun c1 => ?_)
  · have h := h.1 (b2i_f c1)
    refine lv_iconst (v := (0 : Int32)) hx hb dX11_swap_52 (by decide) ?_
    exact rk_zret X kM_len false h hP hS dX11_swap_53
  · have h := h.2 (b2i_t c1)
    refine lv_iload_n hx hb dX11_swap_13 rfl (lv_at hl 2 rfl) ?_
    refine lv_i2l hx hb dX11_swap_14 rfl ?_
    refine lv_lconst (v := (0 : Int64)) hx hb dX11_swap_15 (by decide) ?_
    refine lv_aload_n hx hb dX11_swap_16 rfl (lv_at hl 0 rfl) ?_
    refine lv_iload_n hx hb dX11_swap_17 rfl (lv_at hl 1 rfl) ?_
    refine rk_calli (va_runV (As := [.int v1]) (rest := [.long (0 : Int64), .long (v2.toInt64)]) X.1 (mX11_legsAt l D cy B v0 v1 s2 h0 h) (cwV 1 hts (gW_V (wi_38 _ (List.mem_of_getElem? (i := 15) rfl)) (wi_38 _ (List.mem_of_getElem? (i := 16) rfl)) (wi_38 _ (List.mem_of_getElem? (i := 17) rfl)) (wi_30 _ (List.mem_of_getElem? (i := 9) rfl)) (wi_35 _ (List.mem_of_getElem? (i := 9) rfl))) rfl rfl rfl hd_X11_legsAt ⟨Nat.le_of_ble_eq_true rfl, Nat.le_of_ble_eq_true rfl⟩) (rk_preV X hS hP h0 rfl rfl [.int v1]) rfl rfl hl.1 rfl (lv_room (Nat.le_of_ble_eq_true rfl)) dX11_swap_18 ⟨Nat.zero_le _, Nat.zero_le _⟩) hS (fun _ h => h) (fun r2 s3 H locs h hP hS => ?_)
    refine lv_iconst (v := (1 : Int32)) hx hb dX11_swap_21 (by decide) ?_
    refine lv_isub hx hb dX11_swap_22 ?_
    refine lv_i2l hx hb dX11_swap_23 rfl ?_
    refine rk_callz (va_runS (As := [.long (v2.toInt64), .long (0 : Int64), .long ((r2 - (1 : Int32)).toInt64)]) (rest := []) X.1 (mX11_within l D cy B (v2.toInt64) (0 : Int64) ((r2 - (1 : Int32)).toInt64) s3 h) (va_cwS 3 hts (gW_S (wi_31 _ (List.mem_of_getElem? (i := 2) rfl)) (wi_31 _ (List.mem_of_getElem? (i := 3) rfl)) (wi_30 _ (List.mem_of_getElem? (i := 9) rfl)) (wi_30 _ (List.mem_of_getElem? (i := 2) rfl))) rfl rfl rfl hd_X11_within ⟨Nat.le_of_ble_eq_true rfl, Nat.le_of_ble_eq_true rfl⟩) (rk_preS X hS hP [.long (v2.toInt64), .long (0 : Int64), .long ((r2 - (1 : Int32)).toInt64)]) rfl rfl hl.1 rfl (lv_room (Nat.le_of_ble_eq_true rfl)) dX11_swap_24 ⟨Nat.zero_le _, Nat.zero_le _⟩) hS (fun _ h => h) (fun r3 s4 H locs h hP hS => ?_)
    refine lv_if_eq (tgt := 52) hx hb dX11_swap_27 (by decide) (fun c2 => ?_) (fun c2 => ?_)
    · have h := h.1 (b2i_f c2)
      refine lv_iconst (v := (0 : Int32)) hx hb dX11_swap_52 (by decide) ?_
      exact rk_zret X kM_len false h hP hS dX11_swap_53
    · have h := h.2 (b2i_t c2)
      refine lv_iload_n hx hb dX11_swap_30 rfl (lv_at hl 3 rfl) ?_
      refine lv_i2l hx hb dX11_swap_31 rfl ?_
      refine lv_lconst (v := (0 : Int64)) hx hb dX11_swap_32 (by decide) ?_
      refine lv_aload_n hx hb dX11_swap_33 rfl (lv_at hl 0 rfl) ?_
      refine lv_iload_n hx hb dX11_swap_34 rfl (lv_at hl 1 rfl) ?_
      refine rk_calli (va_runV (As := [.int v1]) (rest := [.long (0 : Int64), .long (v3.toInt64)]) X.1 (mX11_legsAt l D cy B v0 v1 s4 h0 h) (cwV 1 hts (gW_V (wi_38 _ (List.mem_of_getElem? (i := 15) rfl)) (wi_38 _ (List.mem_of_getElem? (i := 16) rfl)) (wi_38 _ (List.mem_of_getElem? (i := 17) rfl)) (wi_30 _ (List.mem_of_getElem? (i := 9) rfl)) (wi_35 _ (List.mem_of_getElem? (i := 9) rfl))) rfl rfl rfl hd_X11_legsAt ⟨Nat.le_of_ble_eq_true rfl, Nat.le_of_ble_eq_true rfl⟩) (rk_preV X hS hP h0 rfl rfl [.int v1]) rfl rfl hl.1 rfl (lv_room (Nat.le_of_ble_eq_true rfl)) dX11_swap_35 ⟨Nat.zero_le _, Nat.zero_le _⟩) hS (fun _ h => h) (fun r4 s5 H locs h hP hS => ?_)
      refine lv_iconst (v := (1 : Int32)) hx hb dX11_swap_38 (by decide) ?_
      refine lv_isub hx hb dX11_swap_39 ?_
      refine lv_i2l hx hb dX11_swap_40 rfl ?_
      refine rk_callz (va_runS (As := [.long (v3.toInt64), .long (0 : Int64), .long ((r4 - (1 : Int32)).toInt64)]) (rest := []) X.1 (mX11_within l D cy B (v3.toInt64) (0 : Int64) ((r4 - (1 : Int32)).toInt64) s5 h) (va_cwS 3 hts (gW_S (wi_31 _ (List.mem_of_getElem? (i := 2) rfl)) (wi_31 _ (List.mem_of_getElem? (i := 3) rfl)) (wi_30 _ (List.mem_of_getElem? (i := 9) rfl)) (wi_30 _ (List.mem_of_getElem? (i := 2) rfl))) rfl rfl rfl hd_X11_within ⟨Nat.le_of_ble_eq_true rfl, Nat.le_of_ble_eq_true rfl⟩) (rk_preS X hS hP [.long (v3.toInt64), .long (0 : Int64), .long ((r4 - (1 : Int32)).toInt64)]) rfl rfl hl.1 rfl (lv_room (Nat.le_of_ble_eq_true rfl)) dX11_swap_41 ⟨Nat.zero_le _, Nat.zero_le _⟩) hS (fun _ h => h) (fun r5 s6 H locs h hP hS => ?_)
      refine lv_if_eq (tgt := 52) hx hb dX11_swap_44 (by decide) (fun c3 => ?_) (fun c3 => ?_)
      · have h := h.1 (b2i_f c3)
        refine lv_iconst (v := (0 : Int32)) hx hb dX11_swap_52 (by decide) ?_
        exact rk_zret X kM_len false h hP hS dX11_swap_53
      · have h := h.2 (b2i_t c3)
        refine lv_iload_n hx hb dX11_swap_47 rfl (lv_at hl 2 rfl) ?_
        refine lv_iload_n hx hb dX11_swap_48 rfl (lv_at hl 3 rfl) ?_
        refine lv_icmp_ne (tgt := 54) hx hb dX11_swap_49 (by decide) (fun c4 => ?_) (fun c4 => ?_)
        · have h := h.1 c4
          refine lv_aload_n hx hb dX11_swap_54 rfl (lv_at hl 0 rfl) ?_
          refine rk_callv (va_runV (As := []) (rest := []) X.1 (mX11_keeps l D cy B v0 s6 h0 h) (cwV 0 hts (gW_V (wi_41 _ (List.mem_of_getElem? (i := 3) rfl)) (wi_41 _ (List.mem_of_getElem? (i := 4) rfl)) (wi_41 _ (List.mem_of_getElem? (i := 5) rfl)) (wi_30 _ (List.mem_of_getElem? (i := 9) rfl)) (wi_41 _ (List.mem_of_getElem? (i := 2) rfl))) rfl rfl rfl hd_X11_keeps ⟨Nat.le_of_ble_eq_true rfl, Nat.le_of_ble_eq_true rfl⟩) (rk_preV X hS hP h0 rfl rfl []) rfl rfl hl.1 rfl (lv_room (Nat.le_of_ble_eq_true rfl)) dX11_swap_55 ⟨Nat.zero_le _, Nat.zero_le _⟩) hS (fun _ h => h) (fun s7 H locs h hP hS => ?_)
          refine lv_iconst (v := (0 : Int32)) hx hb dX11_swap_58 (by decide) ?_
          refine lv_istore (lv' := [(4, .int (0 : Int32)), (0, .ref (B + v0)), (1, .int v1), (2, .int v2), (3, .int v3)]) hx hb dX11_swap_59 hl (by decide) rfl (fun ls hl => ?_)
          obtain ⟨j, h⟩ := h
          exact tX11_swap_61 X j _ _ _ _ _ _ h0 h _ _ _ hP hS (lv_sub hl [1, 2, 3, 4, 0] rfl)
        · have h := h.2 c4
          refine lv_iconst (v := (0 : Int32)) hx hb dX11_swap_52 (by decide) ?_
          exact rk_zret X kM_len false h hP hS dX11_swap_53

theorem hd_X11_isOpen : yX11_isOpen.cls = RX11 ∧ yX11_isOpen.cls ≠ "java/lang/invoke/MethodHandle" ∧ yX11_isOpen.cls ≠ "java/lang/invoke/VarHandle" ∧ (parseMethodDescriptor yX11_isOpen.desc).map (fun d => d.parameters.length) = some 2 := by decide +kernel
set_option maxRecDepth 100000 in
set_option maxHeartbeats 4000000 in
theorem mX11_isOpen (l : Launch) (D : va_G) (cy : Nat → ClassId) (B : Nat) (v0 : Nat) (v1 : Int32) (v2 : Int32) (σ : St) (h0 : kM[v0]? = some 11) {post : Bool → St → Prop} (h : wX11_isOpen v0 v1 v2 σ post) : Met l yX11_isOpen (Cond.code yX11_isOpen cX11_isOpen 3 (some .boolean) :: WALL) (rmD 2) (PcW D cy B kM σ [.ref (B + v0), .int v1, .int v2]) (Qz post D cy B kM 26) 0 0 (AW B 26) := by
  refine Met.ofK (cc := cX11_isOpen) (maxL := 3) (ret := (some .boolean)) (by decide +kernel) rfl kM_len ?_
  intro p e s m below meth c X hP
  obtain ⟨⟨hx, hb, hml, hown, hts⟩, hr, hlk, hK, hN, hZ⟩ := id X
  have hD : ∀ σ, va_D (AW B 26) (wW cy B kM σ) := AW_D kM_len
  have hS : va_S (AW B 26) s.heap s.heap [] := va_S.rf
  have hl := lv_entry ([.ref (B + v0), .int v1, .int v2]) (n := 3) (Nat.le_of_ble_eq_true rfl)
  rw [lg_entry_eq]
  generalize (lg_sl ([.ref (B + v0), .int v1, .int v2]) ++ List.replicate (3 - (lg_sl ([.ref (B + v0), .int v1, .int v2])).length) Slot.unset).toArray = ls at hl ⊢
  have hl : lv_has ls 3 [(0, .ref (B + v0)), (1, .int v1), (2, .int v2)] := hl
  unfold wX11_isOpen at h
  refine lv_aload_n hx hb dX11_isOpen_0 rfl (lv_at hl 0 rfl) ?_
  refine lv_iload_n hx hb dX11_isOpen_1 rfl (lv_at hl 1 rfl) ?_
  refine rk_callz (va_runV (As := [.int v1]) (rest := []) X.1 (mX11_isNode l D cy B v0 v1 σ h0 h) (cwV 1 hts (gW_V (wi_38 _ (List.mem_of_getElem? (i := 12) rfl)) (wi_38 _ (List.mem_of_getElem? (i := 13) rfl)) (wi_38 _ (List.mem_of_getElem? (i := 14) rfl)) (wi_30 _ (List.mem_of_getElem? (i := 9) rfl)) (wi_35 _ (List.mem_of_getElem? (i := 7) rfl))) rfl rfl rfl hd_X11_isNode ⟨Nat.le_of_ble_eq_true rfl, Nat.le_of_ble_eq_true rfl⟩) (rk_preV X hS hP h0 rfl rfl [.int v1]) rfl rfl hl.1 rfl (lv_room (Nat.le_of_ble_eq_true rfl)) dX11_isOpen_2 ⟨Nat.zero_le _, Nat.zero_le _⟩) hS (fun _ h => h) (fun r1 s1 H locs h hP hS => ?_)
  refine lv_if_eq (tgt := 41) hx hb dX11_isOpen_5 (by decide) (fun c1 => ?_) (fun c1 => ?_)
  · have h := h.1 (b2i_f c1)
    refine lv_iconst (v := (0 : Int32)) hx hb dX11_isOpen_41 (by decide) ?_
    exact rk_zret X kM_len false h hP hS dX11_isOpen_42
  · have h := h.2 (b2i_t c1)
    refine lv_iload_n hx hb dX11_isOpen_8 rfl (lv_at hl 2 rfl) ?_
    refine lv_i2l hx hb dX11_isOpen_9 rfl ?_
    refine lv_lconst (v := (0 : Int64)) hx hb dX11_isOpen_10 (by decide) ?_
    refine lv_aload_n hx hb dX11_isOpen_11 rfl (lv_at hl 0 rfl) ?_
    refine lv_iload_n hx hb dX11_isOpen_12 rfl (lv_at hl 1 rfl) ?_
    refine rk_calli (va_runV (As := [.int v1]) (rest := [.long (0 : Int64), .long (v2.toInt64)]) X.1 (mX11_legsAt l D cy B v0 v1 s1 h0 h) (cwV 1 hts (gW_V (wi_38 _ (List.mem_of_getElem? (i := 15) rfl)) (wi_38 _ (List.mem_of_getElem? (i := 16) rfl)) (wi_38 _ (List.mem_of_getElem? (i := 17) rfl)) (wi_30 _ (List.mem_of_getElem? (i := 9) rfl)) (wi_35 _ (List.mem_of_getElem? (i := 9) rfl))) rfl rfl rfl hd_X11_legsAt ⟨Nat.le_of_ble_eq_true rfl, Nat.le_of_ble_eq_true rfl⟩) (rk_preV X hS hP h0 rfl rfl [.int v1]) rfl rfl hl.1 rfl (lv_room (Nat.le_of_ble_eq_true rfl)) dX11_isOpen_13 ⟨Nat.zero_le _, Nat.zero_le _⟩) hS (fun _ h => h) (fun r2 s2 H locs h hP hS => ?_)
    refine lv_iconst (v := (1 : Int32)) hx hb dX11_isOpen_16 (by decide) ?_
    refine lv_isub hx hb dX11_isOpen_17 ?_
    refine lv_i2l hx hb dX11_isOpen_18 rfl ?_
    refine rk_callz (va_runS (As := [.long (v2.toInt64), .long (0 : Int64), .long ((r2 - (1 : Int32)).toInt64)]) (rest := []) X.1 (mX11_within l D cy B (v2.toInt64) (0 : Int64) ((r2 - (1 : Int32)).toInt64) s2 h) (va_cwS 3 hts (gW_S (wi_31 _ (List.mem_of_getElem? (i := 2) rfl)) (wi_31 _ (List.mem_of_getElem? (i := 3) rfl)) (wi_30 _ (List.mem_of_getElem? (i := 9) rfl)) (wi_30 _ (List.mem_of_getElem? (i := 2) rfl))) rfl rfl rfl hd_X11_within ⟨Nat.le_of_ble_eq_true rfl, Nat.le_of_ble_eq_true rfl⟩) (rk_preS X hS hP [.long (v2.toInt64), .long (0 : Int64), .long ((r2 - (1 : Int32)).toInt64)]) rfl rfl hl.1 rfl (lv_room (Nat.le_of_ble_eq_true rfl)) dX11_isOpen_19 ⟨Nat.zero_le _, Nat.zero_le _⟩) hS (fun _ h => h) (fun r3 s3 H locs h hP hS => ?_)
    refine lv_if_eq (tgt := 41) hx hb dX11_isOpen_22 (by decide) (fun c2 => ?_) (fun c2 => ?_)
    · have h := h.1 (b2i_f c2)
      refine lv_iconst (v := (0 : Int32)) hx hb dX11_isOpen_41 (by decide) ?_
      exact rk_zret X kM_len false h hP hS dX11_isOpen_42
    · have h := h.2 (b2i_t c2)
      refine lv_aload_n hx hb dX11_isOpen_25 rfl (lv_at hl 0 rfl) ?_
      refine lv_iconst (v := (4 : Int32)) hx hb dX11_isOpen_26 (by decide) ?_
      refine lv_iload_n hx hb dX11_isOpen_27 rfl (lv_at hl 1 rfl) ?_
      refine lv_imul hx hb dX11_isOpen_28 ?_
      refine lv_iload_n hx hb dX11_isOpen_29 rfl (lv_at hl 2 rfl) ?_
      refine lv_iadd hx hb dX11_isOpen_30 ?_
      refine rk_calli (va_runV (As := [.int (((4 : Int32) * v1) + v2)]) (rest := []) X.1 (mX11_wireAt l D cy B v0 (((4 : Int32) * v1) + v2) s3 h0 h) (cwV 1 hts (gW_V (wi_39 _ (List.mem_of_getElem? (i := 1) rfl)) (wi_39 _ (List.mem_of_getElem? (i := 2) rfl)) (wi_39 _ (List.mem_of_getElem? (i := 3) rfl)) (wi_30 _ (List.mem_of_getElem? (i := 9) rfl)) (wi_38 _ (List.mem_of_getElem? (i := 22) rfl))) rfl rfl rfl hd_X11_wireAt ⟨Nat.le_of_ble_eq_true rfl, Nat.le_of_ble_eq_true rfl⟩) (rk_preV X hS hP h0 rfl rfl [.int (((4 : Int32) * v1) + v2)]) rfl rfl hl.1 rfl (lv_room (Nat.le_of_ble_eq_true rfl)) dX11_isOpen_31 ⟨Nat.zero_le _, Nat.zero_le _⟩) hS (fun _ h => h) (fun r4 s4 H locs h hP hS => ?_)
      refine lv_if_ge (tgt := 41) hx hb dX11_isOpen_34 (by decide) (fun c3 => ?_) (fun c3 => ?_)
      · have h := h.1 c3
        refine lv_iconst (v := (0 : Int32)) hx hb dX11_isOpen_41 (by decide) ?_
        exact rk_zret X kM_len false h hP hS dX11_isOpen_42
      · have h := h.2 c3
        refine lv_iconst (v := (1 : Int32)) hx hb dX11_isOpen_37 (by decide) ?_
        refine lv_goto (tgt := 42) hx hb dX11_isOpen_38 (by decide) ?_
        exact rk_zret X kM_len true h hP hS dX11_isOpen_42

theorem hd_X11_join : yX11_join.cls = RX11 ∧ yX11_join.cls ≠ "java/lang/invoke/MethodHandle" ∧ yX11_join.cls ≠ "java/lang/invoke/VarHandle" ∧ (parseMethodDescriptor yX11_join.desc).map (fun d => d.parameters.length) = some 4 := by decide +kernel
set_option maxRecDepth 100000 in
set_option maxHeartbeats 4000000 in
theorem tX11_join_35 {p : Program} {l : Launch} {e : Env} {s : State} {m : MethodId} {av : Array Value} {below : List Frame} {meth : Method} {c : Code} {D : va_G} {cy : Nat → ClassId} {B : Nat} (X : kC p s m av meth c cX11_join 5 (some .int) WALL RX11 D cy (AW B 26)) {post : Int32 → St → Prop} : ∀ (v0 : Nat) (v1 : Int32) (v2 : Int32) (v3 : Int32) (v4 : Int32) (σ : St), kM[v0]? = some 11 → wX11_join_35 post v0 v1 v2 v3 v4 σ → ∀ (H : Heap) (locs : List Loc) (ls : Array Slot), va_P D vwCl (wW cy B kM σ) H → va_S (AW B 26) s.heap H locs → lv_has ls 5 [(0, .ref (B + v0)), (1, .int v1), (2, .int v2), (3, .int v3), (4, .int v4)] → W p l e (rmD 3) s m av below meth c H locs 0 0 (MQ below (va_Qi post (BW D cy B kM) (AW B 26)) av s 0 0 (AW B 26)) (F0 m 35 ls []) := by
  obtain ⟨⟨hx, hb, hml, hown, hts⟩, hr, hlk, hK, hN, hZ⟩ := id X
  have hD : ∀ σ, va_D (AW B 26) (wW cy B kM σ) := AW_D kM_len
  intro v0 v1 v2 v3 v4 σ h0 h H locs ls hP hS hl
  unfold wX11_join_35 at h
  refine lv_aload_n hx hb dX11_join_35 rfl (lv_at hl 0 rfl) ?_
  refine rk_get X hP (C := RX11) (T := TX11) (N := 44) (ci := 11) wix_11 h0 rfl rfl 30 (by decide) (wi_29 _ (List.mem_of_getElem? (i := 13) rfl)) rfl rfl dX11_join_36 ?_
  refine lv_bipush (v := (116 : Int32)) hx hb dX11_join_39 (by decide) ?_
  have b1 : vp_in (116 : Int32) 117 := by unfold vp_in; decide
  refine rk_iald X hP (n := 117) (klM_X11_30 h0) (fun _ _ => rfl) b1 dX11_join_41 ?_
  refine lv_bipush (v := (10 : Int32)) hx hb dX11_join_42 (by decide) ?_
  refine lv_icmp_ne (tgt := 49) hx hb dX11_join_44 (by decide) (fun c1 => ?_) (fun c1 => ?_)
  · have h := h.1 c1
    refine lv_aload_n hx hb dX11_join_49 rfl (lv_at hl 0 rfl) ?_
    refine rk_callv (va_runV (As := []) (rest := []) X.1 (mX11_keeps l D cy B v0 σ h0 h) (cwV 0 hts (gW_V (wi_41 _ (List.mem_of_getElem? (i := 3) rfl)) (wi_41 _ (List.mem_of_getElem? (i := 4) rfl)) (wi_41 _ (List.mem_of_getElem? (i := 5) rfl)) (wi_30 _ (List.mem_of_getElem? (i := 9) rfl)) (wi_41 _ (List.mem_of_getElem? (i := 2) rfl))) rfl rfl rfl hd_X11_keeps ⟨Nat.le_of_ble_eq_true rfl, Nat.le_of_ble_eq_true rfl⟩) (rk_preV X hS hP h0 rfl rfl []) rfl rfl hl.1 rfl (lv_room (Nat.le_of_ble_eq_true rfl)) dX11_join_50 ⟨Nat.zero_le _, Nat.zero_le _⟩) hS (fun _ h => h) (fun s1 H locs h hP hS => ?_)
    refine lv_aload_n hx hb dX11_join_53 rfl (lv_at hl 0 rfl) ?_
    refine rk_get X hP (C := RX11) (T := TX11) (N := 44) (ci := 11) wix_11 h0 rfl rfl 30 (by decide) (wi_29 _ (List.mem_of_getElem? (i := 13) rfl)) rfl rfl dX11_join_54 ?_
    refine lv_bipush (v := (96 : Int32)) hx hb dX11_join_57 (by decide) ?_
    refine lv_iconst (v := (2 : Int32)) hx hb dX11_join_59 (by decide) ?_
    refine lv_aload_n hx hb dX11_join_60 rfl (lv_at hl 0 rfl) ?_
    refine rk_get X hP (C := RX11) (T := TX11) (N := 44) (ci := 11) wix_11 h0 rfl rfl 30 (by decide) (wi_29 _ (List.mem_of_getElem? (i := 13) rfl)) rfl rfl dX11_join_61 ?_
    refine lv_bipush (v := (116 : Int32)) hx hb dX11_join_64 (by decide) ?_
    have b2 : vp_in (116 : Int32) 117 := by unfold vp_in; decide
    refine rk_iald X hP (n := 117) (klM_X11_30 h0) (fun _ _ => rfl) b2 dX11_join_66 ?_
    refine lv_imul hx hb dX11_join_67 ?_
    refine lv_iadd hx hb dX11_join_68 ?_
    refine lv_iconst (v := (4 : Int32)) hx hb dX11_join_69 (by decide) ?_
    refine lv_iload_n hx hb dX11_join_70 rfl (lv_at hl 1 rfl) ?_
    refine lv_imul hx hb dX11_join_71 ?_
    refine lv_iload_n hx hb dX11_join_72 rfl (lv_at hl 2 rfl) ?_
    refine lv_iadd hx hb dX11_join_73 ?_
    obtain ⟨b3, h⟩ := h
    refine rk_iast X hP hD hS (n := 117) (klM_X11_30 h0) (fun _ _ => rfl) b3 dX11_join_74 (fun H locs hP hS => ?_)
    obtain ⟨s2, es2⟩ : ∃ z : St, z = u1 s1 (v0 + 16) ((96 : Int32) + ((2 : Int32) * (s1.1 (v0 + 16) (116 : Int32).toNatClampNeg))).toNatClampNeg (((4 : Int32) * v1) + v2) := ⟨_, rfl⟩
    rw [← es2] at hP
    have h := h s2 es2
    refine lv_aload_n hx hb dX11_join_75 rfl (lv_at hl 0 rfl) ?_
    refine rk_get X hP (C := RX11) (T := TX11) (N := 44) (ci := 11) wix_11 h0 rfl rfl 30 (by decide) (wi_29 _ (List.mem_of_getElem? (i := 13) rfl)) rfl rfl dX11_join_76 ?_
    refine lv_bipush (v := (96 : Int32)) hx hb dX11_join_79 (by decide) ?_
    refine lv_iconst (v := (2 : Int32)) hx hb dX11_join_81 (by decide) ?_
    refine lv_aload_n hx hb dX11_join_82 rfl (lv_at hl 0 rfl) ?_
    refine rk_get X hP (C := RX11) (T := TX11) (N := 44) (ci := 11) wix_11 h0 rfl rfl 30 (by decide) (wi_29 _ (List.mem_of_getElem? (i := 13) rfl)) rfl rfl dX11_join_83 ?_
    refine lv_bipush (v := (116 : Int32)) hx hb dX11_join_86 (by decide) ?_
    have b4 : vp_in (116 : Int32) 117 := by unfold vp_in; decide
    refine rk_iald X hP (n := 117) (klM_X11_30 h0) (fun _ _ => rfl) b4 dX11_join_88 ?_
    refine lv_imul hx hb dX11_join_89 ?_
    refine lv_iadd hx hb dX11_join_90 ?_
    refine lv_iconst (v := (1 : Int32)) hx hb dX11_join_91 (by decide) ?_
    refine lv_iadd hx hb dX11_join_92 ?_
    refine lv_iconst (v := (4 : Int32)) hx hb dX11_join_93 (by decide) ?_
    refine lv_iload_n hx hb dX11_join_94 rfl (lv_at hl 3 rfl) ?_
    refine lv_imul hx hb dX11_join_95 ?_
    refine lv_iload hx hb dX11_join_96 (lv_at hl 4 rfl) ?_
    refine lv_iadd hx hb dX11_join_98 ?_
    obtain ⟨b5, h⟩ := h
    refine rk_iast X hP hD hS (n := 117) (klM_X11_30 h0) (fun _ _ => rfl) b5 dX11_join_99 (fun H locs hP hS => ?_)
    obtain ⟨s3, es3⟩ : ∃ z : St, z = u1 s2 (v0 + 16) (((96 : Int32) + ((2 : Int32) * (s2.1 (v0 + 16) (116 : Int32).toNatClampNeg))) + (1 : Int32)).toNatClampNeg (((4 : Int32) * v3) + v4) := ⟨_, rfl⟩
    rw [← es3] at hP
    have h := h s3 es3
    refine lv_aload_n hx hb dX11_join_100 rfl (lv_at hl 0 rfl) ?_
    refine rk_get X hP (C := RX11) (T := TX11) (N := 44) (ci := 11) wix_11 h0 rfl rfl 30 (by decide) (wi_29 _ (List.mem_of_getElem? (i := 13) rfl)) rfl rfl dX11_join_101 ?_
    refine lv_bipush (v := (116 : Int32)) hx hb dX11_join_104 (by decide) ?_
    refine lv_dup2_11 hx hb dX11_join_106 rfl rfl ?_
    have b6 : vp_in (116 : Int32) 117 := by unfold vp_in; decide
    refine rk_iald X hP (n := 117) (klM_X11_30 h0) (fun _ _ => rfl) b6 dX11_join_107 ?_
    refine lv_iconst (v := (1 : Int32)) hx hb dX11_join_108 (by decide) ?_
    refine lv_iadd hx hb dX11_join_109 ?_
    have b7 : vp_in (116 : Int32) 117 := by unfold vp_in; decide
    refine rk_iast X hP hD hS (n := 117) (klM_X11_30 h0) (fun _ _ => rfl) b7 dX11_join_110 (fun H locs hP hS => ?_)
    obtain ⟨s4, es4⟩ : ∃ z : St, z = u1 s3 (v0 + 16) (116 : Int32).toNatClampNeg ((s3.1 (v0 + 16) (116 : Int32).toNatClampNeg) + (1 : Int32)) := ⟨_, rfl⟩
    rw [← es4] at hP
    have h := h s4 es4
    refine lv_aload_n hx hb dX11_join_111 rfl (lv_at hl 0 rfl) ?_
    refine rk_get X hP (C := RX11) (T := TX11) (N := 44) (ci := 11) wix_11 h0 rfl rfl 30 (by decide) (wi_29 _ (List.mem_of_getElem? (i := 13) rfl)) rfl rfl dX11_join_112 ?_
    refine lv_bipush (v := (116 : Int32)) hx hb dX11_join_115 (by decide) ?_
    have b8 : vp_in (116 : Int32) 117 := by unfold vp_in; decide
    refine rk_iald X hP (n := 117) (klM_X11_30 h0) (fun _ _ => rfl) b8 dX11_join_117 ?_
    refine lv_iconst (v := (1 : Int32)) hx hb dX11_join_118 (by decide) ?_
    refine lv_isub hx hb dX11_join_119 ?_
    exact rk_iret X rfl kM_len h hP hS dX11_join_120
  · have h := h.2 c1
    refine lv_iconst (v := (-1 : Int32)) hx hb dX11_join_47 (by decide) ?_
    exact rk_iret X rfl kM_len h hP hS dX11_join_48
set_option maxRecDepth 100000 in
set_option maxHeartbeats 4000000 in
theorem mX11_join (l : Launch) (D : va_G) (cy : Nat → ClassId) (B : Nat) (v0 : Nat) (v1 : Int32) (v2 : Int32) (v3 : Int32) (v4 : Int32) (σ : St) (h0 : kM[v0]? = some 11) {post : Int32 → St → Prop} (h : wX11_join v0 v1 v2 v3 v4 σ post) : Met l yX11_join (Cond.code yX11_join cX11_join 5 (some .int) :: WALL) (rmD 3) (PcW D cy B kM σ [.ref (B + v0), .int v1, .int v2, .int v3, .int v4]) (va_Qi post (BW D cy B kM) (AW B 26)) 0 0 (AW B 26) := by
  refine Met.ofK (cc := cX11_join) (maxL := 5) (ret := (some .int)) (by decide +kernel) rfl kM_len ?_
  intro p e s m below meth c X hP
  obtain ⟨⟨hx, hb, hml, hown, hts⟩, hr, hlk, hK, hN, hZ⟩ := id X
  have hD : ∀ σ, va_D (AW B 26) (wW cy B kM σ) := AW_D kM_len
  have hS : va_S (AW B 26) s.heap s.heap [] := va_S.rf
  have hl := lv_entry ([.ref (B + v0), .int v1, .int v2, .int v3, .int v4]) (n := 5) (Nat.le_of_ble_eq_true rfl)
  rw [lg_entry_eq]
  generalize (lg_sl ([.ref (B + v0), .int v1, .int v2, .int v3, .int v4]) ++ List.replicate (5 - (lg_sl ([.ref (B + v0), .int v1, .int v2, .int v3, .int v4])).length) Slot.unset).toArray = ls at hl ⊢
  have hl : lv_has ls 5 [(0, .ref (B + v0)), (1, .int v1), (2, .int v2), (3, .int v3), (4, .int v4)] := hl
  unfold wX11_join at h
  refine lv_aload_n hx hb dX11_join_0 rfl (lv_at hl 0 rfl) ?_
  refine lv_iconst (v := (0 : Int32)) hx hb dX11_join_1 (by decide) ?_
  refine rk_puti X hP hD hS (C := RX11) (T := TX11) (N := 44) (ci := 11) wix_11 h0 rfl rfl tyX11 tyX11_ok nmX11 0 (by decide) (wi_30 _ (List.mem_of_getElem? (i := 1) rfl)) rfl rfl (by decide +kernel) (Nat.le_of_ble_eq_true rfl) rfl dX11_join_2 (fun H locs hP hS => ?_)
  obtain ⟨s1, es1⟩ : ∃ z : St, z = u1 σ v0 0 (0 : Int32) := ⟨_, rfl⟩
  rw [← es1] at hP
  have h := h s1 es1
  refine lv_aload_n hx hb dX11_join_5 rfl (lv_at hl 0 rfl) ?_
  refine lv_iload_n hx hb dX11_join_6 rfl (lv_at hl 1 rfl) ?_
  refine lv_iload_n hx hb dX11_join_7 rfl (lv_at hl 2 rfl) ?_
  refine rk_callz (va_runV (As := [.int v1, .int v2]) (rest := []) X.1 (mX11_isOpen l D cy B v0 v1 v2 s1 h0 h) (cwV 2 hts (gW_V (wi_41 _ (List.mem_of_getElem? (i := 11) rfl)) (wi_41 _ (List.mem_of_getElem? (i := 12) rfl)) (wi_41 _ (List.mem_of_getElem? (i := 13) rfl)) (wi_30 _ (List.mem_of_getElem? (i := 9) rfl)) (wi_41 _ (List.mem_of_getElem? (i := 10) rfl))) rfl rfl rfl hd_X11_isOpen ⟨Nat.le_of_ble_eq_true rfl, Nat.le_of_ble_eq_true rfl⟩) (rk_preV X hS hP h0 rfl rfl [.int v1, .int v2]) rfl rfl hl.1 rfl (lv_room (Nat.le_of_ble_eq_true rfl)) dX11_join_8 ⟨Nat.zero_le _, Nat.zero_le _⟩) hS (fun _ h => h) (fun r1 s2 H locs h hP hS => ?_)
  refine lv_if_eq (tgt := 47) hx hb dX11_join_11 (by decide) (fun c1 => ?_) (fun c1 => ?_)
  · have h := h.1 (b2i_f c1)
    refine lv_iconst (v := (-1 : Int32)) hx hb dX11_join_47 (by decide) ?_
    exact rk_iret X rfl kM_len h hP hS dX11_join_48
  · have h := h.2 (b2i_t c1)
    refine lv_aload_n hx hb dX11_join_14 rfl (lv_at hl 0 rfl) ?_
    refine lv_iload_n hx hb dX11_join_15 rfl (lv_at hl 3 rfl) ?_
    refine lv_iload hx hb dX11_join_16 (lv_at hl 4 rfl) ?_
    refine rk_callz (va_runV (As := [.int v3, .int v4]) (rest := []) X.1 (mX11_isOpen l D cy B v0 v3 v4 s2 h0 h) (cwV 2 hts (gW_V (wi_41 _ (List.mem_of_getElem? (i := 11) rfl)) (wi_41 _ (List.mem_of_getElem? (i := 12) rfl)) (wi_41 _ (List.mem_of_getElem? (i := 13) rfl)) (wi_30 _ (List.mem_of_getElem? (i := 9) rfl)) (wi_41 _ (List.mem_of_getElem? (i := 10) rfl))) rfl rfl rfl hd_X11_isOpen ⟨Nat.le_of_ble_eq_true rfl, Nat.le_of_ble_eq_true rfl⟩) (rk_preV X hS hP h0 rfl rfl [.int v3, .int v4]) rfl rfl hl.1 rfl (lv_room (Nat.le_of_ble_eq_true rfl)) dX11_join_18 ⟨Nat.zero_le _, Nat.zero_le _⟩) hS (fun _ h => h) (fun r2 s3 H locs h hP hS => ?_)
    refine lv_if_eq (tgt := 47) hx hb dX11_join_21 (by decide) (fun c2 => ?_) (fun c2 => ?_)
    · have h := h.1 (b2i_f c2)
      refine lv_iconst (v := (-1 : Int32)) hx hb dX11_join_47 (by decide) ?_
      exact rk_iret X rfl kM_len h hP hS dX11_join_48
    · have h := h.2 (b2i_t c2)
      refine lv_iload_n hx hb dX11_join_24 rfl (lv_at hl 1 rfl) ?_
      refine lv_iload_n hx hb dX11_join_25 rfl (lv_at hl 3 rfl) ?_
      refine lv_icmp_ne (tgt := 35) hx hb dX11_join_26 (by decide) (fun c3 => ?_) (fun c3 => ?_)
      · have h := h.1 c3
        exact tX11_join_35 X _ _ _ _ _ _ h0 h _ _ _ hP hS (lv_sub hl [0, 1, 2, 3, 4] rfl)
      · have h := h.2 c3
        refine lv_iload_n hx hb dX11_join_29 rfl (lv_at hl 2 rfl) ?_
        refine lv_iload hx hb dX11_join_30 (lv_at hl 4 rfl) ?_
        refine lv_icmp_eq (tgt := 47) hx hb dX11_join_32 (by decide) (fun c4 => ?_) (fun c4 => ?_)
        · have h := h.1 c4
          refine lv_iconst (v := (-1 : Int32)) hx hb dX11_join_47 (by decide) ?_
          exact rk_iret X rfl kM_len h hP hS dX11_join_48
        · have h := h.2 c4
          exact tX11_join_35 X _ _ _ _ _ _ h0 h _ _ _ hP hS (lv_sub hl [0, 1, 2, 3, 4] rfl)

theorem hd_X11_cut : yX11_cut.cls = RX11 ∧ yX11_cut.cls ≠ "java/lang/invoke/MethodHandle" ∧ yX11_cut.cls ≠ "java/lang/invoke/VarHandle" ∧ (parseMethodDescriptor yX11_cut.desc).map (fun d => d.parameters.length) = some 1 := by decide +kernel
set_option maxRecDepth 100000 in
set_option maxHeartbeats 4000000 in
theorem tX11_cut_23 {p : Program} {l : Launch} {e : Env} {s : State} {m : MethodId} {av : Array Value} {below : List Frame} {meth : Method} {c : Code} {D : va_G} {cy : Nat → ClassId} {B : Nat} (X : kC p s m av meth c cX11_cut 3 (some .int) WALL RX11 D cy (AW B 26)) {post : Int32 → St → Prop} : ∀ (n : Nat) (v0 : Nat) (v2 : Int32) (σ : St), kM[v0]? = some 11 → wX11_cut_23 post n v0 v2 σ → ∀ (H : Heap) (locs : List Loc) (ls : Array Slot), va_P D vwCl (wW cy B kM σ) H → va_S (AW B 26) s.heap H locs → lv_has ls 3 [(0, .ref (B + v0)), (2, .int v2)] → W p l e (rmD 2) s m av below meth c H locs 0 0 (MQ below (va_Qi post (BW D cy B kM) (AW B 26)) av s 0 0 (AW B 26)) (F0 m 23 ls []) := by
  obtain ⟨⟨hx, hb, hml, hown, hts⟩, hr, hlk, hK, hN, hZ⟩ := id X
  have hD : ∀ σ, va_D (AW B 26) (wW cy B kM σ) := AW_D kM_len
  intro n
  induction n with
  | zero => intro v0 v2 σ h0 h; exact absurd h id
  | succ n ih =>
    intro v0 v2 σ h0 h H locs ls hP hS hl
    rw [wX11_cut_23] at h
    refine lv_iload_n hx hb dX11_cut_23 rfl (lv_at hl 1 rfl) ?_
    refine lv_iconst (v := (2 : Int32)) hx hb dX11_cut_24 (by decide) ?_
    refine lv_iadd hx hb dX11_cut_25 ?_
    refine lv_iconst (v := (2 : Int32)) hx hb dX11_cut_26 (by decide) ?_
    refine lv_aload_n hx hb dX11_cut_27 rfl (lv_at hl 0 rfl) ?_
    refine rk_get X hP (C := RX11) (T := TX11) (N := 44) (ci := 11) wix_11 h0 rfl rfl 30 (by decide) (wi_29 _ (List.mem_of_getElem? (i := 13) rfl)) rfl rfl dX11_cut_28 ?_
    refine lv_bipush (v := (116 : Int32)) hx hb dX11_cut_31 (by decide) ?_
    have b1 : vp_in (116 : Int32) 117 := by unfold vp_in; decide
    refine rk_iald X hP (n := 117) (klM_X11_30 h0) (fun _ _ => rfl) b1 dX11_cut_33 ?_
    refine lv_imul hx hb dX11_cut_34 ?_
    refine lv_icmp_ge (tgt := 64) hx hb dX11_cut_35 (by decide) (fun c1 => ?_) (fun c1 => ?_)
    · have h := h.1 c1
      refine lv_aload_n hx hb dX11_cut_64 rfl (lv_at hl 0 rfl) ?_
      refine rk_get X hP (C := RX11) (T := TX11) (N := 44) (ci := 11) wix_11 h0 rfl rfl 30 (by decide) (wi_29 _ (List.mem_of_getElem? (i := 13) rfl)) rfl rfl dX11_cut_65 ?_
      refine lv_bipush (v := (116 : Int32)) hx hb dX11_cut_68 (by decide) ?_
      refine lv_dup2_11 hx hb dX11_cut_70 rfl rfl ?_
      have b2 : vp_in (116 : Int32) 117 := by unfold vp_in; decide
      refine rk_iald X hP (n := 117) (klM_X11_30 h0) (fun _ _ => rfl) b2 dX11_cut_71 ?_
      refine lv_iconst (v := (1 : Int32)) hx hb dX11_cut_72 (by decide) ?_
      refine lv_isub hx hb dX11_cut_73 ?_
      have b3 : vp_in (116 : Int32) 117 := by unfold vp_in; decide
      refine rk_iast X hP hD hS (n := 117) (klM_X11_30 h0) (fun _ _ => rfl) b3 dX11_cut_74 (fun H locs hP hS => ?_)
      obtain ⟨s1, es1⟩ : ∃ z : St, z = u1 σ (v0 + 16) (116 : Int32).toNatClampNeg ((σ.1 (v0 + 16) (116 : Int32).toNatClampNeg) - (1 : Int32)) := ⟨_, rfl⟩
      rw [← es1] at hP
      have h := h s1 es1
      refine lv_aload_n hx hb dX11_cut_75 rfl (lv_at hl 0 rfl) ?_
      refine rk_get X hP (C := RX11) (T := TX11) (N := 44) (ci := 11) wix_11 h0 rfl rfl 30 (by decide) (wi_29 _ (List.mem_of_getElem? (i := 13) rfl)) rfl rfl dX11_cut_76 ?_
      refine lv_bipush (v := (116 : Int32)) hx hb dX11_cut_79 (by decide) ?_
      have b4 : vp_in (116 : Int32) 117 := by unfold vp_in; decide
      refine rk_iald X hP (n := 117) (klM_X11_30 h0) (fun _ _ => rfl) b4 dX11_cut_81 ?_
      exact rk_iret X rfl kM_len h hP hS dX11_cut_82
    · have h := h.2 c1
      refine lv_aload_n hx hb dX11_cut_38 rfl (lv_at hl 0 rfl) ?_
      refine rk_get X hP (C := RX11) (T := TX11) (N := 44) (ci := 11) wix_11 h0 rfl rfl 30 (by decide) (wi_29 _ (List.mem_of_getElem? (i := 13) rfl)) rfl rfl dX11_cut_39 ?_
      refine lv_bipush (v := (96 : Int32)) hx hb dX11_cut_42 (by decide) ?_
      refine lv_iload_n hx hb dX11_cut_44 rfl (lv_at hl 1 rfl) ?_
      refine lv_iadd hx hb dX11_cut_45 ?_
      refine lv_aload_n hx hb dX11_cut_46 rfl (lv_at hl 0 rfl) ?_
      refine rk_get X hP (C := RX11) (T := TX11) (N := 44) (ci := 11) wix_11 h0 rfl rfl 30 (by decide) (wi_29 _ (List.mem_of_getElem? (i := 13) rfl)) rfl rfl dX11_cut_47 ?_
      refine lv_bipush (v := (96 : Int32)) hx hb dX11_cut_50 (by decide) ?_
      refine lv_iload_n hx hb dX11_cut_52 rfl (lv_at hl 1 rfl) ?_
      refine lv_iadd hx hb dX11_cut_53 ?_
      refine lv_iconst (v := (2 : Int32)) hx hb dX11_cut_54 (by decide) ?_
      refine lv_iadd hx hb dX11_cut_55 ?_
      refine lv_topi (fun x1 ex1 => ?_)
      have h := h x1 ex1
      obtain ⟨b5, h⟩ := h
      refine rk_iald X hP (n := 117) (klM_X11_30 h0) (fun _ _ => rfl) b5 dX11_cut_56 ?_
      obtain ⟨b6, h⟩ := h
      refine rk_iast X hP hD hS (n := 117) (klM_X11_30 h0) (fun _ _ => rfl) b6 dX11_cut_57 (fun H locs hP hS => ?_)
      obtain ⟨s2, es2⟩ : ∃ z : St, z = u1 σ (v0 + 16) ((96 : Int32) + v2).toNatClampNeg (σ.1 (v0 + 16) x1.toNatClampNeg) := ⟨_, rfl⟩
      rw [← es2] at hP
      have h := h s2 es2
      obtain ⟨x2, ex2⟩ : ∃ y : Int32, y = v2 + (1 : Int32) := ⟨_, rfl⟩
      have h := h x2 ex2
      refine lv_iinc (v := x2) (lv' := [(2, .int x2), (0, .ref (B + v0))]) hx hb dX11_cut_58 hl (k := 1) rfl (by rw [ex2]; rfl) (by decide) rfl (fun ls hl => ?_)
      refine lv_goto (tgt := 23) hx hb dX11_cut_61 (by decide) ?_
      exact ih _ _ _ h0 h _ _ _ hP hS (lv_sub hl [1, 0] rfl)
set_option maxRecDepth 100000 in
set_option maxHeartbeats 4000000 in
theorem mX11_cut (l : Launch) (D : va_G) (cy : Nat → ClassId) (B : Nat) (v0 : Nat) (v1 : Int32) (σ : St) (h0 : kM[v0]? = some 11) {post : Int32 → St → Prop} (h : wX11_cut v0 v1 σ post) : Met l yX11_cut (Cond.code yX11_cut cX11_cut 3 (some .int) :: WALL) (rmD 2) (PcW D cy B kM σ [.ref (B + v0), .int v1]) (va_Qi post (BW D cy B kM) (AW B 26)) 0 0 (AW B 26) := by
  refine Met.ofK (cc := cX11_cut) (maxL := 3) (ret := (some .int)) (by decide +kernel) rfl kM_len ?_
  intro p e s m below meth c X hP
  obtain ⟨⟨hx, hb, hml, hown, hts⟩, hr, hlk, hK, hN, hZ⟩ := id X
  have hD : ∀ σ, va_D (AW B 26) (wW cy B kM σ) := AW_D kM_len
  have hS : va_S (AW B 26) s.heap s.heap [] := va_S.rf
  have hl := lv_entry ([.ref (B + v0), .int v1]) (n := 3) (Nat.le_of_ble_eq_true rfl)
  rw [lg_entry_eq]
  generalize (lg_sl ([.ref (B + v0), .int v1]) ++ List.replicate (3 - (lg_sl ([.ref (B + v0), .int v1])).length) Slot.unset).toArray = ls at hl ⊢
  have hl : lv_has ls 3 [(0, .ref (B + v0)), (1, .int v1)] := hl
  unfold wX11_cut at h
  refine lv_aload_n hx hb dX11_cut_0 rfl (lv_at hl 0 rfl) ?_
  refine lv_iconst (v := (0 : Int32)) hx hb dX11_cut_1 (by decide) ?_
  refine rk_puti X hP hD hS (C := RX11) (T := TX11) (N := 44) (ci := 11) wix_11 h0 rfl rfl tyX11 tyX11_ok nmX11 0 (by decide) (wi_30 _ (List.mem_of_getElem? (i := 1) rfl)) rfl rfl (by decide +kernel) (Nat.le_of_ble_eq_true rfl) rfl dX11_cut_2 (fun H locs hP hS => ?_)
  obtain ⟨s1, es1⟩ : ∃ z : St, z = u1 σ v0 0 (0 : Int32) := ⟨_, rfl⟩
  rw [← es1] at hP
  have h := h s1 es1
  refine lv_aload_n hx hb dX11_cut_5 rfl (lv_at hl 0 rfl) ?_
  refine lv_iload_n hx hb dX11_cut_6 rfl (lv_at hl 1 rfl) ?_
  refine rk_callz (va_runV (As := [.int v1]) (rest := []) X.1 (mX11_isWire l D cy B v0 v1 s1 h0 h) (cwV 1 hts (gW_V (wi_38 _ (List.mem_of_getElem? (i := 19) rfl)) (wi_38 _ (List.mem_of_getElem? (i := 20) rfl)) (wi_38 _ (List.mem_of_getElem? (i := 21) rfl)) (wi_30 _ (List.mem_of_getElem? (i := 9) rfl)) (wi_35 _ (List.mem_of_getElem? (i := 8) rfl))) rfl rfl rfl hd_X11_isWire ⟨Nat.le_of_ble_eq_true rfl, Nat.le_of_ble_eq_true rfl⟩) (rk_preV X hS hP h0 rfl rfl [.int v1]) rfl rfl hl.1 rfl (lv_room (Nat.le_of_ble_eq_true rfl)) dX11_cut_7 ⟨Nat.zero_le _, Nat.zero_le _⟩) hS (fun _ h => h) (fun r1 s2 H locs h hP hS => ?_)
  refine lv_if_ne (tgt := 15) hx hb dX11_cut_10 (by decide) (fun c1 => ?_) (fun c1 => ?_)
  · have h := h.1 (b2i_t c1)
    refine lv_aload_n hx hb dX11_cut_15 rfl (lv_at hl 0 rfl) ?_
    refine rk_callv (va_runV (As := []) (rest := []) X.1 (mX11_keeps l D cy B v0 s2 h0 h) (cwV 0 hts (gW_V (wi_41 _ (List.mem_of_getElem? (i := 3) rfl)) (wi_41 _ (List.mem_of_getElem? (i := 4) rfl)) (wi_41 _ (List.mem_of_getElem? (i := 5) rfl)) (wi_30 _ (List.mem_of_getElem? (i := 9) rfl)) (wi_41 _ (List.mem_of_getElem? (i := 2) rfl))) rfl rfl rfl hd_X11_keeps ⟨Nat.le_of_ble_eq_true rfl, Nat.le_of_ble_eq_true rfl⟩) (rk_preV X hS hP h0 rfl rfl []) rfl rfl hl.1 rfl (lv_room (Nat.le_of_ble_eq_true rfl)) dX11_cut_16 ⟨Nat.zero_le _, Nat.zero_le _⟩) hS (fun _ h => h) (fun s3 H locs h hP hS => ?_)
    refine lv_iconst (v := (2 : Int32)) hx hb dX11_cut_19 (by decide) ?_
    refine lv_iload_n hx hb dX11_cut_20 rfl (lv_at hl 1 rfl) ?_
    refine lv_imul hx hb dX11_cut_21 ?_
    refine lv_topi (fun x1 ex1 => ?_)
    have h := h x1 ex1
    refine lv_istore_n (lv' := [(2, .int x1), (0, .ref (B + v0)), (1, .int v1)]) hx hb dX11_cut_22 rfl hl (by decide) rfl (fun ls hl => ?_)
    obtain ⟨j, h⟩ := h
    exact tX11_cut_23 X j _ _ _ h0 h _ _ _ hP hS (lv_sub hl [1, 0] rfl)
  · have h := h.2 (b2i_f c1)
    refine lv_iconst (v := (-1 : Int32)) hx hb dX11_cut_13 (by decide) ?_
    exact rk_iret X rfl kM_len h hP hS dX11_cut_14

theorem hd_X11_undo : yX11_undo.cls = RX11 ∧ yX11_undo.cls ≠ "java/lang/invoke/MethodHandle" ∧ yX11_undo.cls ≠ "java/lang/invoke/VarHandle" ∧ (parseMethodDescriptor yX11_undo.desc).map (fun d => d.parameters.length) = some 0 := by decide +kernel
set_option maxRecDepth 100000 in
set_option maxHeartbeats 4000000 in
theorem tX11_undo_26 {p : Program} {l : Launch} {e : Env} {s : State} {m : MethodId} {av : Array Value} {below : List Frame} {meth : Method} {c : Code} {D : va_G} {cy : Nat → ClassId} {B : Nat} (X : kC p s m av meth c cX11_undo 2 (some .int) WALL RX11 D cy (AW B 26)) {post : Int32 → St → Prop} : ∀ (n : Nat) (v0 : Nat) (v1 : Int32) (σ : St), kM[v0]? = some 11 → wX11_undo_26 post n v0 v1 σ → ∀ (H : Heap) (locs : List Loc) (ls : Array Slot), va_P D vwCl (wW cy B kM σ) H → va_S (AW B 26) s.heap H locs → lv_has ls 2 [(0, .ref (B + v0)), (1, .int v1)] → W p l e (rmD 0) s m av below meth c H locs 0 0 (MQ below (va_Qi post (BW D cy B kM) (AW B 26)) av s 0 0 (AW B 26)) (F0 m 26 ls []) := by
  obtain ⟨⟨hx, hb, hml, hown, hts⟩, hr, hlk, hK, hN, hZ⟩ := id X
  have hD : ∀ σ, va_D (AW B 26) (wW cy B kM σ) := AW_D kM_len
  intro n
  induction n with
  | zero => intro v0 v1 σ h0 h; exact absurd h id
  | succ n ih =>
    intro v0 v1 σ h0 h H locs ls hP hS hl
    rw [wX11_undo_26] at h
    refine lv_iload_n hx hb dX11_undo_26 rfl (lv_at hl 1 rfl) ?_
    refine lv_bipush (v := (117 : Int32)) hx hb dX11_undo_27 (by decide) ?_
    refine lv_icmp_ge (tgt := 58) hx hb dX11_undo_29 (by decide) (fun c1 => ?_) (fun c1 => ?_)
    · have h := h.1 c1
      refine lv_aload_n hx hb dX11_undo_58 rfl (lv_at hl 0 rfl) ?_
      refine rk_get X hP (C := RX11) (T := TX11) (N := 44) (ci := 11) wix_11 h0 rfl rfl 32 (by decide) (wi_34 _ (List.mem_of_getElem? (i := 17) rfl)) rfl rfl dX11_undo_59 ?_
      exact rk_iret X rfl kM_len h hP hS dX11_undo_62
    · have h := h.2 c1
      refine lv_aload_n hx hb dX11_undo_32 rfl (lv_at hl 0 rfl) ?_
      refine rk_get X hP (C := RX11) (T := TX11) (N := 44) (ci := 11) wix_11 h0 rfl rfl 30 (by decide) (wi_29 _ (List.mem_of_getElem? (i := 13) rfl)) rfl rfl dX11_undo_33 ?_
      refine lv_iload_n hx hb dX11_undo_36 rfl (lv_at hl 1 rfl) ?_
      refine lv_aload_n hx hb dX11_undo_37 rfl (lv_at hl 0 rfl) ?_
      refine rk_get X hP (C := RX11) (T := TX11) (N := 44) (ci := 11) wix_11 h0 rfl rfl 31 (by decide) (wi_29 _ (List.mem_of_getElem? (i := 14) rfl)) rfl rfl dX11_undo_38 ?_
      refine lv_bipush (v := (117 : Int32)) hx hb dX11_undo_41 (by decide) ?_
      refine lv_aload_n hx hb dX11_undo_43 rfl (lv_at hl 0 rfl) ?_
      refine rk_get X hP (C := RX11) (T := TX11) (N := 44) (ci := 11) wix_11 h0 rfl rfl 32 (by decide) (wi_34 _ (List.mem_of_getElem? (i := 17) rfl)) rfl rfl dX11_undo_44 ?_
      refine lv_imul hx hb dX11_undo_47 ?_
      refine lv_iload_n hx hb dX11_undo_48 rfl (lv_at hl 1 rfl) ?_
      refine lv_iadd hx hb dX11_undo_49 ?_
      refine lv_topi (fun x1 ex1 => ?_)
      have h := h x1 ex1
      obtain ⟨b1, h⟩ := h
      refine rk_iald X hP (n := 1404) (klM_X11_31 h0) (fun _ _ => rfl) b1 dX11_undo_50 ?_
      obtain ⟨b2, h⟩ := h
      refine rk_iast X hP hD hS (n := 117) (klM_X11_30 h0) (fun _ _ => rfl) b2 dX11_undo_51 (fun H locs hP hS => ?_)
      obtain ⟨s1, es1⟩ : ∃ z : St, z = u1 σ (v0 + 16) v1.toNatClampNeg (σ.1 (v0 + 17) x1.toNatClampNeg) := ⟨_, rfl⟩
      rw [← es1] at hP
      have h := h s1 es1
      obtain ⟨x2, ex2⟩ : ∃ y : Int32, y = v1 + (1 : Int32) := ⟨_, rfl⟩
      have h := h x2 ex2
      refine lv_iinc (v := x2) (lv' := [(1, .int x2), (0, .ref (B + v0))]) hx hb dX11_undo_52 hl (k := 1) rfl (by rw [ex2]; rfl) (by decide) rfl (fun ls hl => ?_)
      refine lv_goto (tgt := 26) hx hb dX11_undo_55 (by decide) ?_
      exact ih _ _ _ h0 h _ _ _ hP hS (lv_sub hl [1, 0] rfl)
set_option maxRecDepth 100000 in
set_option maxHeartbeats 4000000 in
theorem mX11_undo (l : Launch) (D : va_G) (cy : Nat → ClassId) (B : Nat) (v0 : Nat) (σ : St) (h0 : kM[v0]? = some 11) {post : Int32 → St → Prop} (h : wX11_undo v0 σ post) : Met l yX11_undo (Cond.code yX11_undo cX11_undo 2 (some .int) :: WALL) (rmD 0) (PcW D cy B kM σ [.ref (B + v0)]) (va_Qi post (BW D cy B kM) (AW B 26)) 0 0 (AW B 26) := by
  refine Met.ofK (cc := cX11_undo) (maxL := 2) (ret := (some .int)) (by decide +kernel) rfl kM_len ?_
  intro p e s m below meth c X hP
  obtain ⟨⟨hx, hb, hml, hown, hts⟩, hr, hlk, hK, hN, hZ⟩ := id X
  have hD : ∀ σ, va_D (AW B 26) (wW cy B kM σ) := AW_D kM_len
  have hS : va_S (AW B 26) s.heap s.heap [] := va_S.rf
  have hl := lv_entry ([.ref (B + v0)]) (n := 2) (Nat.le_of_ble_eq_true rfl)
  rw [lg_entry_eq]
  generalize (lg_sl ([.ref (B + v0)]) ++ List.replicate (2 - (lg_sl ([.ref (B + v0)])).length) Slot.unset).toArray = ls at hl ⊢
  have hl : lv_has ls 2 [(0, .ref (B + v0))] := hl
  unfold wX11_undo at h
  refine lv_aload_n hx hb dX11_undo_0 rfl (lv_at hl 0 rfl) ?_
  refine lv_iconst (v := (0 : Int32)) hx hb dX11_undo_1 (by decide) ?_
  refine rk_puti X hP hD hS (C := RX11) (T := TX11) (N := 44) (ci := 11) wix_11 h0 rfl rfl tyX11 tyX11_ok nmX11 0 (by decide) (wi_30 _ (List.mem_of_getElem? (i := 1) rfl)) rfl rfl (by decide +kernel) (Nat.le_of_ble_eq_true rfl) rfl dX11_undo_2 (fun H locs hP hS => ?_)
  obtain ⟨s1, es1⟩ : ∃ z : St, z = u1 σ v0 0 (0 : Int32) := ⟨_, rfl⟩
  rw [← es1] at hP
  have h := h s1 es1
  refine lv_aload_n hx hb dX11_undo_5 rfl (lv_at hl 0 rfl) ?_
  refine rk_get X hP (C := RX11) (T := TX11) (N := 44) (ci := 11) wix_11 h0 rfl rfl 32 (by decide) (wi_34 _ (List.mem_of_getElem? (i := 17) rfl)) rfl rfl dX11_undo_6 ?_
  refine lv_if_ne (tgt := 14) hx hb dX11_undo_9 (by decide) (fun c1 => ?_) (fun c1 => ?_)
  · have h := h.1 c1
    refine lv_aload_n hx hb dX11_undo_14 rfl (lv_at hl 0 rfl) ?_
    refine lv_dup hx hb dX11_undo_15 rfl ?_
    refine rk_get X hP (C := RX11) (T := TX11) (N := 44) (ci := 11) wix_11 h0 rfl rfl 32 (by decide) (wi_34 _ (List.mem_of_getElem? (i := 17) rfl)) rfl rfl dX11_undo_16 ?_
    refine lv_iconst (v := (1 : Int32)) hx hb dX11_undo_19 (by decide) ?_
    refine lv_isub hx hb dX11_undo_20 ?_
    refine rk_puti X hP hD hS (C := RX11) (T := TX11) (N := 44) (ci := 11) wix_11 h0 rfl rfl tyX11 tyX11_ok nmX11 32 (by decide) (wi_34 _ (List.mem_of_getElem? (i := 17) rfl)) rfl rfl (by decide +kernel) (Nat.le_of_ble_eq_true rfl) rfl dX11_undo_21 (fun H locs hP hS => ?_)
    obtain ⟨s2, es2⟩ : ∃ z : St, z = u1 s1 v0 32 ((s1.1 v0 32) - (1 : Int32)) := ⟨_, rfl⟩
    rw [← es2] at hP
    have h := h s2 es2
    refine lv_iconst (v := (0 : Int32)) hx hb dX11_undo_24 (by decide) ?_
    refine lv_istore_n (lv' := [(1, .int (0 : Int32)), (0, .ref (B + v0))]) hx hb dX11_undo_25 rfl hl (by decide) rfl (fun ls hl => ?_)
    obtain ⟨j, h⟩ := h
    exact tX11_undo_26 X j _ _ _ h0 h _ _ _ hP hS (lv_sub hl [1, 0] rfl)
  · have h := h.2 c1
    refine lv_iconst (v := (-1 : Int32)) hx hb dX11_undo_12 (by decide) ?_
    exact rk_iret X rfl kM_len h hP hS dX11_undo_13

theorem hd_X11_keep : yX11_keep.cls = RX11 ∧ yX11_keep.cls ≠ "java/lang/invoke/MethodHandle" ∧ yX11_keep.cls ≠ "java/lang/invoke/VarHandle" ∧ (parseMethodDescriptor yX11_keep.desc).map (fun d => d.parameters.length) = some 2 := by decide +kernel
set_option maxRecDepth 100000 in
set_option maxHeartbeats 4000000 in
theorem tX11_keep_32 {p : Program} {l : Launch} {e : Env} {s : State} {m : MethodId} {av : Array Value} {below : List Frame} {meth : Method} {c : Code} {D : va_G} {cy : Nat → ClassId} {B : Nat} (X : kC p s m av meth c cX11_keep 4 (some .boolean) WALL RX11 D cy (AW B 26)) {post : Bool → St → Prop} : ∀ (n : Nat) (v0 : Nat) (v1 : Int32) (v2 : Int32) (v3 : Int32) (σ : St), kM[v0]? = some 11 → wX11_keep_32 post n v0 v1 v2 v3 σ → ∀ (H : Heap) (locs : List Loc) (ls : Array Slot), va_P D vwCl (wW cy B kM σ) H → va_S (AW B 26) s.heap H locs → lv_has ls 4 [(0, .ref (B + v0)), (1, .int v1), (2, .int v2), (3, .int v3)] → W p l e (rmD 1) s m av below meth c H locs 0 0 (MQ below (Qz post D cy B kM 26) av s 0 0 (AW B 26)) (F0 m 32 ls []) := by
  obtain ⟨⟨hx, hb, hml, hown, hts⟩, hr, hlk, hK, hN, hZ⟩ := id X
  have hD : ∀ σ, va_D (AW B 26) (wW cy B kM σ) := AW_D kM_len
  intro n
  induction n with
  | zero => intro v0 v1 v2 v3 σ h0 h; exact absurd h id
  | succ n ih =>
    intro v0 v1 v2 v3 σ h0 h H locs ls hP hS hl
    rw [wX11_keep_32] at h
    refine lv_iload_n hx hb dX11_keep_32 rfl (lv_at hl 3 rfl) ?_
    refine lv_bipush (v := (117 : Int32)) hx hb dX11_keep_33 (by decide) ?_
    refine lv_icmp_ge (tgt := 85) hx hb dX11_keep_35 (by decide) (fun c1 => ?_) (fun c1 => ?_)
    · have h := h.1 c1
      refine lv_iload_n hx hb dX11_keep_85 rfl (lv_at hl 2 rfl) ?_
      refine lv_if_eq (tgt := 97) hx hb dX11_keep_86 (by decide) (fun c2 => ?_) (fun c2 => ?_)
      · have h := h.1 c2
        refine lv_aload_n hx hb dX11_keep_97 rfl (lv_at hl 0 rfl) ?_
        refine rk_get X hP (C := RX11) (T := TX11) (N := 44) (ci := 11) wix_11 h0 rfl rfl 34 (by decide) (wi_29 _ (List.mem_of_getElem? (i := 16) rfl)) rfl rfl dX11_keep_98 ?_
        refine lv_iload_n hx hb dX11_keep_101 rfl (lv_at hl 1 rfl) ?_
        refine lv_iconst (v := (1 : Int32)) hx hb dX11_keep_102 (by decide) ?_
        obtain ⟨b1, h⟩ := h
        refine rk_zast X hP hD hS (n := 2) (klM_X11_34 h0) (fun _ _ => rfl) b1 dX11_keep_103 (fun H locs hP hS => ?_)
        obtain ⟨s1, es1⟩ : ∃ z : St, z = u1 σ (v0 + 19) v1.toNatClampNeg (vp_nar .boolean (1 : Int32)) := ⟨_, rfl⟩
        rw [← es1] at hP
        have h := h s1 es1
        refine lv_iconst (v := (1 : Int32)) hx hb dX11_keep_104 (by decide) ?_
        exact rk_zret X kM_len true h hP hS dX11_keep_105
      · have h := h.2 c2
        refine lv_aload_n hx hb dX11_keep_89 rfl (lv_at hl 0 rfl) ?_
        refine lv_iconst (v := (0 : Int32)) hx hb dX11_keep_90 (by decide) ?_
        refine rk_puti X hP hD hS (C := RX11) (T := TX11) (N := 44) (ci := 11) wix_11 h0 rfl rfl tyX11 tyX11_ok nmX11 32 (by decide) (wi_34 _ (List.mem_of_getElem? (i := 17) rfl)) rfl rfl (by decide +kernel) (Nat.le_of_ble_eq_true rfl) rfl dX11_keep_91 (fun H locs hP hS => ?_)
        obtain ⟨s2, es2⟩ : ∃ z : St, z = u1 σ v0 32 (0 : Int32) := ⟨_, rfl⟩
        rw [← es2] at hP
        have h := h s2 es2
        refine lv_goto (tgt := 104) hx hb dX11_keep_94 (by decide) ?_
        refine lv_iconst (v := (1 : Int32)) hx hb dX11_keep_104 (by decide) ?_
        exact rk_zret X kM_len true h hP hS dX11_keep_105
    · have h := h.2 c1
      refine lv_iload_n hx hb dX11_keep_38 rfl (lv_at hl 2 rfl) ?_
      refine lv_if_eq (tgt := 62) hx hb dX11_keep_39 (by decide) (fun c3 => ?_) (fun c3 => ?_)
      · have h := h.1 c3
        refine lv_aload_n hx hb dX11_keep_62 rfl (lv_at hl 0 rfl) ?_
        refine rk_get X hP (C := RX11) (T := TX11) (N := 44) (ci := 11) wix_11 h0 rfl rfl 33 (by decide) (wi_29 _ (List.mem_of_getElem? (i := 15) rfl)) rfl rfl dX11_keep_63 ?_
        refine lv_bipush (v := (117 : Int32)) hx hb dX11_keep_66 (by decide) ?_
        refine lv_iload_n hx hb dX11_keep_68 rfl (lv_at hl 1 rfl) ?_
        refine lv_imul hx hb dX11_keep_69 ?_
        refine lv_iload_n hx hb dX11_keep_70 rfl (lv_at hl 3 rfl) ?_
        refine lv_iadd hx hb dX11_keep_71 ?_
        refine lv_aload_n hx hb dX11_keep_72 rfl (lv_at hl 0 rfl) ?_
        refine rk_get X hP (C := RX11) (T := TX11) (N := 44) (ci := 11) wix_11 h0 rfl rfl 30 (by decide) (wi_29 _ (List.mem_of_getElem? (i := 13) rfl)) rfl rfl dX11_keep_73 ?_
        refine lv_iload_n hx hb dX11_keep_76 rfl (lv_at hl 3 rfl) ?_
        obtain ⟨b2, h⟩ := h
        refine rk_iald X hP (n := 117) (klM_X11_30 h0) (fun _ _ => rfl) b2 dX11_keep_77 ?_
        obtain ⟨b3, h⟩ := h
        refine rk_iast X hP hD hS (n := 234) (klM_X11_33 h0) (fun _ _ => rfl) b3 dX11_keep_78 (fun H locs hP hS => ?_)
        obtain ⟨s3, es3⟩ : ∃ z : St, z = u1 σ (v0 + 18) (((117 : Int32) * v1) + v3).toNatClampNeg (σ.1 (v0 + 16) v3.toNatClampNeg) := ⟨_, rfl⟩
        rw [← es3] at hP
        have h := h s3 es3
        obtain ⟨x1, ex1⟩ : ∃ y : Int32, y = v3 + (1 : Int32) := ⟨_, rfl⟩
        have h := h x1 ex1
        refine lv_iinc (v := x1) (lv' := [(3, .int x1), (0, .ref (B + v0)), (1, .int v1), (2, .int v2)]) hx hb dX11_keep_79 hl (k := 3) rfl (by rw [ex1]; rfl) (by decide) rfl (fun ls hl => ?_)
        refine lv_goto (tgt := 32) hx hb dX11_keep_82 (by decide) ?_
        exact ih _ _ _ _ _ h0 h _ _ _ hP hS (lv_sub hl [1, 2, 3, 0] rfl)
      · have h := h.2 c3
        refine lv_aload_n hx hb dX11_keep_42 rfl (lv_at hl 0 rfl) ?_
        refine rk_get X hP (C := RX11) (T := TX11) (N := 44) (ci := 11) wix_11 h0 rfl rfl 30 (by decide) (wi_29 _ (List.mem_of_getElem? (i := 13) rfl)) rfl rfl dX11_keep_43 ?_
        refine lv_iload_n hx hb dX11_keep_46 rfl (lv_at hl 3 rfl) ?_
        refine lv_aload_n hx hb dX11_keep_47 rfl (lv_at hl 0 rfl) ?_
        refine rk_get X hP (C := RX11) (T := TX11) (N := 44) (ci := 11) wix_11 h0 rfl rfl 33 (by decide) (wi_29 _ (List.mem_of_getElem? (i := 15) rfl)) rfl rfl dX11_keep_48 ?_
        refine lv_bipush (v := (117 : Int32)) hx hb dX11_keep_51 (by decide) ?_
        refine lv_iload_n hx hb dX11_keep_53 rfl (lv_at hl 1 rfl) ?_
        refine lv_imul hx hb dX11_keep_54 ?_
        refine lv_iload_n hx hb dX11_keep_55 rfl (lv_at hl 3 rfl) ?_
        refine lv_iadd hx hb dX11_keep_56 ?_
        refine lv_topi (fun x2 ex2 => ?_)
        have h := h x2 ex2
        obtain ⟨b4, h⟩ := h
        refine rk_iald X hP (n := 234) (klM_X11_33 h0) (fun _ _ => rfl) b4 dX11_keep_57 ?_
        obtain ⟨b5, h⟩ := h
        refine rk_iast X hP hD hS (n := 117) (klM_X11_30 h0) (fun _ _ => rfl) b5 dX11_keep_58 (fun H locs hP hS => ?_)
        obtain ⟨s4, es4⟩ : ∃ z : St, z = u1 σ (v0 + 16) v3.toNatClampNeg (σ.1 (v0 + 18) x2.toNatClampNeg) := ⟨_, rfl⟩
        rw [← es4] at hP
        have h := h s4 es4
        refine lv_goto (tgt := 79) hx hb dX11_keep_59 (by decide) ?_
        obtain ⟨x3, ex3⟩ : ∃ y : Int32, y = v3 + (1 : Int32) := ⟨_, rfl⟩
        have h := h x3 ex3
        refine lv_iinc (v := x3) (lv' := [(3, .int x3), (0, .ref (B + v0)), (1, .int v1), (2, .int v2)]) hx hb dX11_keep_79 hl (k := 3) rfl (by rw [ex3]; rfl) (by decide) rfl (fun ls hl => ?_)
        refine lv_goto (tgt := 32) hx hb dX11_keep_82 (by decide) ?_
        exact ih _ _ _ _ _ h0 h _ _ _ hP hS (lv_sub hl [1, 2, 3, 0] rfl)
set_option maxRecDepth 100000 in
set_option maxHeartbeats 4000000 in
theorem tX11_keep_30 {p : Program} {l : Launch} {e : Env} {s : State} {m : MethodId} {av : Array Value} {below : List Frame} {meth : Method} {c : Code} {D : va_G} {cy : Nat → ClassId} {B : Nat} (X : kC p s m av meth c cX11_keep 4 (some .boolean) WALL RX11 D cy (AW B 26)) {post : Bool → St → Prop} : ∀ (v0 : Nat) (v1 : Int32) (v2 : Int32) (σ : St), kM[v0]? = some 11 → wX11_keep_30 post v0 v1 v2 σ → ∀ (H : Heap) (locs : List Loc) (ls : Array Slot), va_P D vwCl (wW cy B kM σ) H → va_S (AW B 26) s.heap H locs → lv_has ls 4 [(0, .ref (B + v0)), (1, .int v1), (2, .int v2)] → W p l e (rmD 1) s m av below meth c H locs 0 0 (MQ below (Qz post D cy B kM 26) av s 0 0 (AW B 26)) (F0 m 30 ls []) := by
  obtain ⟨⟨hx, hb, hml, hown, hts⟩, hr, hlk, hK, hN, hZ⟩ := id X
  have hD : ∀ σ, va_D (AW B 26) (wW cy B kM σ) := AW_D kM_len
  intro v0 v1 v2 σ h0 h H locs ls hP hS hl
  unfold wX11_keep_30 at h
  refine lv_iconst (v := (0 : Int32)) hx hb dX11_keep_30 (by decide) ?_
  refine lv_istore_n (lv' := [(3, .int (0 : Int32)), (0, .ref (B + v0)), (1, .int v1), (2, .int v2)]) hx hb dX11_keep_31 rfl hl (by decide) rfl (fun ls hl => ?_)
  obtain ⟨j, h⟩ := h
  exact tX11_keep_32 X j _ _ _ _ _ h0 h _ _ _ hP hS (lv_sub hl [1, 2, 3, 0] rfl)
set_option maxRecDepth 100000 in
set_option maxHeartbeats 4000000 in
theorem mX11_keep (l : Launch) (D : va_G) (cy : Nat → ClassId) (B : Nat) (v0 : Nat) (v1 : Int32) (v2 : Int32) (σ : St) (h0 : kM[v0]? = some 11) {post : Bool → St → Prop} (h : wX11_keep v0 v1 v2 σ post) : Met l yX11_keep (Cond.code yX11_keep cX11_keep 4 (some .boolean) :: WALL) (rmD 1) (PcW D cy B kM σ [.ref (B + v0), .int v1, .int v2]) (Qz post D cy B kM 26) 0 0 (AW B 26) := by
  refine Met.ofK (cc := cX11_keep) (maxL := 4) (ret := (some .boolean)) (by decide +kernel) rfl kM_len ?_
  intro p e s m below meth c X hP
  obtain ⟨⟨hx, hb, hml, hown, hts⟩, hr, hlk, hK, hN, hZ⟩ := id X
  have hD : ∀ σ, va_D (AW B 26) (wW cy B kM σ) := AW_D kM_len
  have hS : va_S (AW B 26) s.heap s.heap [] := va_S.rf
  have hl := lv_entry ([.ref (B + v0), .int v1, .int v2]) (n := 4) (Nat.le_of_ble_eq_true rfl)
  rw [lg_entry_eq]
  generalize (lg_sl ([.ref (B + v0), .int v1, .int v2]) ++ List.replicate (4 - (lg_sl ([.ref (B + v0), .int v1, .int v2])).length) Slot.unset).toArray = ls at hl ⊢
  have hl : lv_has ls 4 [(0, .ref (B + v0)), (1, .int v1), (2, .int v2)] := hl
  unfold wX11_keep at h
  refine lv_aload_n hx hb dX11_keep_0 rfl (lv_at hl 0 rfl) ?_
  refine lv_iconst (v := (0 : Int32)) hx hb dX11_keep_1 (by decide) ?_
  refine rk_puti X hP hD hS (C := RX11) (T := TX11) (N := 44) (ci := 11) wix_11 h0 rfl rfl tyX11 tyX11_ok nmX11 0 (by decide) (wi_30 _ (List.mem_of_getElem? (i := 1) rfl)) rfl rfl (by decide +kernel) (Nat.le_of_ble_eq_true rfl) rfl dX11_keep_2 (fun H locs hP hS => ?_)
  obtain ⟨s1, es1⟩ : ∃ z : St, z = u1 σ v0 0 (0 : Int32) := ⟨_, rfl⟩
  rw [← es1] at hP
  have h := h s1 es1
  refine lv_iload_n hx hb dX11_keep_5 rfl (lv_at hl 1 rfl) ?_
  refine lv_i2l hx hb dX11_keep_6 rfl ?_
  refine lv_lconst (v := (0 : Int64)) hx hb dX11_keep_7 (by decide) ?_
  refine lv_lconst (v := (1 : Int64)) hx hb dX11_keep_8 (by decide) ?_
  refine rk_callz (va_runS (As := [.long (v1.toInt64), .long (0 : Int64), .long (1 : Int64)]) (rest := []) X.1 (mX11_within l D cy B (v1.toInt64) (0 : Int64) (1 : Int64) s1 h) (va_cwS 3 hts (gW_S (wi_31 _ (List.mem_of_getElem? (i := 2) rfl)) (wi_31 _ (List.mem_of_getElem? (i := 3) rfl)) (wi_30 _ (List.mem_of_getElem? (i := 9) rfl)) (wi_30 _ (List.mem_of_getElem? (i := 2) rfl))) rfl rfl rfl hd_X11_within ⟨Nat.le_of_ble_eq_true rfl, Nat.le_of_ble_eq_true rfl⟩) (rk_preS X hS hP [.long (v1.toInt64), .long (0 : Int64), .long (1 : Int64)]) rfl rfl hl.1 rfl (lv_room (Nat.le_of_ble_eq_true rfl)) dX11_keep_9 ⟨Nat.zero_le _, Nat.zero_le _⟩) hS (fun _ h => h) (fun r1 s2 H locs h hP hS => ?_)
  refine lv_if_eq (tgt := 28) hx hb dX11_keep_12 (by decide) (fun c1 => ?_) (fun c1 => ?_)
  · have h := h.1 (b2i_f c1)
    refine lv_iconst (v := (0 : Int32)) hx hb dX11_keep_28 (by decide) ?_
    exact rk_zret X kM_len false h hP hS dX11_keep_29
  · have h := h.2 (b2i_t c1)
    refine lv_iload_n hx hb dX11_keep_15 rfl (lv_at hl 2 rfl) ?_
    refine lv_if_eq (tgt := 30) hx hb dX11_keep_16 (by decide) (fun c2 => ?_) (fun c2 => ?_)
    · have h := h.1 c2
      exact tX11_keep_30 X _ _ _ _ h0 h _ _ _ hP hS (lv_sub hl [0, 1, 2] rfl)
    · have h := h.2 c2
      refine lv_aload_n hx hb dX11_keep_19 rfl (lv_at hl 0 rfl) ?_
      refine rk_get X hP (C := RX11) (T := TX11) (N := 44) (ci := 11) wix_11 h0 rfl rfl 34 (by decide) (wi_29 _ (List.mem_of_getElem? (i := 16) rfl)) rfl rfl dX11_keep_20 ?_
      refine lv_iload_n hx hb dX11_keep_23 rfl (lv_at hl 1 rfl) ?_
      obtain ⟨b1, h⟩ := h
      refine rk_zald X hP (n := 2) (klM_X11_34 h0) (fun _ _ => rfl) b1 dX11_keep_24 ?_
      refine lv_if_ne (tgt := 30) hx hb dX11_keep_25 (by decide) (fun c3 => ?_) (fun c3 => ?_)
      · have h := h.1 c3
        exact tX11_keep_30 X _ _ _ _ h0 h _ _ _ hP hS (lv_sub hl [0, 1, 2] rfl)
      · have h := h.2 c3
        refine lv_iconst (v := (0 : Int32)) hx hb dX11_keep_28 (by decide) ?_
        exact rk_zret X kM_len false h hP hS dX11_keep_29

theorem hd_X11_count : yX11_count.cls = RX11 ∧ yX11_count.cls ≠ "java/lang/invoke/MethodHandle" ∧ yX11_count.cls ≠ "java/lang/invoke/VarHandle" ∧ (parseMethodDescriptor yX11_count.desc).map (fun d => d.parameters.length) = some 1 := by decide +kernel
set_option maxRecDepth 100000 in
set_option maxHeartbeats 4000000 in
theorem mX11_count (l : Launch) (D : va_G) (cy : Nat → ClassId) (B : Nat) (v0 : Nat) (v1 : Int32) (σ : St) (h0 : kM[v0]? = some 11) {post : Int32 → St → Prop} (h : wX11_count v0 v1 σ post) : Met l yX11_count (Cond.code yX11_count cX11_count 2 (some .int) :: WALL) (rmD 2) (PcW D cy B kM σ [.ref (B + v0), .int v1]) (va_Qi post (BW D cy B kM) (AW B 26)) 0 0 (AW B 26) := by
  refine Met.ofK (cc := cX11_count) (maxL := 2) (ret := (some .int)) (by decide +kernel) rfl kM_len ?_
  intro p e s m below meth c X hP
  obtain ⟨⟨hx, hb, hml, hown, hts⟩, hr, hlk, hK, hN, hZ⟩ := id X
  have hD : ∀ σ, va_D (AW B 26) (wW cy B kM σ) := AW_D kM_len
  have hS : va_S (AW B 26) s.heap s.heap [] := va_S.rf
  have hl := lv_entry ([.ref (B + v0), .int v1]) (n := 2) (Nat.le_of_ble_eq_true rfl)
  rw [lg_entry_eq]
  generalize (lg_sl ([.ref (B + v0), .int v1]) ++ List.replicate (2 - (lg_sl ([.ref (B + v0), .int v1])).length) Slot.unset).toArray = ls at hl ⊢
  have hl : lv_has ls 2 [(0, .ref (B + v0)), (1, .int v1)] := hl
  unfold wX11_count at h
  refine lv_aload_n hx hb dX11_count_0 rfl (lv_at hl 0 rfl) ?_
  refine lv_iconst (v := (0 : Int32)) hx hb dX11_count_1 (by decide) ?_
  refine rk_puti X hP hD hS (C := RX11) (T := TX11) (N := 44) (ci := 11) wix_11 h0 rfl rfl tyX11 tyX11_ok nmX11 0 (by decide) (wi_30 _ (List.mem_of_getElem? (i := 1) rfl)) rfl rfl (by decide +kernel) (Nat.le_of_ble_eq_true rfl) rfl dX11_count_2 (fun H locs hP hS => ?_)
  obtain ⟨s1, es1⟩ : ∃ z : St, z = u1 σ v0 0 (0 : Int32) := ⟨_, rfl⟩
  rw [← es1] at hP
  have h := h s1 es1
  refine lv_iload_n hx hb dX11_count_5 rfl (lv_at hl 1 rfl) ?_
  by_cases c1 : v1 = (0 : Int32)
  · have h := h.1 c1
    refine lv_tableIn (tgt := 52) hx hb dX11_count_6 (by rw [c1]; decide) (by rw [c1]; decide) (by rw [c1]; rfl) (by decide) ?_
    refine lv_aload_n hx hb dX11_count_52 rfl (lv_at hl 0 rfl) ?_
    refine rk_calli (va_runV (As := []) (rest := []) X.1 (mX11_p l D cy B v0 s1 h0 h) (cwV 0 hts (gW_V (wi_35 _ (List.mem_of_getElem? (i := 21) rfl)) (wi_35 _ (List.mem_of_getElem? (i := 22) rfl)) (wi_35 _ (List.mem_of_getElem? (i := 23) rfl)) (wi_30 _ (List.mem_of_getElem? (i := 9) rfl)) (wi_35 _ (List.mem_of_getElem? (i := 4) rfl))) rfl rfl rfl hd_X11_p ⟨Nat.le_of_ble_eq_true rfl, Nat.le_of_ble_eq_true rfl⟩) (rk_preV X hS hP h0 rfl rfl []) rfl rfl hl.1 rfl (lv_room (Nat.le_of_ble_eq_true rfl)) dX11_count_53 ⟨Nat.zero_le _, Nat.zero_le _⟩) hS (fun _ h => h) (fun r1 s2 H locs h hP hS => ?_)
    exact rk_iret X rfl kM_len h hP hS dX11_count_56
  have h := h.2 c1
  by_cases c2 : v1 = (1 : Int32)
  · have h := h.1 c2
    refine lv_tableIn (tgt := 57) hx hb dX11_count_6 (by rw [c2]; decide) (by rw [c2]; decide) (by rw [c2]; rfl) (by decide) ?_
    refine lv_aload_n hx hb dX11_count_57 rfl (lv_at hl 0 rfl) ?_
    refine rk_get X hP (C := RX11) (T := TX11) (N := 44) (ci := 11) wix_11 h0 rfl rfl 14 (by decide) (wi_28 _ (List.mem_of_getElem? (i := 23) rfl)) rfl rfl dX11_count_58 ?_
    refine lv_iconst (v := (0 : Int32)) hx hb dX11_count_61 (by decide) ?_
    have b1 : vp_in (0 : Int32) 2 := by unfold vp_in; decide
    refine rk_iald X hP (n := 2) (klM_X11_14 h0) (fun _ _ => rfl) b1 dX11_count_62 ?_
    exact rk_iret X rfl kM_len h hP hS dX11_count_63
  have h := h.2 c2
  by_cases c3 : v1 = (2 : Int32)
  · have h := h.1 c3
    refine lv_tableIn (tgt := 64) hx hb dX11_count_6 (by rw [c3]; decide) (by rw [c3]; decide) (by rw [c3]; rfl) (by decide) ?_
    refine lv_aload_n hx hb dX11_count_64 rfl (lv_at hl 0 rfl) ?_
    refine rk_get X hP (C := RX11) (T := TX11) (N := 44) (ci := 11) wix_11 h0 rfl rfl 15 (by decide) (wi_29 _ (List.mem_of_getElem? (i := 0) rfl)) rfl rfl dX11_count_65 ?_
    refine lv_iconst (v := (0 : Int32)) hx hb dX11_count_68 (by decide) ?_
    have b2 : vp_in (0 : Int32) 2 := by unfold vp_in; decide
    refine rk_iald X hP (n := 2) (klM_X11_15 h0) (fun _ _ => rfl) b2 dX11_count_69 ?_
    exact rk_iret X rfl kM_len h hP hS dX11_count_70
  have h := h.2 c3
  by_cases c4 : v1 = (3 : Int32)
  · have h := h.1 c4
    refine lv_tableIn (tgt := 71) hx hb dX11_count_6 (by rw [c4]; decide) (by rw [c4]; decide) (by rw [c4]; rfl) (by decide) ?_
    refine lv_aload_n hx hb dX11_count_71 rfl (lv_at hl 0 rfl) ?_
    refine rk_get X hP (C := RX11) (T := TX11) (N := 44) (ci := 11) wix_11 h0 rfl rfl 16 (by decide) (wi_29 _ (List.mem_of_getElem? (i := 1) rfl)) rfl rfl dX11_count_72 ?_
    refine lv_iconst (v := (0 : Int32)) hx hb dX11_count_75 (by decide) ?_
    have b3 : vp_in (0 : Int32) 2 := by unfold vp_in; decide
    refine rk_iald X hP (n := 2) (klM_X11_16 h0) (fun _ _ => rfl) b3 dX11_count_76 ?_
    exact rk_iret X rfl kM_len h hP hS dX11_count_77
  have h := h.2 c4
  by_cases c5 : v1 = (4 : Int32)
  · have h := h.1 c5
    refine lv_tableIn (tgt := 78) hx hb dX11_count_6 (by rw [c5]; decide) (by rw [c5]; decide) (by rw [c5]; rfl) (by decide) ?_
    refine lv_aload_n hx hb dX11_count_78 rfl (lv_at hl 0 rfl) ?_
    refine rk_get X hP (C := RX11) (T := TX11) (N := 44) (ci := 11) wix_11 h0 rfl rfl 30 (by decide) (wi_29 _ (List.mem_of_getElem? (i := 13) rfl)) rfl rfl dX11_count_79 ?_
    refine lv_bipush (v := (116 : Int32)) hx hb dX11_count_82 (by decide) ?_
    have b4 : vp_in (116 : Int32) 117 := by unfold vp_in; decide
    refine rk_iald X hP (n := 117) (klM_X11_30 h0) (fun _ _ => rfl) b4 dX11_count_84 ?_
    exact rk_iret X rfl kM_len h hP hS dX11_count_85
  have h := h.2 c5
  by_cases c6 : v1 = (5 : Int32)
  · have h := h.1 c6
    refine lv_tableIn (tgt := 86) hx hb dX11_count_6 (by rw [c6]; decide) (by rw [c6]; decide) (by rw [c6]; rfl) (by decide) ?_
    refine lv_aload_n hx hb dX11_count_86 rfl (lv_at hl 0 rfl) ?_
    refine rk_callv (va_runV (As := []) (rest := []) X.1 (mX11_laysOpen l D cy B v0 s1 h0 h) (cwV 0 hts (gW_V (wi_39 _ (List.mem_of_getElem? (i := 5) rfl)) (wi_39 _ (List.mem_of_getElem? (i := 6) rfl)) (wi_39 _ (List.mem_of_getElem? (i := 7) rfl)) (wi_30 _ (List.mem_of_getElem? (i := 9) rfl)) (wi_38 _ (List.mem_of_getElem? (i := 23) rfl))) rfl rfl rfl hd_X11_laysOpen ⟨Nat.le_of_ble_eq_true rfl, Nat.le_of_ble_eq_true rfl⟩) (rk_preV X hS hP h0 rfl rfl []) rfl rfl hl.1 rfl (lv_room (Nat.le_of_ble_eq_true rfl)) dX11_count_87 ⟨Nat.zero_le _, Nat.zero_le _⟩) hS (fun _ h => h) (fun s3 H locs h hP hS => ?_)
    refine lv_aload_n hx hb dX11_count_90 rfl (lv_at hl 0 rfl) ?_
    refine rk_get X hP (C := RX11) (T := TX11) (N := 44) (ci := 11) wix_11 h0 rfl rfl 39 (by decide) (wi_39 _ (List.mem_of_getElem? (i := 0) rfl)) rfl rfl dX11_count_91 ?_
    exact rk_iret X rfl kM_len h hP hS dX11_count_94
  have h := h.2 c6
  by_cases c7 : v1 = (6 : Int32)
  · have h := h.1 c7
    refine lv_tableIn (tgt := 95) hx hb dX11_count_6 (by rw [c7]; decide) (by rw [c7]; decide) (by rw [c7]; rfl) (by decide) ?_
    refine lv_aload_n hx hb dX11_count_95 rfl (lv_at hl 0 rfl) ?_
    refine rk_get X hP (C := RX11) (T := TX11) (N := 44) (ci := 11) wix_11 h0 rfl rfl 32 (by decide) (wi_34 _ (List.mem_of_getElem? (i := 17) rfl)) rfl rfl dX11_count_96 ?_
    exact rk_iret X rfl kM_len h hP hS dX11_count_99
  have h := h.2 c7
  by_cases c8 : v1 = (7 : Int32)
  · have h := h.1 c8
    refine lv_tableIn (tgt := 100) hx hb dX11_count_6 (by rw [c8]; decide) (by rw [c8]; decide) (by rw [c8]; rfl) (by decide) ?_
    refine lv_aload_n hx hb dX11_count_100 rfl (lv_at hl 0 rfl) ?_
    refine rk_get X hP (C := RX11) (T := TX11) (N := 44) (ci := 11) wix_11 h0 rfl rfl 2 (by decide) (wi_30 _ (List.mem_of_getElem? (i := 4) rfl)) rfl rfl dX11_count_101 ?_
    exact rk_iret X rfl kM_len h hP hS dX11_count_104
  have h := h.2 c8
  refine lv_tableOut (tgt := 105) hx hb dX11_count_6 (sw_out8 c1 c2 c3 c4 c5 c6 c7 c8) (by decide) ?_
  refine lv_iconst (v := (-1 : Int32)) hx hb dX11_count_105 (by decide) ?_
  exact rk_iret X rfl kM_len h hP hS dX11_count_106
