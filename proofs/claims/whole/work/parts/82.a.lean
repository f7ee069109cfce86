theorem hd_X11_thrown : yX11_thrown.cls = RX11 ∧ yX11_thrown.cls ≠ "java/lang/invoke/MethodHandle" ∧ yX11_thrown.cls ≠ "java/lang/invoke/VarHandle" ∧ (parseMethodDescriptor yX11_thrown.desc).map (fun d => d.parameters.length) = some 0 := by decide +kernel
set_option maxRecDepth 100000 in
set_option maxHeartbeats 4000000 in
theorem mX11_thrown (l : Launch) (D : va_G) (cy : Nat → ClassId) (B : Nat) (v0 : Nat) (σ : St) (h0 : kM[v0]? = some 11) {post : Int32 → St → Prop} (h : wX11_thrown v0 σ post) : Met l yX11_thrown (Cond.code yX11_thrown cX11_thrown 1 (some .int) :: WALL) (rmD 0) (PcW D cy B kM σ [.ref (B + v0)]) (va_Qi post (BW D cy B kM) (AW B 26)) 0 0 (AW B 26) := by
  refine Met.ofK (cc := cX11_thrown) (maxL := 1) (ret := (some .int)) (by decide +kernel) rfl kM_len ?_
  intro p e s m below meth c X hP
  obtain ⟨⟨hx, hb, hml, hown, hts⟩, hr, hlk, hK, hN, hZ⟩ := id X
  have hD : ∀ σ, va_D (AW B 26) (wW cy B kM σ) := AW_D kM_len
  have hS : va_S (AW B 26) s.heap s.heap [] := va_S.rf
  have hl := lv_entry ([.ref (B + v0)]) (n := 1) (Nat.le_of_ble_eq_true rfl)
  rw [lg_entry_eq]
  generalize (lg_sl ([.ref (B + v0)]) ++ List.replicate (1 - (lg_sl ([.ref (B + v0)])).length) Slot.unset).toArray = ls at hl ⊢
  have hl : lv_has ls 1 [(0, .ref (B + v0))] := hl
  unfold wX11_thrown at h
  refine lv_aload_n hx hb dX11_thrown_0 rfl (lv_at hl 0 rfl) ?_
  refine rk_get X hP (C := RX11) (T := TX11) (N := 44) (ci := 11) wix_11 h0 rfl rfl 0 (by decide) (wi_30 _ (List.mem_of_getElem? (i := 1) rfl)) rfl rfl dX11_thrown_1 ?_
  exact rk_iret X rfl kM_len h hP hS dX11_thrown_4

theorem hd_X11_within : yX11_within.cls ≠ "java/lang/invoke/MethodHandle" ∧ yX11_within.cls ≠ "java/lang/invoke/VarHandle" ∧ (parseMethodDescriptor yX11_within.desc).map (fun d => d.parameters.length) = some 3 := by decide +kernel
set_option maxRecDepth 100000 in
set_option maxHeartbeats 4000000 in
theorem mX11_within (l : Launch) (D : va_G) (cy : Nat → ClassId) (B : Nat) (v0 : Int64) (v2 : Int64) (v4 : Int64) (σ : St) {post : Bool → St → Prop} (h : wX11_within v0 v2 v4 σ post) : Met l yX11_within (Cond.code yX11_within cX11_within 6 (some .boolean) :: WALL) (rmD 0) (PcW D cy B kM σ [.long v0, .long v2, .long v4]) (Qz post D cy B kM 26) 0 0 (AW B 26) := by
  refine Met.ofK (cc := cX11_within) (maxL := 6) (ret := (some .boolean)) (by decide +kernel) rfl kM_len ?_
  intro p e s m below meth c X hP
  obtain ⟨⟨hx, hb, hml, hown, hts⟩, hr, hlk, hK, hN, hZ⟩ := id X
  have hD : ∀ σ, va_D (AW B 26) (wW cy B kM σ) := AW_D kM_len
  have hS : va_S (AW B 26) s.heap s.heap [] := va_S.rf
  have hl := lv_entry ([.long v0, .long v2, .long v4]) (n := 6) (Nat.le_of_ble_eq_true rfl)
  rw [lg_entry_eq]
  generalize (lg_sl ([.long v0, .long v2, .long v4]) ++ List.replicate (6 - (lg_sl ([.long v0, .long v2, .long v4])).length) Slot.unset).toArray = ls at hl ⊢
  have hl : lv_has ls 6 [(0, .long v0), (2, .long v2), (4, .long v4)] := hl
  unfold wX11_within at h
  refine lv_lload_n hx hb dX11_within_0 rfl (lv_at hl 0 rfl) ?_
  refine lv_lload_n hx hb dX11_within_1 rfl (lv_at hl 1 rfl) ?_
  refine W.lcmp hx hb dX11_within_2 ?_
  refine lv_if_lt (tgt := 17) hx hb dX11_within_3 (by decide) (fun c1 => ?_) (fun c1 => ?_)
  · have h := h.1 c1
    refine lv_iconst (v := (0 : Int32)) hx hb dX11_within_17 (by decide) ?_
    exact rk_zret X kM_len false h hP hS dX11_within_18
  · have h := h.2 c1
    refine lv_lload_n hx hb dX11_within_6 rfl (lv_at hl 0 rfl) ?_
    refine lv_lload hx hb dX11_within_7 (lv_at hl 2 rfl) ?_
    refine W.lcmp hx hb dX11_within_9 ?_
    refine lv_if_gt (tgt := 17) hx hb dX11_within_10 (by decide) (fun c2 => ?_) (fun c2 => ?_)
    · have h := h.1 c2
      refine lv_iconst (v := (0 : Int32)) hx hb dX11_within_17 (by decide) ?_
      exact rk_zret X kM_len false h hP hS dX11_within_18
    · have h := h.2 c2
      refine lv_iconst (v := (1 : Int32)) hx hb dX11_within_13 (by decide) ?_
      refine lv_goto (tgt := 18) hx hb dX11_within_14 (by decide) ?_
      exact rk_zret X kM_len true h hP hS dX11_within_18

theorem hd_X11_puts : yX11_puts.cls = RX11 ∧ yX11_puts.cls ≠ "java/lang/invoke/MethodHandle" ∧ yX11_puts.cls ≠ "java/lang/invoke/VarHandle" ∧ (parseMethodDescriptor yX11_puts.desc).map (fun d => d.parameters.length) = some 1 := by decide +kernel
set_option maxRecDepth 100000 in
set_option maxHeartbeats 4000000 in
theorem tX11_puts_3 {p : Program} {l : Launch} {e : Env} {s : State} {m : MethodId} {av : Array Value} {below : List Frame} {meth : Method} {c : Code} {D : va_G} {cy : Nat → ClassId} {B : Nat} (X : kC p s m av meth c cX11_puts 3 none WALL RX11 D cy (AW B 26)) {post : St → Prop} : ∀ (n : Nat) (v0 : Nat) (v1 : Int32) (v2 : Int32) (σ : St), kM[v0]? = some 11 → wX11_puts_3 post n v0 v1 v2 σ → ∀ (H : Heap) (locs : List Loc) (ls : Array Slot), va_P D vwCl (wW cy B kM σ) H → va_S (AW B 26) s.heap H locs → lv_has ls 3 [(0, .ref (B + v0)), (1, .int v1), (2, .int v2)] → W p l e (rmD 0) s m av below meth c H locs 0 0 (MQ below (va_Qv post (BW D cy B kM) (AW B 26)) av s 0 0 (AW B 26)) (F0 m 3 ls []) := by
  obtain ⟨⟨hx, hb, hml, hown, hts⟩, hr, hlk, hK, hN, hZ⟩ := id X
  have hD : ∀ σ, va_D (AW B 26) (wW cy B kM σ) := AW_D kM_len
  intro n
  induction n with
  | zero => intro v0 v1 v2 σ h0 h; exact absurd h id
  | succ n ih =>
    intro v0 v1 v2 σ h0 h H locs ls hP hS hl
    rw [wX11_puts_3] at h
    refine lv_iload_n hx hb dX11_puts_3 rfl (lv_at hl 2 rfl) ?_
    refine lv_if_lt (tgt := 36) hx hb dX11_puts_4 (by decide) (fun c1 => ?_) (fun c1 => ?_)
    · have h := h.1 c1
      exact rk_vret X kM_len h hP hS dX11_puts_36
    · have h := h.2 c1
      refine lv_aload_n hx hb dX11_puts_7 rfl (lv_at hl 0 rfl) ?_
      refine rk_get X hP (C := RX11) (T := TX11) (N := 44) (ci := 11) wix_11 h0 rfl rfl 1 (by decide) (wi_28 _ (List.mem_of_getElem? (i := 21) rfl)) rfl rfl dX11_puts_8 ?_
      refine lv_aload_n hx hb dX11_puts_11 rfl (lv_at hl 0 rfl) ?_
      refine rk_get X hP (C := RX11) (T := TX11) (N := 44) (ci := 11) wix_11 h0 rfl rfl 2 (by decide) (wi_30 _ (List.mem_of_getElem? (i := 4) rfl)) rfl rfl dX11_puts_12 ?_
      refine lv_iload_n hx hb dX11_puts_15 rfl (lv_at hl 1 rfl) ?_
      refine lv_iload_n hx hb dX11_puts_16 rfl (lv_at hl 2 rfl) ?_
      refine lv_ishr hx hb dX11_puts_17 ?_
      refine lv_i2b hx hb dX11_puts_18 rfl ?_
      obtain ⟨b1, h⟩ := h
      refine rk_bast X hP hD hS (n := 700) (klM_X11_1 h0) (fun _ _ => rfl) b1 dX11_puts_19 (fun H locs hP hS => ?_)
      obtain ⟨s1, es1⟩ : ∃ z : St, z = u1 σ (v0 + 1) (σ.1 v0 2).toNatClampNeg (vp_nar .byte ((v1 >>> (v2 &&& 31)).toInt8.toInt32)) := ⟨_, rfl⟩
      rw [← es1] at hP
      have h := h s1 es1
      refine lv_aload_n hx hb dX11_puts_20 rfl (lv_at hl 0 rfl) ?_
      refine lv_dup hx hb dX11_puts_21 rfl ?_
      refine rk_get X hP (C := RX11) (T := TX11) (N := 44) (ci := 11) wix_11 h0 rfl rfl 2 (by decide) (wi_30 _ (List.mem_of_getElem? (i := 4) rfl)) rfl rfl dX11_puts_22 ?_
      refine lv_iconst (v := (1 : Int32)) hx hb dX11_puts_25 (by decide) ?_
      refine lv_iadd hx hb dX11_puts_26 ?_
      refine rk_puti X hP hD hS (C := RX11) (T := TX11) (N := 44) (ci := 11) wix_11 h0 rfl rfl tyX11 tyX11_ok nmX11 2 (by decide) (wi_30 _ (List.mem_of_getElem? (i := 4) rfl)) rfl rfl (by decide +kernel) (Nat.le_of_ble_eq_true rfl) rfl dX11_puts_27 (fun H locs hP hS => ?_)
      obtain ⟨s2, es2⟩ : ∃ z : St, z = u1 s1 v0 2 ((s1.1 v0 2) + (1 : Int32)) := ⟨_, rfl⟩
      rw [← es2] at hP
      have h := h s2 es2
      obtain ⟨x1, ex1⟩ : ∃ y : Int32, y = v2 + (-8 : Int32) := ⟨_, rfl⟩
      have h := h x1 ex1
      refine lv_iinc (v := x1) (lv' := [(2, .int x1), (0, .ref (B + v0)), (1, .int v1)]) hx hb dX11_puts_30 hl (k := 2) rfl (by rw [ex1]; rfl) (by decide) rfl (fun ls hl => ?_)
      refine lv_goto (tgt := 3) hx hb dX11_puts_33 (by decide) ?_
      exact ih _ _ _ _ h0 h _ _ _ hP hS (lv_sub hl [1, 2, 0] rfl)
set_option maxRecDepth 100000 in
set_option maxHeartbeats 4000000 in
theorem mX11_puts (l : Launch) (D : va_G) (cy : Nat → ClassId) (B : Nat) (v0 : Nat) (v1 : Int32) (σ : St) (h0 : kM[v0]? = some 11) {post : St → Prop} (h : wX11_puts v0 v1 σ post) : Met l yX11_puts (Cond.code yX11_puts cX11_puts 3 none :: WALL) (rmD 0) (PcW D cy B kM σ [.ref (B + v0), .int v1]) (va_Qv post (BW D cy B kM) (AW B 26)) 0 0 (AW B 26) := by
  refine Met.ofK (cc := cX11_puts) (maxL := 3) (ret := none) (by decide +kernel) rfl kM_len ?_
  intro p e s m below meth c X hP
  obtain ⟨⟨hx, hb, hml, hown, hts⟩, hr, hlk, hK, hN, hZ⟩ := id X
  have hD : ∀ σ, va_D (AW B 26) (wW cy B kM σ) := AW_D kM_len
  have hS : va_S (AW B 26) s.heap s.heap [] := va_S.rf
  have hl := lv_entry ([.ref (B + v0), .int v1]) (n := 3) (Nat.le_of_ble_eq_true rfl)
  rw [lg_entry_eq]
  generalize (lg_sl ([.ref (B + v0), .int v1]) ++ List.replicate (3 - (lg_sl ([.ref (B + v0), .int v1])).length) Slot.unset).toArray = ls at hl ⊢
  have hl : lv_has ls 3 [(0, .ref (B + v0)), (1, .int v1)] := hl
  unfold wX11_puts at h
  refine lv_bipush (v := (24 : Int32)) hx hb dX11_puts_0 (by decide) ?_
  refine lv_istore_n (lv' := [(2, .int (24 : Int32)), (0, .ref (B + v0)), (1, .int v1)]) hx hb dX11_puts_2 rfl hl (by decide) rfl (fun ls hl => ?_)
  obtain ⟨j, h⟩ := h
  exact tX11_puts_3 X j _ _ _ _ h0 h _ _ _ hP hS (lv_sub hl [1, 2, 0] rfl)

theorem hd_X11_feed : yX11_feed.cls = RX11 ∧ yX11_feed.cls ≠ "java/lang/invoke/MethodHandle" ∧ yX11_feed.cls ≠ "java/lang/invoke/VarHandle" ∧ (parseMethodDescriptor yX11_feed.desc).map (fun d => d.parameters.length) = some 5 := by decide +kernel
set_option maxRecDepth 100000 in
set_option maxHeartbeats 4000000 in
theorem mX11_feed (l : Launch) (D : va_G) (cy : Nat → ClassId) (B : Nat) (v0 : Nat) (v1 : Int32) (v2 : Int32) (v3 : Int32) (v4 : Int32) (v5 : Int32) (σ : St) (h0 : kM[v0]? = some 11) {post : Int32 → St → Prop} (h : wX11_feed v0 v1 v2 v3 v4 v5 σ post) : Met l yX11_feed (Cond.code yX11_feed cX11_feed 6 (some .int) :: WALL) (rmD 1) (PcW D cy B kM σ [.ref (B + v0), .int v1, .int v2, .int v3, .int v4, .int v5]) (va_Qi post (BW D cy B kM) (AW B 26)) 0 0 (AW B 26) := by
  refine Met.ofK (cc := cX11_feed) (maxL := 6) (ret := (some .int)) (by decide +kernel) rfl kM_len ?_
  intro p e s m below meth c X hP
  obtain ⟨⟨hx, hb, hml, hown, hts⟩, hr, hlk, hK, hN, hZ⟩ := id X
  have hD : ∀ σ, va_D (AW B 26) (wW cy B kM σ) := AW_D kM_len
  have hS : va_S (AW B 26) s.heap s.heap [] := va_S.rf
  have hl := lv_entry ([.ref (B + v0), .int v1, .int v2, .int v3, .int v4, .int v5]) (n := 6) (Nat.le_of_ble_eq_true rfl)
  rw [lg_entry_eq]
  generalize (lg_sl ([.ref (B + v0), .int v1, .int v2, .int v3, .int v4, .int v5]) ++ List.replicate (6 - (lg_sl ([.ref (B + v0), .int v1, .int v2, .int v3, .int v4, .int v5])).length) Slot.unset).toArray = ls at hl ⊢
  have hl : lv_has ls 6 [(0, .ref (B + v0)), (1, .int v1), (2, .int v2), (3, .int v3), (4, .int v4), (5, .int v5)] := hl
  unfold wX11_feed at h
  refine lv_aload_n hx hb dX11_feed_0 rfl (lv_at hl 0 rfl) ?_
  refine lv_iconst (v := (0 : Int32)) hx hb dX11_feed_1 (by decide) ?_
  refine rk_puti X hP hD hS (C := RX11) (T := TX11) (N := 44) (ci := 11) wix_11 h0 rfl rfl tyX11 tyX11_ok nmX11 0 (by decide) (wi_30 _ (List.mem_of_getElem? (i := 1) rfl)) rfl rfl (by decide +kernel) (Nat.le_of_ble_eq_true rfl) rfl dX11_feed_2 (fun H locs hP hS => ?_)
  obtain ⟨s1, es1⟩ : ∃ z : St, z = u1 σ v0 0 (0 : Int32) := ⟨_, rfl⟩
  rw [← es1] at hP
  have h := h s1 es1
  refine lv_aload_n hx hb dX11_feed_5 rfl (lv_at hl 0 rfl) ?_
  refine rk_get X hP (C := RX11) (T := TX11) (N := 44) (ci := 11) wix_11 h0 rfl rfl 2 (by decide) (wi_30 _ (List.mem_of_getElem? (i := 4) rfl)) rfl rfl dX11_feed_6 ?_
  refine lv_bipush (v := (20 : Int32)) hx hb dX11_feed_9 (by decide) ?_
  refine lv_iadd hx hb dX11_feed_11 ?_
  refine lv_sipush (v := (700 : Int32)) hx hb dX11_feed_12 (by decide) ?_
  refine lv_icmp_le (tgt := 20) hx hb dX11_feed_15 (by decide) (fun c1 => ?_) (fun c1 => ?_)
  · have h := h.1 c1
    refine lv_aload_n hx hb dX11_feed_20 rfl (lv_at hl 0 rfl) ?_
    refine lv_iload_n hx hb dX11_feed_21 rfl (lv_at hl 1 rfl) ?_
    refine rk_callv (va_runV (As := [.int v1]) (rest := []) X.1 (mX11_puts l D cy B v0 v1 s1 h0 h) (cwV 1 hts (gW_V (wi_30 _ (List.mem_of_getElem? (i := 6) rfl)) (wi_30 _ (List.mem_of_getElem? (i := 7) rfl)) (wi_30 _ (List.mem_of_getElem? (i := 8) rfl)) (wi_30 _ (List.mem_of_getElem? (i := 9) rfl)) (wi_30 _ (List.mem_of_getElem? (i := 3) rfl))) rfl rfl rfl hd_X11_puts ⟨Nat.le_of_ble_eq_true rfl, Nat.le_of_ble_eq_true rfl⟩) (rk_preV X hS hP h0 rfl rfl [.int v1]) rfl rfl hl.1 rfl (lv_room (Nat.le_of_ble_eq_true rfl)) dX11_feed_22 ⟨Nat.zero_le _, Nat.zero_le _⟩) hS (fun _ h => h) (fun s2 H locs h hP hS => ?_)
    refine lv_aload_n hx hb dX11_feed_25 rfl (lv_at hl 0 rfl) ?_
    refine lv_iload_n hx hb dX11_feed_26 rfl (lv_at hl 2 rfl) ?_
    refine rk_callv (va_runV (As := [.int v2]) (rest := []) X.1 (mX11_puts l D cy B v0 v2 s2 h0 h) (cwV 1 hts (gW_V (wi_30 _ (List.mem_of_getElem? (i := 6) rfl)) (wi_30 _ (List.mem_of_getElem? (i := 7) rfl)) (wi_30 _ (List.mem_of_getElem? (i := 8) rfl)) (wi_30 _ (List.mem_of_getElem? (i := 9) rfl)) (wi_30 _ (List.mem_of_getElem? (i := 3) rfl))) rfl rfl rfl hd_X11_puts ⟨Nat.le_of_ble_eq_true rfl, Nat.le_of_ble_eq_true rfl⟩) (rk_preV X hS hP h0 rfl rfl [.int v2]) rfl rfl hl.1 rfl (lv_room (Nat.le_of_ble_eq_true rfl)) dX11_feed_27 ⟨Nat.zero_le _, Nat.zero_le _⟩) hS (fun _ h => h) (fun s3 H locs h hP hS => ?_)
    refine lv_aload_n hx hb dX11_feed_30 rfl (lv_at hl 0 rfl) ?_
    refine lv_iload_n hx hb dX11_feed_31 rfl (lv_at hl 3 rfl) ?_
    refine rk_callv (va_runV (As := [.int v3]) (rest := []) X.1 (mX11_puts l D cy B v0 v3 s3 h0 h) (cwV 1 hts (gW_V (wi_30 _ (List.mem_of_getElem? (i := 6) rfl)) (wi_30 _ (List.mem_of_getElem? (i := 7) rfl)) (wi_30 _ (List.mem_of_getElem? (i := 8) rfl)) (wi_30 _ (List.mem_of_getElem? (i := 9) rfl)) (wi_30 _ (List.mem_of_getElem? (i := 3) rfl))) rfl rfl rfl hd_X11_puts ⟨Nat.le_of_ble_eq_true rfl, Nat.le_of_ble_eq_true rfl⟩) (rk_preV X hS hP h0 rfl rfl [.int v3]) rfl rfl hl.1 rfl (lv_room (Nat.le_of_ble_eq_true rfl)) dX11_feed_32 ⟨Nat.zero_le _, Nat.zero_le _⟩) hS (fun _ h => h) (fun s4 H locs h hP hS => ?_)
    refine lv_aload_n hx hb dX11_feed_35 rfl (lv_at hl 0 rfl) ?_
    refine lv_iload hx hb dX11_feed_36 (lv_at hl 4 rfl) ?_
    refine rk_callv (va_runV (As := [.int v4]) (rest := []) X.1 (mX11_puts l D cy B v0 v4 s4 h0 h) (cwV 1 hts (gW_V (wi_30 _ (List.mem_of_getElem? (i := 6) rfl)) (wi_30 _ (List.mem_of_getElem? (i := 7) rfl)) (wi_30 _ (List.mem_of_getElem? (i := 8) rfl)) (wi_30 _ (List.mem_of_getElem? (i := 9) rfl)) (wi_30 _ (List.mem_of_getElem? (i := 3) rfl))) rfl rfl rfl hd_X11_puts ⟨Nat.le_of_ble_eq_true rfl, Nat.le_of_ble_eq_true rfl⟩) (rk_preV X hS hP h0 rfl rfl [.int v4]) rfl rfl hl.1 rfl (lv_room (Nat.le_of_ble_eq_true rfl)) dX11_feed_38 ⟨Nat.zero_le _, Nat.zero_le _⟩) hS (fun _ h => h) (fun s5 H locs h hP hS => ?_)
    refine lv_aload_n hx hb dX11_feed_41 rfl (lv_at hl 0 rfl) ?_
    refine lv_iload hx hb dX11_feed_42 (lv_at hl 5 rfl) ?_
    refine rk_callv (va_runV (As := [.int v5]) (rest := []) X.1 (mX11_puts l D cy B v0 v5 s5 h0 h) (cwV 1 hts (gW_V (wi_30 _ (List.mem_of_getElem? (i := 6) rfl)) (wi_30 _ (List.mem_of_getElem? (i := 7) rfl)) (wi_30 _ (List.mem_of_getElem? (i := 8) rfl)) (wi_30 _ (List.mem_of_getElem? (i := 9) rfl)) (wi_30 _ (List.mem_of_getElem? (i := 3) rfl))) rfl rfl rfl hd_X11_puts ⟨Nat.le_of_ble_eq_true rfl, Nat.le_of_ble_eq_true rfl⟩) (rk_preV X hS hP h0 rfl rfl [.int v5]) rfl rfl hl.1 rfl (lv_room (Nat.le_of_ble_eq_true rfl)) dX11_feed_44 ⟨Nat.zero_le _, Nat.zero_le _⟩) hS (fun _ h => h) (fun s6 H locs h hP hS => ?_)
    refine lv_aload_n hx hb dX11_feed_47 rfl (lv_at hl 0 rfl) ?_
    refine rk_get X hP (C := RX11) (T := TX11) (N := 44) (ci := 11) wix_11 h0 rfl rfl 2 (by decide) (wi_30 _ (List.mem_of_getElem? (i := 4) rfl)) rfl rfl dX11_feed_48 ?_
    exact rk_iret X rfl kM_len h hP hS dX11_feed_51
  · have h := h.2 c1
    refine lv_iconst (v := (-1 : Int32)) hx hb dX11_feed_18 (by decide) ?_
    exact rk_iret X rfl kM_len h hP hS dX11_feed_19

theorem hd_X11_see : yX11_see.cls = RX11 ∧ yX11_see.cls ≠ "java/lang/invoke/MethodHandle" ∧ yX11_see.cls ≠ "java/lang/invoke/VarHandle" ∧ (parseMethodDescriptor yX11_see.desc).map (fun d => d.parameters.length) = some 1 := by decide +kernel
set_option maxRecDepth 100000 in
set_option maxHeartbeats 4000000 in
theorem mX11_see (l : Launch) (D : va_G) (cy : Nat → ClassId) (B : Nat) (v0 : Nat) (v1 : Int32) (σ : St) (h0 : kM[v0]? = some 11) {post : Int32 → St → Prop} (h : wX11_see v0 v1 σ post) : Met l yX11_see (Cond.code yX11_see cX11_see 2 (some .int) :: WALL) (rmD 0) (PcW D cy B kM σ [.ref (B + v0), .int v1]) (va_Qi post (BW D cy B kM) (AW B 26)) 0 0 (AW B 26) := by
  refine Met.ofK (cc := cX11_see) (maxL := 2) (ret := (some .int)) (by decide +kernel) rfl kM_len ?_
  intro p e s m below meth c X hP
  obtain ⟨⟨hx, hb, hml, hown, hts⟩, hr, hlk, hK, hN, hZ⟩ := id X
  have hD : ∀ σ, va_D (AW B 26) (wW cy B kM σ) := AW_D kM_len
  have hS : va_S (AW B 26) s.heap s.heap [] := va_S.rf
  have hl := lv_entry ([.ref (B + v0), .int v1]) (n := 2) (Nat.le_of_ble_eq_true rfl)
  rw [lg_entry_eq]
  generalize (lg_sl ([.ref (B + v0), .int v1]) ++ List.replicate (2 - (lg_sl ([.ref (B + v0), .int v1])).length) Slot.unset).toArray = ls at hl ⊢
  have hl : lv_has ls 2 [(0, .ref (B + v0)), (1, .int v1)] := hl
  unfold wX11_see at h
  refine lv_iload_n hx hb dX11_see_0 rfl (lv_at hl 1 rfl) ?_
  refine lv_aload_n hx hb dX11_see_1 rfl (lv_at hl 0 rfl) ?_
  refine rk_get X hP (C := RX11) (T := TX11) (N := 44) (ci := 11) wix_11 h0 rfl rfl 3 (by decide) (wi_30 _ (List.mem_of_getElem? (i := 11) rfl)) rfl rfl dX11_see_2 ?_
  refine lv_icmp_ge (tgt := 21) hx hb dX11_see_5 (by decide) (fun c1 => ?_) (fun c1 => ?_)
  · have h := h.1 c1
    refine lv_iconst (v := (-1 : Int32)) hx hb dX11_see_21 (by decide) ?_
    exact rk_iret X rfl kM_len h hP hS dX11_see_22
  · have h := h.2 c1
    refine lv_aload_n hx hb dX11_see_8 rfl (lv_at hl 0 rfl) ?_
    refine rk_get X hP (C := RX11) (T := TX11) (N := 44) (ci := 11) wix_11 h0 rfl rfl 1 (by decide) (wi_28 _ (List.mem_of_getElem? (i := 21) rfl)) rfl rfl dX11_see_9 ?_
    refine lv_iload_n hx hb dX11_see_12 rfl (lv_at hl 1 rfl) ?_
    obtain ⟨b1, h⟩ := h
    refine rk_bald X hP (n := 700) (klM_X11_1 h0) (fun _ _ => rfl) b1 dX11_see_13 ?_
    refine lv_sipush (v := (255 : Int32)) hx hb dX11_see_14 (by decide) ?_
    refine lv_iand hx hb dX11_see_17 ?_
    refine lv_goto (tgt := 22) hx hb dX11_see_18 (by decide) ?_
    exact rk_iret X rfl kM_len h hP hS dX11_see_22

theorem hd_X11_steps : yX11_steps.cls = RX11 ∧ yX11_steps.cls ≠ "java/lang/invoke/MethodHandle" ∧ yX11_steps.cls ≠ "java/lang/invoke/VarHandle" ∧ (parseMethodDescriptor yX11_steps.desc).map (fun d => d.parameters.length) = some 0 := by decide +kernel
set_option maxRecDepth 100000 in
set_option maxHeartbeats 4000000 in
theorem tX11_steps_361 {p : Program} {l : Launch} {e : Env} {s : State} {m : MethodId} {av : Array Value} {below : List Frame} {meth : Method} {c : Code} {D : va_G} {cy : Nat → ClassId} {B : Nat} (X : kC p s m av meth c cX11_steps 2 none WALL RX11 D cy (AW B 26)) {post : St → Prop} : ∀ (t0 : Nat) (t1 : Int32) (σ : St), kM[t0]? = some 11 → wX11_steps_361 post t0 t1 σ → ∀ (H : Heap) (locs : List Loc) (ls : Array Slot), va_P D vwCl (wW cy B kM σ) H → va_S (AW B 26) s.heap H locs → lv_has ls 2 [] → W p l e (rmD 1) s m av below meth c H locs 0 0 (MQ below (va_Qv post (BW D cy B kM) (AW B 26)) av s 0 0 (AW B 26)) (F0 m 361 ls [.int t1, .ref (B + t0)]) := by
  obtain ⟨⟨hx, hb, hml, hown, hts⟩, hr, hlk, hK, hN, hZ⟩ := id X
  have hD : ∀ σ, va_D (AW B 26) (wW cy B kM σ) := AW_D kM_len
  intro t0 t1 σ g0 h H locs ls hP hS hl
  unfold wX11_steps_361 at h
  refine rk_puti X hP hD hS (C := RX11) (T := TX11) (N := 44) (ci := 11) wix_11 g0 rfl rfl tyX11 tyX11_ok nmX11 6 (by decide) (wi_30 _ (List.mem_of_getElem? (i := 15) rfl)) rfl rfl (by decide +kernel) (Nat.le_of_ble_eq_true rfl) rfl dX11_steps_361 (fun H locs hP hS => ?_)
  obtain ⟨s1, es1⟩ : ∃ z : St, z = u1 σ t0 6 t1 := ⟨_, rfl⟩
  rw [← es1] at hP
  have h := h s1 es1
  exact rk_vret X kM_len h hP hS dX11_steps_364
set_option maxRecDepth 100000 in
set_option maxHeartbeats 4000000 in
theorem tX11_steps_326 {p : Program} {l : Launch} {e : Env} {s : State} {m : MethodId} {av : Array Value} {below : List Frame} {meth : Method} {c : Code} {D : va_G} {cy : Nat → ClassId} {B : Nat} (X : kC p s m av meth c cX11_steps 2 none WALL RX11 D cy (AW B 26)) {post : St → Prop} {R265 : Nat → St → Prop} (hR265 : ∀ (v0 : Nat) (σ : St), kM[v0]? = some 11 → R265 v0 σ → ∀ (H : Heap) (locs : List Loc) (ls : Array Slot), va_P D vwCl (wW cy B kM σ) H → va_S (AW B 26) s.heap H locs → lv_has ls 2 [(0, .ref (B + v0))] → W p l e (rmD 1) s m av below meth c H locs 0 0 (MQ below (va_Qv post (BW D cy B kM) (AW B 26)) av s 0 0 (AW B 26)) (F0 m 265 ls [])) : ∀ (v0 : Nat) (t0 : Nat) (t1 : Int32) (σ : St), kM[v0]? = some 11 → kM[t0]? = some 11 → wX11_steps_326 post R265 v0 t0 t1 σ → ∀ (H : Heap) (locs : List Loc) (ls : Array Slot), va_P D vwCl (wW cy B kM σ) H → va_S (AW B 26) s.heap H locs → lv_has ls 2 [(0, .ref (B + v0))] → W p l e (rmD 1) s m av below meth c H locs 0 0 (MQ below (va_Qv post (BW D cy B kM) (AW B 26)) av s 0 0 (AW B 26)) (F0 m 326 ls [.int t1, .ref (B + t0)]) := by
  obtain ⟨⟨hx, hb, hml, hown, hts⟩, hr, hlk, hK, hN, hZ⟩ := id X
  have hD : ∀ σ, va_D (AW B 26) (wW cy B kM σ) := AW_D kM_len
  intro v0 t0 t1 σ h0 g0 h H locs ls hP hS hl
  unfold wX11_steps_326 at h
  refine rk_puti X hP hD hS (C := RX11) (T := TX11) (N := 44) (ci := 11) wix_11 g0 rfl rfl tyX11 tyX11_ok nmX11 7 (by decide) (wi_30 _ (List.mem_of_getElem? (i := 16) rfl)) rfl rfl (by decide +kernel) (Nat.le_of_ble_eq_true rfl) rfl dX11_steps_326 (fun H locs hP hS => ?_)
  obtain ⟨s1, es1⟩ : ∃ z : St, z = u1 σ t0 7 t1 := ⟨_, rfl⟩
  rw [← es1] at hP
  have h := h s1 es1
  refine lv_aload_n hx hb dX11_steps_329 rfl (lv_at hl 0 rfl) ?_
  refine lv_dup hx hb dX11_steps_330 rfl ?_
  refine rk_get X hP (C := RX11) (T := TX11) (N := 44) (ci := 11) wix_11 h0 rfl rfl 5 (by decide) (wi_30 _ (List.mem_of_getElem? (i := 13) rfl)) rfl rfl dX11_steps_331 ?_
  refine lv_iconst (v := (1 : Int32)) hx hb dX11_steps_334 (by decide) ?_
  refine lv_iadd hx hb dX11_steps_335 ?_
  refine rk_puti X hP hD hS (C := RX11) (T := TX11) (N := 44) (ci := 11) wix_11 h0 rfl rfl tyX11 tyX11_ok nmX11 5 (by decide) (wi_30 _ (List.mem_of_getElem? (i := 13) rfl)) rfl rfl (by decide +kernel) (Nat.le_of_ble_eq_true rfl) rfl dX11_steps_336 (fun H locs hP hS => ?_)
  obtain ⟨s2, es2⟩ : ∃ z : St, z = u1 s1 v0 5 ((s1.1 v0 5) + (1 : Int32)) := ⟨_, rfl⟩
  rw [← es2] at hP
  have h := h s2 es2
  refine lv_goto (tgt := 265) hx hb dX11_steps_339 (by decide) ?_
  exact hR265 _ _ h0 h _ _ _ hP hS (lv_sub hl [0] rfl)
set_option maxRecDepth 100000 in
set_option maxHeartbeats 4000000 in
theorem tX11_steps_265 {p : Program} {l : Launch} {e : Env} {s : State} {m : MethodId} {av : Array Value} {below : List Frame} {meth : Method} {c : Code} {D : va_G} {cy : Nat → ClassId} {B : Nat} (X : kC p s m av meth c cX11_steps 2 none WALL RX11 D cy (AW B 26)) {post : St → Prop} : ∀ (n : Nat) (v0 : Nat) (σ : St), kM[v0]? = some 11 → wX11_steps_265 post n v0 σ → ∀ (H : Heap) (locs : List Loc) (ls : Array Slot), va_P D vwCl (wW cy B kM σ) H → va_S (AW B 26) s.heap H locs → lv_has ls 2 [(0, .ref (B + v0))] → W p l e (rmD 1) s m av below meth c H locs 0 0 (MQ below (va_Qv post (BW D cy B kM) (AW B 26)) av s 0 0 (AW B 26)) (F0 m 265 ls []) := by
  obtain ⟨⟨hx, hb, hml, hown, hts⟩, hr, hlk, hK, hN, hZ⟩ := id X
  have hD : ∀ σ, va_D (AW B 26) (wW cy B kM σ) := AW_D kM_len
  intro n
  induction n with
  | zero => intro v0 σ h0 h; exact absurd h id
  | succ n ih =>
    intro v0 σ h0 h H locs ls hP hS hl
    rw [wX11_steps_265] at h
    refine lv_aload_n hx hb dX11_steps_265 rfl (lv_at hl 0 rfl) ?_
    refine lv_aload_n hx hb dX11_steps_266 rfl (lv_at hl 0 rfl) ?_
    refine rk_get X hP (C := RX11) (T := TX11) (N := 44) (ci := 11) wix_11 h0 rfl rfl 5 (by decide) (wi_30 _ (List.mem_of_getElem? (i := 13) rfl)) rfl rfl dX11_steps_267 ?_
    refine rk_calli (va_runV (As := [.int (σ.1 v0 5)]) (rest := []) X.1 (mX11_see l D cy B v0 (σ.1 v0 5) σ h0 h) (cwV 1 hts (gW_V (wi_30 _ (List.mem_of_getElem? (i := 23) rfl)) (wi_31 _ (List.mem_of_getElem? (i := 0) rfl)) (wi_31 _ (List.mem_of_getElem? (i := 1) rfl)) (wi_30 _ (List.mem_of_getElem? (i := 9) rfl)) (wi_30 _ (List.mem_of_getElem? (i := 10) rfl))) rfl rfl rfl hd_X11_see ⟨Nat.le_of_ble_eq_true rfl, Nat.le_of_ble_eq_true rfl⟩) (rk_preV X hS hP h0 rfl rfl [.int (σ.1 v0 5)]) rfl rfl hl.1 rfl (lv_room (Nat.le_of_ble_eq_true rfl)) dX11_steps_270 ⟨Nat.zero_le _, Nat.zero_le _⟩) hS (fun _ h => h) (fun r1 s1 H locs h hP hS => ?_)
    refine lv_i2l hx hb dX11_steps_273 rfl ?_
    refine lv_ldc2 (v := (48 : Int64)) hx hb hown (hts (.constantLong RX11 132 (48 : Int64)) (wi_30 _ (List.mem_of_getElem? (i := 21) rfl))) dX11_steps_274 ?_
    refine lv_ldc2 (v := (57 : Int64)) hx hb hown (hts (.constantLong RX11 134 (57 : Int64)) (wi_30 _ (List.mem_of_getElem? (i := 22) rfl))) dX11_steps_277 ?_
    refine rk_callz (va_runS (As := [.long (r1.toInt64), .long (48 : Int64), .long (57 : Int64)]) (rest := []) X.1 (mX11_within l D cy B (r1.toInt64) (48 : Int64) (57 : Int64) s1 h) (va_cwS 3 hts (gW_S (wi_31 _ (List.mem_of_getElem? (i := 2) rfl)) (wi_31 _ (List.mem_of_getElem? (i := 3) rfl)) (wi_30 _ (List.mem_of_getElem? (i := 9) rfl)) (wi_30 _ (List.mem_of_getElem? (i := 2) rfl))) rfl rfl rfl hd_X11_within ⟨Nat.le_of_ble_eq_true rfl, Nat.le_of_ble_eq_true rfl⟩) (rk_preS X hS hP [.long (r1.toInt64), .long (48 : Int64), .long (57 : Int64)]) rfl rfl hl.1 rfl (lv_room (Nat.le_of_ble_eq_true rfl)) dX11_steps_280 ⟨Nat.zero_le _, Nat.zero_le _⟩) hS (fun _ h => h) (fun r2 s2 H locs h hP hS => ?_)
    refine lv_if_eq (tgt := 342) hx hb dX11_steps_283 (by decide) (fun c1 => ?_) (fun c1 => ?_)
    · have h := h.1 (b2i_f c1)
      refine lv_aload_n hx hb dX11_steps_342 rfl (lv_at hl 0 rfl) ?_
      refine lv_aload_n hx hb dX11_steps_343 rfl (lv_at hl 0 rfl) ?_
      refine rk_get X hP (C := RX11) (T := TX11) (N := 44) (ci := 11) wix_11 h0 rfl rfl 5 (by decide) (wi_30 _ (List.mem_of_getElem? (i := 13) rfl)) rfl rfl dX11_steps_344 ?_
      refine lv_aload_n hx hb dX11_steps_347 rfl (lv_at hl 0 rfl) ?_
      refine rk_get X hP (C := RX11) (T := TX11) (N := 44) (ci := 11) wix_11 h0 rfl rfl 4 (by decide) (wi_30 _ (List.mem_of_getElem? (i := 14) rfl)) rfl rfl dX11_steps_348 ?_
      refine lv_isub hx hb dX11_steps_351 ?_
      refine lv_iconst (v := (3 : Int32)) hx hb dX11_steps_352 (by decide) ?_
      refine lv_icmp_ge (tgt := 360) hx hb dX11_steps_353 (by decide) (fun c2 => ?_) (fun c2 => ?_)
      · have h := h.1 c2
        refine lv_iconst (v := (4 : Int32)) hx hb dX11_steps_360 (by decide) ?_
        exact tX11_steps_361 X _ _ _ h0 h _ _ _ hP hS (lv_sub hl [] rfl)
      · have h := h.2 c2
        refine lv_iconst (v := (2 : Int32)) hx hb dX11_steps_356 (by decide) ?_
        refine lv_goto (tgt := 361) hx hb dX11_steps_357 (by decide) ?_
        exact tX11_steps_361 X _ _ _ h0 h _ _ _ hP hS (lv_sub hl [] rfl)
    · have h := h.2 (b2i_t c1)
      refine lv_aload_n hx hb dX11_steps_286 rfl (lv_at hl 0 rfl) ?_
      refine lv_aload_n hx hb dX11_steps_287 rfl (lv_at hl 0 rfl) ?_
      refine rk_get X hP (C := RX11) (T := TX11) (N := 44) (ci := 11) wix_11 h0 rfl rfl 5 (by decide) (wi_30 _ (List.mem_of_getElem? (i := 13) rfl)) rfl rfl dX11_steps_288 ?_
      refine lv_aload_n hx hb dX11_steps_291 rfl (lv_at hl 0 rfl) ?_
      refine rk_get X hP (C := RX11) (T := TX11) (N := 44) (ci := 11) wix_11 h0 rfl rfl 4 (by decide) (wi_30 _ (List.mem_of_getElem? (i := 14) rfl)) rfl rfl dX11_steps_292 ?_
      refine lv_isub hx hb dX11_steps_295 ?_
      refine lv_iconst (v := (2 : Int32)) hx hb dX11_steps_296 (by decide) ?_
      refine lv_icmp_ge (tgt := 322) hx hb dX11_steps_297 (by decide) (fun c3 => ?_) (fun c3 => ?_)
      · have h := h.1 c3
        refine lv_aload_n hx hb dX11_steps_322 rfl (lv_at hl 0 rfl) ?_
        refine rk_get X hP (C := RX11) (T := TX11) (N := 44) (ci := 11) wix_11 h0 rfl rfl 7 (by decide) (wi_30 _ (List.mem_of_getElem? (i := 16) rfl)) rfl rfl dX11_steps_323 ?_
        exact tX11_steps_326 X ih _ _ _ _ h0 h0 h _ _ _ hP hS (lv_sub hl [0] rfl)
      · have h := h.2 c3
        refine lv_bipush (v := (10 : Int32)) hx hb dX11_steps_300 (by decide) ?_
        refine lv_aload_n hx hb dX11_steps_302 rfl (lv_at hl 0 rfl) ?_
        refine rk_get X hP (C := RX11) (T := TX11) (N := 44) (ci := 11) wix_11 h0 rfl rfl 7 (by decide) (wi_30 _ (List.mem_of_getElem? (i := 16) rfl)) rfl rfl dX11_steps_303 ?_
        refine lv_imul hx hb dX11_steps_306 ?_
        refine lv_aload_n hx hb dX11_steps_307 rfl (lv_at hl 0 rfl) ?_
        refine lv_aload_n hx hb dX11_steps_308 rfl (lv_at hl 0 rfl) ?_
        refine rk_get X hP (C := RX11) (T := TX11) (N := 44) (ci := 11) wix_11 h0 rfl rfl 5 (by decide) (wi_30 _ (List.mem_of_getElem? (i := 13) rfl)) rfl rfl dX11_steps_309 ?_
        refine rk_calli (va_runV (As := [.int (s2.1 v0 5)]) (rest := [.int ((10 : Int32) * (s2.1 v0 7)), .ref (B + v0)]) X.1 (mX11_see l D cy B v0 (s2.1 v0 5) s2 h0 h) (cwV 1 hts (gW_V (wi_30 _ (List.mem_of_getElem? (i := 23) rfl)) (wi_31 _ (List.mem_of_getElem? (i := 0) rfl)) (wi_31 _ (List.mem_of_getElem? (i := 1) rfl)) (wi_30 _ (List.mem_of_getElem? (i := 9) rfl)) (wi_30 _ (List.mem_of_getElem? (i := 10) rfl))) rfl rfl rfl hd_X11_see ⟨Nat.le_of_ble_eq_true rfl, Nat.le_of_ble_eq_true rfl⟩) (rk_preV X hS hP h0 rfl rfl [.int (s2.1 v0 5)]) rfl rfl hl.1 rfl (lv_room (Nat.le_of_ble_eq_true rfl)) dX11_steps_312 ⟨Nat.zero_le _, Nat.zero_le _⟩) hS (fun _ h => h) (fun r3 s3 H locs h hP hS => ?_)
        refine lv_iadd hx hb dX11_steps_315 ?_
        refine lv_bipush (v := (48 : Int32)) hx hb dX11_steps_316 (by decide) ?_
        refine lv_isub hx hb dX11_steps_318 ?_
        refine lv_goto (tgt := 326) hx hb dX11_steps_319 (by decide) ?_
        exact tX11_steps_326 X ih _ _ _ _ h0 h0 h _ _ _ hP hS (lv_sub hl [0] rfl)
set_option maxRecDepth 100000 in
set_option maxHeartbeats 4000000 in
theorem tX11_steps_237 {p : Program} {l : Launch} {e : Env} {s : State} {m : MethodId} {av : Array Value} {below : List Frame} {meth : Method} {c : Code} {D : va_G} {cy : Nat → ClassId} {B : Nat} (X : kC p s m av meth c cX11_steps 2 none WALL RX11 D cy (AW B 26)) {post : St → Prop} : ∀ (t0 : Nat) (t1 : Int32) (σ : St), kM[t0]? = some 11 → wX11_steps_237 post t0 t1 σ → ∀ (H : Heap) (locs : List Loc) (ls : Array Slot), va_P D vwCl (wW cy B kM σ) H → va_S (AW B 26) s.heap H locs → lv_has ls 2 [] → W p l e (rmD 1) s m av below meth c H locs 0 0 (MQ below (va_Qv post (BW D cy B kM) (AW B 26)) av s 0 0 (AW B 26)) (F0 m 237 ls [.int t1, .ref (B + t0)]) := by
  obtain ⟨⟨hx, hb, hml, hown, hts⟩, hr, hlk, hK, hN, hZ⟩ := id X
  have hD : ∀ σ, va_D (AW B 26) (wW cy B kM σ) := AW_D kM_len
  intro t0 t1 σ g0 h H locs ls hP hS hl
  unfold wX11_steps_237 at h
  refine rk_puti X hP hD hS (C := RX11) (T := TX11) (N := 44) (ci := 11) wix_11 g0 rfl rfl tyX11 tyX11_ok nmX11 6 (by decide) (wi_30 _ (List.mem_of_getElem? (i := 15) rfl)) rfl rfl (by decide +kernel) (Nat.le_of_ble_eq_true rfl) rfl dX11_steps_237 (fun H locs hP hS => ?_)
  obtain ⟨s1, es1⟩ : ∃ z : St, z = u1 σ t0 6 t1 := ⟨_, rfl⟩
  rw [← es1] at hP
  have h := h s1 es1
  refine lv_goto (tgt := 364) hx hb dX11_steps_240 (by decide) ?_
  exact rk_vret X kM_len h hP hS dX11_steps_364
set_option maxRecDepth 100000 in
set_option maxHeartbeats 4000000 in
theorem tX11_steps_201 {p : Program} {l : Launch} {e : Env} {s : State} {m : MethodId} {av : Array Value} {below : List Frame} {meth : Method} {c : Code} {D : va_G} {cy : Nat → ClassId} {B : Nat} (X : kC p s m av meth c cX11_steps 2 none WALL RX11 D cy (AW B 26)) {post : St → Prop} {R138 : Nat → St → Prop} (hR138 : ∀ (v0 : Nat) (σ : St), kM[v0]? = some 11 → R138 v0 σ → ∀ (H : Heap) (locs : List Loc) (ls : Array Slot), va_P D vwCl (wW cy B kM σ) H → va_S (AW B 26) s.heap H locs → lv_has ls 2 [(0, .ref (B + v0))] → W p l e (rmD 1) s m av below meth c H locs 0 0 (MQ below (va_Qv post (BW D cy B kM) (AW B 26)) av s 0 0 (AW B 26)) (F0 m 138 ls [])) : ∀ (v0 : Nat) (t0 : Nat) (t1 : Int64) (σ : St), kM[v0]? = some 11 → kM[t0]? = some 11 → wX11_steps_201 post R138 v0 t0 t1 σ → ∀ (H : Heap) (locs : List Loc) (ls : Array Slot), va_P D vwCl (wW cy B kM σ) H → va_S (AW B 26) s.heap H locs → lv_has ls 2 [(0, .ref (B + v0))] → W p l e (rmD 1) s m av below meth c H locs 0 0 (MQ below (va_Qv post (BW D cy B kM) (AW B 26)) av s 0 0 (AW B 26)) (F0 m 201 ls [.long t1, .ref (B + t0)]) := by
  obtain ⟨⟨hx, hb, hml, hown, hts⟩, hr, hlk, hK, hN, hZ⟩ := id X
  have hD : ∀ σ, va_D (AW B 26) (wW cy B kM σ) := AW_D kM_len
  intro v0 t0 t1 σ h0 g0 h H locs ls hP hS hl
  unfold wX11_steps_201 at h
  refine rk_putl X hP hD hS (C := RX11) (T := TX11) (N := 44) (ci := 11) wix_11 g0 rfl rfl tyX11 tyX11_ok nmX11 8 (by decide) (wi_30 _ (List.mem_of_getElem? (i := 17) rfl)) rfl rfl (by decide +kernel) (Nat.le_of_ble_eq_true rfl) rfl dX11_steps_201 (fun H locs hP hS => ?_)
  obtain ⟨s1, es1⟩ : ∃ z : St, z = u2 σ t0 8 t1 := ⟨_, rfl⟩
  rw [← es1] at hP
  have h := h s1 es1
  refine lv_aload_n hx hb dX11_steps_204 rfl (lv_at hl 0 rfl) ?_
  refine lv_dup hx hb dX11_steps_205 rfl ?_
  refine rk_get X hP (C := RX11) (T := TX11) (N := 44) (ci := 11) wix_11 h0 rfl rfl 5 (by decide) (wi_30 _ (List.mem_of_getElem? (i := 13) rfl)) rfl rfl dX11_steps_206 ?_
  refine lv_iconst (v := (1 : Int32)) hx hb dX11_steps_209 (by decide) ?_
  refine lv_iadd hx hb dX11_steps_210 ?_
  refine rk_puti X hP hD hS (C := RX11) (T := TX11) (N := 44) (ci := 11) wix_11 h0 rfl rfl tyX11 tyX11_ok nmX11 5 (by decide) (wi_30 _ (List.mem_of_getElem? (i := 13) rfl)) rfl rfl (by decide +kernel) (Nat.le_of_ble_eq_true rfl) rfl dX11_steps_211 (fun H locs hP hS => ?_)
  obtain ⟨s2, es2⟩ : ∃ z : St, z = u1 s1 v0 5 ((s1.1 v0 5) + (1 : Int32)) := ⟨_, rfl⟩
  rw [← es2] at hP
  have h := h s2 es2
  refine lv_goto (tgt := 138) hx hb dX11_steps_214 (by decide) ?_
  exact hR138 _ _ h0 h _ _ _ hP hS (lv_sub hl [0] rfl)
set_option maxRecDepth 100000 in
set_option maxHeartbeats 4000000 in
theorem tX11_steps_138 {p : Program} {l : Launch} {e : Env} {s : State} {m : MethodId} {av : Array Value} {below : List Frame} {meth : Method} {c : Code} {D : va_G} {cy : Nat → ClassId} {B : Nat} (X : kC p s m av meth c cX11_steps 2 none WALL RX11 D cy (AW B 26)) {post : St → Prop} : ∀ (n : Nat) (v0 : Nat) (σ : St), kM[v0]? = some 11 → wX11_steps_138 post n v0 σ → ∀ (H : Heap) (locs : List Loc) (ls : Array Slot), va_P D vwCl (wW cy B kM σ) H → va_S (AW B 26) s.heap H locs → lv_has ls 2 [(0, .ref (B + v0))] → W p l e (rmD 1) s m av below meth c H locs 0 0 (MQ below (va_Qv post (BW D cy B kM) (AW B 26)) av s 0 0 (AW B 26)) (F0 m 138 ls []) := by
  obtain ⟨⟨hx, hb, hml, hown, hts⟩, hr, hlk, hK, hN, hZ⟩ := id X
  have hD : ∀ σ, va_D (AW B 26) (wW cy B kM σ) := AW_D kM_len
  intro n
  induction n with
  | zero => intro v0 σ h0 h; exact absurd h id
  | succ n ih =>
    intro v0 σ h0 h H locs ls hP hS hl
    rw [wX11_steps_138] at h
    refine lv_aload_n hx hb dX11_steps_138 rfl (lv_at hl 0 rfl) ?_
    refine lv_aload_n hx hb dX11_steps_139 rfl (lv_at hl 0 rfl) ?_
    refine rk_get X hP (C := RX11) (T := TX11) (N := 44) (ci := 11) wix_11 h0 rfl rfl 5 (by decide) (wi_30 _ (List.mem_of_getElem? (i := 13) rfl)) rfl rfl dX11_steps_140 ?_
    refine rk_calli (va_runV (As := [.int (σ.1 v0 5)]) (rest := []) X.1 (mX11_see l D cy B v0 (σ.1 v0 5) σ h0 h) (cwV 1 hts (gW_V (wi_30 _ (List.mem_of_getElem? (i := 23) rfl)) (wi_31 _ (List.mem_of_getElem? (i := 0) rfl)) (wi_31 _ (List.mem_of_getElem? (i := 1) rfl)) (wi_30 _ (List.mem_of_getElem? (i := 9) rfl)) (wi_30 _ (List.mem_of_getElem? (i := 10) rfl))) rfl rfl rfl hd_X11_see ⟨Nat.le_of_ble_eq_true rfl, Nat.le_of_ble_eq_true rfl⟩) (rk_preV X hS hP h0 rfl rfl [.int (σ.1 v0 5)]) rfl rfl hl.1 rfl (lv_room (Nat.le_of_ble_eq_true rfl)) dX11_steps_143 ⟨Nat.zero_le _, Nat.zero_le _⟩) hS (fun _ h => h) (fun r1 s1 H locs h hP hS => ?_)
    refine lv_i2l hx hb dX11_steps_146 rfl ?_
    refine lv_ldc2 (v := (97 : Int64)) hx hb hown (hts (.constantLong RX11 122 (97 : Int64)) (wi_30 _ (List.mem_of_getElem? (i := 18) rfl))) dX11_steps_147 ?_
    refine lv_ldc2 (v := (122 : Int64)) hx hb hown (hts (.constantLong RX11 124 (122 : Int64)) (wi_30 _ (List.mem_of_getElem? (i := 19) rfl))) dX11_steps_150 ?_
    refine rk_callz (va_runS (As := [.long (r1.toInt64), .long (97 : Int64), .long (122 : Int64)]) (rest := []) X.1 (mX11_within l D cy B (r1.toInt64) (97 : Int64) (122 : Int64) s1 h) (va_cwS 3 hts (gW_S (wi_31 _ (List.mem_of_getElem? (i := 2) rfl)) (wi_31 _ (List.mem_of_getElem? (i := 3) rfl)) (wi_30 _ (List.mem_of_getElem? (i := 9) rfl)) (wi_30 _ (List.mem_of_getElem? (i := 2) rfl))) rfl rfl rfl hd_X11_within ⟨Nat.le_of_ble_eq_true rfl, Nat.le_of_ble_eq_true rfl⟩) (rk_preS X hS hP [.long (r1.toInt64), .long (97 : Int64), .long (122 : Int64)]) rfl rfl hl.1 rfl (lv_room (Nat.le_of_ble_eq_true rfl)) dX11_steps_153 ⟨Nat.zero_le _, Nat.zero_le _⟩) hS (fun _ h => h) (fun r2 s2 H locs h hP hS => ?_)
    refine lv_if_eq (tgt := 217) hx hb dX11_steps_156 (by decide) (fun c1 => ?_) (fun c1 => ?_)
    · have h := h.1 (b2i_f c1)
      refine lv_aload_n hx hb dX11_steps_217 rfl (lv_at hl 0 rfl) ?_
      refine lv_aload_n hx hb dX11_steps_218 rfl (lv_at hl 0 rfl) ?_
      refine rk_get X hP (C := RX11) (T := TX11) (N := 44) (ci := 11) wix_11 h0 rfl rfl 5 (by decide) (wi_30 _ (List.mem_of_getElem? (i := 13) rfl)) rfl rfl dX11_steps_219 ?_
      refine lv_aload_n hx hb dX11_steps_222 rfl (lv_at hl 0 rfl) ?_
      refine rk_get X hP (C := RX11) (T := TX11) (N := 44) (ci := 11) wix_11 h0 rfl rfl 4 (by decide) (wi_30 _ (List.mem_of_getElem? (i := 14) rfl)) rfl rfl dX11_steps_223 ?_
      refine lv_isub hx hb dX11_steps_226 ?_
      refine lv_bipush (v := (7 : Int32)) hx hb dX11_steps_227 (by decide) ?_
      refine lv_icmp_ge (tgt := 236) hx hb dX11_steps_229 (by decide) (fun c2 => ?_) (fun c2 => ?_)
      · have h := h.1 c2
        refine lv_iconst (v := (4 : Int32)) hx hb dX11_steps_236 (by decide) ?_
        exact tX11_steps_237 X _ _ _ h0 h _ _ _ hP hS (lv_sub hl [] rfl)
      · have h := h.2 c2
        refine lv_iconst (v := (1 : Int32)) hx hb dX11_steps_232 (by decide) ?_
        refine lv_goto (tgt := 237) hx hb dX11_steps_233 (by decide) ?_
        exact tX11_steps_237 X _ _ _ h0 h _ _ _ hP hS (lv_sub hl [] rfl)
    · have h := h.2 (b2i_t c1)
      refine lv_aload_n hx hb dX11_steps_159 rfl (lv_at hl 0 rfl) ?_
      refine lv_aload_n hx hb dX11_steps_160 rfl (lv_at hl 0 rfl) ?_
      refine rk_get X hP (C := RX11) (T := TX11) (N := 44) (ci := 11) wix_11 h0 rfl rfl 5 (by decide) (wi_30 _ (List.mem_of_getElem? (i := 13) rfl)) rfl rfl dX11_steps_161 ?_
      refine lv_aload_n hx hb dX11_steps_164 rfl (lv_at hl 0 rfl) ?_
      refine rk_get X hP (C := RX11) (T := TX11) (N := 44) (ci := 11) wix_11 h0 rfl rfl 4 (by decide) (wi_30 _ (List.mem_of_getElem? (i := 14) rfl)) rfl rfl dX11_steps_165 ?_
      refine lv_isub hx hb dX11_steps_168 ?_
      refine lv_bipush (v := (6 : Int32)) hx hb dX11_steps_169 (by decide) ?_
      refine lv_icmp_ge (tgt := 197) hx hb dX11_steps_171 (by decide) (fun c3 => ?_) (fun c3 => ?_)
      · have h := h.1 c3
        refine lv_aload_n hx hb dX11_steps_197 rfl (lv_at hl 0 rfl) ?_
        refine rk_get X hP (C := RX11) (T := TX11) (N := 44) (ci := 11) wix_11 h0 rfl rfl 8 (by decide) (wi_30 _ (List.mem_of_getElem? (i := 17) rfl)) rfl rfl dX11_steps_198 ?_
        exact tX11_steps_201 X ih _ _ _ _ h0 h0 h _ _ _ hP hS (lv_sub hl [0] rfl)
      · have h := h.2 c3
        refine lv_aload_n hx hb dX11_steps_174 rfl (lv_at hl 0 rfl) ?_
        refine rk_get X hP (C := RX11) (T := TX11) (N := 44) (ci := 11) wix_11 h0 rfl rfl 8 (by decide) (wi_30 _ (List.mem_of_getElem? (i := 17) rfl)) rfl rfl dX11_steps_175 ?_
        refine lv_iconst (v := (5 : Int32)) hx hb dX11_steps_178 (by decide) ?_
        refine lv_lshl hx hb dX11_steps_179 rfl ?_
        refine lv_aload_n hx hb dX11_steps_180 rfl (lv_at hl 0 rfl) ?_
        refine lv_aload_n hx hb dX11_steps_181 rfl (lv_at hl 0 rfl) ?_
        refine rk_get X hP (C := RX11) (T := TX11) (N := 44) (ci := 11) wix_11 h0 rfl rfl 5 (by decide) (wi_30 _ (List.mem_of_getElem? (i := 13) rfl)) rfl rfl dX11_steps_182 ?_
        refine rk_calli (va_runV (As := [.int (s2.1 v0 5)]) (rest := [.long ((s2.2 v0 8) <<< ((5 : Int32).toInt64 &&& 63)), .ref (B + v0)]) X.1 (mX11_see l D cy B v0 (s2.1 v0 5) s2 h0 h) (cwV 1 hts (gW_V (wi_30 _ (List.mem_of_getElem? (i := 23) rfl)) (wi_31 _ (List.mem_of_getElem? (i := 0) rfl)) (wi_31 _ (List.mem_of_getElem? (i := 1) rfl)) (wi_30 _ (List.mem_of_getElem? (i := 9) rfl)) (wi_30 _ (List.mem_of_getElem? (i := 10) rfl))) rfl rfl rfl hd_X11_see ⟨Nat.le_of_ble_eq_true rfl, Nat.le_of_ble_eq_true rfl⟩) (rk_preV X hS hP h0 rfl rfl [.int (s2.1 v0 5)]) rfl rfl hl.1 rfl (lv_room (Nat.le_of_ble_eq_true rfl)) dX11_steps_185 ⟨Nat.zero_le _, Nat.zero_le _⟩) hS (fun _ h => h) (fun r3 s3 H locs h hP hS => ?_)
        refine lv_i2l hx hb dX11_steps_188 rfl ?_
        refine lv_ldc2 (v := (96 : Int64)) hx hb hown (hts (.constantLong RX11 130 (96 : Int64)) (wi_30 _ (List.mem_of_getElem? (i := 20) rfl))) dX11_steps_189 ?_
        refine lv_lsub hx hb dX11_steps_192 ?_
        refine lv_lor hx hb dX11_steps_193 ?_
        refine lv_goto (tgt := 201) hx hb dX11_steps_194 (by decide) ?_
        exact tX11_steps_201 X ih _ _ _ _ h0 h0 h _ _ _ hP hS (lv_sub hl [0] rfl)
set_option maxRecDepth 100000 in
set_option maxHeartbeats 4000000 in
theorem tX11_steps_34 {p : Program} {l : Launch} {e : Env} {s : State} {m : MethodId} {av : Array Value} {below : List Frame} {meth : Method} {c : Code} {D : va_G} {cy : Nat → ClassId} {B : Nat} (X : kC p s m av meth c cX11_steps 2 none WALL RX11 D cy (AW B 26)) {post : St → Prop} {R8 : Nat → St → Prop} (hR8 : ∀ (v0 : Nat) (σ : St), kM[v0]? = some 11 → R8 v0 σ → ∀ (H : Heap) (locs : List Loc) (ls : Array Slot), va_P D vwCl (wW cy B kM σ) H → va_S (AW B 26) s.heap H locs → lv_has ls 2 [(0, .ref (B + v0))] → W p l e (rmD 1) s m av below meth c H locs 0 0 (MQ below (va_Qv post (BW D cy B kM) (AW B 26)) av s 0 0 (AW B 26)) (F0 m 8 ls [])) : ∀ (v0 : Nat) (σ : St), kM[v0]? = some 11 → wX11_steps_34 post R8 v0 σ → ∀ (H : Heap) (locs : List Loc) (ls : Array Slot), va_P D vwCl (wW cy B kM σ) H → va_S (AW B 26) s.heap H locs → lv_has ls 2 [(0, .ref (B + v0))] → W p l e (rmD 1) s m av below meth c H locs 0 0 (MQ below (va_Qv post (BW D cy B kM) (AW B 26)) av s 0 0 (AW B 26)) (F0 m 34 ls []) := by
  obtain ⟨⟨hx, hb, hml, hown, hts⟩, hr, hlk, hK, hN, hZ⟩ := id X
  have hD : ∀ σ, va_D (AW B 26) (wW cy B kM σ) := AW_D kM_len
  intro v0 σ h0 h H locs ls hP hS hl
  unfold wX11_steps_34 at h
  refine lv_aload_n hx hb dX11_steps_34 rfl (lv_at hl 0 rfl) ?_
  refine lv_dup hx hb dX11_steps_35 rfl ?_
  refine rk_get X hP (C := RX11) (T := TX11) (N := 44) (ci := 11) wix_11 h0 rfl rfl 4 (by decide) (wi_30 _ (List.mem_of_getElem? (i := 14) rfl)) rfl rfl dX11_steps_36 ?_
  refine lv_iconst (v := (1 : Int32)) hx hb dX11_steps_39 (by decide) ?_
  refine lv_iadd hx hb dX11_steps_40 ?_
  refine rk_puti X hP hD hS (C := RX11) (T := TX11) (N := 44) (ci := 11) wix_11 h0 rfl rfl tyX11 tyX11_ok nmX11 4 (by decide) (wi_30 _ (List.mem_of_getElem? (i := 14) rfl)) rfl rfl (by decide +kernel) (Nat.le_of_ble_eq_true rfl) rfl dX11_steps_41 (fun H locs hP hS => ?_)
  obtain ⟨s1, es1⟩ : ∃ z : St, z = u1 σ v0 4 ((σ.1 v0 4) + (1 : Int32)) := ⟨_, rfl⟩
  rw [← es1] at hP
  have h := h s1 es1
  refine lv_goto (tgt := 8) hx hb dX11_steps_44 (by decide) ?_
  exact hR8 _ _ h0 h _ _ _ hP hS (lv_sub hl [0] rfl)
set_option maxRecDepth 100000 in
set_option maxHeartbeats 4000000 in
theorem tX11_steps_8 {p : Program} {l : Launch} {e : Env} {s : State} {m : MethodId} {av : Array Value} {below : List Frame} {meth : Method} {c : Code} {D : va_G} {cy : Nat → ClassId} {B : Nat} (X : kC p s m av meth c cX11_steps 2 none WALL RX11 D cy (AW B 26)) {post : St → Prop} : ∀ (n : Nat) (v0 : Nat) (σ : St), kM[v0]? = some 11 → wX11_steps_8 post n v0 σ → ∀ (H : Heap) (locs : List Loc) (ls : Array Slot), va_P D vwCl (wW cy B kM σ) H → va_S (AW B 26) s.heap H locs → lv_has ls 2 [(0, .ref (B + v0))] → W p l e (rmD 1) s m av below meth c H locs 0 0 (MQ below (va_Qv post (BW D cy B kM) (AW B 26)) av s 0 0 (AW B 26)) (F0 m 8 ls []) := by
  obtain ⟨⟨hx, hb, hml, hown, hts⟩, hr, hlk, hK, hN, hZ⟩ := id X
  have hD : ∀ σ, va_D (AW B 26) (wW cy B kM σ) := AW_D kM_len
  intro n
  induction n with
  | zero => intro v0 σ h0 h; exact absurd h id
  | succ n ih =>
    intro v0 σ h0 h H locs ls hP hS hl
    rw [wX11_steps_8] at h
    refine lv_aload_n hx hb dX11_steps_8 rfl (lv_at hl 0 rfl) ?_
    refine lv_aload_n hx hb dX11_steps_9 rfl (lv_at hl 0 rfl) ?_
    refine rk_get X hP (C := RX11) (T := TX11) (N := 44) (ci := 11) wix_11 h0 rfl rfl 4 (by decide) (wi_30 _ (List.mem_of_getElem? (i := 14) rfl)) rfl rfl dX11_steps_10 ?_
    refine rk_calli (va_runV (As := [.int (σ.1 v0 4)]) (rest := []) X.1 (mX11_see l D cy B v0 (σ.1 v0 4) σ h0 h) (cwV 1 hts (gW_V (wi_30 _ (List.mem_of_getElem? (i := 23) rfl)) (wi_31 _ (List.mem_of_getElem? (i := 0) rfl)) (wi_31 _ (List.mem_of_getElem? (i := 1) rfl)) (wi_30 _ (List.mem_of_getElem? (i := 9) rfl)) (wi_30 _ (List.mem_of_getElem? (i := 10) rfl))) rfl rfl rfl hd_X11_see ⟨Nat.le_of_ble_eq_true rfl, Nat.le_of_ble_eq_true rfl⟩) (rk_preV X hS hP h0 rfl rfl [.int (σ.1 v0 4)]) rfl rfl hl.1 rfl (lv_room (Nat.le_of_ble_eq_true rfl)) dX11_steps_13 ⟨Nat.zero_le _, Nat.zero_le _⟩) hS (fun _ h => h) (fun r1 s1 H locs h hP hS => ?_)
    refine lv_bipush (v := (32 : Int32)) hx hb dX11_steps_16 (by decide) ?_
    refine lv_icmp_eq (tgt := 34) hx hb dX11_steps_18 (by decide) (fun c1 => ?_) (fun c1 => ?_)
    · have h := h.1 c1
      exact tX11_steps_34 X ih _ _ h0 h _ _ _ hP hS (lv_sub hl [0] rfl)
    · have h := h.2 c1
      refine lv_aload_n hx hb dX11_steps_21 rfl (lv_at hl 0 rfl) ?_
      refine lv_aload_n hx hb dX11_steps_22 rfl (lv_at hl 0 rfl) ?_
      refine rk_get X hP (C := RX11) (T := TX11) (N := 44) (ci := 11) wix_11 h0 rfl rfl 4 (by decide) (wi_30 _ (List.mem_of_getElem? (i := 14) rfl)) rfl rfl dX11_steps_23 ?_
      refine rk_calli (va_runV (As := [.int (s1.1 v0 4)]) (rest := []) X.1 (mX11_see l D cy B v0 (s1.1 v0 4) s1 h0 h) (cwV 1 hts (gW_V (wi_30 _ (List.mem_of_getElem? (i := 23) rfl)) (wi_31 _ (List.mem_of_getElem? (i := 0) rfl)) (wi_31 _ (List.mem_of_getElem? (i := 1) rfl)) (wi_30 _ (List.mem_of_getElem? (i := 9) rfl)) (wi_30 _ (List.mem_of_getElem? (i := 10) rfl))) rfl rfl rfl hd_X11_see ⟨Nat.le_of_ble_eq_true rfl, Nat.le_of_ble_eq_true rfl⟩) (rk_preV X hS hP h0 rfl rfl [.int (s1.1 v0 4)]) rfl rfl hl.1 rfl (lv_room (Nat.le_of_ble_eq_true rfl)) dX11_steps_26 ⟨Nat.zero_le _, Nat.zero_le _⟩) hS (fun _ h => h) (fun r2 s2 H locs h hP hS => ?_)
      refine lv_bipush (v := (10 : Int32)) hx hb dX11_steps_29 (by decide) ?_
      refine lv_icmp_ne (tgt := 47) hx hb dX11_steps_31 (by decide) (fun c2 => ?_) (fun c2 => ?_)
      · have h := h.1 c2
        refine lv_aload_n hx hb dX11_steps_47 rfl (lv_at hl 0 rfl) ?_
        refine lv_aload_n hx hb dX11_steps_48 rfl (lv_at hl 0 rfl) ?_
        refine rk_get X hP (C := RX11) (T := TX11) (N := 44) (ci := 11) wix_11 h0 rfl rfl 4 (by decide) (wi_30 _ (List.mem_of_getElem? (i := 14) rfl)) rfl rfl dX11_steps_49 ?_
        refine rk_calli (va_runV (As := [.int (s2.1 v0 4)]) (rest := []) X.1 (mX11_see l D cy B v0 (s2.1 v0 4) s2 h0 h) (cwV 1 hts (gW_V (wi_30 _ (List.mem_of_getElem? (i := 23) rfl)) (wi_31 _ (List.mem_of_getElem? (i := 0) rfl)) (wi_31 _ (List.mem_of_getElem? (i := 1) rfl)) (wi_30 _ (List.mem_of_getElem? (i := 9) rfl)) (wi_30 _ (List.mem_of_getElem? (i := 10) rfl))) rfl rfl rfl hd_X11_see ⟨Nat.le_of_ble_eq_true rfl, Nat.le_of_ble_eq_true rfl⟩) (rk_preV X hS hP h0 rfl rfl [.int (s2.1 v0 4)]) rfl rfl hl.1 rfl (lv_room (Nat.le_of_ble_eq_true rfl)) dX11_steps_52 ⟨Nat.zero_le _, Nat.zero_le _⟩) hS (fun _ h => h) (fun r3 s3 H locs h hP hS => ?_)
        refine lv_istore_n (lv' := [(1, .int r3), (0, .ref (B + v0))]) hx hb dX11_steps_55 rfl hl (by decide) rfl (fun ls hl => ?_)
        refine lv_aload_n hx hb dX11_steps_56 rfl (lv_at hl 1 rfl) ?_
        refine lv_aload_n hx hb dX11_steps_57 rfl (lv_at hl 1 rfl) ?_
        refine rk_get X hP (C := RX11) (T := TX11) (N := 44) (ci := 11) wix_11 h0 rfl rfl 4 (by decide) (wi_30 _ (List.mem_of_getElem? (i := 14) rfl)) rfl rfl dX11_steps_58 ?_
        refine lv_iconst (v := (1 : Int32)) hx hb dX11_steps_61 (by decide) ?_
        refine lv_iadd hx hb dX11_steps_62 ?_
        refine rk_puti X hP hD hS (C := RX11) (T := TX11) (N := 44) (ci := 11) wix_11 h0 rfl rfl tyX11 tyX11_ok nmX11 5 (by decide) (wi_30 _ (List.mem_of_getElem? (i := 13) rfl)) rfl rfl (by decide +kernel) (Nat.le_of_ble_eq_true rfl) rfl dX11_steps_63 (fun H locs hP hS => ?_)
        obtain ⟨s4, es4⟩ : ∃ z : St, z = u1 s3 v0 5 ((s3.1 v0 4) + (1 : Int32)) := ⟨_, rfl⟩
        rw [← es4] at hP
        have h := h s4 es4
        refine lv_aload_n hx hb dX11_steps_66 rfl (lv_at hl 1 rfl) ?_
        refine lv_iconst (v := (4 : Int32)) hx hb dX11_steps_67 (by decide) ?_
        refine rk_puti X hP hD hS (C := RX11) (T := TX11) (N := 44) (ci := 11) wix_11 h0 rfl rfl tyX11 tyX11_ok nmX11 6 (by decide) (wi_30 _ (List.mem_of_getElem? (i := 15) rfl)) rfl rfl (by decide +kernel) (Nat.le_of_ble_eq_true rfl) rfl dX11_steps_68 (fun H locs hP hS => ?_)
        obtain ⟨s5, es5⟩ : ∃ z : St, z = u1 s4 v0 6 (4 : Int32) := ⟨_, rfl⟩
        rw [← es5] at hP
        have h := h s5 es5
        refine lv_aload_n hx hb dX11_steps_71 rfl (lv_at hl 1 rfl) ?_
        refine lv_iconst (v := (0 : Int32)) hx hb dX11_steps_72 (by decide) ?_
        refine rk_puti X hP hD hS (C := RX11) (T := TX11) (N := 44) (ci := 11) wix_11 h0 rfl rfl tyX11 tyX11_ok nmX11 7 (by decide) (wi_30 _ (List.mem_of_getElem? (i := 16) rfl)) rfl rfl (by decide +kernel) (Nat.le_of_ble_eq_true rfl) rfl dX11_steps_73 (fun H locs hP hS => ?_)
        obtain ⟨s6, es6⟩ : ∃ z : St, z = u1 s5 v0 7 (0 : Int32) := ⟨_, rfl⟩
        rw [← es6] at hP
        have h := h s6 es6
        refine lv_aload_n hx hb dX11_steps_76 rfl (lv_at hl 1 rfl) ?_
        refine lv_lconst (v := (0 : Int64)) hx hb dX11_steps_77 (by decide) ?_
        refine rk_putl X hP hD hS (C := RX11) (T := TX11) (N := 44) (ci := 11) wix_11 h0 rfl rfl tyX11 tyX11_ok nmX11 8 (by decide) (wi_30 _ (List.mem_of_getElem? (i := 17) rfl)) rfl rfl (by decide +kernel) (Nat.le_of_ble_eq_true rfl) rfl dX11_steps_78 (fun H locs hP hS => ?_)
        obtain ⟨s7, es7⟩ : ∃ z : St, z = u2 s6 v0 8 (0 : Int64) := ⟨_, rfl⟩
        rw [← es7] at hP
        have h := h s7 es7
        refine lv_iload_n hx hb dX11_steps_81 rfl (lv_at hl 0 rfl) ?_
        refine lv_iconst (v := (-1 : Int32)) hx hb dX11_steps_82 (by decide) ?_
        refine lv_icmp_ne (tgt := 102) hx hb dX11_steps_83 (by decide) (fun c3 => ?_) (fun c3 => ?_)
        · have h := h.1 c3
          refine lv_iload_n hx hb dX11_steps_102 rfl (lv_at hl 0 rfl) ?_
          refine lv_bipush (v := (59 : Int32)) hx hb dX11_steps_103 (by decide) ?_
          refine lv_icmp_ne (tgt := 116) hx hb dX11_steps_105 (by decide) (fun c4 => ?_) (fun c4 => ?_)
          · have h := h.1 c4
            refine lv_iload_n hx hb dX11_steps_116 rfl (lv_at hl 0 rfl) ?_
            refine lv_i2l hx hb dX11_steps_117 rfl ?_
            refine lv_ldc2 (v := (97 : Int64)) hx hb hown (hts (.constantLong RX11 122 (97 : Int64)) (wi_30 _ (List.mem_of_getElem? (i := 18) rfl))) dX11_steps_118 ?_
            refine lv_ldc2 (v := (122 : Int64)) hx hb hown (hts (.constantLong RX11 124 (122 : Int64)) (wi_30 _ (List.mem_of_getElem? (i := 19) rfl))) dX11_steps_121 ?_
            refine rk_callz (va_runS (As := [.long (r3.toInt64), .long (97 : Int64), .long (122 : Int64)]) (rest := []) X.1 (mX11_within l D cy B (r3.toInt64) (97 : Int64) (122 : Int64) s7 h) (va_cwS 3 hts (gW_S (wi_31 _ (List.mem_of_getElem? (i := 2) rfl)) (wi_31 _ (List.mem_of_getElem? (i := 3) rfl)) (wi_30 _ (List.mem_of_getElem? (i := 9) rfl)) (wi_30 _ (List.mem_of_getElem? (i := 2) rfl))) rfl rfl rfl hd_X11_within ⟨Nat.le_of_ble_eq_true rfl, Nat.le_of_ble_eq_true rfl⟩) (rk_preS X hS hP [.long (r3.toInt64), .long (97 : Int64), .long (122 : Int64)]) rfl rfl hl.1 rfl (lv_room (Nat.le_of_ble_eq_true rfl)) dX11_steps_124 ⟨Nat.zero_le _, Nat.zero_le _⟩) hS (fun _ h => h) (fun r4 s8 H locs h hP hS => ?_)
            refine lv_if_eq (tgt := 243) hx hb dX11_steps_127 (by decide) (fun c5 => ?_) (fun c5 => ?_)
            · have h := h.1 (b2i_f c5)
              refine lv_iload_n hx hb dX11_steps_243 rfl (lv_at hl 0 rfl) ?_
              refine lv_i2l hx hb dX11_steps_244 rfl ?_
              refine lv_ldc2 (v := (48 : Int64)) hx hb hown (hts (.constantLong RX11 132 (48 : Int64)) (wi_30 _ (List.mem_of_getElem? (i := 21) rfl))) dX11_steps_245 ?_
              refine lv_ldc2 (v := (57 : Int64)) hx hb hown (hts (.constantLong RX11 134 (57 : Int64)) (wi_30 _ (List.mem_of_getElem? (i := 22) rfl))) dX11_steps_248 ?_
              refine rk_callz (va_runS (As := [.long (r3.toInt64), .long (48 : Int64), .long (57 : Int64)]) (rest := []) X.1 (mX11_within l D cy B (r3.toInt64) (48 : Int64) (57 : Int64) s8 h) (va_cwS 3 hts (gW_S (wi_31 _ (List.mem_of_getElem? (i := 2) rfl)) (wi_31 _ (List.mem_of_getElem? (i := 3) rfl)) (wi_30 _ (List.mem_of_getElem? (i := 9) rfl)) (wi_30 _ (List.mem_of_getElem? (i := 2) rfl))) rfl rfl rfl hd_X11_within ⟨Nat.le_of_ble_eq_true rfl, Nat.le_of_ble_eq_true rfl⟩) (rk_preS X hS hP [.long (r3.toInt64), .long (48 : Int64), .long (57 : Int64)]) rfl rfl hl.1 rfl (lv_room (Nat.le_of_ble_eq_true rfl)) dX11_steps_251 ⟨Nat.zero_le _, Nat.zero_le _⟩) hS (fun _ h => h) (fun r5 s9 H locs h hP hS => ?_)
              refine lv_if_eq (tgt := 364) hx hb dX11_steps_254 (by decide) (fun c6 => ?_) (fun c6 => ?_)
              · have h := h.1 (b2i_f c6)
                exact rk_vret X kM_len h hP hS dX11_steps_364
              · have h := h.2 (b2i_t c6)
                refine lv_aload_n hx hb dX11_steps_257 rfl (lv_at hl 1 rfl) ?_
                refine lv_aload_n hx hb dX11_steps_258 rfl (lv_at hl 1 rfl) ?_
                refine rk_get X hP (C := RX11) (T := TX11) (N := 44) (ci := 11) wix_11 h0 rfl rfl 4 (by decide) (wi_30 _ (List.mem_of_getElem? (i := 14) rfl)) rfl rfl dX11_steps_259 ?_
                refine rk_puti X hP hD hS (C := RX11) (T := TX11) (N := 44) (ci := 11) wix_11 h0 rfl rfl tyX11 tyX11_ok nmX11 5 (by decide) (wi_30 _ (List.mem_of_getElem? (i := 13) rfl)) rfl rfl (by decide +kernel) (Nat.le_of_ble_eq_true rfl) rfl dX11_steps_262 (fun H locs hP hS => ?_)
                obtain ⟨s10, es10⟩ : ∃ z : St, z = u1 s9 v0 5 (s9.1 v0 4) := ⟨_, rfl⟩
                rw [← es10] at hP
                have h := h s10 es10
                obtain ⟨j, h⟩ := h
                exact tX11_steps_265 X j _ _ h0 h _ _ _ hP hS (lv_sub hl [1] rfl)
            · have h := h.2 (b2i_t c5)
              refine lv_aload_n hx hb dX11_steps_130 rfl (lv_at hl 1 rfl) ?_
              refine lv_aload_n hx hb dX11_steps_131 rfl (lv_at hl 1 rfl) ?_
              refine rk_get X hP (C := RX11) (T := TX11) (N := 44) (ci := 11) wix_11 h0 rfl rfl 4 (by decide) (wi_30 _ (List.mem_of_getElem? (i := 14) rfl)) rfl rfl dX11_steps_132 ?_
              refine rk_puti X hP hD hS (C := RX11) (T := TX11) (N := 44) (ci := 11) wix_11 h0 rfl rfl tyX11 tyX11_ok nmX11 5 (by decide) (wi_30 _ (List.mem_of_getElem? (i := 13) rfl)) rfl rfl (by decide +kernel) (Nat.le_of_ble_eq_true rfl) rfl dX11_steps_135 (fun H locs hP hS => ?_)
              obtain ⟨s11, es11⟩ : ∃ z : St, z = u1 s8 v0 5 (s8.1 v0 4) := ⟨_, rfl⟩
              rw [← es11] at hP
              have h := h s11 es11
              obtain ⟨j, h⟩ := h
              exact tX11_steps_138 X j _ _ h0 h _ _ _ hP hS (lv_sub hl [1] rfl)
          · have h := h.2 c4
            refine lv_aload_n hx hb dX11_steps_108 rfl (lv_at hl 1 rfl) ?_
            refine lv_iconst (v := (3 : Int32)) hx hb dX11_steps_109 (by decide) ?_
            refine rk_puti X hP hD hS (C := RX11) (T := TX11) (N := 44) (ci := 11) wix_11 h0 rfl rfl tyX11 tyX11_ok nmX11 6 (by decide) (wi_30 _ (List.mem_of_getElem? (i := 15) rfl)) rfl rfl (by decide +kernel) (Nat.le_of_ble_eq_true rfl) rfl dX11_steps_110 (fun H locs hP hS => ?_)
            obtain ⟨s12, es12⟩ : ∃ z : St, z = u1 s7 v0 6 (3 : Int32) := ⟨_, rfl⟩
            rw [← es12] at hP
            have h := h s12 es12
            refine lv_goto (tgt := 364) hx hb dX11_steps_113 (by decide) ?_
            exact rk_vret X kM_len h hP hS dX11_steps_364
        · have h := h.2 c3
          refine lv_aload_n hx hb dX11_steps_86 rfl (lv_at hl 1 rfl) ?_
          refine lv_aload_n hx hb dX11_steps_87 rfl (lv_at hl 1 rfl) ?_
          refine rk_get X hP (C := RX11) (T := TX11) (N := 44) (ci := 11) wix_11 h0 rfl rfl 4 (by decide) (wi_30 _ (List.mem_of_getElem? (i := 14) rfl)) rfl rfl dX11_steps_88 ?_
          refine rk_puti X hP hD hS (C := RX11) (T := TX11) (N := 44) (ci := 11) wix_11 h0 rfl rfl tyX11 tyX11_ok nmX11 5 (by decide) (wi_30 _ (List.mem_of_getElem? (i := 13) rfl)) rfl rfl (by decide +kernel) (Nat.le_of_ble_eq_true rfl) rfl dX11_steps_91 (fun H locs hP hS => ?_)
          obtain ⟨s13, es13⟩ : ∃ z : St, z = u1 s7 v0 5 (s7.1 v0 4) := ⟨_, rfl⟩
          rw [← es13] at hP
          have h := h s13 es13
          refine lv_aload_n hx hb dX11_steps_94 rfl (lv_at hl 1 rfl) ?_
          refine lv_iconst (v := (0 : Int32)) hx hb dX11_steps_95 (by decide) ?_
          refine rk_puti X hP hD hS (C := RX11) (T := TX11) (N := 44) (ci := 11) wix_11 h0 rfl rfl tyX11 tyX11_ok nmX11 6 (by decide) (wi_30 _ (List.mem_of_getElem? (i := 15) rfl)) rfl rfl (by decide +kernel) (Nat.le_of_ble_eq_true rfl) rfl dX11_steps_96 (fun H locs hP hS => ?_)
          obtain ⟨s14, es14⟩ : ∃ z : St, z = u1 s13 v0 6 (0 : Int32) := ⟨_, rfl⟩
          rw [← es14] at hP
          have h := h s14 es14
          refine lv_goto (tgt := 364) hx hb dX11_steps_99 (by decide) ?_
          exact rk_vret X kM_len h hP hS dX11_steps_364
      · have h := h.2 c2
        exact tX11_steps_34 X ih _ _ h0 h _ _ _ hP hS (lv_sub hl [0] rfl)
set_option maxRecDepth 100000 in
set_option maxHeartbeats 4000000 in
theorem mX11_steps (l : Launch) (D : va_G) (cy : Nat → ClassId) (B : Nat) (v0 : Nat) (σ : St) (h0 : kM[v0]? = some 11) {post : St → Prop} (h : wX11_steps v0 σ post) : Met l yX11_steps (Cond.code yX11_steps cX11_steps 2 none :: WALL) (rmD 1) (PcW D cy B kM σ [.ref (B + v0)]) (va_Qv post (BW D cy B kM) (AW B 26)) 0 0 (AW B 26) := by
  refine Met.ofK (cc := cX11_steps) (maxL := 2) (ret := none) (by decide +kernel) rfl kM_len ?_
  intro p e s m below meth c X hP
  obtain ⟨⟨hx, hb, hml, hown, hts⟩, hr, hlk, hK, hN, hZ⟩ := id X
  have hD : ∀ σ, va_D (AW B 26) (wW cy B kM σ) := AW_D kM_len
  have hS : va_S (AW B 26) s.heap s.heap [] := va_S.rf
  have hl := lv_entry ([.ref (B + v0)]) (n := 2) (Nat.le_of_ble_eq_true rfl)
  rw [lg_entry_eq]
  generalize (lg_sl ([.ref (B + v0)]) ++ List.replicate (2 - (lg_sl ([.ref (B + v0)])).length) Slot.unset).toArray = ls at hl ⊢
  have hl : lv_has ls 2 [(0, .ref (B + v0))] := hl
  unfold wX11_steps at h
  refine lv_aload_n hx hb dX11_steps_0 rfl (lv_at hl 0 rfl) ?_
  refine lv_aload_n hx hb dX11_steps_1 rfl (lv_at hl 0 rfl) ?_
  refine rk_get X hP (C := RX11) (T := TX11) (N := 44) (ci := 11) wix_11 h0 rfl rfl 5 (by decide) (wi_30 _ (List.mem_of_getElem? (i := 13) rfl)) rfl rfl dX11_steps_2 ?_
  refine rk_puti X hP hD hS (C := RX11) (T := TX11) (N := 44) (ci := 11) wix_11 h0 rfl rfl tyX11 tyX11_ok nmX11 4 (by decide) (wi_30 _ (List.mem_of_getElem? (i := 14) rfl)) rfl rfl (by decide +kernel) (Nat.le_of_ble_eq_true rfl) rfl dX11_steps_5 (fun H locs hP hS => ?_)
  obtain ⟨s1, es1⟩ : ∃ z : St, z = u1 σ v0 4 (σ.1 v0 5) := ⟨_, rfl⟩
  rw [← es1] at hP
  have h := h s1 es1
  obtain ⟨j, h⟩ := h
  exact tX11_steps_8 X j _ _ h0 h _ _ _ hP hS (lv_sub hl [0] rfl)

theorem hd_X11_must : yX11_must.cls = RX11 ∧ yX11_must.cls ≠ "java/lang/invoke/MethodHandle" ∧ yX11_must.cls ≠ "java/lang/invoke/VarHandle" ∧ (parseMethodDescriptor yX11_must.desc).map (fun d => d.parameters.length) = some 2 := by decide +kernel
set_option maxRecDepth 100000 in
set_option maxHeartbeats 4000000 in
theorem tX11_must_24 {p : Program} {l : Launch} {e : Env} {s : State} {m : MethodId} {av : Array Value} {below : List Frame} {meth : Method} {c : Code} {D : va_G} {cy : Nat → ClassId} {B : Nat} (X : kC p s m av meth c cX11_must 3 (some .boolean) WALL RX11 D cy (AW B 26)) {post : Bool → St → Prop} : ∀ (v0 : Nat) (σ : St), kM[v0]? = some 11 → wX11_must_24 post v0 σ → ∀ (H : Heap) (locs : List Loc) (ls : Array Slot), va_P D vwCl (wW cy B kM σ) H → va_S (AW B 26) s.heap H locs → lv_has ls 3 [(0, .ref (B + v0))] → W p l e (rmD 0) s m av below meth c H locs 0 0 (MQ below (Qz post D cy B kM 26) av s 0 0 (AW B 26)) (F0 m 24 ls []) := by
  obtain ⟨⟨hx, hb, hml, hown, hts⟩, hr, hlk, hK, hN, hZ⟩ := id X
  have hD : ∀ σ, va_D (AW B 26) (wW cy B kM σ) := AW_D kM_len
  intro v0 σ h0 h H locs ls hP hS hl
  unfold wX11_must_24 at h
  refine lv_aload_n hx hb dX11_must_24 rfl (lv_at hl 0 rfl) ?_
  refine rk_get X hP (C := RX11) (T := TX11) (N := 44) (ci := 11) wix_11 h0 rfl rfl 9 (by decide) (wi_31 _ (List.mem_of_getElem? (i := 5) rfl)) rfl rfl dX11_must_25 ?_
  refine lv_if_ne (tgt := 35) hx hb dX11_must_28 (by decide) (fun c1 => ?_) (fun c1 => ?_)
  · have h := h.1 c1
    refine lv_iconst (v := (0 : Int32)) hx hb dX11_must_35 (by decide) ?_
    exact rk_zret X kM_len false h hP hS dX11_must_36
  · have h := h.2 c1
    refine lv_iconst (v := (1 : Int32)) hx hb dX11_must_31 (by decide) ?_
    refine lv_goto (tgt := 36) hx hb dX11_must_32 (by decide) ?_
    exact rk_zret X kM_len true h hP hS dX11_must_36
set_option maxRecDepth 100000 in
set_option maxHeartbeats 4000000 in
theorem mX11_must (l : Launch) (D : va_G) (cy : Nat → ClassId) (B : Nat) (v0 : Nat) (v1 : Int32) (v2 : Int32) (σ : St) (h0 : kM[v0]? = some 11) {post : Bool → St → Prop} (h : wX11_must v0 v1 v2 σ post) : Met l yX11_must (Cond.code yX11_must cX11_must 3 (some .boolean) :: WALL) (rmD 0) (PcW D cy B kM σ [.ref (B + v0), .int v1, .int v2]) (Qz post D cy B kM 26) 0 0 (AW B 26) := by
  refine Met.ofK (cc := cX11_must) (maxL := 3) (ret := (some .boolean)) (by decide +kernel) rfl kM_len ?_
  intro p e s m below meth c X hP
  obtain ⟨⟨hx, hb, hml, hown, hts⟩, hr, hlk, hK, hN, hZ⟩ := id X
  have hD : ∀ σ, va_D (AW B 26) (wW cy B kM σ) := AW_D kM_len
  have hS : va_S (AW B 26) s.heap s.heap [] := va_S.rf
  have hl := lv_entry ([.ref (B + v0), .int v1, .int v2]) (n := 3) (Nat.le_of_ble_eq_true rfl)
  rw [lg_entry_eq]
  generalize (lg_sl ([.ref (B + v0), .int v1, .int v2]) ++ List.replicate (3 - (lg_sl ([.ref (B + v0), .int v1, .int v2])).length) Slot.unset).toArray = ls at hl ⊢
  have hl : lv_has ls 3 [(0, .ref (B + v0)), (1, .int v1), (2, .int v2)] := hl
  unfold wX11_must at h
  refine lv_aload_n hx hb dX11_must_0 rfl (lv_at hl 0 rfl) ?_
  refine rk_get X hP (C := RX11) (T := TX11) (N := 44) (ci := 11) wix_11 h0 rfl rfl 9 (by decide) (wi_31 _ (List.mem_of_getElem? (i := 5) rfl)) rfl rfl dX11_must_1 ?_
  refine lv_if_ne (tgt := 24) hx hb dX11_must_4 (by decide) (fun c1 => ?_) (fun c1 => ?_)
  · have h := h.1 c1
    exact tX11_must_24 X _ _ h0 h _ _ _ hP hS (lv_sub hl [0] rfl)
  · have h := h.2 c1
    refine lv_iload_n hx hb dX11_must_7 rfl (lv_at hl 1 rfl) ?_
    refine lv_if_ne (tgt := 24) hx hb dX11_must_8 (by decide) (fun c2 => ?_) (fun c2 => ?_)
    · have h := h.1 c2
      exact tX11_must_24 X _ _ h0 h _ _ _ hP hS (lv_sub hl [0] rfl)
    · have h := h.2 c2
      refine lv_aload_n hx hb dX11_must_11 rfl (lv_at hl 0 rfl) ?_
      refine lv_iload_n hx hb dX11_must_12 rfl (lv_at hl 2 rfl) ?_
      refine rk_puti X hP hD hS (C := RX11) (T := TX11) (N := 44) (ci := 11) wix_11 h0 rfl rfl tyX11 tyX11_ok nmX11 9 (by decide) (wi_31 _ (List.mem_of_getElem? (i := 5) rfl)) rfl rfl (by decide +kernel) (Nat.le_of_ble_eq_true rfl) rfl dX11_must_13 (fun H locs hP hS => ?_)
      obtain ⟨s1, es1⟩ : ∃ z : St, z = u1 σ v0 9 v2 := ⟨_, rfl⟩
      rw [← es1] at hP
      have h := h s1 es1
      refine lv_aload_n hx hb dX11_must_16 rfl (lv_at hl 0 rfl) ?_
      refine lv_aload_n hx hb dX11_must_17 rfl (lv_at hl 0 rfl) ?_
      refine rk_get X hP (C := RX11) (T := TX11) (N := 44) (ci := 11) wix_11 h0 rfl rfl 4 (by decide) (wi_30 _ (List.mem_of_getElem? (i := 14) rfl)) rfl rfl dX11_must_18 ?_
      refine rk_puti X hP hD hS (C := RX11) (T := TX11) (N := 44) (ci := 11) wix_11 h0 rfl rfl tyX11 tyX11_ok nmX11 10 (by decide) (wi_31 _ (List.mem_of_getElem? (i := 6) rfl)) rfl rfl (by decide +kernel) (Nat.le_of_ble_eq_true rfl) rfl dX11_must_21 (fun H locs hP hS => ?_)
      obtain ⟨s2, es2⟩ : ∃ z : St, z = u1 s1 v0 10 (s1.1 v0 4) := ⟨_, rfl⟩
      rw [← es2] at hP
      have h := h s2 es2
      exact tX11_must_24 X _ _ h0 h _ _ _ hP hS (lv_sub hl [0] rfl)

theorem hd_X11_isName : yX11_isName.cls = RX11 ∧ yX11_isName.cls ≠ "java/lang/invoke/MethodHandle" ∧ yX11_isName.cls ≠ "java/lang/invoke/VarHandle" ∧ (parseMethodDescriptor yX11_isName.desc).map (fun d => d.parameters.length) = some 0 := by decide +kernel
set_option maxRecDepth 100000 in
set_option maxHeartbeats 4000000 in
theorem mX11_isName (l : Launch) (D : va_G) (cy : Nat → ClassId) (B : Nat) (v0 : Nat) (σ : St) (h0 : kM[v0]? = some 11) {post : Bool → St → Prop} (h : wX11_isName v0 σ post) : Met l yX11_isName (Cond.code yX11_isName cX11_isName 1 (some .boolean) :: WALL) (rmD 11) (PcW D cy B kM σ [.ref (B + v0)]) (Qz post D cy B kM 26) 0 0 (AW B 26) := by
  refine Met.ofK (cc := cX11_isName) (maxL := 1) (ret := (some .boolean)) (by decide +kernel) rfl kM_len ?_
  intro p e s m below meth c X hP
  obtain ⟨⟨hx, hb, hml, hown, hts⟩, hr, hlk, hK, hN, hZ⟩ := id X
  have hD : ∀ σ, va_D (AW B 26) (wW cy B kM σ) := AW_D kM_len
  have hS : va_S (AW B 26) s.heap s.heap [] := va_S.rf
  obtain ⟨adK, adV, hvS, hvR, hvA, hvB, hvC, hvZ⟩ := id hZ
  have hl := lv_entry ([.ref (B + v0)]) (n := 1) (Nat.le_of_ble_eq_true rfl)
  rw [lg_entry_eq]
  generalize (lg_sl ([.ref (B + v0)]) ++ List.replicate (1 - (lg_sl ([.ref (B + v0)])).length) Slot.unset).toArray = ls at hl ⊢
  have hl : lv_has ls 1 [(0, .ref (B + v0))] := hl
  unfold wX11_isName at h
  refine lv_aload_n hx hb dX11_isName_0 rfl (lv_at hl 0 rfl) ?_
  refine rk_get X hP (C := RX11) (T := TX11) (N := 44) (ci := 11) wix_11 h0 rfl rfl 6 (by decide) (wi_30 _ (List.mem_of_getElem? (i := 15) rfl)) rfl rfl dX11_isName_1 ?_
  refine lv_iconst (v := (1 : Int32)) hx hb dX11_isName_4 (by decide) ?_
  refine lv_icmp_ne (tgt := 66) hx hb dX11_isName_5 (by decide) (fun c1 => ?_) (fun c1 => ?_)
  · have h := h.1 c1
    refine lv_iconst (v := (0 : Int32)) hx hb dX11_isName_66 (by decide) ?_
    exact rk_zret X kM_len false h hP hS dX11_isName_67
  · have h := h.2 c1
    refine lv_aload_n hx hb dX11_isName_8 rfl (lv_at hl 0 rfl) ?_
    refine va_ldcS (tx := "field") (index := 156) hx hb hown (hvR 0 (by decide)).1 dX11_isName_9 ?_
    refine rk_callz (rk_is (rest := []) X hS hP (k := 0) (by decide) hvS h0 (wi_31 _ (List.mem_of_getElem? (i := 13) rfl)) hl.1 (Nat.le_of_ble_eq_true rfl) (Nat.le_of_ble_eq_true rfl) (Nat.le_of_ble_eq_true rfl) dX11_isName_11 h) hS (fun _ h => h) (fun r1 s1 H locs h hP hS => ?_)
    refine lv_if_ne (tgt := 66) hx hb dX11_isName_14 (by decide) (fun c2 => ?_) (fun c2 => ?_)
    · have h := h.1 (b2i_t c2)
      refine lv_iconst (v := (0 : Int32)) hx hb dX11_isName_66 (by decide) ?_
      exact rk_zret X kM_len false h hP hS dX11_isName_67
    · have h := h.2 (b2i_f c2)
      refine lv_aload_n hx hb dX11_isName_17 rfl (lv_at hl 0 rfl) ?_
      refine va_ldcS (tx := "table") (index := 162) hx hb hown (hvR 1 (by decide)).1 dX11_isName_18 ?_
      refine rk_callz (rk_is (rest := []) X hS hP (k := 1) (by decide) hvS h0 (wi_31 _ (List.mem_of_getElem? (i := 13) rfl)) hl.1 (Nat.le_of_ble_eq_true rfl) (Nat.le_of_ble_eq_true rfl) (Nat.le_of_ble_eq_true rfl) dX11_isName_20 h) hS (fun _ h => h) (fun r2 s2 H locs h hP hS => ?_)
      refine lv_if_ne (tgt := 66) hx hb dX11_isName_23 (by decide) (fun c3 => ?_) (fun c3 => ?_)
      · have h := h.1 (b2i_t c3)
        refine lv_iconst (v := (0 : Int32)) hx hb dX11_isName_66 (by decide) ?_
        exact rk_zret X kM_len false h hP hS dX11_isName_67
      · have h := h.2 (b2i_f c3)
        refine lv_aload_n hx hb dX11_isName_26 rfl (lv_at hl 0 rfl) ?_
        refine va_ldcS (tx := "gate") (index := 164) hx hb hown (hvR 2 (by decide)).1 dX11_isName_27 ?_
        refine rk_callz (rk_is (rest := []) X hS hP (k := 2) (by decide) hvS h0 (wi_31 _ (List.mem_of_getElem? (i := 13) rfl)) hl.1 (Nat.le_of_ble_eq_true rfl) (Nat.le_of_ble_eq_true rfl) (Nat.le_of_ble_eq_true rfl) dX11_isName_29 h) hS (fun _ h => h) (fun r3 s3 H locs h hP hS => ?_)
        refine lv_if_ne (tgt := 66) hx hb dX11_isName_32 (by decide) (fun c4 => ?_) (fun c4 => ?_)
        · have h := h.1 (b2i_t c4)
          refine lv_iconst (v := (0 : Int32)) hx hb dX11_isName_66 (by decide) ?_
          exact rk_zret X kM_len false h hP hS dX11_isName_67
        · have h := h.2 (b2i_f c4)
          refine lv_aload_n hx hb dX11_isName_35 rfl (lv_at hl 0 rfl) ?_
          refine va_ldcS (tx := "base") (index := 166) hx hb hown (hvR 3 (by decide)).1 dX11_isName_36 ?_
          refine rk_callz (rk_is (rest := []) X hS hP (k := 3) (by decide) hvS h0 (wi_31 _ (List.mem_of_getElem? (i := 13) rfl)) hl.1 (Nat.le_of_ble_eq_true rfl) (Nat.le_of_ble_eq_true rfl) (Nat.le_of_ble_eq_true rfl) dX11_isName_38 h) hS (fun _ h => h) (fun r4 s4 H locs h hP hS => ?_)
          refine lv_if_ne (tgt := 66) hx hb dX11_isName_41 (by decide) (fun c5 => ?_) (fun c5 => ?_)
          · have h := h.1 (b2i_t c5)
            refine lv_iconst (v := (0 : Int32)) hx hb dX11_isName_66 (by decide) ?_
            exact rk_zret X kM_len false h hP hS dX11_isName_67
          · have h := h.2 (b2i_f c5)
            refine lv_aload_n hx hb dX11_isName_44 rfl (lv_at hl 0 rfl) ?_
            refine va_ldcS (tx := "node") (index := 167) hx hb hown (hvR 4 (by decide)).1 dX11_isName_45 ?_
            refine rk_callz (rk_is (rest := []) X hS hP (k := 4) (by decide) hvS h0 (wi_31 _ (List.mem_of_getElem? (i := 13) rfl)) hl.1 (Nat.le_of_ble_eq_true rfl) (Nat.le_of_ble_eq_true rfl) (Nat.le_of_ble_eq_true rfl) dX11_isName_47 h) hS (fun _ h => h) (fun r5 s5 H locs h hP hS => ?_)
            refine lv_if_ne (tgt := 66) hx hb dX11_isName_50 (by decide) (fun c6 => ?_) (fun c6 => ?_)
            · have h := h.1 (b2i_t c6)
              refine lv_iconst (v := (0 : Int32)) hx hb dX11_isName_66 (by decide) ?_
              exact rk_zret X kM_len false h hP hS dX11_isName_67
            · have h := h.2 (b2i_f c6)
              refine lv_aload_n hx hb dX11_isName_53 rfl (lv_at hl 0 rfl) ?_
              refine va_ldcS (tx := "wire") (index := 169) hx hb hown (hvR 5 (by decide)).1 dX11_isName_54 ?_
              refine rk_callz (rk_is (rest := []) X hS hP (k := 5) (by decide) hvS h0 (wi_31 _ (List.mem_of_getElem? (i := 13) rfl)) hl.1 (Nat.le_of_ble_eq_true rfl) (Nat.le_of_ble_eq_true rfl) (Nat.le_of_ble_eq_true rfl) dX11_isName_56 h) hS (fun _ h => h) (fun r6 s6 H locs h hP hS => ?_)
              refine lv_if_ne (tgt := 66) hx hb dX11_isName_59 (by decide) (fun c7 => ?_) (fun c7 => ?_)
              · have h := h.1 (b2i_t c7)
                refine lv_iconst (v := (0 : Int32)) hx hb dX11_isName_66 (by decide) ?_
                exact rk_zret X kM_len false h hP hS dX11_isName_67
              · have h := h.2 (b2i_f c7)
                refine lv_iconst (v := (1 : Int32)) hx hb dX11_isName_62 (by decide) ?_
                refine lv_goto (tgt := 67) hx hb dX11_isName_63 (by decide) ?_
                exact rk_zret X kM_len true h hP hS dX11_isName_67

theorem hd_X11_takesNumber : yX11_takesNumber.cls = RX11 ∧ yX11_takesNumber.cls ≠ "java/lang/invoke/MethodHandle" ∧ yX11_takesNumber.cls ≠ "java/lang/invoke/VarHandle" ∧ (parseMethodDescriptor yX11_takesNumber.desc).map (fun d => d.parameters.length) = some 2 := by decide +kernel
set_option maxRecDepth 100000 in
set_option maxHeartbeats 4000000 in
theorem tX11_takesNumber_14 {p : Program} {l : Launch} {e : Env} {s : State} {m : MethodId} {av : Array Value} {below : List Frame} {meth : Method} {c : Code} {D : va_G} {cy : Nat → ClassId} {B : Nat} (X : kC p s m av meth c cX11_takesNumber 3 (some .boolean) WALL RX11 D cy (AW B 26)) {post : Bool → St → Prop} : ∀ (v0 : Nat) (v1 : Int32) (v2 : Int32) (t0 : Nat) (t1 : Int32) (σ : St), kM[v0]? = some 11 → kM[t0]? = some 11 → wX11_takesNumber_14 post v0 v1 v2 t0 t1 σ → ∀ (H : Heap) (locs : List Loc) (ls : Array Slot), va_P D vwCl (wW cy B kM σ) H → va_S (AW B 26) s.heap H locs → lv_has ls 3 [(0, .ref (B + v0)), (1, .int v1), (2, .int v2)] → W p l e (rmD 2) s m av below meth c H locs 0 0 (MQ below (Qz post D cy B kM 26) av s 0 0 (AW B 26)) (F0 m 14 ls [.int t1, .ref (B + t0)]) := by
  obtain ⟨⟨hx, hb, hml, hown, hts⟩, hr, hlk, hK, hN, hZ⟩ := id X
  have hD : ∀ σ, va_D (AW B 26) (wW cy B kM σ) := AW_D kM_len
  intro v0 v1 v2 t0 t1 σ h0 g0 h H locs ls hP hS hl
  unfold wX11_takesNumber_14 at h
  refine lv_iconst (v := (1 : Int32)) hx hb dX11_takesNumber_14 (by decide) ?_
  refine rk_callz (va_runV (As := [.int t1, .int (1 : Int32)]) (rest := []) X.1 (mX11_must l D cy B t0 t1 (1 : Int32) σ g0 h) (cwV 2 hts (gW_V (wi_31 _ (List.mem_of_getElem? (i := 18) rfl)) (wi_31 _ (List.mem_of_getElem? (i := 19) rfl)) (wi_31 _ (List.mem_of_getElem? (i := 20) rfl)) (wi_30 _ (List.mem_of_getElem? (i := 9) rfl)) (wi_31 _ (List.mem_of_getElem? (i := 4) rfl))) rfl rfl rfl hd_X11_must ⟨Nat.le_of_ble_eq_true rfl, Nat.le_of_ble_eq_true rfl⟩) (rk_preV X hS hP g0 rfl rfl [.int t1, .int (1 : Int32)]) rfl rfl hl.1 rfl (lv_room (Nat.le_of_ble_eq_true rfl)) dX11_takesNumber_15 ⟨Nat.zero_le _, Nat.zero_le _⟩) hS (fun _ h => h) (fun r1 s1 H locs h hP hS => ?_)
  refine lv_if_eq (tgt := 41) hx hb dX11_takesNumber_18 (by decide) (fun c1 => ?_) (fun c1 => ?_)
  · have h := h.1 (b2i_f c1)
    refine lv_iconst (v := (0 : Int32)) hx hb dX11_takesNumber_41 (by decide) ?_
    exact rk_zret X kM_len false h hP hS dX11_takesNumber_42
  · have h := h.2 (b2i_t c1)
    refine lv_aload_n hx hb dX11_takesNumber_21 rfl (lv_at hl 0 rfl) ?_
    refine lv_aload_n hx hb dX11_takesNumber_22 rfl (lv_at hl 0 rfl) ?_
    refine rk_get X hP (C := RX11) (T := TX11) (N := 44) (ci := 11) wix_11 h0 rfl rfl 7 (by decide) (wi_30 _ (List.mem_of_getElem? (i := 16) rfl)) rfl rfl dX11_takesNumber_23 ?_
    refine lv_i2l hx hb dX11_takesNumber_26 rfl ?_
    refine lv_iload_n hx hb dX11_takesNumber_27 rfl (lv_at hl 1 rfl) ?_
    refine lv_i2l hx hb dX11_takesNumber_28 rfl ?_
    refine lv_iload_n hx hb dX11_takesNumber_29 rfl (lv_at hl 2 rfl) ?_
    refine lv_i2l hx hb dX11_takesNumber_30 rfl ?_
    refine rk_callz (va_runS (As := [.long ((s1.1 v0 7).toInt64), .long (v1.toInt64), .long (v2.toInt64)]) (rest := [.ref (B + v0)]) X.1 (mX11_within l D cy B ((s1.1 v0 7).toInt64) (v1.toInt64) (v2.toInt64) s1 h) (va_cwS 3 hts (gW_S (wi_31 _ (List.mem_of_getElem? (i := 2) rfl)) (wi_31 _ (List.mem_of_getElem? (i := 3) rfl)) (wi_30 _ (List.mem_of_getElem? (i := 9) rfl)) (wi_30 _ (List.mem_of_getElem? (i := 2) rfl))) rfl rfl rfl hd_X11_within ⟨Nat.le_of_ble_eq_true rfl, Nat.le_of_ble_eq_true rfl⟩) (rk_preS X hS hP [.long ((s1.1 v0 7).toInt64), .long (v1.toInt64), .long (v2.toInt64)]) rfl rfl hl.1 rfl (lv_room (Nat.le_of_ble_eq_true rfl)) dX11_takesNumber_31 ⟨Nat.zero_le _, Nat.zero_le _⟩) hS (fun _ h => h) (fun r2 s2 H locs h hP hS => ?_)
    refine lv_iconst (v := (4 : Int32)) hx hb dX11_takesNumber_34 (by decide) ?_
    refine rk_callz (va_runV (As := [.int (b2i r2), .int (4 : Int32)]) (rest := []) X.1 (mX11_must l D cy B v0 (b2i r2) (4 : Int32) s2 h0 h) (cwV 2 hts (gW_V (wi_31 _ (List.mem_of_getElem? (i := 18) rfl)) (wi_31 _ (List.mem_of_getElem? (i := 19) rfl)) (wi_31 _ (List.mem_of_getElem? (i := 20) rfl)) (wi_30 _ (List.mem_of_getElem? (i := 9) rfl)) (wi_31 _ (List.mem_of_getElem? (i := 4) rfl))) rfl rfl rfl hd_X11_must ⟨Nat.le_of_ble_eq_true rfl, Nat.le_of_ble_eq_true rfl⟩) (rk_preV X hS hP h0 rfl rfl [.int (b2i r2), .int (4 : Int32)]) rfl rfl hl.1 rfl (lv_room (Nat.le_of_ble_eq_true rfl)) dX11_takesNumber_35 ⟨Nat.zero_le _, Nat.zero_le _⟩) hS (fun _ h => h) (fun r3 s3 H locs h hP hS => ?_)
    refine lv_if_ne (tgt := 43) hx hb dX11_takesNumber_38 (by decide) (fun c2 => ?_) (fun c2 => ?_)
    · have h := h.1 (b2i_t c2)
      refine lv_aload_n hx hb dX11_takesNumber_43 rfl (lv_at hl 0 rfl) ?_
      refine lv_aload_n hx hb dX11_takesNumber_44 rfl (lv_at hl 0 rfl) ?_
      refine rk_get X hP (C := RX11) (T := TX11) (N := 44) (ci := 11) wix_11 h0 rfl rfl 7 (by decide) (wi_30 _ (List.mem_of_getElem? (i := 16) rfl)) rfl rfl dX11_takesNumber_45 ?_
      refine rk_puti X hP hD hS (C := RX11) (T := TX11) (N := 44) (ci := 11) wix_11 h0 rfl rfl tyX11 tyX11_ok nmX11 11 (by decide) (wi_31 _ (List.mem_of_getElem? (i := 17) rfl)) rfl rfl (by decide +kernel) (Nat.le_of_ble_eq_true rfl) rfl dX11_takesNumber_48 (fun H locs hP hS => ?_)
      obtain ⟨s4, es4⟩ : ∃ z : St, z = u1 s3 v0 11 (s3.1 v0 7) := ⟨_, rfl⟩
      rw [← es4] at hP
      have h := h s4 es4
      refine lv_aload_n hx hb dX11_takesNumber_51 rfl (lv_at hl 0 rfl) ?_
      refine rk_callv (va_runV (As := []) (rest := []) X.1 (mX11_steps l D cy B v0 s4 h0 h) (cwV 0 hts (gW_V (wi_31 _ (List.mem_of_getElem? (i := 21) rfl)) (wi_31 _ (List.mem_of_getElem? (i := 22) rfl)) (wi_31 _ (List.mem_of_getElem? (i := 23) rfl)) (wi_30 _ (List.mem_of_getElem? (i := 9) rfl)) (wi_30 _ (List.mem_of_getElem? (i := 12) rfl))) rfl rfl rfl hd_X11_steps ⟨Nat.le_of_ble_eq_true rfl, Nat.le_of_ble_eq_true rfl⟩) (rk_preV X hS hP h0 rfl rfl []) rfl rfl hl.1 rfl (lv_room (Nat.le_of_ble_eq_true rfl)) dX11_takesNumber_52 ⟨Nat.zero_le _, Nat.zero_le _⟩) hS (fun _ h => h) (fun s5 H locs h hP hS => ?_)
      refine lv_iconst (v := (1 : Int32)) hx hb dX11_takesNumber_55 (by decide) ?_
      exact rk_zret X kM_len true h hP hS dX11_takesNumber_56
    · have h := h.2 (b2i_f c2)
      refine lv_iconst (v := (0 : Int32)) hx hb dX11_takesNumber_41 (by decide) ?_
      exact rk_zret X kM_len false h hP hS dX11_takesNumber_42
set_option maxRecDepth 100000 in
set_option maxHeartbeats 4000000 in
theorem mX11_takesNumber (l : Launch) (D : va_G) (cy : Nat → ClassId) (B : Nat) (v0 : Nat) (v1 : Int32) (v2 : Int32) (σ : St) (h0 : kM[v0]? = some 11) {post : Bool → St → Prop} (h : wX11_takesNumber v0 v1 v2 σ post) : Met l yX11_takesNumber (Cond.code yX11_takesNumber cX11_takesNumber 3 (some .boolean) :: WALL) (rmD 2) (PcW D cy B kM σ [.ref (B + v0), .int v1, .int v2]) (Qz post D cy B kM 26) 0 0 (AW B 26) := by
  refine Met.ofK (cc := cX11_takesNumber) (maxL := 3) (ret := (some .boolean)) (by decide +kernel) rfl kM_len ?_
  intro p e s m below meth c X hP
  obtain ⟨⟨hx, hb, hml, hown, hts⟩, hr, hlk, hK, hN, hZ⟩ := id X
  have hD : ∀ σ, va_D (AW B 26) (wW cy B kM σ) := AW_D kM_len
  have hS : va_S (AW B 26) s.heap s.heap [] := va_S.rf
  have hl := lv_entry ([.ref (B + v0), .int v1, .int v2]) (n := 3) (Nat.le_of_ble_eq_true rfl)
  rw [lg_entry_eq]
  generalize (lg_sl ([.ref (B + v0), .int v1, .int v2]) ++ List.replicate (3 - (lg_sl ([.ref (B + v0), .int v1, .int v2])).length) Slot.unset).toArray = ls at hl ⊢
  have hl : lv_has ls 3 [(0, .ref (B + v0)), (1, .int v1), (2, .int v2)] := hl
  unfold wX11_takesNumber at h
  refine lv_aload_n hx hb dX11_takesNumber_0 rfl (lv_at hl 0 rfl) ?_
  refine lv_aload_n hx hb dX11_takesNumber_1 rfl (lv_at hl 0 rfl) ?_
  refine rk_get X hP (C := RX11) (T := TX11) (N := 44) (ci := 11) wix_11 h0 rfl rfl 6 (by decide) (wi_30 _ (List.mem_of_getElem? (i := 15) rfl)) rfl rfl dX11_takesNumber_2 ?_
  refine lv_iconst (v := (2 : Int32)) hx hb dX11_takesNumber_5 (by decide) ?_
  refine lv_icmp_ne (tgt := 13) hx hb dX11_takesNumber_6 (by decide) (fun c1 => ?_) (fun c1 => ?_)
  · have h := h.1 c1
    refine lv_iconst (v := (0 : Int32)) hx hb dX11_takesNumber_13 (by decide) ?_
    exact tX11_takesNumber_14 X _ _ _ _ _ _ h0 h0 h _ _ _ hP hS (lv_sub hl [0, 1, 2] rfl)
  · have h := h.2 c1
    refine lv_iconst (v := (1 : Int32)) hx hb dX11_takesNumber_9 (by decide) ?_
    refine lv_goto (tgt := 14) hx hb dX11_takesNumber_10 (by decide) ?_
    exact tX11_takesNumber_14 X _ _ _ _ _ _ h0 h0 h _ _ _ hP hS (lv_sub hl [0, 1, 2] rfl)

theorem hd_X11_tableNamed : yX11_tableNamed.cls = RX11 ∧ yX11_tableNamed.cls ≠ "java/lang/invoke/MethodHandle" ∧ yX11_tableNamed.cls ≠ "java/lang/invoke/VarHandle" ∧ (parseMethodDescriptor yX11_tableNamed.desc).map (fun d => d.parameters.length) = some 0 := by decide +kernel
set_option maxRecDepth 100000 in
set_option maxHeartbeats 4000000 in
theorem tX11_tableNamed_2 {p : Program} {l : Launch} {e : Env} {s : State} {m : MethodId} {av : Array Value} {below : List Frame} {meth : Method} {c : Code} {D : va_G} {cy : Nat → ClassId} {B : Nat} (X : kC p s m av meth c cX11_tableNamed 2 (some .int) WALL RX11 D cy (AW B 26)) {post : Int32 → St → Prop} : ∀ (n : Nat) (v0 : Nat) (v1 : Int32) (σ : St), kM[v0]? = some 11 → wX11_tableNamed_2 post n v0 v1 σ → ∀ (H : Heap) (locs : List Loc) (ls : Array Slot), va_P D vwCl (wW cy B kM σ) H → va_S (AW B 26) s.heap H locs → lv_has ls 2 [(0, .ref (B + v0)), (1, .int v1)] → W p l e (rmD 0) s m av below meth c H locs 0 0 (MQ below (va_Qi post (BW D cy B kM) (AW B 26)) av s 0 0 (AW B 26)) (F0 m 2 ls []) := by
  obtain ⟨⟨hx, hb, hml, hown, hts⟩, hr, hlk, hK, hN, hZ⟩ := id X
  have hD : ∀ σ, va_D (AW B 26) (wW cy B kM σ) := AW_D kM_len
  intro n
  induction n with
  | zero => intro v0 v1 σ h0 h; exact absurd h id
  | succ n ih =>
    intro v0 v1 σ h0 h H locs ls hP hS hl
    rw [wX11_tableNamed_2] at h
    refine lv_iload_n hx hb dX11_tableNamed_2 rfl (lv_at hl 1 rfl) ?_
    refine lv_aload_n hx hb dX11_tableNamed_3 rfl (lv_at hl 0 rfl) ?_
    refine rk_get X hP (C := RX11) (T := TX11) (N := 44) (ci := 11) wix_11 h0 rfl rfl 14 (by decide) (wi_28 _ (List.mem_of_getElem? (i := 23) rfl)) rfl rfl dX11_tableNamed_4 ?_
    refine lv_aload_n hx hb dX11_tableNamed_7 rfl (lv_at hl 0 rfl) ?_
    refine rk_get X hP (C := RX11) (T := TX11) (N := 44) (ci := 11) wix_11 h0 rfl rfl 12 (by decide) (wi_32 _ (List.mem_of_getElem? (i := 2) rfl)) rfl rfl dX11_tableNamed_8 ?_
    refine lv_topi (fun x1 ex1 => ?_)
    have h := h x1 ex1
    obtain ⟨b1, h⟩ := h
    refine rk_iald X hP (n := 2) (klM_X11_14 h0) (fun _ _ => rfl) b1 dX11_tableNamed_11 ?_
    refine lv_icmp_ge (tgt := 45) hx hb dX11_tableNamed_12 (by decide) (fun c1 => ?_) (fun c1 => ?_)
    · have h := h.1 c1
      refine lv_iconst (v := (-1 : Int32)) hx hb dX11_tableNamed_45 (by decide) ?_
      exact rk_iret X rfl kM_len h hP hS dX11_tableNamed_46
    · have h := h.2 c1
      refine lv_aload_n hx hb dX11_tableNamed_15 rfl (lv_at hl 0 rfl) ?_
      refine rk_get X hP (C := RX11) (T := TX11) (N := 44) (ci := 11) wix_11 h0 rfl rfl 17 (by decide) (wi_29 _ (List.mem_of_getElem? (i := 3) rfl)) rfl rfl dX11_tableNamed_16 ?_
      refine lv_bipush (v := (8 : Int32)) hx hb dX11_tableNamed_19 (by decide) ?_
      refine lv_aload_n hx hb dX11_tableNamed_21 rfl (lv_at hl 0 rfl) ?_
      refine rk_get X hP (C := RX11) (T := TX11) (N := 44) (ci := 11) wix_11 h0 rfl rfl 12 (by decide) (wi_32 _ (List.mem_of_getElem? (i := 2) rfl)) rfl rfl dX11_tableNamed_22 ?_
      refine lv_imul hx hb dX11_tableNamed_25 ?_
      refine lv_iload_n hx hb dX11_tableNamed_26 rfl (lv_at hl 1 rfl) ?_
      refine lv_iadd hx hb dX11_tableNamed_27 ?_
      refine lv_topi (fun x2 ex2 => ?_)
      have h := h x2 ex2
      obtain ⟨b2, h⟩ := h
      refine rk_lald X hP (n := 16) (klM_X11_17 h0) (fun _ _ => rfl) b2 dX11_tableNamed_28 ?_
      refine lv_aload_n hx hb dX11_tableNamed_29 rfl (lv_at hl 0 rfl) ?_
      refine rk_get X hP (C := RX11) (T := TX11) (N := 44) (ci := 11) wix_11 h0 rfl rfl 8 (by decide) (wi_30 _ (List.mem_of_getElem? (i := 17) rfl)) rfl rfl dX11_tableNamed_30 ?_
      refine W.lcmp hx hb dX11_tableNamed_33 ?_
      refine lv_if_ne (tgt := 39) hx hb dX11_tableNamed_34 (by decide) (fun c2 => ?_) (fun c2 => ?_)
      · have h := h.1 c2
        obtain ⟨x3, ex3⟩ : ∃ y : Int32, y = v1 + (1 : Int32) := ⟨_, rfl⟩
        have h := h x3 ex3
        refine lv_iinc (v := x3) (lv' := [(1, .int x3), (0, .ref (B + v0))]) hx hb dX11_tableNamed_39 hl (k := 1) rfl (by rw [ex3]; rfl) (by decide) rfl (fun ls hl => ?_)
        refine lv_goto (tgt := 2) hx hb dX11_tableNamed_42 (by decide) ?_
        exact ih _ _ _ h0 h _ _ _ hP hS (lv_sub hl [1, 0] rfl)
      · have h := h.2 c2
        refine lv_iload_n hx hb dX11_tableNamed_37 rfl (lv_at hl 1 rfl) ?_
        exact rk_iret X rfl kM_len h hP hS dX11_tableNamed_38
set_option maxRecDepth 100000 in
set_option maxHeartbeats 4000000 in
theorem mX11_tableNamed (l : Launch) (D : va_G) (cy : Nat → ClassId) (B : Nat) (v0 : Nat) (σ : St) (h0 : kM[v0]? = some 11) {post : Int32 → St → Prop} (h : wX11_tableNamed v0 σ post) : Met l yX11_tableNamed (Cond.code yX11_tableNamed cX11_tableNamed 2 (some .int) :: WALL) (rmD 0) (PcW D cy B kM σ [.ref (B + v0)]) (va_Qi post (BW D cy B kM) (AW B 26)) 0 0 (AW B 26) := by
  refine Met.ofK (cc := cX11_tableNamed) (maxL := 2) (ret := (some .int)) (by decide +kernel) rfl kM_len ?_
  intro p e s m below meth c X hP
  obtain ⟨⟨hx, hb, hml, hown, hts⟩, hr, hlk, hK, hN, hZ⟩ := id X
  have hD : ∀ σ, va_D (AW B 26) (wW cy B kM σ) := AW_D kM_len
  have hS : va_S (AW B 26) s.heap s.heap [] := va_S.rf
  have hl := lv_entry ([.ref (B + v0)]) (n := 2) (Nat.le_of_ble_eq_true rfl)
  rw [lg_entry_eq]
  generalize (lg_sl ([.ref (B + v0)]) ++ List.replicate (2 - (lg_sl ([.ref (B + v0)])).length) Slot.unset).toArray = ls at hl ⊢
  have hl : lv_has ls 2 [(0, .ref (B + v0))] := hl
  unfold wX11_tableNamed at h
  refine lv_iconst (v := (0 : Int32)) hx hb dX11_tableNamed_0 (by decide) ?_
  refine lv_istore_n (lv' := [(1, .int (0 : Int32)), (0, .ref (B + v0))]) hx hb dX11_tableNamed_1 rfl hl (by decide) rfl (fun ls hl => ?_)
  obtain ⟨j, h⟩ := h
  exact tX11_tableNamed_2 X j _ _ _ h0 h _ _ _ hP hS (lv_sub hl [1, 0] rfl)

theorem hd_X11_baseNamed : yX11_baseNamed.cls = RX11 ∧ yX11_baseNamed.cls ≠ "java/lang/invoke/MethodHandle" ∧ yX11_baseNamed.cls ≠ "java/lang/invoke/VarHandle" ∧ (parseMethodDescriptor yX11_baseNamed.desc).map (fun d => d.parameters.length) = some 0 := by decide +kernel
set_option maxRecDepth 100000 in
set_option maxHeartbeats 4000000 in
theorem tX11_baseNamed_2 {p : Program} {l : Launch} {e : Env} {s : State} {m : MethodId} {av : Array Value} {below : List Frame} {meth : Method} {c : Code} {D : va_G} {cy : Nat → ClassId} {B : Nat} (X : kC p s m av meth c cX11_baseNamed 2 (some .int) WALL RX11 D cy (AW B 26)) {post : Int32 → St → Prop} : ∀ (n : Nat) (v0 : Nat) (v1 : Int32) (σ : St), kM[v0]? = some 11 → wX11_baseNamed_2 post n v0 v1 σ → ∀ (H : Heap) (locs : List Loc) (ls : Array Slot), va_P D vwCl (wW cy B kM σ) H → va_S (AW B 26) s.heap H locs → lv_has ls 2 [(0, .ref (B + v0)), (1, .int v1)] → W p l e (rmD 0) s m av below meth c H locs 0 0 (MQ below (va_Qi post (BW D cy B kM) (AW B 26)) av s 0 0 (AW B 26)) (F0 m 2 ls []) := by
  obtain ⟨⟨hx, hb, hml, hown, hts⟩, hr, hlk, hK, hN, hZ⟩ := id X
  have hD : ∀ σ, va_D (AW B 26) (wW cy B kM σ) := AW_D kM_len
  intro n
  induction n with
  | zero => intro v0 v1 σ h0 h; exact absurd h id
  | succ n ih =>
    intro v0 v1 σ h0 h H locs ls hP hS hl
    rw [wX11_baseNamed_2] at h
    refine lv_iload_n hx hb dX11_baseNamed_2 rfl (lv_at hl 1 rfl) ?_
    refine lv_aload_n hx hb dX11_baseNamed_3 rfl (lv_at hl 0 rfl) ?_
    refine rk_get X hP (C := RX11) (T := TX11) (N := 44) (ci := 11) wix_11 h0 rfl rfl 15 (by decide) (wi_29 _ (List.mem_of_getElem? (i := 0) rfl)) rfl rfl dX11_baseNamed_4 ?_
    refine lv_aload_n hx hb dX11_baseNamed_7 rfl (lv_at hl 0 rfl) ?_
    refine rk_get X hP (C := RX11) (T := TX11) (N := 44) (ci := 11) wix_11 h0 rfl rfl 12 (by decide) (wi_32 _ (List.mem_of_getElem? (i := 2) rfl)) rfl rfl dX11_baseNamed_8 ?_
    refine lv_topi (fun x1 ex1 => ?_)
    have h := h x1 ex1
    obtain ⟨b1, h⟩ := h
    refine rk_iald X hP (n := 2) (klM_X11_15 h0) (fun _ _ => rfl) b1 dX11_baseNamed_11 ?_
    refine lv_icmp_ge (tgt := 44) hx hb dX11_baseNamed_12 (by decide) (fun c1 => ?_) (fun c1 => ?_)
    · have h := h.1 c1
      refine lv_iconst (v := (-1 : Int32)) hx hb dX11_baseNamed_44 (by decide) ?_
      exact rk_iret X rfl kM_len h hP hS dX11_baseNamed_45
    · have h := h.2 c1
      refine lv_aload_n hx hb dX11_baseNamed_15 rfl (lv_at hl 0 rfl) ?_
      refine rk_get X hP (C := RX11) (T := TX11) (N := 44) (ci := 11) wix_11 h0 rfl rfl 18 (by decide) (wi_29 _ (List.mem_of_getElem? (i := 4) rfl)) rfl rfl dX11_baseNamed_16 ?_
      refine lv_iconst (v := (5 : Int32)) hx hb dX11_baseNamed_19 (by decide) ?_
      refine lv_aload_n hx hb dX11_baseNamed_20 rfl (lv_at hl 0 rfl) ?_
      refine rk_get X hP (C := RX11) (T := TX11) (N := 44) (ci := 11) wix_11 h0 rfl rfl 12 (by decide) (wi_32 _ (List.mem_of_getElem? (i := 2) rfl)) rfl rfl dX11_baseNamed_21 ?_
      refine lv_imul hx hb dX11_baseNamed_24 ?_
      refine lv_iload_n hx hb dX11_baseNamed_25 rfl (lv_at hl 1 rfl) ?_
      refine lv_iadd hx hb dX11_baseNamed_26 ?_
      refine lv_topi (fun x2 ex2 => ?_)
      have h := h x2 ex2
      obtain ⟨b2, h⟩ := h
      refine rk_lald X hP (n := 10) (klM_X11_18 h0) (fun _ _ => rfl) b2 dX11_baseNamed_27 ?_
      refine lv_aload_n hx hb dX11_baseNamed_28 rfl (lv_at hl 0 rfl) ?_
      refine rk_get X hP (C := RX11) (T := TX11) (N := 44) (ci := 11) wix_11 h0 rfl rfl 8 (by decide) (wi_30 _ (List.mem_of_getElem? (i := 17) rfl)) rfl rfl dX11_baseNamed_29 ?_
      refine W.lcmp hx hb dX11_baseNamed_32 ?_
      refine lv_if_ne (tgt := 38) hx hb dX11_baseNamed_33 (by decide) (fun c2 => ?_) (fun c2 => ?_)
      · have h := h.1 c2
        obtain ⟨x3, ex3⟩ : ∃ y : Int32, y = v1 + (1 : Int32) := ⟨_, rfl⟩
        have h := h x3 ex3
        refine lv_iinc (v := x3) (lv' := [(1, .int x3), (0, .ref (B + v0))]) hx hb dX11_baseNamed_38 hl (k := 1) rfl (by rw [ex3]; rfl) (by decide) rfl (fun ls hl => ?_)
        refine lv_goto (tgt := 2) hx hb dX11_baseNamed_41 (by decide) ?_
        exact ih _ _ _ h0 h _ _ _ hP hS (lv_sub hl [1, 0] rfl)
      · have h := h.2 c2
        refine lv_iload_n hx hb dX11_baseNamed_36 rfl (lv_at hl 1 rfl) ?_
        exact rk_iret X rfl kM_len h hP hS dX11_baseNamed_37
set_option maxRecDepth 100000 in
set_option maxHeartbeats 4000000 in
theorem mX11_baseNamed (l : Launch) (D : va_G) (cy : Nat → ClassId) (B : Nat) (v0 : Nat) (σ : St) (h0 : kM[v0]? = some 11) {post : Int32 → St → Prop} (h : wX11_baseNamed v0 σ post) : Met l yX11_baseNamed (Cond.code yX11_baseNamed cX11_baseNamed 2 (some .int) :: WALL) (rmD 0) (PcW D cy B kM σ [.ref (B + v0)]) (va_Qi post (BW D cy B kM) (AW B 26)) 0 0 (AW B 26) := by
  refine Met.ofK (cc := cX11_baseNamed) (maxL := 2) (ret := (some .int)) (by decide +kernel) rfl kM_len ?_
  intro p e s m below meth c X hP
  obtain ⟨⟨hx, hb, hml, hown, hts⟩, hr, hlk, hK, hN, hZ⟩ := id X
  have hD : ∀ σ, va_D (AW B 26) (wW cy B kM σ) := AW_D kM_len
  have hS : va_S (AW B 26) s.heap s.heap [] := va_S.rf
  have hl := lv_entry ([.ref (B + v0)]) (n := 2) (Nat.le_of_ble_eq_true rfl)
  rw [lg_entry_eq]
  generalize (lg_sl ([.ref (B + v0)]) ++ List.replicate (2 - (lg_sl ([.ref (B + v0)])).length) Slot.unset).toArray = ls at hl ⊢
  have hl : lv_has ls 2 [(0, .ref (B + v0))] := hl
  unfold wX11_baseNamed at h
  refine lv_iconst (v := (0 : Int32)) hx hb dX11_baseNamed_0 (by decide) ?_
  refine lv_istore_n (lv' := [(1, .int (0 : Int32)), (0, .ref (B + v0))]) hx hb dX11_baseNamed_1 rfl hl (by decide) rfl (fun ls hl => ?_)
  obtain ⟨j, h⟩ := h
  exact tX11_baseNamed_2 X j _ _ _ h0 h _ _ _ hP hS (lv_sub hl [1, 0] rfl)

theorem hd_X11_nodeNamed : yX11_nodeNamed.cls = RX11 ∧ yX11_nodeNamed.cls ≠ "java/lang/invoke/MethodHandle" ∧ yX11_nodeNamed.cls ≠ "java/lang/invoke/VarHandle" ∧ (parseMethodDescriptor yX11_nodeNamed.desc).map (fun d => d.parameters.length) = some 0 := by decide +kernel
set_option maxRecDepth 100000 in
set_option maxHeartbeats 4000000 in
theorem tX11_nodeNamed_2 {p : Program} {l : Launch} {e : Env} {s : State} {m : MethodId} {av : Array Value} {below : List Frame} {meth : Method} {c : Code} {D : va_G} {cy : Nat → ClassId} {B : Nat} (X : kC p s m av meth c cX11_nodeNamed 2 (some .int) WALL RX11 D cy (AW B 26)) {post : Int32 → St → Prop} : ∀ (n : Nat) (v0 : Nat) (v1 : Int32) (σ : St), kM[v0]? = some 11 → wX11_nodeNamed_2 post n v0 v1 σ → ∀ (H : Heap) (locs : List Loc) (ls : Array Slot), va_P D vwCl (wW cy B kM σ) H → va_S (AW B 26) s.heap H locs → lv_has ls 2 [(0, .ref (B + v0)), (1, .int v1)] → W p l e (rmD 0) s m av below meth c H locs 0 0 (MQ below (va_Qi post (BW D cy B kM) (AW B 26)) av s 0 0 (AW B 26)) (F0 m 2 ls []) := by
  obtain ⟨⟨hx, hb, hml, hown, hts⟩, hr, hlk, hK, hN, hZ⟩ := id X
  have hD : ∀ σ, va_D (AW B 26) (wW cy B kM σ) := AW_D kM_len
  intro n
  induction n with
  | zero => intro v0 v1 σ h0 h; exact absurd h id
  | succ n ih =>
    intro v0 v1 σ h0 h H locs ls hP hS hl
    rw [wX11_nodeNamed_2] at h
    refine lv_iload_n hx hb dX11_nodeNamed_2 rfl (lv_at hl 1 rfl) ?_
    refine lv_aload_n hx hb dX11_nodeNamed_3 rfl (lv_at hl 0 rfl) ?_
    refine rk_get X hP (C := RX11) (T := TX11) (N := 44) (ci := 11) wix_11 h0 rfl rfl 16 (by decide) (wi_29 _ (List.mem_of_getElem? (i := 1) rfl)) rfl rfl dX11_nodeNamed_4 ?_
    refine lv_aload_n hx hb dX11_nodeNamed_7 rfl (lv_at hl 0 rfl) ?_
    refine rk_get X hP (C := RX11) (T := TX11) (N := 44) (ci := 11) wix_11 h0 rfl rfl 12 (by decide) (wi_32 _ (List.mem_of_getElem? (i := 2) rfl)) rfl rfl dX11_nodeNamed_8 ?_
    refine lv_topi (fun x1 ex1 => ?_)
    have h := h x1 ex1
    obtain ⟨b1, h⟩ := h
    refine rk_iald X hP (n := 2) (klM_X11_16 h0) (fun _ _ => rfl) b1 dX11_nodeNamed_11 ?_
    refine lv_icmp_ge (tgt := 45) hx hb dX11_nodeNamed_12 (by decide) (fun c1 => ?_) (fun c1 => ?_)
    · have h := h.1 c1
      refine lv_iconst (v := (-1 : Int32)) hx hb dX11_nodeNamed_45 (by decide) ?_
      exact rk_iret X rfl kM_len h hP hS dX11_nodeNamed_46
    · have h := h.2 c1
      refine lv_aload_n hx hb dX11_nodeNamed_15 rfl (lv_at hl 0 rfl) ?_
      refine rk_get X hP (C := RX11) (T := TX11) (N := 44) (ci := 11) wix_11 h0 rfl rfl 19 (by decide) (wi_29 _ (List.mem_of_getElem? (i := 5) rfl)) rfl rfl dX11_nodeNamed_16 ?_
      refine lv_bipush (v := (6 : Int32)) hx hb dX11_nodeNamed_19 (by decide) ?_
      refine lv_aload_n hx hb dX11_nodeNamed_21 rfl (lv_at hl 0 rfl) ?_
      refine rk_get X hP (C := RX11) (T := TX11) (N := 44) (ci := 11) wix_11 h0 rfl rfl 12 (by decide) (wi_32 _ (List.mem_of_getElem? (i := 2) rfl)) rfl rfl dX11_nodeNamed_22 ?_
      refine lv_imul hx hb dX11_nodeNamed_25 ?_
      refine lv_iload_n hx hb dX11_nodeNamed_26 rfl (lv_at hl 1 rfl) ?_
      refine lv_iadd hx hb dX11_nodeNamed_27 ?_
      refine lv_topi (fun x2 ex2 => ?_)
      have h := h x2 ex2
      obtain ⟨b2, h⟩ := h
      refine rk_lald X hP (n := 12) (klM_X11_19 h0) (fun _ _ => rfl) b2 dX11_nodeNamed_28 ?_
      refine lv_aload_n hx hb dX11_nodeNamed_29 rfl (lv_at hl 0 rfl) ?_
      refine rk_get X hP (C := RX11) (T := TX11) (N := 44) (ci := 11) wix_11 h0 rfl rfl 8 (by decide) (wi_30 _ (List.mem_of_getElem? (i := 17) rfl)) rfl rfl dX11_nodeNamed_30 ?_
      refine W.lcmp hx hb dX11_nodeNamed_33 ?_
      refine lv_if_ne (tgt := 39) hx hb dX11_nodeNamed_34 (by decide) (fun c2 => ?_) (fun c2 => ?_)
      · have h := h.1 c2
        obtain ⟨x3, ex3⟩ : ∃ y : Int32, y = v1 + (1 : Int32) := ⟨_, rfl⟩
        have h := h x3 ex3
        refine lv_iinc (v := x3) (lv' := [(1, .int x3), (0, .ref (B + v0))]) hx hb dX11_nodeNamed_39 hl (k := 1) rfl (by rw [ex3]; rfl) (by decide) rfl (fun ls hl => ?_)
        refine lv_goto (tgt := 2) hx hb dX11_nodeNamed_42 (by decide) ?_
        exact ih _ _ _ h0 h _ _ _ hP hS (lv_sub hl [1, 0] rfl)
      · have h := h.2 c2
        refine lv_iload_n hx hb dX11_nodeNamed_37 rfl (lv_at hl 1 rfl) ?_
        exact rk_iret X rfl kM_len h hP hS dX11_nodeNamed_38
set_option maxRecDepth 100000 in
set_option maxHeartbeats 4000000 in
theorem mX11_nodeNamed (l : Launch) (D : va_G) (cy : Nat → ClassId) (B : Nat) (v0 : Nat) (σ : St) (h0 : kM[v0]? = some 11) {post : Int32 → St → Prop} (h : wX11_nodeNamed v0 σ post) : Met l yX11_nodeNamed (Cond.code yX11_nodeNamed cX11_nodeNamed 2 (some .int) :: WALL) (rmD 0) (PcW D cy B kM σ [.ref (B + v0)]) (va_Qi post (BW D cy B kM) (AW B 26)) 0 0 (AW B 26) := by
  refine Met.ofK (cc := cX11_nodeNamed) (maxL := 2) (ret := (some .int)) (by decide +kernel) rfl kM_len ?_
  intro p e s m below meth c X hP
  obtain ⟨⟨hx, hb, hml, hown, hts⟩, hr, hlk, hK, hN, hZ⟩ := id X
  have hD : ∀ σ, va_D (AW B 26) (wW cy B kM σ) := AW_D kM_len
  have hS : va_S (AW B 26) s.heap s.heap [] := va_S.rf
  have hl := lv_entry ([.ref (B + v0)]) (n := 2) (Nat.le_of_ble_eq_true rfl)
  rw [lg_entry_eq]
  generalize (lg_sl ([.ref (B + v0)]) ++ List.replicate (2 - (lg_sl ([.ref (B + v0)])).length) Slot.unset).toArray = ls at hl ⊢
  have hl : lv_has ls 2 [(0, .ref (B + v0))] := hl
  unfold wX11_nodeNamed at h
  refine lv_iconst (v := (0 : Int32)) hx hb dX11_nodeNamed_0 (by decide) ?_
  refine lv_istore_n (lv' := [(1, .int (0 : Int32)), (0, .ref (B + v0))]) hx hb dX11_nodeNamed_1 rfl hl (by decide) rfl (fun ls hl => ?_)
  obtain ⟨j, h⟩ := h
  exact tX11_nodeNamed_2 X j _ _ _ h0 h _ _ _ hP hS (lv_sub hl [1, 0] rfl)

theorem hd_X11_newName : yX11_newName.cls = RX11 ∧ yX11_newName.cls ≠ "java/lang/invoke/MethodHandle" ∧ yX11_newName.cls ≠ "java/lang/invoke/VarHandle" ∧ (parseMethodDescriptor yX11_newName.desc).map (fun d => d.parameters.length) = some 0 := by decide +kernel
set_option maxRecDepth 100000 in
set_option maxHeartbeats 4000000 in
theorem tX11_newName_39 {p : Program} {l : Launch} {e : Env} {s : State} {m : MethodId} {av : Array Value} {below : List Frame} {meth : Method} {c : Code} {D : va_G} {cy : Nat → ClassId} {B : Nat} (X : kC p s m av meth c cX11_newName 1 (some .boolean) WALL RX11 D cy (AW B 26)) {post : Bool → St → Prop} : ∀ (v0 : Nat) (t0 : Nat) (t1 : Int32) (σ : St), kM[v0]? = some 11 → kM[t0]? = some 11 → wX11_newName_39 post v0 t0 t1 σ → ∀ (H : Heap) (locs : List Loc) (ls : Array Slot), va_P D vwCl (wW cy B kM σ) H → va_S (AW B 26) s.heap H locs → lv_has ls 1 [(0, .ref (B + v0))] → W p l e (rmD 12) s m av below meth c H locs 0 0 (MQ below (Qz post D cy B kM 26) av s 0 0 (AW B 26)) (F0 m 39 ls [.int t1, .ref (B + t0)]) := by
  obtain ⟨⟨hx, hb, hml, hown, hts⟩, hr, hlk, hK, hN, hZ⟩ := id X
  have hD : ∀ σ, va_D (AW B 26) (wW cy B kM σ) := AW_D kM_len
  intro v0 t0 t1 σ h0 g0 h H locs ls hP hS hl
  unfold wX11_newName_39 at h
  refine lv_iconst (v := (2 : Int32)) hx hb dX11_newName_39 (by decide) ?_
  refine rk_callz (va_runV (As := [.int t1, .int (2 : Int32)]) (rest := []) X.1 (mX11_must l D cy B t0 t1 (2 : Int32) σ g0 h) (cwV 2 hts (gW_V (wi_31 _ (List.mem_of_getElem? (i := 18) rfl)) (wi_31 _ (List.mem_of_getElem? (i := 19) rfl)) (wi_31 _ (List.mem_of_getElem? (i := 20) rfl)) (wi_30 _ (List.mem_of_getElem? (i := 9) rfl)) (wi_31 _ (List.mem_of_getElem? (i := 4) rfl))) rfl rfl rfl hd_X11_must ⟨Nat.le_of_ble_eq_true rfl, Nat.le_of_ble_eq_true rfl⟩) (rk_preV X hS hP g0 rfl rfl [.int t1, .int (2 : Int32)]) rfl rfl hl.1 rfl (lv_room (Nat.le_of_ble_eq_true rfl)) dX11_newName_40 ⟨Nat.zero_le _, Nat.zero_le _⟩) hS (fun _ h => h) (fun r1 s1 H locs h hP hS => ?_)
  refine lv_if_ne (tgt := 48) hx hb dX11_newName_43 (by decide) (fun c1 => ?_) (fun c1 => ?_)
  · have h := h.1 (b2i_t c1)
    refine lv_aload_n hx hb dX11_newName_48 rfl (lv_at hl 0 rfl) ?_
    refine lv_aload_n hx hb dX11_newName_49 rfl (lv_at hl 0 rfl) ?_
    refine rk_get X hP (C := RX11) (T := TX11) (N := 44) (ci := 11) wix_11 h0 rfl rfl 8 (by decide) (wi_30 _ (List.mem_of_getElem? (i := 17) rfl)) rfl rfl dX11_newName_50 ?_
    refine rk_putl X hP hD hS (C := RX11) (T := TX11) (N := 44) (ci := 11) wix_11 h0 rfl rfl tyX11 tyX11_ok nmX11 26 (by decide) (wi_32 _ (List.mem_of_getElem? (i := 5) rfl)) rfl rfl (by decide +kernel) (Nat.le_of_ble_eq_true rfl) rfl dX11_newName_53 (fun H locs hP hS => ?_)
    obtain ⟨s2, es2⟩ : ∃ z : St, z = u2 s1 v0 26 (s1.2 v0 8) := ⟨_, rfl⟩
    rw [← es2] at hP
    have h := h s2 es2
    refine lv_aload_n hx hb dX11_newName_56 rfl (lv_at hl 0 rfl) ?_
    refine rk_callv (va_runV (As := []) (rest := []) X.1 (mX11_steps l D cy B v0 s2 h0 h) (cwV 0 hts (gW_V (wi_31 _ (List.mem_of_getElem? (i := 21) rfl)) (wi_31 _ (List.mem_of_getElem? (i := 22) rfl)) (wi_31 _ (List.mem_of_getElem? (i := 23) rfl)) (wi_30 _ (List.mem_of_getElem? (i := 9) rfl)) (wi_30 _ (List.mem_of_getElem? (i := 12) rfl))) rfl rfl rfl hd_X11_steps ⟨Nat.le_of_ble_eq_true rfl, Nat.le_of_ble_eq_true rfl⟩) (rk_preV X hS hP h0 rfl rfl []) rfl rfl hl.1 rfl (lv_room (Nat.le_of_ble_eq_true rfl)) dX11_newName_57 ⟨Nat.zero_le _, Nat.zero_le _⟩) hS (fun _ h => h) (fun s3 H locs h hP hS => ?_)
    refine lv_iconst (v := (1 : Int32)) hx hb dX11_newName_60 (by decide) ?_
    exact rk_zret X kM_len true h hP hS dX11_newName_61
  · have h := h.2 (b2i_f c1)
    refine lv_iconst (v := (0 : Int32)) hx hb dX11_newName_46 (by decide) ?_
    exact rk_zret X kM_len false h hP hS dX11_newName_47
set_option maxRecDepth 100000 in
set_option maxHeartbeats 4000000 in
theorem tX11_newName_38 {p : Program} {l : Launch} {e : Env} {s : State} {m : MethodId} {av : Array Value} {below : List Frame} {meth : Method} {c : Code} {D : va_G} {cy : Nat → ClassId} {B : Nat} (X : kC p s m av meth c cX11_newName 1 (some .boolean) WALL RX11 D cy (AW B 26)) {post : Bool → St → Prop} : ∀ (v0 : Nat) (t0 : Nat) (σ : St), kM[v0]? = some 11 → kM[t0]? = some 11 → wX11_newName_38 post v0 t0 σ → ∀ (H : Heap) (locs : List Loc) (ls : Array Slot), va_P D vwCl (wW cy B kM σ) H → va_S (AW B 26) s.heap H locs → lv_has ls 1 [(0, .ref (B + v0))] → W p l e (rmD 12) s m av below meth c H locs 0 0 (MQ below (Qz post D cy B kM 26) av s 0 0 (AW B 26)) (F0 m 38 ls [.ref (B + t0)]) := by
  obtain ⟨⟨hx, hb, hml, hown, hts⟩, hr, hlk, hK, hN, hZ⟩ := id X
  have hD : ∀ σ, va_D (AW B 26) (wW cy B kM σ) := AW_D kM_len
  intro v0 t0 σ h0 g0 h H locs ls hP hS hl
  unfold wX11_newName_38 at h
  refine lv_iconst (v := (0 : Int32)) hx hb dX11_newName_38 (by decide) ?_
  exact tX11_newName_39 X _ _ _ _ h0 g0 h _ _ _ hP hS (lv_sub hl [0] rfl)
set_option maxRecDepth 100000 in
set_option maxHeartbeats 4000000 in
theorem mX11_newName (l : Launch) (D : va_G) (cy : Nat → ClassId) (B : Nat) (v0 : Nat) (σ : St) (h0 : kM[v0]? = some 11) {post : Bool → St → Prop} (h : wX11_newName v0 σ post) : Met l yX11_newName (Cond.code yX11_newName cX11_newName 1 (some .boolean) :: WALL) (rmD 12) (PcW D cy B kM σ [.ref (B + v0)]) (Qz post D cy B kM 26) 0 0 (AW B 26) := by
  refine Met.ofK (cc := cX11_newName) (maxL := 1) (ret := (some .boolean)) (by decide +kernel) rfl kM_len ?_
  intro p e s m below meth c X hP
  obtain ⟨⟨hx, hb, hml, hown, hts⟩, hr, hlk, hK, hN, hZ⟩ := id X
  have hD : ∀ σ, va_D (AW B 26) (wW cy B kM σ) := AW_D kM_len
  have hS : va_S (AW B 26) s.heap s.heap [] := va_S.rf
  have hl := lv_entry ([.ref (B + v0)]) (n := 1) (Nat.le_of_ble_eq_true rfl)
  rw [lg_entry_eq]
  generalize (lg_sl ([.ref (B + v0)]) ++ List.replicate (1 - (lg_sl ([.ref (B + v0)])).length) Slot.unset).toArray = ls at hl ⊢
  have hl : lv_has ls 1 [(0, .ref (B + v0))] := hl
  unfold wX11_newName at h
  refine lv_aload_n hx hb dX11_newName_0 rfl (lv_at hl 0 rfl) ?_
  refine lv_aload_n hx hb dX11_newName_1 rfl (lv_at hl 0 rfl) ?_
  refine rk_callz (va_runV (As := []) (rest := [.ref (B + v0)]) X.1 (mX11_isName l D cy B v0 σ h0 h) (cwV 0 hts (gW_V (wi_32 _ (List.mem_of_getElem? (i := 6) rfl)) (wi_32 _ (List.mem_of_getElem? (i := 7) rfl)) (wi_32 _ (List.mem_of_getElem? (i := 8) rfl)) (wi_30 _ (List.mem_of_getElem? (i := 9) rfl)) (wi_31 _ (List.mem_of_getElem? (i := 16) rfl))) rfl rfl rfl hd_X11_isName ⟨Nat.le_of_ble_eq_true rfl, Nat.le_of_ble_eq_true rfl⟩) (rk_preV X hS hP h0 rfl rfl []) rfl rfl hl.1 rfl (lv_room (Nat.le_of_ble_eq_true rfl)) dX11_newName_2 ⟨Nat.zero_le _, Nat.zero_le _⟩) hS (fun _ h => h) (fun r1 s1 H locs h hP hS => ?_)
  refine lv_iconst (v := (1 : Int32)) hx hb dX11_newName_5 (by decide) ?_
  refine rk_callz (va_runV (As := [.int (b2i r1), .int (1 : Int32)]) (rest := []) X.1 (mX11_must l D cy B v0 (b2i r1) (1 : Int32) s1 h0 h) (cwV 2 hts (gW_V (wi_31 _ (List.mem_of_getElem? (i := 18) rfl)) (wi_31 _ (List.mem_of_getElem? (i := 19) rfl)) (wi_31 _ (List.mem_of_getElem? (i := 20) rfl)) (wi_30 _ (List.mem_of_getElem? (i := 9) rfl)) (wi_31 _ (List.mem_of_getElem? (i := 4) rfl))) rfl rfl rfl hd_X11_must ⟨Nat.le_of_ble_eq_true rfl, Nat.le_of_ble_eq_true rfl⟩) (rk_preV X hS hP h0 rfl rfl [.int (b2i r1), .int (1 : Int32)]) rfl rfl hl.1 rfl (lv_room (Nat.le_of_ble_eq_true rfl)) dX11_newName_6 ⟨Nat.zero_le _, Nat.zero_le _⟩) hS (fun _ h => h) (fun r2 s2 H locs h hP hS => ?_)
  refine lv_if_eq (tgt := 46) hx hb dX11_newName_9 (by decide) (fun c1 => ?_) (fun c1 => ?_)
  · have h := h.1 (b2i_f c1)
    refine lv_iconst (v := (0 : Int32)) hx hb dX11_newName_46 (by decide) ?_
    exact rk_zret X kM_len false h hP hS dX11_newName_47
  · have h := h.2 (b2i_t c1)
    refine lv_aload_n hx hb dX11_newName_12 rfl (lv_at hl 0 rfl) ?_
    refine lv_aload_n hx hb dX11_newName_13 rfl (lv_at hl 0 rfl) ?_
    refine rk_calli (va_runV (As := []) (rest := [.ref (B + v0)]) X.1 (mX11_tableNamed l D cy B v0 s2 h0 h) (cwV 0 hts (gW_V (wi_32 _ (List.mem_of_getElem? (i := 9) rfl)) (wi_32 _ (List.mem_of_getElem? (i := 10) rfl)) (wi_32 _ (List.mem_of_getElem? (i := 11) rfl)) (wi_30 _ (List.mem_of_getElem? (i := 9) rfl)) (wi_32 _ (List.mem_of_getElem? (i := 1) rfl))) rfl rfl rfl hd_X11_tableNamed ⟨Nat.le_of_ble_eq_true rfl, Nat.le_of_ble_eq_true rfl⟩) (rk_preV X hS hP h0 rfl rfl []) rfl rfl hl.1 rfl (lv_room (Nat.le_of_ble_eq_true rfl)) dX11_newName_14 ⟨Nat.zero_le _, Nat.zero_le _⟩) hS (fun _ h => h) (fun r3 s3 H locs h hP hS => ?_)
    refine lv_if_ge (tgt := 38) hx hb dX11_newName_17 (by decide) (fun c2 => ?_) (fun c2 => ?_)
    · have h := h.1 c2
      exact tX11_newName_38 X _ _ _ h0 h0 h _ _ _ hP hS (lv_sub hl [0] rfl)
    · have h := h.2 c2
      refine lv_aload_n hx hb dX11_newName_20 rfl (lv_at hl 0 rfl) ?_
      refine rk_calli (va_runV (As := []) (rest := [.ref (B + v0)]) X.1 (mX11_baseNamed l D cy B v0 s3 h0 h) (cwV 0 hts (gW_V (wi_32 _ (List.mem_of_getElem? (i := 12) rfl)) (wi_32 _ (List.mem_of_getElem? (i := 13) rfl)) (wi_32 _ (List.mem_of_getElem? (i := 14) rfl)) (wi_30 _ (List.mem_of_getElem? (i := 9) rfl)) (wi_32 _ (List.mem_of_getElem? (i := 3) rfl))) rfl rfl rfl hd_X11_baseNamed ⟨Nat.le_of_ble_eq_true rfl, Nat.le_of_ble_eq_true rfl⟩) (rk_preV X hS hP h0 rfl rfl []) rfl rfl hl.1 rfl (lv_room (Nat.le_of_ble_eq_true rfl)) dX11_newName_21 ⟨Nat.zero_le _, Nat.zero_le _⟩) hS (fun _ h => h) (fun r4 s4 H locs h hP hS => ?_)
      refine lv_if_ge (tgt := 38) hx hb dX11_newName_24 (by decide) (fun c3 => ?_) (fun c3 => ?_)
      · have h := h.1 c3
        exact tX11_newName_38 X _ _ _ h0 h0 h _ _ _ hP hS (lv_sub hl [0] rfl)
      · have h := h.2 c3
        refine lv_aload_n hx hb dX11_newName_27 rfl (lv_at hl 0 rfl) ?_
        refine rk_calli (va_runV (As := []) (rest := [.ref (B + v0)]) X.1 (mX11_nodeNamed l D cy B v0 s4 h0 h) (cwV 0 hts (gW_V (wi_32 _ (List.mem_of_getElem? (i := 15) rfl)) (wi_32 _ (List.mem_of_getElem? (i := 16) rfl)) (wi_32 _ (List.mem_of_getElem? (i := 17) rfl)) (wi_30 _ (List.mem_of_getElem? (i := 9) rfl)) (wi_32 _ (List.mem_of_getElem? (i := 4) rfl))) rfl rfl rfl hd_X11_nodeNamed ⟨Nat.le_of_ble_eq_true rfl, Nat.le_of_ble_eq_true rfl⟩) (rk_preV X hS hP h0 rfl rfl []) rfl rfl hl.1 rfl (lv_room (Nat.le_of_ble_eq_true rfl)) dX11_newName_28 ⟨Nat.zero_le _, Nat.zero_le _⟩) hS (fun _ h => h) (fun r5 s5 H locs h hP hS => ?_)
        refine lv_if_ge (tgt := 38) hx hb dX11_newName_31 (by decide) (fun c4 => ?_) (fun c4 => ?_)
        · have h := h.1 c4
          exact tX11_newName_38 X _ _ _ h0 h0 h _ _ _ hP hS (lv_sub hl [0] rfl)
        · have h := h.2 c4
          refine lv_iconst (v := (1 : Int32)) hx hb dX11_newName_34 (by decide) ?_
          refine lv_goto (tgt := 39) hx hb dX11_newName_35 (by decide) ?_
          exact tX11_newName_39 X _ _ _ _ h0 h0 h _ _ _ hP hS (lv_sub hl [0] rfl)

theorem hd_X11_tableLine : yX11_tableLine.cls = RX11 ∧ yX11_tableLine.cls ≠ "java/lang/invoke/MethodHandle" ∧ yX11_tableLine.cls ≠ "java/lang/invoke/VarHandle" ∧ (parseMethodDescriptor yX11_tableLine.desc).map (fun d => d.parameters.length) = some 0 := by decide +kernel
set_option maxRecDepth 100000 in
set_option maxHeartbeats 4000000 in
theorem tX11_tableLine_56 {p : Program} {l : Launch} {e : Env} {s : State} {m : MethodId} {av : Array Value} {below : List Frame} {meth : Method} {c : Code} {D : va_G} {cy : Nat → ClassId} {B : Nat} (X : kC p s m av meth c cX11_tableLine 5 (some .boolean) WALL RX11 D cy (AW B 26)) {post : Bool → St → Prop} : ∀ (n : Nat) (v0 : Nat) (v1 : Int32) (v2 : Int64) (v4 : Int32) (σ : St), kM[v0]? = some 11 → wX11_tableLine_56 post n v0 v1 v2 v4 σ → ∀ (H : Heap) (locs : List Loc) (ls : Array Slot), va_P D vwCl (wW cy B kM σ) H → va_S (AW B 26) s.heap H locs → lv_has ls 5 [(0, .ref (B + v0)), (1, .int v1), (2, .long v2), (4, .int v4)] → W p l e (rmD 13) s m av below meth c H locs 0 0 (MQ below (Qz post D cy B kM 26) av s 0 0 (AW B 26)) (F0 m 56 ls []) := by
  obtain ⟨⟨hx, hb, hml, hown, hts⟩, hr, hlk, hK, hN, hZ⟩ := id X
  have hD : ∀ σ, va_D (AW B 26) (wW cy B kM σ) := AW_D kM_len
  intro n
  induction n with
  | zero => intro v0 v1 v2 v4 σ h0 h; exact absurd h id
  | succ n ih =>
    intro v0 v1 v2 v4 σ h0 h H locs ls hP hS hl
    rw [wX11_tableLine_56] at h
    refine lv_iload hx hb dX11_tableLine_56 (lv_at hl 3 rfl) ?_
    refine lv_iconst (v := (1 : Int32)) hx hb dX11_tableLine_58 (by decide) ?_
    refine lv_aload_n hx hb dX11_tableLine_59 rfl (lv_at hl 0 rfl) ?_
    refine rk_get X hP (C := RX11) (T := TX11) (N := 44) (ci := 11) wix_11 h0 rfl rfl 20 (by decide) (wi_29 _ (List.mem_of_getElem? (i := 6) rfl)) rfl rfl dX11_tableLine_60 ?_
    refine lv_iload_n hx hb dX11_tableLine_63 rfl (lv_at hl 1 rfl) ?_
    obtain ⟨b1, h⟩ := h
    refine rk_iald X hP (n := 16) (klM_X11_20 h0) (fun _ _ => rfl) b1 dX11_tableLine_64 ?_
    refine lv_ishl hx hb dX11_tableLine_65 ?_
    refine lv_icmp_ge (tgt := 112) hx hb dX11_tableLine_66 (by decide) (fun c1 => ?_) (fun c1 => ?_)
    · have h := h.1 c1
      refine lv_aload_n hx hb dX11_tableLine_112 rfl (lv_at hl 0 rfl) ?_
      refine rk_get X hP (C := RX11) (T := TX11) (N := 44) (ci := 11) wix_11 h0 rfl rfl 17 (by decide) (wi_29 _ (List.mem_of_getElem? (i := 3) rfl)) rfl rfl dX11_tableLine_113 ?_
      refine lv_iload_n hx hb dX11_tableLine_116 rfl (lv_at hl 1 rfl) ?_
      refine lv_lload_n hx hb dX11_tableLine_117 rfl (lv_at hl 2 rfl) ?_
      obtain ⟨b2, h⟩ := h
      refine rk_last X hP hD hS (n := 16) (klM_X11_17 h0) (fun _ _ => rfl) b2 dX11_tableLine_118 (fun H locs hP hS => ?_)
      obtain ⟨s1, es1⟩ : ∃ z : St, z = u2 σ (v0 + 6) v1.toNatClampNeg v2 := ⟨_, rfl⟩
      rw [← es1] at hP
      have h := h s1 es1
      refine lv_aload_n hx hb dX11_tableLine_119 rfl (lv_at hl 0 rfl) ?_
      refine rk_get X hP (C := RX11) (T := TX11) (N := 44) (ci := 11) wix_11 h0 rfl rfl 14 (by decide) (wi_28 _ (List.mem_of_getElem? (i := 23) rfl)) rfl rfl dX11_tableLine_120 ?_
      refine lv_aload_n hx hb dX11_tableLine_123 rfl (lv_at hl 0 rfl) ?_
      refine rk_get X hP (C := RX11) (T := TX11) (N := 44) (ci := 11) wix_11 h0 rfl rfl 12 (by decide) (wi_32 _ (List.mem_of_getElem? (i := 2) rfl)) rfl rfl dX11_tableLine_124 ?_
      refine lv_topi (fun x1 ex1 => ?_)
      have h := h x1 ex1
      refine lv_dup2_11 hx hb dX11_tableLine_127 rfl rfl ?_
      obtain ⟨b3, h⟩ := h
      refine rk_iald X hP (n := 2) (klM_X11_14 h0) (fun _ _ => rfl) b3 dX11_tableLine_128 ?_
      refine lv_iconst (v := (1 : Int32)) hx hb dX11_tableLine_129 (by decide) ?_
      refine lv_iadd hx hb dX11_tableLine_130 ?_
      obtain ⟨b4, h⟩ := h
      refine rk_iast X hP hD hS (n := 2) (klM_X11_14 h0) (fun _ _ => rfl) b4 dX11_tableLine_131 (fun H locs hP hS => ?_)
      obtain ⟨s2, es2⟩ : ∃ z : St, z = u1 s1 (v0 + 3) x1.toNatClampNeg ((s1.1 (v0 + 3) x1.toNatClampNeg) + (1 : Int32)) := ⟨_, rfl⟩
      rw [← es2] at hP
      have h := h s2 es2
      refine lv_iconst (v := (1 : Int32)) hx hb dX11_tableLine_132 (by decide) ?_
      exact rk_zret X kM_len true h hP hS dX11_tableLine_133
    · have h := h.2 c1
      refine lv_aload_n hx hb dX11_tableLine_69 rfl (lv_at hl 0 rfl) ?_
      refine lv_iconst (v := (0 : Int32)) hx hb dX11_tableLine_70 (by decide) ?_
      refine lv_aload_n hx hb dX11_tableLine_71 rfl (lv_at hl 0 rfl) ?_
      refine rk_get X hP (C := RX11) (T := TX11) (N := 44) (ci := 11) wix_11 h0 rfl rfl 13 (by decide) (wi_28 _ (List.mem_of_getElem? (i := 22) rfl)) rfl rfl dX11_tableLine_72 ?_
      refine lv_aload_n hx hb dX11_tableLine_75 rfl (lv_at hl 0 rfl) ?_
      refine rk_get X hP (C := RX11) (T := TX11) (N := 44) (ci := 11) wix_11 h0 rfl rfl 12 (by decide) (wi_32 _ (List.mem_of_getElem? (i := 2) rfl)) rfl rfl dX11_tableLine_76 ?_
      refine lv_topi (fun x2 ex2 => ?_)
      have h := h x2 ex2
      obtain ⟨b5, h⟩ := h
      refine rk_iald X hP (n := 2) (klM_X11_13 h0) (fun _ _ => rfl) b5 dX11_tableLine_79 ?_
      refine lv_iconst (v := (1 : Int32)) hx hb dX11_tableLine_80 (by decide) ?_
      refine lv_isub hx hb dX11_tableLine_81 ?_
      refine rk_callz (va_runV (As := [.int (0 : Int32), .int ((σ.1 (v0 + 2) x2.toNatClampNeg) - (1 : Int32))]) (rest := []) X.1 (mX11_takesNumber l D cy B v0 (0 : Int32) ((σ.1 (v0 + 2) x2.toNatClampNeg) - (1 : Int32)) σ h0 h) (cwV 2 hts (gW_V (wi_32 _ (List.mem_of_getElem? (i := 22) rfl)) (wi_32 _ (List.mem_of_getElem? (i := 23) rfl)) (wi_33 _ (List.mem_of_getElem? (i := 0) rfl)) (wi_30 _ (List.mem_of_getElem? (i := 9) rfl)) (wi_32 _ (List.mem_of_getElem? (i := 0) rfl))) rfl rfl rfl hd_X11_takesNumber ⟨Nat.le_of_ble_eq_true rfl, Nat.le_of_ble_eq_true rfl⟩) (rk_preV X hS hP h0 rfl rfl [.int (0 : Int32), .int ((σ.1 (v0 + 2) x2.toNatClampNeg) - (1 : Int32))]) rfl rfl hl.1 rfl (lv_room (Nat.le_of_ble_eq_true rfl)) dX11_tableLine_82 ⟨Nat.zero_le _, Nat.zero_le _⟩) hS (fun _ h => h) (fun r1 s3 H locs h hP hS => ?_)
      refine lv_if_ne (tgt := 90) hx hb dX11_tableLine_85 (by decide) (fun c2 => ?_) (fun c2 => ?_)
      · have h := h.1 (b2i_t c2)
        refine lv_aload_n hx hb dX11_tableLine_90 rfl (lv_at hl 0 rfl) ?_
        refine rk_get X hP (C := RX11) (T := TX11) (N := 44) (ci := 11) wix_11 h0 rfl rfl 21 (by decide) (wi_29 _ (List.mem_of_getElem? (i := 7) rfl)) rfl rfl dX11_tableLine_91 ?_
        refine lv_bipush (v := (16 : Int32)) hx hb dX11_tableLine_94 (by decide) ?_
        refine lv_iload_n hx hb dX11_tableLine_96 rfl (lv_at hl 1 rfl) ?_
        refine lv_imul hx hb dX11_tableLine_97 ?_
        refine lv_iload hx hb dX11_tableLine_98 (lv_at hl 3 rfl) ?_
        refine lv_iadd hx hb dX11_tableLine_100 ?_
        refine lv_aload_n hx hb dX11_tableLine_101 rfl (lv_at hl 0 rfl) ?_
        refine rk_get X hP (C := RX11) (T := TX11) (N := 44) (ci := 11) wix_11 h0 rfl rfl 11 (by decide) (wi_31 _ (List.mem_of_getElem? (i := 17) rfl)) rfl rfl dX11_tableLine_102 ?_
        obtain ⟨b6, h⟩ := h
        refine rk_iast X hP hD hS (n := 256) (klM_X11_21 h0) (fun _ _ => rfl) b6 dX11_tableLine_105 (fun H locs hP hS => ?_)
        obtain ⟨s4, es4⟩ : ∃ z : St, z = u1 s3 (v0 + 10) (((16 : Int32) * v1) + v4).toNatClampNeg (s3.1 v0 11) := ⟨_, rfl⟩
        rw [← es4] at hP
        have h := h s4 es4
        obtain ⟨x3, ex3⟩ : ∃ y : Int32, y = v4 + (1 : Int32) := ⟨_, rfl⟩
        have h := h x3 ex3
        refine lv_iinc (v := x3) (lv' := [(4, .int x3), (0, .ref (B + v0)), (1, .int v1), (2, .long v2)]) hx hb dX11_tableLine_106 hl (k := 3) rfl (by rw [ex3]; rfl) (by decide) rfl (fun ls hl => ?_)
        refine lv_goto (tgt := 56) hx hb dX11_tableLine_109 (by decide) ?_
        exact ih _ _ _ _ _ h0 h _ _ _ hP hS (lv_sub hl [1, 2, 3, 0] rfl)
      · have h := h.2 (b2i_f c2)
        refine lv_iconst (v := (0 : Int32)) hx hb dX11_tableLine_88 (by decide) ?_
        exact rk_zret X kM_len false h hP hS dX11_tableLine_89
set_option maxRecDepth 100000 in
set_option maxHeartbeats 4000000 in
theorem mX11_tableLine (l : Launch) (D : va_G) (cy : Nat → ClassId) (B : Nat) (v0 : Nat) (σ : St) (h0 : kM[v0]? = some 11) {post : Bool → St → Prop} (h : wX11_tableLine v0 σ post) : Met l yX11_tableLine (Cond.code yX11_tableLine cX11_tableLine 5 (some .boolean) :: WALL) (rmD 13) (PcW D cy B kM σ [.ref (B + v0)]) (Qz post D cy B kM 26) 0 0 (AW B 26) := by
  refine Met.ofK (cc := cX11_tableLine) (maxL := 5) (ret := (some .boolean)) (by decide +kernel) rfl kM_len ?_
  intro p e s m below meth c X hP
  obtain ⟨⟨hx, hb, hml, hown, hts⟩, hr, hlk, hK, hN, hZ⟩ := id X
  have hD : ∀ σ, va_D (AW B 26) (wW cy B kM σ) := AW_D kM_len
  have hS : va_S (AW B 26) s.heap s.heap [] := va_S.rf
  have hl := lv_entry ([.ref (B + v0)]) (n := 5) (Nat.le_of_ble_eq_true rfl)
  rw [lg_entry_eq]
  generalize (lg_sl ([.ref (B + v0)]) ++ List.replicate (5 - (lg_sl ([.ref (B + v0)])).length) Slot.unset).toArray = ls at hl ⊢
  have hl : lv_has ls 5 [(0, .ref (B + v0))] := hl
  unfold wX11_tableLine at h
  refine lv_aload_n hx hb dX11_tableLine_0 rfl (lv_at hl 0 rfl) ?_
  refine rk_callz (va_runV (As := []) (rest := []) X.1 (mX11_newName l D cy B v0 σ h0 h) (cwV 0 hts (gW_V (wi_32 _ (List.mem_of_getElem? (i := 19) rfl)) (wi_32 _ (List.mem_of_getElem? (i := 20) rfl)) (wi_32 _ (List.mem_of_getElem? (i := 21) rfl)) (wi_30 _ (List.mem_of_getElem? (i := 9) rfl)) (wi_32 _ (List.mem_of_getElem? (i := 18) rfl))) rfl rfl rfl hd_X11_newName ⟨Nat.le_of_ble_eq_true rfl, Nat.le_of_ble_eq_true rfl⟩) (rk_preV X hS hP h0 rfl rfl []) rfl rfl hl.1 rfl (lv_room (Nat.le_of_ble_eq_true rfl)) dX11_tableLine_1 ⟨Nat.zero_le _, Nat.zero_le _⟩) hS (fun _ h => h) (fun r1 s1 H locs h hP hS => ?_)
  refine lv_if_ne (tgt := 9) hx hb dX11_tableLine_4 (by decide) (fun c1 => ?_) (fun c1 => ?_)
  · have h := h.1 (b2i_t c1)
    refine lv_bipush (v := (8 : Int32)) hx hb dX11_tableLine_9 (by decide) ?_
    refine lv_aload_n hx hb dX11_tableLine_11 rfl (lv_at hl 0 rfl) ?_
    refine rk_get X hP (C := RX11) (T := TX11) (N := 44) (ci := 11) wix_11 h0 rfl rfl 12 (by decide) (wi_32 _ (List.mem_of_getElem? (i := 2) rfl)) rfl rfl dX11_tableLine_12 ?_
    refine lv_imul hx hb dX11_tableLine_15 ?_
    refine lv_aload_n hx hb dX11_tableLine_16 rfl (lv_at hl 0 rfl) ?_
    refine rk_get X hP (C := RX11) (T := TX11) (N := 44) (ci := 11) wix_11 h0 rfl rfl 14 (by decide) (wi_28 _ (List.mem_of_getElem? (i := 23) rfl)) rfl rfl dX11_tableLine_17 ?_
    refine lv_aload_n hx hb dX11_tableLine_20 rfl (lv_at hl 0 rfl) ?_
    refine rk_get X hP (C := RX11) (T := TX11) (N := 44) (ci := 11) wix_11 h0 rfl rfl 12 (by decide) (wi_32 _ (List.mem_of_getElem? (i := 2) rfl)) rfl rfl dX11_tableLine_21 ?_
    refine lv_topi (fun x1 ex1 => ?_)
    have h := h x1 ex1
    obtain ⟨b1, h⟩ := h
    refine rk_iald X hP (n := 2) (klM_X11_14 h0) (fun _ _ => rfl) b1 dX11_tableLine_24 ?_
    refine lv_iadd hx hb dX11_tableLine_25 ?_
    refine lv_topi (fun x2 ex2 => ?_)
    have h := h x2 ex2
    refine lv_istore_n (lv' := [(1, .int x2), (0, .ref (B + v0))]) hx hb dX11_tableLine_26 rfl hl (by decide) rfl (fun ls hl => ?_)
    refine lv_aload_n hx hb dX11_tableLine_27 rfl (lv_at hl 1 rfl) ?_
    refine rk_get X hP (C := RX11) (T := TX11) (N := 44) (ci := 11) wix_11 h0 rfl rfl 26 (by decide) (wi_32 _ (List.mem_of_getElem? (i := 5) rfl)) rfl rfl dX11_tableLine_28 ?_
    refine lv_topl (fun x3 ex3 => ?_)
    have h := h x3 ex3
    refine lv_lstore_n (lv' := [(2, .long x3), (1, .int x2), (0, .ref (B + v0))]) hx hb dX11_tableLine_31 rfl hl (by decide) rfl (fun ls hl => ?_)
    refine lv_aload_n hx hb dX11_tableLine_32 rfl (lv_at hl 2 rfl) ?_
    refine lv_iconst (v := (1 : Int32)) hx hb dX11_tableLine_33 (by decide) ?_
    refine lv_iconst (v := (4 : Int32)) hx hb dX11_tableLine_34 (by decide) ?_
    refine rk_callz (va_runV (As := [.int (1 : Int32), .int (4 : Int32)]) (rest := []) X.1 (mX11_takesNumber l D cy B v0 (1 : Int32) (4 : Int32) s1 h0 h) (cwV 2 hts (gW_V (wi_32 _ (List.mem_of_getElem? (i := 22) rfl)) (wi_32 _ (List.mem_of_getElem? (i := 23) rfl)) (wi_33 _ (List.mem_of_getElem? (i := 0) rfl)) (wi_30 _ (List.mem_of_getElem? (i := 9) rfl)) (wi_32 _ (List.mem_of_getElem? (i := 0) rfl))) rfl rfl rfl hd_X11_takesNumber ⟨Nat.le_of_ble_eq_true rfl, Nat.le_of_ble_eq_true rfl⟩) (rk_preV X hS hP h0 rfl rfl [.int (1 : Int32), .int (4 : Int32)]) rfl rfl hl.1 rfl (lv_room (Nat.le_of_ble_eq_true rfl)) dX11_tableLine_35 ⟨Nat.zero_le _, Nat.zero_le _⟩) hS (fun _ h => h) (fun r2 s2 H locs h hP hS => ?_)
    refine lv_if_ne (tgt := 43) hx hb dX11_tableLine_38 (by decide) (fun c2 => ?_) (fun c2 => ?_)
    · have h := h.1 (b2i_t c2)
      refine lv_aload_n hx hb dX11_tableLine_43 rfl (lv_at hl 2 rfl) ?_
      refine rk_get X hP (C := RX11) (T := TX11) (N := 44) (ci := 11) wix_11 h0 rfl rfl 20 (by decide) (wi_29 _ (List.mem_of_getElem? (i := 6) rfl)) rfl rfl dX11_tableLine_44 ?_
      refine lv_iload_n hx hb dX11_tableLine_47 rfl (lv_at hl 1 rfl) ?_
      refine lv_aload_n hx hb dX11_tableLine_48 rfl (lv_at hl 2 rfl) ?_
      refine rk_get X hP (C := RX11) (T := TX11) (N := 44) (ci := 11) wix_11 h0 rfl rfl 11 (by decide) (wi_31 _ (List.mem_of_getElem? (i := 17) rfl)) rfl rfl dX11_tableLine_49 ?_
      obtain ⟨b2, h⟩ := h
      refine rk_iast X hP hD hS (n := 16) (klM_X11_20 h0) (fun _ _ => rfl) b2 dX11_tableLine_52 (fun H locs hP hS => ?_)
      obtain ⟨s3, es3⟩ : ∃ z : St, z = u1 s2 (v0 + 9) x2.toNatClampNeg (s2.1 v0 11) := ⟨_, rfl⟩
      rw [← es3] at hP
      have h := h s3 es3
      refine lv_iconst (v := (0 : Int32)) hx hb dX11_tableLine_53 (by decide) ?_
      refine lv_istore (lv' := [(4, .int (0 : Int32)), (2, .long x3), (1, .int x2), (0, .ref (B + v0))]) hx hb dX11_tableLine_54 hl (by decide) rfl (fun ls hl => ?_)
      obtain ⟨j, h⟩ := h
      exact tX11_tableLine_56 X j _ _ _ _ _ h0 h _ _ _ hP hS (lv_sub hl [3, 2, 1, 0] rfl)
    · have h := h.2 (b2i_f c2)
      refine lv_iconst (v := (0 : Int32)) hx hb dX11_tableLine_41 (by decide) ?_
      exact rk_zret X kM_len false h hP hS dX11_tableLine_42
  · have h := h.2 (b2i_f c1)
    refine lv_iconst (v := (0 : Int32)) hx hb dX11_tableLine_7 (by decide) ?_
    exact rk_zret X kM_len false h hP hS dX11_tableLine_8

theorem hd_X11_laysMatchings : yX11_laysMatchings.cls = RX11 ∧ yX11_laysMatchings.cls ≠ "java/lang/invoke/MethodHandle" ∧ yX11_laysMatchings.cls ≠ "java/lang/invoke/VarHandle" ∧ (parseMethodDescriptor yX11_laysMatchings.desc).map (fun d => d.parameters.length) = some 2 := by decide +kernel
set_option maxRecDepth 100000 in
set_option maxHeartbeats 4000000 in
theorem tX11_laysMatchings_43 {p : Program} {l : Launch} {e : Env} {s : State} {m : MethodId} {av : Array Value} {below : List Frame} {meth : Method} {c : Code} {D : va_G} {cy : Nat → ClassId} {B : Nat} (X : kC p s m av meth c cX11_laysMatchings 7 none WALL RX11 D cy (AW B 26)) {post : St → Prop} {R9 : Nat → Int32 → Int32 → Int32 → St → Prop} (hR9 : ∀ (v0 : Nat) (v1 : Int32) (v2 : Int32) (v3 : Int32) (σ : St), kM[v0]? = some 11 → R9 v0 v1 v2 v3 σ → ∀ (H : Heap) (locs : List Loc) (ls : Array Slot), va_P D vwCl (wW cy B kM σ) H → va_S (AW B 26) s.heap H locs → lv_has ls 7 [(0, .ref (B + v0)), (1, .int v1), (2, .int v2), (3, .int v3)] → W p l e (rmD 0) s m av below meth c H locs 0 0 (MQ below (va_Qv post (BW D cy B kM) (AW B 26)) av s 0 0 (AW B 26)) (F0 m 9 ls [])) : ∀ (n : Nat) (v0 : Nat) (v1 : Int32) (v2 : Int32) (v3 : Int32) (v4 : Int32) (v5 : Int32) (v6 : Int32) (σ : St), kM[v0]? = some 11 → wX11_laysMatchings_43 post R9 n v0 v1 v2 v3 v4 v5 v6 σ → ∀ (H : Heap) (locs : List Loc) (ls : Array Slot), va_P D vwCl (wW cy B kM σ) H → va_S (AW B 26) s.heap H locs → lv_has ls 7 [(0, .ref (B + v0)), (1, .int v1), (2, .int v2), (3, .int v3), (4, .int v4), (5, .int v5), (6, .int v6)] → W p l e (rmD 0) s m av below meth c H locs 0 0 (MQ below (va_Qv post (BW D cy B kM) (AW B 26)) av s 0 0 (AW B 26)) (F0 m 43 ls []) := by
  obtain ⟨⟨hx, hb, hml, hown, hts⟩, hr, hlk, hK, hN, hZ⟩ := id X
  have hD : ∀ σ, va_D (AW B 26) (wW cy B kM σ) := AW_D kM_len
  intro n
  induction n with
  | zero => intro v0 v1 v2 v3 v4 v5 v6 σ h0 h; exact absurd h id
  | succ n ih =>
    intro v0 v1 v2 v3 v4 v5 v6 σ h0 h H locs ls hP hS hl
    rw [wX11_laysMatchings_43] at h
    refine lv_iload hx hb dX11_laysMatchings_43 (lv_at hl 6 rfl) ?_
    refine lv_iload_n hx hb dX11_laysMatchings_45 rfl (lv_at hl 1 rfl) ?_
    refine lv_icmp_ge (tgt := 122) hx hb dX11_laysMatchings_46 (by decide) (fun c1 => ?_) (fun c1 => ?_)
    · have h := h.1 c1
      refine lv_aload_n hx hb dX11_laysMatchings_122 rfl (lv_at hl 0 rfl) ?_
      refine rk_get X hP (C := RX11) (T := TX11) (N := 44) (ci := 11) wix_11 h0 rfl rfl 28 (by decide) (wi_29 _ (List.mem_of_getElem? (i := 12) rfl)) rfl rfl dX11_laysMatchings_123 ?_
      refine lv_iload_n hx hb dX11_laysMatchings_126 rfl (lv_at hl 3 rfl) ?_
      refine lv_iload hx hb dX11_laysMatchings_127 (lv_at hl 5 rfl) ?_
      refine lv_iload_n hx hb dX11_laysMatchings_129 rfl (lv_at hl 2 rfl) ?_
      obtain ⟨z1, h⟩ := h
      refine lv_irem hx hb dX11_laysMatchings_130 z1 ?_
      obtain ⟨b1, h⟩ := h
      refine rk_iast X hP hD hS (n := 256) (klM_X11_28 h0) (fun _ _ => rfl) b1 dX11_laysMatchings_131 (fun H locs hP hS => ?_)
      obtain ⟨s1, es1⟩ : ∃ z : St, z = u1 σ (v0 + 15) v3.toNatClampNeg (v5 - v5 / v2 * v2) := ⟨_, rfl⟩
      rw [← es1] at hP
      have h := h s1 es1
      obtain ⟨x1, ex1⟩ : ∃ y : Int32, y = v3 + (1 : Int32) := ⟨_, rfl⟩
      have h := h x1 ex1
      refine lv_iinc (v := x1) (lv' := [(3, .int x1), (0, .ref (B + v0)), (1, .int v1), (2, .int v2), (4, .int v4), (5, .int v5), (6, .int v6)]) hx hb dX11_laysMatchings_132 hl (k := 3) rfl (by rw [ex1]; rfl) (by decide) rfl (fun ls hl => ?_)
      refine lv_goto (tgt := 9) hx hb dX11_laysMatchings_135 (by decide) ?_
      exact hR9 _ _ _ _ _ h0 h _ _ _ hP hS (lv_sub hl [1, 2, 3, 0] rfl)
    · have h := h.2 c1
      refine lv_iload_n hx hb dX11_laysMatchings_49 rfl (lv_at hl 3 rfl) ?_
      refine lv_iload hx hb dX11_laysMatchings_50 (lv_at hl 6 rfl) ?_
      refine lv_ishr hx hb dX11_laysMatchings_52 ?_
      refine lv_iconst (v := (1 : Int32)) hx hb dX11_laysMatchings_53 (by decide) ?_
      refine lv_iand hx hb dX11_laysMatchings_54 ?_
      refine lv_if_eq (tgt := 116) hx hb dX11_laysMatchings_55 (by decide) (fun c2 => ?_) (fun c2 => ?_)
      · have h := h.1 c2
        obtain ⟨x2, ex2⟩ : ∃ y : Int32, y = v6 + (1 : Int32) := ⟨_, rfl⟩
        have h := h x2 ex2
        refine lv_iinc (v := x2) (lv' := [(6, .int x2), (0, .ref (B + v0)), (1, .int v1), (2, .int v2), (3, .int v3), (4, .int v4), (5, .int v5)]) hx hb dX11_laysMatchings_116 hl (k := 6) rfl (by rw [ex2]; rfl) (by decide) rfl (fun ls hl => ?_)
        refine lv_goto (tgt := 43) hx hb dX11_laysMatchings_119 (by decide) ?_
        exact ih _ _ _ _ _ _ _ _ h0 h _ _ _ hP hS (lv_sub hl [1, 2, 3, 4, 5, 6, 0] rfl)
      · have h := h.2 c2
        refine lv_aload_n hx hb dX11_laysMatchings_58 rfl (lv_at hl 0 rfl) ?_
        refine rk_get X hP (C := RX11) (T := TX11) (N := 44) (ci := 11) wix_11 h0 rfl rfl 27 (by decide) (wi_29 _ (List.mem_of_getElem? (i := 11) rfl)) rfl rfl dX11_laysMatchings_59 ?_
        refine lv_bipush (v := (8 : Int32)) hx hb dX11_laysMatchings_62 (by decide) ?_
        refine lv_iload hx hb dX11_laysMatchings_64 (lv_at hl 4 rfl) ?_
        refine lv_imul hx hb dX11_laysMatchings_66 ?_
        refine lv_iload hx hb dX11_laysMatchings_67 (lv_at hl 6 rfl) ?_
        refine lv_iadd hx hb dX11_laysMatchings_69 ?_
        refine lv_topi (fun x3 ex3 => ?_)
        have h := h x3 ex3
        obtain ⟨b2, h⟩ := h
        refine rk_iald X hP (n := 64) (klM_X11_27 h0) (fun _ _ => rfl) b2 dX11_laysMatchings_70 ?_
        refine lv_if_ne (tgt := 77) hx hb dX11_laysMatchings_71 (by decide) (fun c3 => ?_) (fun c3 => ?_)
        · have h := h.1 c3
          refine lv_iload hx hb dX11_laysMatchings_77 (lv_at hl 5 rfl) ?_
          refine lv_aload_n hx hb dX11_laysMatchings_79 rfl (lv_at hl 0 rfl) ?_
          refine rk_get X hP (C := RX11) (T := TX11) (N := 44) (ci := 11) wix_11 h0 rfl rfl 27 (by decide) (wi_29 _ (List.mem_of_getElem? (i := 11) rfl)) rfl rfl dX11_laysMatchings_80 ?_
          refine lv_bipush (v := (8 : Int32)) hx hb dX11_laysMatchings_83 (by decide) ?_
          refine lv_iload hx hb dX11_laysMatchings_85 (lv_at hl 4 rfl) ?_
          refine lv_imul hx hb dX11_laysMatchings_87 ?_
          refine lv_iload hx hb dX11_laysMatchings_88 (lv_at hl 6 rfl) ?_
          refine lv_iadd hx hb dX11_laysMatchings_90 ?_
          refine lv_topi (fun x4 ex4 => ?_)
          have h := h x4 ex4
          obtain ⟨b3, h⟩ := h
          refine rk_iald X hP (n := 64) (klM_X11_27 h0) (fun _ _ => rfl) b3 dX11_laysMatchings_91 ?_
          refine lv_aload_n hx hb dX11_laysMatchings_92 rfl (lv_at hl 0 rfl) ?_
          refine rk_get X hP (C := RX11) (T := TX11) (N := 44) (ci := 11) wix_11 h0 rfl rfl 28 (by decide) (wi_29 _ (List.mem_of_getElem? (i := 12) rfl)) rfl rfl dX11_laysMatchings_93 ?_
          refine lv_iload_n hx hb dX11_laysMatchings_96 rfl (lv_at hl 3 rfl) ?_
          refine lv_iconst (v := (1 : Int32)) hx hb dX11_laysMatchings_97 (by decide) ?_
          refine lv_iload hx hb dX11_laysMatchings_98 (lv_at hl 4 rfl) ?_
          refine lv_ishl hx hb dX11_laysMatchings_100 ?_
          refine lv_iconst (v := (-1 : Int32)) hx hb dX11_laysMatchings_101 (by decide) ?_
          refine lv_ixor hx hb dX11_laysMatchings_102 ?_
          refine lv_iand hx hb dX11_laysMatchings_103 ?_
          refine lv_iconst (v := (1 : Int32)) hx hb dX11_laysMatchings_104 (by decide) ?_
          refine lv_iload hx hb dX11_laysMatchings_105 (lv_at hl 6 rfl) ?_
          refine lv_ishl hx hb dX11_laysMatchings_107 ?_
          refine lv_iconst (v := (-1 : Int32)) hx hb dX11_laysMatchings_108 (by decide) ?_
          refine lv_ixor hx hb dX11_laysMatchings_109 ?_
          refine lv_iand hx hb dX11_laysMatchings_110 ?_
          refine lv_topi (fun x5 ex5 => ?_)
          have h := h x5 ex5
          obtain ⟨b4, h⟩ := h
          refine rk_iald X hP (n := 256) (klM_X11_28 h0) (fun _ _ => rfl) b4 dX11_laysMatchings_111 ?_
          refine lv_imul hx hb dX11_laysMatchings_112 ?_
          refine lv_iadd hx hb dX11_laysMatchings_113 ?_
          refine lv_topi (fun x6 ex6 => ?_)
          have h := h x6 ex6
          refine lv_istore (lv' := [(5, .int x6), (0, .ref (B + v0)), (1, .int v1), (2, .int v2), (3, .int v3), (4, .int v4), (6, .int v6)]) hx hb dX11_laysMatchings_114 hl (by decide) rfl (fun ls hl => ?_)
          obtain ⟨x7, ex7⟩ : ∃ y : Int32, y = v6 + (1 : Int32) := ⟨_, rfl⟩
          have h := h x7 ex7
          refine lv_iinc (v := x7) (lv' := [(6, .int x7), (5, .int x6), (0, .ref (B + v0)), (1, .int v1), (2, .int v2), (3, .int v3), (4, .int v4)]) hx hb dX11_laysMatchings_116 hl (k := 6) rfl (by rw [ex7]; rfl) (by decide) rfl (fun ls hl => ?_)
          refine lv_goto (tgt := 43) hx hb dX11_laysMatchings_119 (by decide) ?_
          exact ih _ _ _ _ _ _ _ _ h0 h _ _ _ hP hS (lv_sub hl [2, 3, 4, 5, 6, 1, 0] rfl)
        · have h := h.2 c3
          refine lv_goto (tgt := 116) hx hb dX11_laysMatchings_74 (by decide) ?_
          obtain ⟨x8, ex8⟩ : ∃ y : Int32, y = v6 + (1 : Int32) := ⟨_, rfl⟩
          have h := h x8 ex8
          refine lv_iinc (v := x8) (lv' := [(6, .int x8), (0, .ref (B + v0)), (1, .int v1), (2, .int v2), (3, .int v3), (4, .int v4), (5, .int v5)]) hx hb dX11_laysMatchings_116 hl (k := 6) rfl (by rw [ex8]; rfl) (by decide) rfl (fun ls hl => ?_)
          refine lv_goto (tgt := 43) hx hb dX11_laysMatchings_119 (by decide) ?_
          exact ih _ _ _ _ _ _ _ _ h0 h _ _ _ hP hS (lv_sub hl [1, 2, 3, 4, 5, 6, 0] rfl)
set_option maxRecDepth 100000 in
set_option maxHeartbeats 4000000 in
theorem tX11_laysMatchings_19 {p : Program} {l : Launch} {e : Env} {s : State} {m : MethodId} {av : Array Value} {below : List Frame} {meth : Method} {c : Code} {D : va_G} {cy : Nat → ClassId} {B : Nat} (X : kC p s m av meth c cX11_laysMatchings 7 none WALL RX11 D cy (AW B 26)) {post : St → Prop} {R9 : Nat → Int32 → Int32 → Int32 → St → Prop} (hR9 : ∀ (v0 : Nat) (v1 : Int32) (v2 : Int32) (v3 : Int32) (σ : St), kM[v0]? = some 11 → R9 v0 v1 v2 v3 σ → ∀ (H : Heap) (locs : List Loc) (ls : Array Slot), va_P D vwCl (wW cy B kM σ) H → va_S (AW B 26) s.heap H locs → lv_has ls 7 [(0, .ref (B + v0)), (1, .int v1), (2, .int v2), (3, .int v3)] → W p l e (rmD 0) s m av below meth c H locs 0 0 (MQ below (va_Qv post (BW D cy B kM) (AW B 26)) av s 0 0 (AW B 26)) (F0 m 9 ls [])) : ∀ (n : Nat) (v0 : Nat) (v1 : Int32) (v2 : Int32) (v3 : Int32) (v4 : Int32) (σ : St), kM[v0]? = some 11 → wX11_laysMatchings_19 post R9 n v0 v1 v2 v3 v4 σ → ∀ (H : Heap) (locs : List Loc) (ls : Array Slot), va_P D vwCl (wW cy B kM σ) H → va_S (AW B 26) s.heap H locs → lv_has ls 7 [(0, .ref (B + v0)), (1, .int v1), (2, .int v2), (3, .int v3), (4, .int v4)] → W p l e (rmD 0) s m av below meth c H locs 0 0 (MQ below (va_Qv post (BW D cy B kM) (AW B 26)) av s 0 0 (AW B 26)) (F0 m 19 ls []) := by
  obtain ⟨⟨hx, hb, hml, hown, hts⟩, hr, hlk, hK, hN, hZ⟩ := id X
  have hD : ∀ σ, va_D (AW B 26) (wW cy B kM σ) := AW_D kM_len
  intro n
  induction n with
  | zero => intro v0 v1 v2 v3 v4 σ h0 h; exact absurd h id
  | succ n ih =>
    intro v0 v1 v2 v3 v4 σ h0 h H locs ls hP hS hl
    rw [wX11_laysMatchings_19] at h
    refine lv_iload_n hx hb dX11_laysMatchings_19 rfl (lv_at hl 3 rfl) ?_
    refine lv_iload hx hb dX11_laysMatchings_20 (lv_at hl 4 rfl) ?_
    refine lv_ishr hx hb dX11_laysMatchings_22 ?_
    refine lv_iconst (v := (1 : Int32)) hx hb dX11_laysMatchings_23 (by decide) ?_
    refine lv_iand hx hb dX11_laysMatchings_24 ?_
    refine lv_if_ne (tgt := 34) hx hb dX11_laysMatchings_25 (by decide) (fun c1 => ?_) (fun c1 => ?_)
    · have h := h.1 c1
      refine lv_iconst (v := (0 : Int32)) hx hb dX11_laysMatchings_34 (by decide) ?_
      refine lv_istore (lv' := [(5, .int (0 : Int32)), (0, .ref (B + v0)), (1, .int v1), (2, .int v2), (3, .int v3), (4, .int v4)]) hx hb dX11_laysMatchings_35 hl (by decide) rfl (fun ls hl => ?_)
      refine lv_iload hx hb dX11_laysMatchings_37 (lv_at hl 5 rfl) ?_
      refine lv_iconst (v := (1 : Int32)) hx hb dX11_laysMatchings_39 (by decide) ?_
      refine lv_iadd hx hb dX11_laysMatchings_40 ?_
      refine lv_topi (fun x1 ex1 => ?_)
      have h := h x1 ex1
      refine lv_istore (lv' := [(6, .int x1), (5, .int (0 : Int32)), (0, .ref (B + v0)), (1, .int v1), (2, .int v2), (3, .int v3), (4, .int v4)]) hx hb dX11_laysMatchings_41 hl (by decide) rfl (fun ls hl => ?_)
      obtain ⟨j, h⟩ := h
      exact tX11_laysMatchings_43 X hR9 j _ _ _ _ _ _ _ _ h0 h _ _ _ hP hS (lv_sub hl [2, 3, 4, 5, 6, 1, 0] rfl)
    · have h := h.2 c1
      obtain ⟨x2, ex2⟩ : ∃ y : Int32, y = v4 + (1 : Int32) := ⟨_, rfl⟩
      have h := h x2 ex2
      refine lv_iinc (v := x2) (lv' := [(4, .int x2), (0, .ref (B + v0)), (1, .int v1), (2, .int v2), (3, .int v3)]) hx hb dX11_laysMatchings_28 hl (k := 4) rfl (by rw [ex2]; rfl) (by decide) rfl (fun ls hl => ?_)
      refine lv_goto (tgt := 19) hx hb dX11_laysMatchings_31 (by decide) ?_
      exact ih _ _ _ _ _ _ h0 h _ _ _ hP hS (lv_sub hl [1, 2, 3, 4, 0] rfl)
set_option maxRecDepth 100000 in
set_option maxHeartbeats 4000000 in
theorem tX11_laysMatchings_9 {p : Program} {l : Launch} {e : Env} {s : State} {m : MethodId} {av : Array Value} {below : List Frame} {meth : Method} {c : Code} {D : va_G} {cy : Nat → ClassId} {B : Nat} (X : kC p s m av meth c cX11_laysMatchings 7 none WALL RX11 D cy (AW B 26)) {post : St → Prop} : ∀ (n : Nat) (v0 : Nat) (v1 : Int32) (v2 : Int32) (v3 : Int32) (σ : St), kM[v0]? = some 11 → wX11_laysMatchings_9 post n v0 v1 v2 v3 σ → ∀ (H : Heap) (locs : List Loc) (ls : Array Slot), va_P D vwCl (wW cy B kM σ) H → va_S (AW B 26) s.heap H locs → lv_has ls 7 [(0, .ref (B + v0)), (1, .int v1), (2, .int v2), (3, .int v3)] → W p l e (rmD 0) s m av below meth c H locs 0 0 (MQ below (va_Qv post (BW D cy B kM) (AW B 26)) av s 0 0 (AW B 26)) (F0 m 9 ls []) := by
  obtain ⟨⟨hx, hb, hml, hown, hts⟩, hr, hlk, hK, hN, hZ⟩ := id X
  have hD : ∀ σ, va_D (AW B 26) (wW cy B kM σ) := AW_D kM_len
  intro n
  induction n with
  | zero => intro v0 v1 v2 v3 σ h0 h; exact absurd h id
  | succ n ih =>
    intro v0 v1 v2 v3 σ h0 h H locs ls hP hS hl
    rw [wX11_laysMatchings_9] at h
    refine lv_iload_n hx hb dX11_laysMatchings_9 rfl (lv_at hl 3 rfl) ?_
    refine lv_iconst (v := (1 : Int32)) hx hb dX11_laysMatchings_10 (by decide) ?_
    refine lv_iload_n hx hb dX11_laysMatchings_11 rfl (lv_at hl 1 rfl) ?_
    refine lv_ishl hx hb dX11_laysMatchings_12 ?_
    refine lv_icmp_ge (tgt := 138) hx hb dX11_laysMatchings_13 (by decide) (fun c1 => ?_) (fun c1 => ?_)
    · have h := h.1 c1
      exact rk_vret X kM_len h hP hS dX11_laysMatchings_138
    · have h := h.2 c1
      refine lv_iconst (v := (0 : Int32)) hx hb dX11_laysMatchings_16 (by decide) ?_
      refine lv_istore (lv' := [(4, .int (0 : Int32)), (0, .ref (B + v0)), (1, .int v1), (2, .int v2), (3, .int v3)]) hx hb dX11_laysMatchings_17 hl (by decide) rfl (fun ls hl => ?_)
      obtain ⟨j, h⟩ := h
      exact tX11_laysMatchings_19 X ih j _ _ _ _ _ _ h0 h _ _ _ hP hS (lv_sub hl [1, 2, 3, 4, 0] rfl)
set_option maxRecDepth 100000 in
set_option maxHeartbeats 4000000 in
theorem mX11_laysMatchings (l : Launch) (D : va_G) (cy : Nat → ClassId) (B : Nat) (v0 : Nat) (v1 : Int32) (v2 : Int32) (σ : St) (h0 : kM[v0]? = some 11) {post : St → Prop} (h : wX11_laysMatchings v0 v1 v2 σ post) : Met l yX11_laysMatchings (Cond.code yX11_laysMatchings cX11_laysMatchings 7 none :: WALL) (rmD 0) (PcW D cy B kM σ [.ref (B + v0), .int v1, .int v2]) (va_Qv post (BW D cy B kM) (AW B 26)) 0 0 (AW B 26) := by
  refine Met.ofK (cc := cX11_laysMatchings) (maxL := 7) (ret := none) (by decide +kernel) rfl kM_len ?_
  intro p e s m below meth c X hP
  obtain ⟨⟨hx, hb, hml, hown, hts⟩, hr, hlk, hK, hN, hZ⟩ := id X
  have hD : ∀ σ, va_D (AW B 26) (wW cy B kM σ) := AW_D kM_len
  have hS : va_S (AW B 26) s.heap s.heap [] := va_S.rf
  have hl := lv_entry ([.ref (B + v0), .int v1, .int v2]) (n := 7) (Nat.le_of_ble_eq_true rfl)
  rw [lg_entry_eq]
  generalize (lg_sl ([.ref (B + v0), .int v1, .int v2]) ++ List.replicate (7 - (lg_sl ([.ref (B + v0), .int v1, .int v2])).length) Slot.unset).toArray = ls at hl ⊢
  have hl : lv_has ls 7 [(0, .ref (B + v0)), (1, .int v1), (2, .int v2)] := hl
  unfold wX11_laysMatchings at h
  refine lv_aload_n hx hb dX11_laysMatchings_0 rfl (lv_at hl 0 rfl) ?_
  refine rk_get X hP (C := RX11) (T := TX11) (N := 44) (ci := 11) wix_11 h0 rfl rfl 28 (by decide) (wi_29 _ (List.mem_of_getElem? (i := 12) rfl)) rfl rfl dX11_laysMatchings_1 ?_
  refine lv_iconst (v := (0 : Int32)) hx hb dX11_laysMatchings_4 (by decide) ?_
  refine lv_iconst (v := (1 : Int32)) hx hb dX11_laysMatchings_5 (by decide) ?_
  have b1 : vp_in (0 : Int32) 256 := by unfold vp_in; decide
  refine rk_iast X hP hD hS (n := 256) (klM_X11_28 h0) (fun _ _ => rfl) b1 dX11_laysMatchings_6 (fun H locs hP hS => ?_)
  obtain ⟨s1, es1⟩ : ∃ z : St, z = u1 σ (v0 + 15) (0 : Int32).toNatClampNeg (1 : Int32) := ⟨_, rfl⟩
  rw [← es1] at hP
  have h := h s1 es1
  refine lv_iconst (v := (1 : Int32)) hx hb dX11_laysMatchings_7 (by decide) ?_
  refine lv_istore_n (lv' := [(3, .int (1 : Int32)), (0, .ref (B + v0)), (1, .int v1), (2, .int v2)]) hx hb dX11_laysMatchings_8 rfl hl (by decide) rfl (fun ls hl => ?_)
  obtain ⟨j, h⟩ := h
  exact tX11_laysMatchings_9 X j _ _ _ _ _ h0 h _ _ _ hP hS (lv_sub hl [1, 2, 3, 0] rfl)

theorem hd_X11_gateLine : yX11_gateLine.cls = RX11 ∧ yX11_gateLine.cls ≠ "java/lang/invoke/MethodHandle" ∧ yX11_gateLine.cls ≠ "java/lang/invoke/VarHandle" ∧ (parseMethodDescriptor yX11_gateLine.desc).map (fun d => d.parameters.length) = some 0 := by decide +kernel
set_option maxRecDepth 100000 in
set_option maxHeartbeats 4000000 in
theorem tX11_gateLine_348 {p : Program} {l : Launch} {e : Env} {s : State} {m : MethodId} {av : Array Value} {below : List Frame} {meth : Method} {c : Code} {D : va_G} {cy : Nat → ClassId} {B : Nat} (X : kC p s m av meth c cX11_gateLine 8 (some .boolean) WALL RX11 D cy (AW B 26)) {post : Bool → St → Prop} : ∀ (n : Nat) (v0 : Nat) (v1 : Int32) (v2 : Int64) (v4 : Int32) (v6 : Int32) (σ : St), kM[v0]? = some 11 → wX11_gateLine_348 post n v0 v1 v2 v4 v6 σ → ∀ (H : Heap) (locs : List Loc) (ls : Array Slot), va_P D vwCl (wW cy B kM σ) H → va_S (AW B 26) s.heap H locs → lv_has ls 8 [(0, .ref (B + v0)), (1, .int v1), (2, .long v2), (4, .int v4), (6, .int v6)] → W p l e (rmD 13) s m av below meth c H locs 0 0 (MQ below (Qz post D cy B kM 26) av s 0 0 (AW B 26)) (F0 m 348 ls []) := by
  obtain ⟨⟨hx, hb, hml, hown, hts⟩, hr, hlk, hK, hN, hZ⟩ := id X
  have hD : ∀ σ, va_D (AW B 26) (wW cy B kM σ) := AW_D kM_len
  intro n
  induction n with
  | zero => intro v0 v1 v2 v4 v6 σ h0 h; exact absurd h id
  | succ n ih =>
    intro v0 v1 v2 v4 v6 σ h0 h H locs ls hP hS hl
    rw [wX11_gateLine_348] at h
    refine lv_iload hx hb dX11_gateLine_348 (lv_at hl 4 rfl) ?_
    refine lv_iconst (v := (1 : Int32)) hx hb dX11_gateLine_350 (by decide) ?_
    refine lv_aload_n hx hb dX11_gateLine_351 rfl (lv_at hl 0 rfl) ?_
    refine rk_get X hP (C := RX11) (T := TX11) (N := 44) (ci := 11) wix_11 h0 rfl rfl 20 (by decide) (wi_29 _ (List.mem_of_getElem? (i := 6) rfl)) rfl rfl dX11_gateLine_352 ?_
    refine lv_iload_n hx hb dX11_gateLine_355 rfl (lv_at hl 1 rfl) ?_
    obtain ⟨b1, h⟩ := h
    refine rk_iald X hP (n := 16) (klM_X11_20 h0) (fun _ _ => rfl) b1 dX11_gateLine_356 ?_
    refine lv_ishl hx hb dX11_gateLine_357 ?_
    refine lv_icmp_ge (tgt := 395) hx hb dX11_gateLine_358 (by decide) (fun c1 => ?_) (fun c1 => ?_)
    · have h := h.1 c1
      refine lv_aload_n hx hb dX11_gateLine_395 rfl (lv_at hl 0 rfl) ?_
      refine rk_get X hP (C := RX11) (T := TX11) (N := 44) (ci := 11) wix_11 h0 rfl rfl 17 (by decide) (wi_29 _ (List.mem_of_getElem? (i := 3) rfl)) rfl rfl dX11_gateLine_396 ?_
      refine lv_iload_n hx hb dX11_gateLine_399 rfl (lv_at hl 1 rfl) ?_
      refine lv_lload_n hx hb dX11_gateLine_400 rfl (lv_at hl 2 rfl) ?_
      obtain ⟨b2, h⟩ := h
      refine rk_last X hP hD hS (n := 16) (klM_X11_17 h0) (fun _ _ => rfl) b2 dX11_gateLine_401 (fun H locs hP hS => ?_)
      obtain ⟨s1, es1⟩ : ∃ z : St, z = u2 σ (v0 + 6) v1.toNatClampNeg v2 := ⟨_, rfl⟩
      rw [← es1] at hP
      have h := h s1 es1
      refine lv_aload_n hx hb dX11_gateLine_402 rfl (lv_at hl 0 rfl) ?_
      refine rk_get X hP (C := RX11) (T := TX11) (N := 44) (ci := 11) wix_11 h0 rfl rfl 14 (by decide) (wi_28 _ (List.mem_of_getElem? (i := 23) rfl)) rfl rfl dX11_gateLine_403 ?_
      refine lv_aload_n hx hb dX11_gateLine_406 rfl (lv_at hl 0 rfl) ?_
      refine rk_get X hP (C := RX11) (T := TX11) (N := 44) (ci := 11) wix_11 h0 rfl rfl 12 (by decide) (wi_32 _ (List.mem_of_getElem? (i := 2) rfl)) rfl rfl dX11_gateLine_407 ?_
      refine lv_topi (fun x1 ex1 => ?_)
      have h := h x1 ex1
      refine lv_dup2_11 hx hb dX11_gateLine_410 rfl rfl ?_
      obtain ⟨b3, h⟩ := h
      refine rk_iald X hP (n := 2) (klM_X11_14 h0) (fun _ _ => rfl) b3 dX11_gateLine_411 ?_
      refine lv_iconst (v := (1 : Int32)) hx hb dX11_gateLine_412 (by decide) ?_
      refine lv_iadd hx hb dX11_gateLine_413 ?_
      obtain ⟨b4, h⟩ := h
      refine rk_iast X hP hD hS (n := 2) (klM_X11_14 h0) (fun _ _ => rfl) b4 dX11_gateLine_414 (fun H locs hP hS => ?_)
      obtain ⟨s2, es2⟩ : ∃ z : St, z = u1 s1 (v0 + 3) x1.toNatClampNeg ((s1.1 (v0 + 3) x1.toNatClampNeg) + (1 : Int32)) := ⟨_, rfl⟩
      rw [← es2] at hP
      have h := h s2 es2
      refine lv_iconst (v := (1 : Int32)) hx hb dX11_gateLine_415 (by decide) ?_
      exact rk_zret X kM_len true h hP hS dX11_gateLine_416
    · have h := h.2 c1
      refine lv_aload_n hx hb dX11_gateLine_361 rfl (lv_at hl 0 rfl) ?_
      refine rk_get X hP (C := RX11) (T := TX11) (N := 44) (ci := 11) wix_11 h0 rfl rfl 21 (by decide) (wi_29 _ (List.mem_of_getElem? (i := 7) rfl)) rfl rfl dX11_gateLine_362 ?_
      refine lv_bipush (v := (16 : Int32)) hx hb dX11_gateLine_365 (by decide) ?_
      refine lv_iload_n hx hb dX11_gateLine_367 rfl (lv_at hl 1 rfl) ?_
      refine lv_imul hx hb dX11_gateLine_368 ?_
      refine lv_iload hx hb dX11_gateLine_369 (lv_at hl 4 rfl) ?_
      refine lv_iadd hx hb dX11_gateLine_371 ?_
      refine lv_aload_n hx hb dX11_gateLine_372 rfl (lv_at hl 0 rfl) ?_
      refine rk_get X hP (C := RX11) (T := TX11) (N := 44) (ci := 11) wix_11 h0 rfl rfl 28 (by decide) (wi_29 _ (List.mem_of_getElem? (i := 12) rfl)) rfl rfl dX11_gateLine_373 ?_
      refine lv_iconst (v := (1 : Int32)) hx hb dX11_gateLine_376 (by decide) ?_
      refine lv_iload hx hb dX11_gateLine_377 (lv_at hl 3 rfl) ?_
      refine lv_ishl hx hb dX11_gateLine_379 ?_
      refine lv_iconst (v := (1 : Int32)) hx hb dX11_gateLine_380 (by decide) ?_
      refine lv_isub hx hb dX11_gateLine_381 ?_
      refine lv_iload hx hb dX11_gateLine_382 (lv_at hl 4 rfl) ?_
      refine lv_iconst (v := (-1 : Int32)) hx hb dX11_gateLine_384 (by decide) ?_
      refine lv_ixor hx hb dX11_gateLine_385 ?_
      refine lv_iand hx hb dX11_gateLine_386 ?_
      refine lv_topi (fun x2 ex2 => ?_)
      have h := h x2 ex2
      obtain ⟨b5, h⟩ := h
      refine rk_iald X hP (n := 256) (klM_X11_28 h0) (fun _ _ => rfl) b5 dX11_gateLine_387 ?_
      obtain ⟨b6, h⟩ := h
      refine rk_iast X hP hD hS (n := 256) (klM_X11_21 h0) (fun _ _ => rfl) b6 dX11_gateLine_388 (fun H locs hP hS => ?_)
      obtain ⟨s3, es3⟩ : ∃ z : St, z = u1 σ (v0 + 10) (((16 : Int32) * v1) + v6).toNatClampNeg (σ.1 (v0 + 15) x2.toNatClampNeg) := ⟨_, rfl⟩
      rw [← es3] at hP
      have h := h s3 es3
      obtain ⟨x3, ex3⟩ : ∃ y : Int32, y = v6 + (1 : Int32) := ⟨_, rfl⟩
      have h := h x3 ex3
      refine lv_iinc (v := x3) (lv' := [(6, .int x3), (0, .ref (B + v0)), (1, .int v1), (2, .long v2), (4, .int v4)]) hx hb dX11_gateLine_389 hl (k := 4) rfl (by rw [ex3]; rfl) (by decide) rfl (fun ls hl => ?_)
      refine lv_goto (tgt := 348) hx hb dX11_gateLine_392 (by decide) ?_
      exact ih _ _ _ _ _ _ h0 h _ _ _ hP hS (lv_sub hl [1, 2, 3, 4, 0] rfl)
set_option maxRecDepth 100000 in
set_option maxHeartbeats 4000000 in
theorem tX11_gateLine_256 {p : Program} {l : Launch} {e : Env} {s : State} {m : MethodId} {av : Array Value} {below : List Frame} {meth : Method} {c : Code} {D : va_G} {cy : Nat → ClassId} {B : Nat} (X : kC p s m av meth c cX11_gateLine 8 (some .boolean) WALL RX11 D cy (AW B 26)) {post : Bool → St → Prop} {R109 : Nat → Int32 → Int64 → Int32 → Int32 → St → Prop} (hR109 : ∀ (v0 : Nat) (v1 : Int32) (v2 : Int64) (v4 : Int32) (v5 : Int32) (σ : St), kM[v0]? = some 11 → R109 v0 v1 v2 v4 v5 σ → ∀ (H : Heap) (locs : List Loc) (ls : Array Slot), va_P D vwCl (wW cy B kM σ) H → va_S (AW B 26) s.heap H locs → lv_has ls 8 [(0, .ref (B + v0)), (1, .int v1), (2, .long v2), (4, .int v4), (5, .int v5)] → W p l e (rmD 13) s m av below meth c H locs 0 0 (MQ below (Qz post D cy B kM 26) av s 0 0 (AW B 26)) (F0 m 109 ls [])) : ∀ (v0 : Nat) (v1 : Int32) (v2 : Int64) (v4 : Int32) (v5 : Int32) (v6 : Int32) (v7 : Int32) (t0 : Nat) (t1 : Int32) (σ : St), kM[v0]? = some 11 → kM[t0]? = some 11 → wX11_gateLine_256 post R109 v0 v1 v2 v4 v5 v6 v7 t0 t1 σ → ∀ (H : Heap) (locs : List Loc) (ls : Array Slot), va_P D vwCl (wW cy B kM σ) H → va_S (AW B 26) s.heap H locs → lv_has ls 8 [(0, .ref (B + v0)), (1, .int v1), (2, .long v2), (4, .int v4), (5, .int v5), (6, .int v6), (7, .int v7)] → W p l e (rmD 13) s m av below meth c H locs 0 0 (MQ below (Qz post D cy B kM 26) av s 0 0 (AW B 26)) (F0 m 256 ls [.int t1, .ref (B + t0)]) := by
  obtain ⟨⟨hx, hb, hml, hown, hts⟩, hr, hlk, hK, hN, hZ⟩ := id X
  have hD : ∀ σ, va_D (AW B 26) (wW cy B kM σ) := AW_D kM_len
  intro v0 v1 v2 v4 v5 v6 v7 t0 t1 σ h0 g0 h H locs ls hP hS hl
  unfold wX11_gateLine_256 at h
  refine lv_iconst (v := (4 : Int32)) hx hb dX11_gateLine_256 (by decide) ?_
  refine rk_callz (va_runV (As := [.int t1, .int (4 : Int32)]) (rest := []) X.1 (mX11_must l D cy B t0 t1 (4 : Int32) σ g0 h) (cwV 2 hts (gW_V (wi_31 _ (List.mem_of_getElem? (i := 18) rfl)) (wi_31 _ (List.mem_of_getElem? (i := 19) rfl)) (wi_31 _ (List.mem_of_getElem? (i := 20) rfl)) (wi_30 _ (List.mem_of_getElem? (i := 9) rfl)) (wi_31 _ (List.mem_of_getElem? (i := 4) rfl))) rfl rfl rfl hd_X11_must ⟨Nat.le_of_ble_eq_true rfl, Nat.le_of_ble_eq_true rfl⟩) (rk_preV X hS hP g0 rfl rfl [.int t1, .int (4 : Int32)]) rfl rfl hl.1 rfl (lv_room (Nat.le_of_ble_eq_true rfl)) dX11_gateLine_257 ⟨Nat.zero_le _, Nat.zero_le _⟩) hS (fun _ h => h) (fun r1 s1 H locs h hP hS => ?_)
  refine lv_if_ne (tgt := 265) hx hb dX11_gateLine_260 (by decide) (fun c1 => ?_) (fun c1 => ?_)
  · have h := h.1 (b2i_t c1)
    refine lv_aload_n hx hb dX11_gateLine_265 rfl (lv_at hl 0 rfl) ?_
    refine rk_callv (va_runV (As := []) (rest := []) X.1 (mX11_steps l D cy B v0 s1 h0 h) (cwV 0 hts (gW_V (wi_31 _ (List.mem_of_getElem? (i := 21) rfl)) (wi_31 _ (List.mem_of_getElem? (i := 22) rfl)) (wi_31 _ (List.mem_of_getElem? (i := 23) rfl)) (wi_30 _ (List.mem_of_getElem? (i := 9) rfl)) (wi_30 _ (List.mem_of_getElem? (i := 12) rfl))) rfl rfl rfl hd_X11_steps ⟨Nat.le_of_ble_eq_true rfl, Nat.le_of_ble_eq_true rfl⟩) (rk_preV X hS hP h0 rfl rfl []) rfl rfl hl.1 rfl (lv_room (Nat.le_of_ble_eq_true rfl)) dX11_gateLine_266 ⟨Nat.zero_le _, Nat.zero_le _⟩) hS (fun _ h => h) (fun s2 H locs h hP hS => ?_)
    refine lv_aload_n hx hb dX11_gateLine_269 rfl (lv_at hl 0 rfl) ?_
    refine lv_iconst (v := (1 : Int32)) hx hb dX11_gateLine_270 (by decide) ?_
    refine lv_aload_n hx hb dX11_gateLine_271 rfl (lv_at hl 0 rfl) ?_
    refine rk_get X hP (C := RX11) (T := TX11) (N := 44) (ci := 11) wix_11 h0 rfl rfl 13 (by decide) (wi_28 _ (List.mem_of_getElem? (i := 22) rfl)) rfl rfl dX11_gateLine_272 ?_
    refine lv_aload_n hx hb dX11_gateLine_275 rfl (lv_at hl 0 rfl) ?_
    refine rk_get X hP (C := RX11) (T := TX11) (N := 44) (ci := 11) wix_11 h0 rfl rfl 12 (by decide) (wi_32 _ (List.mem_of_getElem? (i := 2) rfl)) rfl rfl dX11_gateLine_276 ?_
    refine lv_topi (fun x1 ex1 => ?_)
    have h := h x1 ex1
    obtain ⟨b1, h⟩ := h
    refine rk_iald X hP (n := 2) (klM_X11_13 h0) (fun _ _ => rfl) b1 dX11_gateLine_279 ?_
    refine lv_iconst (v := (1 : Int32)) hx hb dX11_gateLine_280 (by decide) ?_
    refine lv_isub hx hb dX11_gateLine_281 ?_
    refine rk_callz (va_runV (As := [.int (1 : Int32), .int ((s2.1 (v0 + 2) x1.toNatClampNeg) - (1 : Int32))]) (rest := []) X.1 (mX11_takesNumber l D cy B v0 (1 : Int32) ((s2.1 (v0 + 2) x1.toNatClampNeg) - (1 : Int32)) s2 h0 h) (cwV 2 hts (gW_V (wi_32 _ (List.mem_of_getElem? (i := 22) rfl)) (wi_32 _ (List.mem_of_getElem? (i := 23) rfl)) (wi_33 _ (List.mem_of_getElem? (i := 0) rfl)) (wi_30 _ (List.mem_of_getElem? (i := 9) rfl)) (wi_32 _ (List.mem_of_getElem? (i := 0) rfl))) rfl rfl rfl hd_X11_takesNumber ⟨Nat.le_of_ble_eq_true rfl, Nat.le_of_ble_eq_true rfl⟩) (rk_preV X hS hP h0 rfl rfl [.int (1 : Int32), .int ((s2.1 (v0 + 2) x1.toNatClampNeg) - (1 : Int32))]) rfl rfl hl.1 rfl (lv_room (Nat.le_of_ble_eq_true rfl)) dX11_gateLine_282 ⟨Nat.zero_le _, Nat.zero_le _⟩) hS (fun _ h => h) (fun r2 s3 H locs h hP hS => ?_)
    refine lv_if_ne (tgt := 290) hx hb dX11_gateLine_285 (by decide) (fun c2 => ?_) (fun c2 => ?_)
    · have h := h.1 (b2i_t c2)
      refine lv_aload_n hx hb dX11_gateLine_290 rfl (lv_at hl 0 rfl) ?_
      refine rk_get X hP (C := RX11) (T := TX11) (N := 44) (ci := 11) wix_11 h0 rfl rfl 27 (by decide) (wi_29 _ (List.mem_of_getElem? (i := 11) rfl)) rfl rfl dX11_gateLine_291 ?_
      refine lv_bipush (v := (8 : Int32)) hx hb dX11_gateLine_294 (by decide) ?_
      refine lv_iload hx hb dX11_gateLine_296 (lv_at hl 5 rfl) ?_
      refine lv_imul hx hb dX11_gateLine_298 ?_
      refine lv_iload hx hb dX11_gateLine_299 (lv_at hl 6 rfl) ?_
      refine lv_iadd hx hb dX11_gateLine_301 ?_
      refine lv_aload_n hx hb dX11_gateLine_302 rfl (lv_at hl 0 rfl) ?_
      refine rk_get X hP (C := RX11) (T := TX11) (N := 44) (ci := 11) wix_11 h0 rfl rfl 11 (by decide) (wi_31 _ (List.mem_of_getElem? (i := 17) rfl)) rfl rfl dX11_gateLine_303 ?_
      obtain ⟨b2, h⟩ := h
      refine rk_iast X hP hD hS (n := 64) (klM_X11_27 h0) (fun _ _ => rfl) b2 dX11_gateLine_306 (fun H locs hP hS => ?_)
      obtain ⟨s4, es4⟩ : ∃ z : St, z = u1 s3 (v0 + 14) (((8 : Int32) * v6) + v7).toNatClampNeg (s3.1 v0 11) := ⟨_, rfl⟩
      rw [← es4] at hP
      have h := h s4 es4
      refine lv_aload_n hx hb dX11_gateLine_307 rfl (lv_at hl 0 rfl) ?_
      refine rk_get X hP (C := RX11) (T := TX11) (N := 44) (ci := 11) wix_11 h0 rfl rfl 27 (by decide) (wi_29 _ (List.mem_of_getElem? (i := 11) rfl)) rfl rfl dX11_gateLine_308 ?_
      refine lv_bipush (v := (8 : Int32)) hx hb dX11_gateLine_311 (by decide) ?_
      refine lv_iload hx hb dX11_gateLine_313 (lv_at hl 6 rfl) ?_
      refine lv_imul hx hb dX11_gateLine_315 ?_
      refine lv_iload hx hb dX11_gateLine_316 (lv_at hl 5 rfl) ?_
      refine lv_iadd hx hb dX11_gateLine_318 ?_
      refine lv_aload_n hx hb dX11_gateLine_319 rfl (lv_at hl 0 rfl) ?_
      refine rk_get X hP (C := RX11) (T := TX11) (N := 44) (ci := 11) wix_11 h0 rfl rfl 11 (by decide) (wi_31 _ (List.mem_of_getElem? (i := 17) rfl)) rfl rfl dX11_gateLine_320 ?_
      obtain ⟨b3, h⟩ := h
      refine rk_iast X hP hD hS (n := 64) (klM_X11_27 h0) (fun _ _ => rfl) b3 dX11_gateLine_323 (fun H locs hP hS => ?_)
      obtain ⟨s5, es5⟩ : ∃ z : St, z = u1 s4 (v0 + 14) (((8 : Int32) * v7) + v6).toNatClampNeg (s4.1 v0 11) := ⟨_, rfl⟩
      rw [← es5] at hP
      have h := h s5 es5
      obtain ⟨x2, ex2⟩ : ∃ y : Int32, y = v5 + (1 : Int32) := ⟨_, rfl⟩
      have h := h x2 ex2
      refine lv_iinc (v := x2) (lv' := [(5, .int x2), (0, .ref (B + v0)), (1, .int v1), (2, .long v2), (4, .int v4), (6, .int v6), (7, .int v7)]) hx hb dX11_gateLine_324 hl (k := 4) rfl (by rw [ex2]; rfl) (by decide) rfl (fun ls hl => ?_)
      refine lv_goto (tgt := 109) hx hb dX11_gateLine_327 (by decide) ?_
      exact hR109 _ _ _ _ _ _ h0 h _ _ _ hP hS (lv_sub hl [1, 2, 3, 4, 0] rfl)
    · have h := h.2 (b2i_f c2)
      refine lv_iconst (v := (0 : Int32)) hx hb dX11_gateLine_288 (by decide) ?_
      exact rk_zret X kM_len false h hP hS dX11_gateLine_289
  · have h := h.2 (b2i_f c1)
    refine lv_iconst (v := (0 : Int32)) hx hb dX11_gateLine_263 (by decide) ?_
    exact rk_zret X kM_len false h hP hS dX11_gateLine_264
set_option maxRecDepth 100000 in
set_option maxHeartbeats 4000000 in
theorem tX11_gateLine_255 {p : Program} {l : Launch} {e : Env} {s : State} {m : MethodId} {av : Array Value} {below : List Frame} {meth : Method} {c : Code} {D : va_G} {cy : Nat → ClassId} {B : Nat} (X : kC p s m av meth c cX11_gateLine 8 (some .boolean) WALL RX11 D cy (AW B 26)) {post : Bool → St → Prop} {R109 : Nat → Int32 → Int64 → Int32 → Int32 → St → Prop} (hR109 : ∀ (v0 : Nat) (v1 : Int32) (v2 : Int64) (v4 : Int32) (v5 : Int32) (σ : St), kM[v0]? = some 11 → R109 v0 v1 v2 v4 v5 σ → ∀ (H : Heap) (locs : List Loc) (ls : Array Slot), va_P D vwCl (wW cy B kM σ) H → va_S (AW B 26) s.heap H locs → lv_has ls 8 [(0, .ref (B + v0)), (1, .int v1), (2, .long v2), (4, .int v4), (5, .int v5)] → W p l e (rmD 13) s m av below meth c H locs 0 0 (MQ below (Qz post D cy B kM 26) av s 0 0 (AW B 26)) (F0 m 109 ls [])) : ∀ (v0 : Nat) (v1 : Int32) (v2 : Int64) (v4 : Int32) (v5 : Int32) (v6 : Int32) (v7 : Int32) (t0 : Nat) (σ : St), kM[v0]? = some 11 → kM[t0]? = some 11 → wX11_gateLine_255 post R109 v0 v1 v2 v4 v5 v6 v7 t0 σ → ∀ (H : Heap) (locs : List Loc) (ls : Array Slot), va_P D vwCl (wW cy B kM σ) H → va_S (AW B 26) s.heap H locs → lv_has ls 8 [(0, .ref (B + v0)), (1, .int v1), (2, .long v2), (4, .int v4), (5, .int v5), (6, .int v6), (7, .int v7)] → W p l e (rmD 13) s m av below meth c H locs 0 0 (MQ below (Qz post D cy B kM 26) av s 0 0 (AW B 26)) (F0 m 255 ls [.ref (B + t0)]) := by
  obtain ⟨⟨hx, hb, hml, hown, hts⟩, hr, hlk, hK, hN, hZ⟩ := id X
  have hD : ∀ σ, va_D (AW B 26) (wW cy B kM σ) := AW_D kM_len
  intro v0 v1 v2 v4 v5 v6 v7 t0 σ h0 g0 h H locs ls hP hS hl
  unfold wX11_gateLine_255 at h
  refine lv_iconst (v := (0 : Int32)) hx hb dX11_gateLine_255 (by decide) ?_
  exact tX11_gateLine_256 X hR109 _ _ _ _ _ _ _ _ _ _ h0 g0 h _ _ _ hP hS (lv_sub hl [0, 1, 2, 3, 4, 5, 6] rfl)
set_option maxRecDepth 100000 in
set_option maxHeartbeats 4000000 in
theorem tX11_gateLine_229 {p : Program} {l : Launch} {e : Env} {s : State} {m : MethodId} {av : Array Value} {below : List Frame} {meth : Method} {c : Code} {D : va_G} {cy : Nat → ClassId} {B : Nat} (X : kC p s m av meth c cX11_gateLine 8 (some .boolean) WALL RX11 D cy (AW B 26)) {post : Bool → St → Prop} {R109 : Nat → Int32 → Int64 → Int32 → Int32 → St → Prop} (hR109 : ∀ (v0 : Nat) (v1 : Int32) (v2 : Int64) (v4 : Int32) (v5 : Int32) (σ : St), kM[v0]? = some 11 → R109 v0 v1 v2 v4 v5 σ → ∀ (H : Heap) (locs : List Loc) (ls : Array Slot), va_P D vwCl (wW cy B kM σ) H → va_S (AW B 26) s.heap H locs → lv_has ls 8 [(0, .ref (B + v0)), (1, .int v1), (2, .long v2), (4, .int v4), (5, .int v5)] → W p l e (rmD 13) s m av below meth c H locs 0 0 (MQ below (Qz post D cy B kM 26) av s 0 0 (AW B 26)) (F0 m 109 ls [])) : ∀ (v0 : Nat) (v1 : Int32) (v2 : Int64) (v4 : Int32) (v5 : Int32) (v6 : Int32) (v7 : Int32) (t0 : Nat) (t1 : Int32) (σ : St), kM[v0]? = some 11 → kM[t0]? = some 11 → wX11_gateLine_229 post R109 v0 v1 v2 v4 v5 v6 v7 t0 t1 σ → ∀ (H : Heap) (locs : List Loc) (ls : Array Slot), va_P D vwCl (wW cy B kM σ) H → va_S (AW B 26) s.heap H locs → lv_has ls 8 [(0, .ref (B + v0)), (1, .int v1), (2, .long v2), (4, .int v4), (5, .int v5), (6, .int v6), (7, .int v7)] → W p l e (rmD 13) s m av below meth c H locs 0 0 (MQ below (Qz post D cy B kM 26) av s 0 0 (AW B 26)) (F0 m 229 ls [.int t1, .ref (B + t0)]) := by
  obtain ⟨⟨hx, hb, hml, hown, hts⟩, hr, hlk, hK, hN, hZ⟩ := id X
  have hD : ∀ σ, va_D (AW B 26) (wW cy B kM σ) := AW_D kM_len
  intro v0 v1 v2 v4 v5 v6 v7 t0 t1 σ h0 g0 h H locs ls hP hS hl
  unfold wX11_gateLine_229 at h
  refine lv_iconst (v := (2 : Int32)) hx hb dX11_gateLine_229 (by decide) ?_
  refine rk_callz (va_runV (As := [.int t1, .int (2 : Int32)]) (rest := []) X.1 (mX11_must l D cy B t0 t1 (2 : Int32) σ g0 h) (cwV 2 hts (gW_V (wi_31 _ (List.mem_of_getElem? (i := 18) rfl)) (wi_31 _ (List.mem_of_getElem? (i := 19) rfl)) (wi_31 _ (List.mem_of_getElem? (i := 20) rfl)) (wi_30 _ (List.mem_of_getElem? (i := 9) rfl)) (wi_31 _ (List.mem_of_getElem? (i := 4) rfl))) rfl rfl rfl hd_X11_must ⟨Nat.le_of_ble_eq_true rfl, Nat.le_of_ble_eq_true rfl⟩) (rk_preV X hS hP g0 rfl rfl [.int t1, .int (2 : Int32)]) rfl rfl hl.1 rfl (lv_room (Nat.le_of_ble_eq_true rfl)) dX11_gateLine_230 ⟨Nat.zero_le _, Nat.zero_le _⟩) hS (fun _ h => h) (fun r1 s1 H locs h hP hS => ?_)
  refine lv_if_eq (tgt := 263) hx hb dX11_gateLine_233 (by decide) (fun c1 => ?_) (fun c1 => ?_)
  · have h := h.1 (b2i_f c1)
    refine lv_iconst (v := (0 : Int32)) hx hb dX11_gateLine_263 (by decide) ?_
    exact rk_zret X kM_len false h hP hS dX11_gateLine_264
  · have h := h.2 (b2i_t c1)
    refine lv_aload_n hx hb dX11_gateLine_236 rfl (lv_at hl 0 rfl) ?_
    refine lv_iload hx hb dX11_gateLine_237 (lv_at hl 6 rfl) ?_
    refine lv_iload hx hb dX11_gateLine_239 (lv_at hl 3 rfl) ?_
    refine lv_icmp_ge (tgt := 255) hx hb dX11_gateLine_241 (by decide) (fun c2 => ?_) (fun c2 => ?_)
    · have h := h.1 c2
      exact tX11_gateLine_255 X hR109 _ _ _ _ _ _ _ _ _ h0 h0 h _ _ _ hP hS (lv_sub hl [0, 1, 2, 3, 4, 5, 6] rfl)
    · have h := h.2 c2
      refine lv_iload hx hb dX11_gateLine_244 (lv_at hl 6 rfl) ?_
      refine lv_iload hx hb dX11_gateLine_246 (lv_at hl 5 rfl) ?_
      refine lv_icmp_eq (tgt := 255) hx hb dX11_gateLine_248 (by decide) (fun c3 => ?_) (fun c3 => ?_)
      · have h := h.1 c3
        exact tX11_gateLine_255 X hR109 _ _ _ _ _ _ _ _ _ h0 h0 h _ _ _ hP hS (lv_sub hl [0, 1, 2, 3, 4, 5, 6] rfl)
      · have h := h.2 c3
        refine lv_iconst (v := (1 : Int32)) hx hb dX11_gateLine_251 (by decide) ?_
        refine lv_goto (tgt := 256) hx hb dX11_gateLine_252 (by decide) ?_
        exact tX11_gateLine_256 X hR109 _ _ _ _ _ _ _ _ _ _ h0 h0 h _ _ _ hP hS (lv_sub hl [0, 1, 2, 3, 4, 5, 6] rfl)
set_option maxRecDepth 100000 in
set_option maxHeartbeats 4000000 in
theorem tX11_gateLine_224 {p : Program} {l : Launch} {e : Env} {s : State} {m : MethodId} {av : Array Value} {below : List Frame} {meth : Method} {c : Code} {D : va_G} {cy : Nat → ClassId} {B : Nat} (X : kC p s m av meth c cX11_gateLine 8 (some .boolean) WALL RX11 D cy (AW B 26)) {post : Bool → St → Prop} {R109 : Nat → Int32 → Int64 → Int32 → Int32 → St → Prop} (hR109 : ∀ (v0 : Nat) (v1 : Int32) (v2 : Int64) (v4 : Int32) (v5 : Int32) (σ : St), kM[v0]? = some 11 → R109 v0 v1 v2 v4 v5 σ → ∀ (H : Heap) (locs : List Loc) (ls : Array Slot), va_P D vwCl (wW cy B kM σ) H → va_S (AW B 26) s.heap H locs → lv_has ls 8 [(0, .ref (B + v0)), (1, .int v1), (2, .long v2), (4, .int v4), (5, .int v5)] → W p l e (rmD 13) s m av below meth c H locs 0 0 (MQ below (Qz post D cy B kM 26) av s 0 0 (AW B 26)) (F0 m 109 ls [])) : ∀ (v0 : Nat) (v1 : Int32) (v2 : Int64) (v4 : Int32) (v5 : Int32) (v6 : Int32) (v7 : Int32) (t0 : Nat) (σ : St), kM[v0]? = some 11 → kM[t0]? = some 11 → wX11_gateLine_224 post R109 v0 v1 v2 v4 v5 v6 v7 t0 σ → ∀ (H : Heap) (locs : List Loc) (ls : Array Slot), va_P D vwCl (wW cy B kM σ) H → va_S (AW B 26) s.heap H locs → lv_has ls 8 [(0, .ref (B + v0)), (1, .int v1), (2, .long v2), (4, .int v4), (5, .int v5), (6, .int v6), (7, .int v7)] → W p l e (rmD 13) s m av below meth c H locs 0 0 (MQ below (Qz post D cy B kM 26) av s 0 0 (AW B 26)) (F0 m 224 ls [.ref (B + t0)]) := by
  obtain ⟨⟨hx, hb, hml, hown, hts⟩, hr, hlk, hK, hN, hZ⟩ := id X
  have hD : ∀ σ, va_D (AW B 26) (wW cy B kM σ) := AW_D kM_len
  intro v0 v1 v2 v4 v5 v6 v7 t0 σ h0 g0 h H locs ls hP hS hl
  unfold wX11_gateLine_224 at h
  refine lv_iconst (v := (1 : Int32)) hx hb dX11_gateLine_224 (by decide) ?_
  refine lv_goto (tgt := 229) hx hb dX11_gateLine_225 (by decide) ?_
  exact tX11_gateLine_229 X hR109 _ _ _ _ _ _ _ _ _ _ h0 g0 h _ _ _ hP hS (lv_sub hl [0, 1, 2, 3, 4, 5, 6] rfl)
set_option maxRecDepth 100000 in
set_option maxHeartbeats 4000000 in
theorem tX11_gateLine_185 {p : Program} {l : Launch} {e : Env} {s : State} {m : MethodId} {av : Array Value} {below : List Frame} {meth : Method} {c : Code} {D : va_G} {cy : Nat → ClassId} {B : Nat} (X : kC p s m av meth c cX11_gateLine 8 (some .boolean) WALL RX11 D cy (AW B 26)) {post : Bool → St → Prop} {R109 : Nat → Int32 → Int64 → Int32 → Int32 → St → Prop} (hR109 : ∀ (v0 : Nat) (v1 : Int32) (v2 : Int64) (v4 : Int32) (v5 : Int32) (σ : St), kM[v0]? = some 11 → R109 v0 v1 v2 v4 v5 σ → ∀ (H : Heap) (locs : List Loc) (ls : Array Slot), va_P D vwCl (wW cy B kM σ) H → va_S (AW B 26) s.heap H locs → lv_has ls 8 [(0, .ref (B + v0)), (1, .int v1), (2, .long v2), (4, .int v4), (5, .int v5)] → W p l e (rmD 13) s m av below meth c H locs 0 0 (MQ below (Qz post D cy B kM 26) av s 0 0 (AW B 26)) (F0 m 109 ls [])) : ∀ (v0 : Nat) (v1 : Int32) (v2 : Int64) (v4 : Int32) (v5 : Int32) (v6 : Int32) (t0 : Nat) (t1 : Int32) (σ : St), kM[v0]? = some 11 → kM[t0]? = some 11 → wX11_gateLine_185 post R109 v0 v1 v2 v4 v5 v6 t0 t1 σ → ∀ (H : Heap) (locs : List Loc) (ls : Array Slot), va_P D vwCl (wW cy B kM σ) H → va_S (AW B 26) s.heap H locs → lv_has ls 8 [(0, .ref (B + v0)), (1, .int v1), (2, .long v2), (4, .int v4), (5, .int v5), (6, .int v6)] → W p l e (rmD 13) s m av below meth c H locs 0 0 (MQ below (Qz post D cy B kM 26) av s 0 0 (AW B 26)) (F0 m 185 ls [.int t1, .ref (B + t0)]) := by
  obtain ⟨⟨hx, hb, hml, hown, hts⟩, hr, hlk, hK, hN, hZ⟩ := id X
  have hD : ∀ σ, va_D (AW B 26) (wW cy B kM σ) := AW_D kM_len
  intro v0 v1 v2 v4 v5 v6 t0 t1 σ h0 g0 h H locs ls hP hS hl
  unfold wX11_gateLine_185 at h
  refine lv_iconst (v := (1 : Int32)) hx hb dX11_gateLine_185 (by decide) ?_
  refine rk_callz (va_runV (As := [.int t1, .int (1 : Int32)]) (rest := []) X.1 (mX11_must l D cy B t0 t1 (1 : Int32) σ g0 h) (cwV 2 hts (gW_V (wi_31 _ (List.mem_of_getElem? (i := 18) rfl)) (wi_31 _ (List.mem_of_getElem? (i := 19) rfl)) (wi_31 _ (List.mem_of_getElem? (i := 20) rfl)) (wi_30 _ (List.mem_of_getElem? (i := 9) rfl)) (wi_31 _ (List.mem_of_getElem? (i := 4) rfl))) rfl rfl rfl hd_X11_must ⟨Nat.le_of_ble_eq_true rfl, Nat.le_of_ble_eq_true rfl⟩) (rk_preV X hS hP g0 rfl rfl [.int t1, .int (1 : Int32)]) rfl rfl hl.1 rfl (lv_room (Nat.le_of_ble_eq_true rfl)) dX11_gateLine_186 ⟨Nat.zero_le _, Nat.zero_le _⟩) hS (fun _ h => h) (fun r1 s1 H locs h hP hS => ?_)
  refine lv_if_ne (tgt := 194) hx hb dX11_gateLine_189 (by decide) (fun c1 => ?_) (fun c1 => ?_)
  · have h := h.1 (b2i_t c1)
    refine lv_aload_n hx hb dX11_gateLine_194 rfl (lv_at hl 0 rfl) ?_
    refine rk_get X hP (C := RX11) (T := TX11) (N := 44) (ci := 11) wix_11 h0 rfl rfl 7 (by decide) (wi_30 _ (List.mem_of_getElem? (i := 16) rfl)) rfl rfl dX11_gateLine_195 ?_
    refine lv_topi (fun x1 ex1 => ?_)
    have h := h x1 ex1
    refine lv_istore (lv' := [(7, .int x1), (0, .ref (B + v0)), (1, .int v1), (2, .long v2), (4, .int v4), (5, .int v5), (6, .int v6)]) hx hb dX11_gateLine_198 hl (by decide) rfl (fun ls hl => ?_)
    refine lv_aload_n hx hb dX11_gateLine_200 rfl (lv_at hl 1 rfl) ?_
    refine lv_iload hx hb dX11_gateLine_201 (lv_at hl 0 rfl) ?_
    refine lv_iload hx hb dX11_gateLine_203 (lv_at hl 4 rfl) ?_
    refine lv_icmp_ge (tgt := 224) hx hb dX11_gateLine_205 (by decide) (fun c2 => ?_) (fun c2 => ?_)
    · have h := h.1 c2
      exact tX11_gateLine_224 X hR109 _ _ _ _ _ _ _ _ _ h0 h0 h _ _ _ hP hS (lv_sub hl [1, 2, 3, 4, 5, 6, 0] rfl)
    · have h := h.2 c2
      refine lv_aload_n hx hb dX11_gateLine_208 rfl (lv_at hl 1 rfl) ?_
      refine rk_get X hP (C := RX11) (T := TX11) (N := 44) (ci := 11) wix_11 h0 rfl rfl 27 (by decide) (wi_29 _ (List.mem_of_getElem? (i := 11) rfl)) rfl rfl dX11_gateLine_209 ?_
      refine lv_bipush (v := (8 : Int32)) hx hb dX11_gateLine_212 (by decide) ?_
      refine lv_iload hx hb dX11_gateLine_214 (lv_at hl 6 rfl) ?_
      refine lv_imul hx hb dX11_gateLine_216 ?_
      refine lv_iload hx hb dX11_gateLine_217 (lv_at hl 0 rfl) ?_
      refine lv_iadd hx hb dX11_gateLine_219 ?_
      refine lv_topi (fun x2 ex2 => ?_)
      have h := h x2 ex2
      obtain ⟨b1, h⟩ := h
      refine rk_iald X hP (n := 64) (klM_X11_27 h0) (fun _ _ => rfl) b1 dX11_gateLine_220 ?_
      refine lv_if_ne (tgt := 228) hx hb dX11_gateLine_221 (by decide) (fun c3 => ?_) (fun c3 => ?_)
      · have h := h.1 c3
        refine lv_iconst (v := (0 : Int32)) hx hb dX11_gateLine_228 (by decide) ?_
        exact tX11_gateLine_229 X hR109 _ _ _ _ _ _ _ _ _ _ h0 h0 h _ _ _ hP hS (lv_sub hl [1, 2, 3, 4, 5, 6, 0] rfl)
      · have h := h.2 c3
        exact tX11_gateLine_224 X hR109 _ _ _ _ _ _ _ _ _ h0 h0 h _ _ _ hP hS (lv_sub hl [1, 2, 3, 4, 5, 6, 0] rfl)
  · have h := h.2 (b2i_f c1)
    refine lv_iconst (v := (0 : Int32)) hx hb dX11_gateLine_192 (by decide) ?_
    exact rk_zret X kM_len false h hP hS dX11_gateLine_193
set_option maxRecDepth 100000 in
set_option maxHeartbeats 4000000 in
theorem tX11_gateLine_152 {p : Program} {l : Launch} {e : Env} {s : State} {m : MethodId} {av : Array Value} {below : List Frame} {meth : Method} {c : Code} {D : va_G} {cy : Nat → ClassId} {B : Nat} (X : kC p s m av meth c cX11_gateLine 8 (some .boolean) WALL RX11 D cy (AW B 26)) {post : Bool → St → Prop} {R109 : Nat → Int32 → Int64 → Int32 → Int32 → St → Prop} (hR109 : ∀ (v0 : Nat) (v1 : Int32) (v2 : Int64) (v4 : Int32) (v5 : Int32) (σ : St), kM[v0]? = some 11 → R109 v0 v1 v2 v4 v5 σ → ∀ (H : Heap) (locs : List Loc) (ls : Array Slot), va_P D vwCl (wW cy B kM σ) H → va_S (AW B 26) s.heap H locs → lv_has ls 8 [(0, .ref (B + v0)), (1, .int v1), (2, .long v2), (4, .int v4), (5, .int v5)] → W p l e (rmD 13) s m av below meth c H locs 0 0 (MQ below (Qz post D cy B kM 26) av s 0 0 (AW B 26)) (F0 m 109 ls [])) : ∀ (v0 : Nat) (v1 : Int32) (v2 : Int64) (v4 : Int32) (v5 : Int32) (t0 : Nat) (t1 : Int32) (σ : St), kM[v0]? = some 11 → kM[t0]? = some 11 → wX11_gateLine_152 post R109 v0 v1 v2 v4 v5 t0 t1 σ → ∀ (H : Heap) (locs : List Loc) (ls : Array Slot), va_P D vwCl (wW cy B kM σ) H → va_S (AW B 26) s.heap H locs → lv_has ls 8 [(0, .ref (B + v0)), (1, .int v1), (2, .long v2), (4, .int v4), (5, .int v5)] → W p l e (rmD 13) s m av below meth c H locs 0 0 (MQ below (Qz post D cy B kM 26) av s 0 0 (AW B 26)) (F0 m 152 ls [.int t1, .ref (B + t0)]) := by
  obtain ⟨⟨hx, hb, hml, hown, hts⟩, hr, hlk, hK, hN, hZ⟩ := id X
  have hD : ∀ σ, va_D (AW B 26) (wW cy B kM σ) := AW_D kM_len
  intro v0 v1 v2 v4 v5 t0 t1 σ h0 g0 h H locs ls hP hS hl
  unfold wX11_gateLine_152 at h
  refine lv_iconst (v := (5 : Int32)) hx hb dX11_gateLine_152 (by decide) ?_
  refine rk_callz (va_runV (As := [.int t1, .int (5 : Int32)]) (rest := []) X.1 (mX11_must l D cy B t0 t1 (5 : Int32) σ g0 h) (cwV 2 hts (gW_V (wi_31 _ (List.mem_of_getElem? (i := 18) rfl)) (wi_31 _ (List.mem_of_getElem? (i := 19) rfl)) (wi_31 _ (List.mem_of_getElem? (i := 20) rfl)) (wi_30 _ (List.mem_of_getElem? (i := 9) rfl)) (wi_31 _ (List.mem_of_getElem? (i := 4) rfl))) rfl rfl rfl hd_X11_must ⟨Nat.le_of_ble_eq_true rfl, Nat.le_of_ble_eq_true rfl⟩) (rk_preV X hS hP g0 rfl rfl [.int t1, .int (5 : Int32)]) rfl rfl hl.1 rfl (lv_room (Nat.le_of_ble_eq_true rfl)) dX11_gateLine_153 ⟨Nat.zero_le _, Nat.zero_le _⟩) hS (fun _ h => h) (fun r1 s1 H locs h hP hS => ?_)
  refine lv_if_ne (tgt := 161) hx hb dX11_gateLine_156 (by decide) (fun c1 => ?_) (fun c1 => ?_)
  · have h := h.1 (b2i_t c1)
    refine lv_aload_n hx hb dX11_gateLine_161 rfl (lv_at hl 0 rfl) ?_
    refine rk_get X hP (C := RX11) (T := TX11) (N := 44) (ci := 11) wix_11 h0 rfl rfl 7 (by decide) (wi_30 _ (List.mem_of_getElem? (i := 16) rfl)) rfl rfl dX11_gateLine_162 ?_
    refine lv_topi (fun x1 ex1 => ?_)
    have h := h x1 ex1
    refine lv_istore (lv' := [(6, .int x1), (0, .ref (B + v0)), (1, .int v1), (2, .long v2), (4, .int v4), (5, .int v5)]) hx hb dX11_gateLine_165 hl (by decide) rfl (fun ls hl => ?_)
    refine lv_aload_n hx hb dX11_gateLine_167 rfl (lv_at hl 1 rfl) ?_
    refine rk_callv (va_runV (As := []) (rest := []) X.1 (mX11_steps l D cy B v0 s1 h0 h) (cwV 0 hts (gW_V (wi_31 _ (List.mem_of_getElem? (i := 21) rfl)) (wi_31 _ (List.mem_of_getElem? (i := 22) rfl)) (wi_31 _ (List.mem_of_getElem? (i := 23) rfl)) (wi_30 _ (List.mem_of_getElem? (i := 9) rfl)) (wi_30 _ (List.mem_of_getElem? (i := 12) rfl))) rfl rfl rfl hd_X11_steps ⟨Nat.le_of_ble_eq_true rfl, Nat.le_of_ble_eq_true rfl⟩) (rk_preV X hS hP h0 rfl rfl []) rfl rfl hl.1 rfl (lv_room (Nat.le_of_ble_eq_true rfl)) dX11_gateLine_168 ⟨Nat.zero_le _, Nat.zero_le _⟩) hS (fun _ h => h) (fun s2 H locs h hP hS => ?_)
    refine lv_aload_n hx hb dX11_gateLine_171 rfl (lv_at hl 1 rfl) ?_
    refine lv_aload_n hx hb dX11_gateLine_172 rfl (lv_at hl 1 rfl) ?_
    refine rk_get X hP (C := RX11) (T := TX11) (N := 44) (ci := 11) wix_11 h0 rfl rfl 6 (by decide) (wi_30 _ (List.mem_of_getElem? (i := 15) rfl)) rfl rfl dX11_gateLine_173 ?_
    refine lv_iconst (v := (2 : Int32)) hx hb dX11_gateLine_176 (by decide) ?_
    refine lv_icmp_ne (tgt := 184) hx hb dX11_gateLine_177 (by decide) (fun c2 => ?_) (fun c2 => ?_)
    · have h := h.1 c2
      refine lv_iconst (v := (0 : Int32)) hx hb dX11_gateLine_184 (by decide) ?_
      exact tX11_gateLine_185 X hR109 _ _ _ _ _ _ _ _ _ h0 h0 h _ _ _ hP hS (lv_sub hl [1, 2, 3, 4, 5, 0] rfl)
    · have h := h.2 c2
      refine lv_iconst (v := (1 : Int32)) hx hb dX11_gateLine_180 (by decide) ?_
      refine lv_goto (tgt := 185) hx hb dX11_gateLine_181 (by decide) ?_
      exact tX11_gateLine_185 X hR109 _ _ _ _ _ _ _ _ _ h0 h0 h _ _ _ hP hS (lv_sub hl [1, 2, 3, 4, 5, 0] rfl)
  · have h := h.2 (b2i_f c1)
    refine lv_iconst (v := (0 : Int32)) hx hb dX11_gateLine_159 (by decide) ?_
    exact rk_zret X kM_len false h hP hS dX11_gateLine_160
set_option maxRecDepth 100000 in
set_option maxHeartbeats 4000000 in
theorem tX11_gateLine_132 {p : Program} {l : Launch} {e : Env} {s : State} {m : MethodId} {av : Array Value} {below : List Frame} {meth : Method} {c : Code} {D : va_G} {cy : Nat → ClassId} {B : Nat} (X : kC p s m av meth c cX11_gateLine 8 (some .boolean) WALL RX11 D cy (AW B 26)) {post : Bool → St → Prop} {R109 : Nat → Int32 → Int64 → Int32 → Int32 → St → Prop} (hR109 : ∀ (v0 : Nat) (v1 : Int32) (v2 : Int64) (v4 : Int32) (v5 : Int32) (σ : St), kM[v0]? = some 11 → R109 v0 v1 v2 v4 v5 σ → ∀ (H : Heap) (locs : List Loc) (ls : Array Slot), va_P D vwCl (wW cy B kM σ) H → va_S (AW B 26) s.heap H locs → lv_has ls 8 [(0, .ref (B + v0)), (1, .int v1), (2, .long v2), (4, .int v4), (5, .int v5)] → W p l e (rmD 13) s m av below meth c H locs 0 0 (MQ below (Qz post D cy B kM 26) av s 0 0 (AW B 26)) (F0 m 109 ls [])) : ∀ (v0 : Nat) (v1 : Int32) (v2 : Int64) (v4 : Int32) (v5 : Int32) (t0 : Nat) (t1 : Int32) (σ : St), kM[v0]? = some 11 → kM[t0]? = some 11 → wX11_gateLine_132 post R109 v0 v1 v2 v4 v5 t0 t1 σ → ∀ (H : Heap) (locs : List Loc) (ls : Array Slot), va_P D vwCl (wW cy B kM σ) H → va_S (AW B 26) s.heap H locs → lv_has ls 8 [(0, .ref (B + v0)), (1, .int v1), (2, .long v2), (4, .int v4), (5, .int v5)] → W p l e (rmD 13) s m av below meth c H locs 0 0 (MQ below (Qz post D cy B kM 26) av s 0 0 (AW B 26)) (F0 m 132 ls [.int t1, .ref (B + t0)]) := by
  obtain ⟨⟨hx, hb, hml, hown, hts⟩, hr, hlk, hK, hN, hZ⟩ := id X
  have hD : ∀ σ, va_D (AW B 26) (wW cy B kM σ) := AW_D kM_len
  intro v0 v1 v2 v4 v5 t0 t1 σ h0 g0 h H locs ls hP hS hl
  unfold wX11_gateLine_132 at h
  refine lv_iconst (v := (4 : Int32)) hx hb dX11_gateLine_132 (by decide) ?_
  refine rk_callz (va_runV (As := [.int t1, .int (4 : Int32)]) (rest := []) X.1 (mX11_must l D cy B t0 t1 (4 : Int32) σ g0 h) (cwV 2 hts (gW_V (wi_31 _ (List.mem_of_getElem? (i := 18) rfl)) (wi_31 _ (List.mem_of_getElem? (i := 19) rfl)) (wi_31 _ (List.mem_of_getElem? (i := 20) rfl)) (wi_30 _ (List.mem_of_getElem? (i := 9) rfl)) (wi_31 _ (List.mem_of_getElem? (i := 4) rfl))) rfl rfl rfl hd_X11_must ⟨Nat.le_of_ble_eq_true rfl, Nat.le_of_ble_eq_true rfl⟩) (rk_preV X hS hP g0 rfl rfl [.int t1, .int (4 : Int32)]) rfl rfl hl.1 rfl (lv_room (Nat.le_of_ble_eq_true rfl)) dX11_gateLine_133 ⟨Nat.zero_le _, Nat.zero_le _⟩) hS (fun _ h => h) (fun r1 s1 H locs h hP hS => ?_)
  refine lv_if_eq (tgt := 159) hx hb dX11_gateLine_136 (by decide) (fun c1 => ?_) (fun c1 => ?_)
  · have h := h.1 (b2i_f c1)
    refine lv_iconst (v := (0 : Int32)) hx hb dX11_gateLine_159 (by decide) ?_
    exact rk_zret X kM_len false h hP hS dX11_gateLine_160
  · have h := h.2 (b2i_t c1)
    refine lv_aload_n hx hb dX11_gateLine_139 rfl (lv_at hl 0 rfl) ?_
    refine lv_iload hx hb dX11_gateLine_140 (lv_at hl 4 rfl) ?_
    refine lv_bipush (v := (12 : Int32)) hx hb dX11_gateLine_142 (by decide) ?_
    refine lv_icmp_ge (tgt := 151) hx hb dX11_gateLine_144 (by decide) (fun c2 => ?_) (fun c2 => ?_)
    · have h := h.1 c2
      refine lv_iconst (v := (0 : Int32)) hx hb dX11_gateLine_151 (by decide) ?_
      exact tX11_gateLine_152 X hR109 _ _ _ _ _ _ _ _ h0 h0 h _ _ _ hP hS (lv_sub hl [0, 1, 2, 3, 4] rfl)
    · have h := h.2 c2
      refine lv_iconst (v := (1 : Int32)) hx hb dX11_gateLine_147 (by decide) ?_
      refine lv_goto (tgt := 152) hx hb dX11_gateLine_148 (by decide) ?_
      exact tX11_gateLine_152 X hR109 _ _ _ _ _ _ _ _ h0 h0 h _ _ _ hP hS (lv_sub hl [0, 1, 2, 3, 4] rfl)
set_option maxRecDepth 100000 in
set_option maxHeartbeats 4000000 in
theorem tX11_gateLine_109 {p : Program} {l : Launch} {e : Env} {s : State} {m : MethodId} {av : Array Value} {below : List Frame} {meth : Method} {c : Code} {D : va_G} {cy : Nat → ClassId} {B : Nat} (X : kC p s m av meth c cX11_gateLine 8 (some .boolean) WALL RX11 D cy (AW B 26)) {post : Bool → St → Prop} : ∀ (n : Nat) (v0 : Nat) (v1 : Int32) (v2 : Int64) (v4 : Int32) (v5 : Int32) (σ : St), kM[v0]? = some 11 → wX11_gateLine_109 post n v0 v1 v2 v4 v5 σ → ∀ (H : Heap) (locs : List Loc) (ls : Array Slot), va_P D vwCl (wW cy B kM σ) H → va_S (AW B 26) s.heap H locs → lv_has ls 8 [(0, .ref (B + v0)), (1, .int v1), (2, .long v2), (4, .int v4), (5, .int v5)] → W p l e (rmD 13) s m av below meth c H locs 0 0 (MQ below (Qz post D cy B kM 26) av s 0 0 (AW B 26)) (F0 m 109 ls []) := by
  obtain ⟨⟨hx, hb, hml, hown, hts⟩, hr, hlk, hK, hN, hZ⟩ := id X
  have hD : ∀ σ, va_D (AW B 26) (wW cy B kM σ) := AW_D kM_len
  intro n
  induction n with
  | zero => intro v0 v1 v2 v4 v5 σ h0 h; exact absurd h id
  | succ n ih =>
    intro v0 v1 v2 v4 v5 σ h0 h H locs ls hP hS hl
    rw [wX11_gateLine_109] at h
    refine lv_aload_n hx hb dX11_gateLine_109 rfl (lv_at hl 0 rfl) ?_
    refine rk_get X hP (C := RX11) (T := TX11) (N := 44) (ci := 11) wix_11 h0 rfl rfl 6 (by decide) (wi_30 _ (List.mem_of_getElem? (i := 15) rfl)) rfl rfl dX11_gateLine_110 ?_
    refine lv_iconst (v := (2 : Int32)) hx hb dX11_gateLine_113 (by decide) ?_
    refine lv_icmp_ne (tgt := 330) hx hb dX11_gateLine_114 (by decide) (fun c1 => ?_) (fun c1 => ?_)
    · have h := h.1 c1
      refine lv_aload_n hx hb dX11_gateLine_330 rfl (lv_at hl 0 rfl) ?_
      refine lv_iload hx hb dX11_gateLine_331 (lv_at hl 3 rfl) ?_
      refine lv_aload_n hx hb dX11_gateLine_333 rfl (lv_at hl 0 rfl) ?_
      refine rk_get X hP (C := RX11) (T := TX11) (N := 44) (ci := 11) wix_11 h0 rfl rfl 13 (by decide) (wi_28 _ (List.mem_of_getElem? (i := 22) rfl)) rfl rfl dX11_gateLine_334 ?_
      refine lv_aload_n hx hb dX11_gateLine_337 rfl (lv_at hl 0 rfl) ?_
      refine rk_get X hP (C := RX11) (T := TX11) (N := 44) (ci := 11) wix_11 h0 rfl rfl 12 (by decide) (wi_32 _ (List.mem_of_getElem? (i := 2) rfl)) rfl rfl dX11_gateLine_338 ?_
      refine lv_topi (fun x1 ex1 => ?_)
      have h := h x1 ex1
      obtain ⟨b1, h⟩ := h
      refine rk_iald X hP (n := 2) (klM_X11_13 h0) (fun _ _ => rfl) b1 dX11_gateLine_341 ?_
      refine rk_callv (va_runV (As := [.int v4, .int (σ.1 (v0 + 2) x1.toNatClampNeg)]) (rest := []) X.1 (mX11_laysMatchings l D cy B v0 v4 (σ.1 (v0 + 2) x1.toNatClampNeg) σ h0 h) (cwV 2 hts (gW_V (wi_33 _ (List.mem_of_getElem? (i := 3) rfl)) (wi_33 _ (List.mem_of_getElem? (i := 4) rfl)) (wi_33 _ (List.mem_of_getElem? (i := 5) rfl)) (wi_30 _ (List.mem_of_getElem? (i := 9) rfl)) (wi_33 _ (List.mem_of_getElem? (i := 2) rfl))) rfl rfl rfl hd_X11_laysMatchings ⟨Nat.le_of_ble_eq_true rfl, Nat.le_of_ble_eq_true rfl⟩) (rk_preV X hS hP h0 rfl rfl [.int v4, .int (σ.1 (v0 + 2) x1.toNatClampNeg)]) rfl rfl hl.1 rfl (lv_room (Nat.le_of_ble_eq_true rfl)) dX11_gateLine_342 ⟨Nat.zero_le _, Nat.zero_le _⟩) hS (fun _ h => h) (fun s1 H locs h hP hS => ?_)
      refine lv_iconst (v := (0 : Int32)) hx hb dX11_gateLine_345 (by decide) ?_
      refine lv_istore (lv' := [(6, .int (0 : Int32)), (0, .ref (B + v0)), (1, .int v1), (2, .long v2), (4, .int v4), (5, .int v5)]) hx hb dX11_gateLine_346 hl (by decide) rfl (fun ls hl => ?_)
      obtain ⟨j, h⟩ := h
      exact tX11_gateLine_348 X j _ _ _ _ _ _ h0 h _ _ _ hP hS (lv_sub hl [1, 2, 3, 4, 0] rfl)
    · have h := h.2 c1
      refine lv_aload_n hx hb dX11_gateLine_117 rfl (lv_at hl 0 rfl) ?_
      refine lv_aload_n hx hb dX11_gateLine_118 rfl (lv_at hl 0 rfl) ?_
      refine rk_get X hP (C := RX11) (T := TX11) (N := 44) (ci := 11) wix_11 h0 rfl rfl 7 (by decide) (wi_30 _ (List.mem_of_getElem? (i := 16) rfl)) rfl rfl dX11_gateLine_119 ?_
      refine lv_iload hx hb dX11_gateLine_122 (lv_at hl 3 rfl) ?_
      refine lv_icmp_ge (tgt := 131) hx hb dX11_gateLine_124 (by decide) (fun c2 => ?_) (fun c2 => ?_)
      · have h := h.1 c2
        refine lv_iconst (v := (0 : Int32)) hx hb dX11_gateLine_131 (by decide) ?_
        exact tX11_gateLine_132 X ih _ _ _ _ _ _ _ _ h0 h0 h _ _ _ hP hS (lv_sub hl [0, 1, 2, 3, 4] rfl)
      · have h := h.2 c2
        refine lv_iconst (v := (1 : Int32)) hx hb dX11_gateLine_127 (by decide) ?_
        refine lv_goto (tgt := 132) hx hb dX11_gateLine_128 (by decide) ?_
        exact tX11_gateLine_132 X ih _ _ _ _ _ _ _ _ h0 h0 h _ _ _ hP hS (lv_sub hl [0, 1, 2, 3, 4] rfl)
set_option maxRecDepth 100000 in
set_option maxHeartbeats 4000000 in
theorem tX11_gateLine_85 {p : Program} {l : Launch} {e : Env} {s : State} {m : MethodId} {av : Array Value} {below : List Frame} {meth : Method} {c : Code} {D : va_G} {cy : Nat → ClassId} {B : Nat} (X : kC p s m av meth c cX11_gateLine 8 (some .boolean) WALL RX11 D cy (AW B 26)) {post : Bool → St → Prop} : ∀ (n : Nat) (v0 : Nat) (v1 : Int32) (v2 : Int64) (v4 : Int32) (v5 : Int32) (σ : St), kM[v0]? = some 11 → wX11_gateLine_85 post n v0 v1 v2 v4 v5 σ → ∀ (H : Heap) (locs : List Loc) (ls : Array Slot), va_P D vwCl (wW cy B kM σ) H → va_S (AW B 26) s.heap H locs → lv_has ls 8 [(0, .ref (B + v0)), (1, .int v1), (2, .long v2), (4, .int v4), (5, .int v5)] → W p l e (rmD 13) s m av below meth c H locs 0 0 (MQ below (Qz post D cy B kM 26) av s 0 0 (AW B 26)) (F0 m 85 ls []) := by
  obtain ⟨⟨hx, hb, hml, hown, hts⟩, hr, hlk, hK, hN, hZ⟩ := id X
  have hD : ∀ σ, va_D (AW B 26) (wW cy B kM σ) := AW_D kM_len
  intro n
  induction n with
  | zero => intro v0 v1 v2 v4 v5 σ h0 h; exact absurd h id
  | succ n ih =>
    intro v0 v1 v2 v4 v5 σ h0 h H locs ls hP hS hl
    rw [wX11_gateLine_85] at h
    refine lv_iload hx hb dX11_gateLine_85 (lv_at hl 4 rfl) ?_
    refine lv_bipush (v := (64 : Int32)) hx hb dX11_gateLine_87 (by decide) ?_
    refine lv_icmp_ge (tgt := 106) hx hb dX11_gateLine_89 (by decide) (fun c1 => ?_) (fun c1 => ?_)
    · have h := h.1 c1
      refine lv_iconst (v := (0 : Int32)) hx hb dX11_gateLine_106 (by decide) ?_
      refine lv_istore (lv' := [(5, .int (0 : Int32)), (0, .ref (B + v0)), (1, .int v1), (2, .long v2), (4, .int v4)]) hx hb dX11_gateLine_107 hl (by decide) rfl (fun ls hl => ?_)
      obtain ⟨j, h⟩ := h
      exact tX11_gateLine_109 X j _ _ _ _ _ _ h0 h _ _ _ hP hS (lv_sub hl [1, 2, 3, 4, 0] rfl)
    · have h := h.2 c1
      refine lv_aload_n hx hb dX11_gateLine_92 rfl (lv_at hl 0 rfl) ?_
      refine rk_get X hP (C := RX11) (T := TX11) (N := 44) (ci := 11) wix_11 h0 rfl rfl 27 (by decide) (wi_29 _ (List.mem_of_getElem? (i := 11) rfl)) rfl rfl dX11_gateLine_93 ?_
      refine lv_iload hx hb dX11_gateLine_96 (lv_at hl 4 rfl) ?_
      refine lv_iconst (v := (0 : Int32)) hx hb dX11_gateLine_98 (by decide) ?_
      obtain ⟨b1, h⟩ := h
      refine rk_iast X hP hD hS (n := 64) (klM_X11_27 h0) (fun _ _ => rfl) b1 dX11_gateLine_99 (fun H locs hP hS => ?_)
      obtain ⟨s1, es1⟩ : ∃ z : St, z = u1 σ (v0 + 14) v5.toNatClampNeg (0 : Int32) := ⟨_, rfl⟩
      rw [← es1] at hP
      have h := h s1 es1
      obtain ⟨x1, ex1⟩ : ∃ y : Int32, y = v5 + (1 : Int32) := ⟨_, rfl⟩
      have h := h x1 ex1
      refine lv_iinc (v := x1) (lv' := [(5, .int x1), (0, .ref (B + v0)), (1, .int v1), (2, .long v2), (4, .int v4)]) hx hb dX11_gateLine_100 hl (k := 4) rfl (by rw [ex1]; rfl) (by decide) rfl (fun ls hl => ?_)
      refine lv_goto (tgt := 85) hx hb dX11_gateLine_103 (by decide) ?_
      exact ih _ _ _ _ _ _ h0 h _ _ _ hP hS (lv_sub hl [1, 2, 3, 4, 0] rfl)
set_option maxRecDepth 100000 in
set_option maxHeartbeats 4000000 in
theorem tX11_gateLine_64 {p : Program} {l : Launch} {e : Env} {s : State} {m : MethodId} {av : Array Value} {below : List Frame} {meth : Method} {c : Code} {D : va_G} {cy : Nat → ClassId} {B : Nat} (X : kC p s m av meth c cX11_gateLine 8 (some .boolean) WALL RX11 D cy (AW B 26)) {post : Bool → St → Prop} : ∀ (v0 : Nat) (v1 : Int32) (v2 : Int64) (v4 : Int32) (t0 : Nat) (t1 : Int32) (t2 : Int32) (σ : St), kM[v0]? = some 11 → kM[t0]? = some 11 → wX11_gateLine_64 post v0 v1 v2 v4 t0 t1 t2 σ → ∀ (H : Heap) (locs : List Loc) (ls : Array Slot), va_P D vwCl (wW cy B kM σ) H → va_S (AW B 26) s.heap H locs → lv_has ls 8 [(0, .ref (B + v0)), (1, .int v1), (2, .long v2), (4, .int v4)] → W p l e (rmD 13) s m av below meth c H locs 0 0 (MQ below (Qz post D cy B kM 26) av s 0 0 (AW B 26)) (F0 m 64 ls [.int t2, .int t1, .ref (B + t0)]) := by
  obtain ⟨⟨hx, hb, hml, hown, hts⟩, hr, hlk, hK, hN, hZ⟩ := id X
  have hD : ∀ σ, va_D (AW B 26) (wW cy B kM σ) := AW_D kM_len
  intro v0 v1 v2 v4 t0 t1 t2 σ h0 g0 h H locs ls hP hS hl
  unfold wX11_gateLine_64 at h
  refine rk_callz (va_runV (As := [.int t1, .int t2]) (rest := []) X.1 (mX11_takesNumber l D cy B t0 t1 t2 σ g0 h) (cwV 2 hts (gW_V (wi_32 _ (List.mem_of_getElem? (i := 22) rfl)) (wi_32 _ (List.mem_of_getElem? (i := 23) rfl)) (wi_33 _ (List.mem_of_getElem? (i := 0) rfl)) (wi_30 _ (List.mem_of_getElem? (i := 9) rfl)) (wi_32 _ (List.mem_of_getElem? (i := 0) rfl))) rfl rfl rfl hd_X11_takesNumber ⟨Nat.le_of_ble_eq_true rfl, Nat.le_of_ble_eq_true rfl⟩) (rk_preV X hS hP g0 rfl rfl [.int t1, .int t2]) rfl rfl hl.1 rfl (lv_room (Nat.le_of_ble_eq_true rfl)) dX11_gateLine_64 ⟨Nat.zero_le _, Nat.zero_le _⟩) hS (fun _ h => h) (fun r1 s1 H locs h hP hS => ?_)
  refine lv_if_ne (tgt := 72) hx hb dX11_gateLine_67 (by decide) (fun c1 => ?_) (fun c1 => ?_)
  · have h := h.1 (b2i_t c1)
    refine lv_aload_n hx hb dX11_gateLine_72 rfl (lv_at hl 0 rfl) ?_
    refine rk_get X hP (C := RX11) (T := TX11) (N := 44) (ci := 11) wix_11 h0 rfl rfl 20 (by decide) (wi_29 _ (List.mem_of_getElem? (i := 6) rfl)) rfl rfl dX11_gateLine_73 ?_
    refine lv_iload_n hx hb dX11_gateLine_76 rfl (lv_at hl 1 rfl) ?_
    refine lv_aload_n hx hb dX11_gateLine_77 rfl (lv_at hl 0 rfl) ?_
    refine rk_get X hP (C := RX11) (T := TX11) (N := 44) (ci := 11) wix_11 h0 rfl rfl 11 (by decide) (wi_31 _ (List.mem_of_getElem? (i := 17) rfl)) rfl rfl dX11_gateLine_78 ?_
    obtain ⟨b1, h⟩ := h
    refine rk_iast X hP hD hS (n := 16) (klM_X11_20 h0) (fun _ _ => rfl) b1 dX11_gateLine_81 (fun H locs hP hS => ?_)
    obtain ⟨s2, es2⟩ : ∃ z : St, z = u1 s1 (v0 + 9) v1.toNatClampNeg (s1.1 v0 11) := ⟨_, rfl⟩
    rw [← es2] at hP
    have h := h s2 es2
    refine lv_iconst (v := (0 : Int32)) hx hb dX11_gateLine_82 (by decide) ?_
    refine lv_istore (lv' := [(5, .int (0 : Int32)), (0, .ref (B + v0)), (1, .int v1), (2, .long v2), (4, .int v4)]) hx hb dX11_gateLine_83 hl (by decide) rfl (fun ls hl => ?_)
    obtain ⟨j, h⟩ := h
    exact tX11_gateLine_85 X j _ _ _ _ _ _ h0 h _ _ _ hP hS (lv_sub hl [1, 2, 3, 4, 0] rfl)
  · have h := h.2 (b2i_f c1)
    refine lv_iconst (v := (0 : Int32)) hx hb dX11_gateLine_70 (by decide) ?_
    exact rk_zret X kM_len false h hP hS dX11_gateLine_71
set_option maxRecDepth 100000 in
set_option maxHeartbeats 4000000 in
theorem mX11_gateLine (l : Launch) (D : va_G) (cy : Nat → ClassId) (B : Nat) (v0 : Nat) (σ : St) (h0 : kM[v0]? = some 11) {post : Bool → St → Prop} (h : wX11_gateLine v0 σ post) : Met l yX11_gateLine (Cond.code yX11_gateLine cX11_gateLine 8 (some .boolean) :: WALL) (rmD 13) (PcW D cy B kM σ [.ref (B + v0)]) (Qz post D cy B kM 26) 0 0 (AW B 26) := by
  refine Met.ofK (cc := cX11_gateLine) (maxL := 8) (ret := (some .boolean)) (by decide +kernel) rfl kM_len ?_
  intro p e s m below meth c X hP
  obtain ⟨⟨hx, hb, hml, hown, hts⟩, hr, hlk, hK, hN, hZ⟩ := id X
  have hD : ∀ σ, va_D (AW B 26) (wW cy B kM σ) := AW_D kM_len
  have hS : va_S (AW B 26) s.heap s.heap [] := va_S.rf
  have hl := lv_entry ([.ref (B + v0)]) (n := 8) (Nat.le_of_ble_eq_true rfl)
  rw [lg_entry_eq]
  generalize (lg_sl ([.ref (B + v0)]) ++ List.replicate (8 - (lg_sl ([.ref (B + v0)])).length) Slot.unset).toArray = ls at hl ⊢
  have hl : lv_has ls 8 [(0, .ref (B + v0))] := hl
  unfold wX11_gateLine at h
  refine lv_aload_n hx hb dX11_gateLine_0 rfl (lv_at hl 0 rfl) ?_
  refine rk_callz (va_runV (As := []) (rest := []) X.1 (mX11_newName l D cy B v0 σ h0 h) (cwV 0 hts (gW_V (wi_32 _ (List.mem_of_getElem? (i := 19) rfl)) (wi_32 _ (List.mem_of_getElem? (i := 20) rfl)) (wi_32 _ (List.mem_of_getElem? (i := 21) rfl)) (wi_30 _ (List.mem_of_getElem? (i := 9) rfl)) (wi_32 _ (List.mem_of_getElem? (i := 18) rfl))) rfl rfl rfl hd_X11_newName ⟨Nat.le_of_ble_eq_true rfl, Nat.le_of_ble_eq_true rfl⟩) (rk_preV X hS hP h0 rfl rfl []) rfl rfl hl.1 rfl (lv_room (Nat.le_of_ble_eq_true rfl)) dX11_gateLine_1 ⟨Nat.zero_le _, Nat.zero_le _⟩) hS (fun _ h => h) (fun r1 s1 H locs h hP hS => ?_)
  refine lv_if_ne (tgt := 9) hx hb dX11_gateLine_4 (by decide) (fun c1 => ?_) (fun c1 => ?_)
  · have h := h.1 (b2i_t c1)
    refine lv_bipush (v := (8 : Int32)) hx hb dX11_gateLine_9 (by decide) ?_
    refine lv_aload_n hx hb dX11_gateLine_11 rfl (lv_at hl 0 rfl) ?_
    refine rk_get X hP (C := RX11) (T := TX11) (N := 44) (ci := 11) wix_11 h0 rfl rfl 12 (by decide) (wi_32 _ (List.mem_of_getElem? (i := 2) rfl)) rfl rfl dX11_gateLine_12 ?_
    refine lv_imul hx hb dX11_gateLine_15 ?_
    refine lv_aload_n hx hb dX11_gateLine_16 rfl (lv_at hl 0 rfl) ?_
    refine rk_get X hP (C := RX11) (T := TX11) (N := 44) (ci := 11) wix_11 h0 rfl rfl 14 (by decide) (wi_28 _ (List.mem_of_getElem? (i := 23) rfl)) rfl rfl dX11_gateLine_17 ?_
    refine lv_aload_n hx hb dX11_gateLine_20 rfl (lv_at hl 0 rfl) ?_
    refine rk_get X hP (C := RX11) (T := TX11) (N := 44) (ci := 11) wix_11 h0 rfl rfl 12 (by decide) (wi_32 _ (List.mem_of_getElem? (i := 2) rfl)) rfl rfl dX11_gateLine_21 ?_
    refine lv_topi (fun x1 ex1 => ?_)
    have h := h x1 ex1
    obtain ⟨b1, h⟩ := h
    refine rk_iald X hP (n := 2) (klM_X11_14 h0) (fun _ _ => rfl) b1 dX11_gateLine_24 ?_
    refine lv_iadd hx hb dX11_gateLine_25 ?_
    refine lv_topi (fun x2 ex2 => ?_)
    have h := h x2 ex2
    refine lv_istore_n (lv' := [(1, .int x2), (0, .ref (B + v0))]) hx hb dX11_gateLine_26 rfl hl (by decide) rfl (fun ls hl => ?_)
    refine lv_aload_n hx hb dX11_gateLine_27 rfl (lv_at hl 1 rfl) ?_
    refine rk_get X hP (C := RX11) (T := TX11) (N := 44) (ci := 11) wix_11 h0 rfl rfl 26 (by decide) (wi_32 _ (List.mem_of_getElem? (i := 5) rfl)) rfl rfl dX11_gateLine_28 ?_
    refine lv_topl (fun x3 ex3 => ?_)
    have h := h x3 ex3
    refine lv_lstore_n (lv' := [(2, .long x3), (1, .int x2), (0, .ref (B + v0))]) hx hb dX11_gateLine_31 rfl hl (by decide) rfl (fun ls hl => ?_)
    refine lv_aload_n hx hb dX11_gateLine_32 rfl (lv_at hl 2 rfl) ?_
    refine lv_iconst (v := (1 : Int32)) hx hb dX11_gateLine_33 (by decide) ?_
    refine lv_bipush (v := (8 : Int32)) hx hb dX11_gateLine_34 (by decide) ?_
    refine rk_callz (va_runV (As := [.int (1 : Int32), .int (8 : Int32)]) (rest := []) X.1 (mX11_takesNumber l D cy B v0 (1 : Int32) (8 : Int32) s1 h0 h) (cwV 2 hts (gW_V (wi_32 _ (List.mem_of_getElem? (i := 22) rfl)) (wi_32 _ (List.mem_of_getElem? (i := 23) rfl)) (wi_33 _ (List.mem_of_getElem? (i := 0) rfl)) (wi_30 _ (List.mem_of_getElem? (i := 9) rfl)) (wi_32 _ (List.mem_of_getElem? (i := 0) rfl))) rfl rfl rfl hd_X11_takesNumber ⟨Nat.le_of_ble_eq_true rfl, Nat.le_of_ble_eq_true rfl⟩) (rk_preV X hS hP h0 rfl rfl [.int (1 : Int32), .int (8 : Int32)]) rfl rfl hl.1 rfl (lv_room (Nat.le_of_ble_eq_true rfl)) dX11_gateLine_36 ⟨Nat.zero_le _, Nat.zero_le _⟩) hS (fun _ h => h) (fun r2 s2 H locs h hP hS => ?_)
    refine lv_if_ne (tgt := 44) hx hb dX11_gateLine_39 (by decide) (fun c2 => ?_) (fun c2 => ?_)
    · have h := h.1 (b2i_t c2)
      refine lv_aload_n hx hb dX11_gateLine_44 rfl (lv_at hl 2 rfl) ?_
      refine rk_get X hP (C := RX11) (T := TX11) (N := 44) (ci := 11) wix_11 h0 rfl rfl 11 (by decide) (wi_31 _ (List.mem_of_getElem? (i := 17) rfl)) rfl rfl dX11_gateLine_45 ?_
      refine lv_topi (fun x4 ex4 => ?_)
      have h := h x4 ex4
      refine lv_istore (lv' := [(4, .int x4), (2, .long x3), (1, .int x2), (0, .ref (B + v0))]) hx hb dX11_gateLine_48 hl (by decide) rfl (fun ls hl => ?_)
      refine lv_aload_n hx hb dX11_gateLine_50 rfl (lv_at hl 3 rfl) ?_
      refine lv_iconst (v := (1 : Int32)) hx hb dX11_gateLine_51 (by decide) ?_
      refine lv_iload hx hb dX11_gateLine_52 (lv_at hl 0 rfl) ?_
      refine lv_iconst (v := (4 : Int32)) hx hb dX11_gateLine_54 (by decide) ?_
      refine lv_icmp_ge (tgt := 63) hx hb dX11_gateLine_55 (by decide) (fun c3 => ?_) (fun c3 => ?_)
      · have h := h.1 c3
        refine lv_iconst (v := (4 : Int32)) hx hb dX11_gateLine_63 (by decide) ?_
        exact tX11_gateLine_64 X _ _ _ _ _ _ _ _ h0 h0 h _ _ _ hP hS (lv_sub hl [3, 2, 1, 0] rfl)
      · have h := h.2 c3
        refine lv_iload hx hb dX11_gateLine_58 (lv_at hl 0 rfl) ?_
        refine lv_goto (tgt := 64) hx hb dX11_gateLine_60 (by decide) ?_
        exact tX11_gateLine_64 X _ _ _ _ _ _ _ _ h0 h0 h _ _ _ hP hS (lv_sub hl [3, 2, 1, 0] rfl)
    · have h := h.2 (b2i_f c2)
      refine lv_iconst (v := (0 : Int32)) hx hb dX11_gateLine_42 (by decide) ?_
      exact rk_zret X kM_len false h hP hS dX11_gateLine_43
  · have h := h.2 (b2i_f c1)
    refine lv_iconst (v := (0 : Int32)) hx hb dX11_gateLine_7 (by decide) ?_
    exact rk_zret X kM_len false h hP hS dX11_gateLine_8

theorem hd_X11_modulo : yX11_modulo.cls ≠ "java/lang/invoke/MethodHandle" ∧ yX11_modulo.cls ≠ "java/lang/invoke/VarHandle" ∧ (parseMethodDescriptor yX11_modulo.desc).map (fun d => d.parameters.length) = some 2 := by decide +kernel
set_option maxRecDepth 100000 in
set_option maxHeartbeats 4000000 in
theorem mX11_modulo (l : Launch) (D : va_G) (cy : Nat → ClassId) (B : Nat) (v0 : Int64) (v2 : Int32) (σ : St) {post : Int32 → St → Prop} (h : wX11_modulo v0 v2 σ post) : Met l yX11_modulo (Cond.code yX11_modulo cX11_modulo 4 (some .int) :: WALL) (rmD 0) (PcW D cy B kM σ [.long v0, .int v2]) (va_Qi post (BW D cy B kM) (AW B 26)) 0 0 (AW B 26) := by
  refine Met.ofK (cc := cX11_modulo) (maxL := 4) (ret := (some .int)) (by decide +kernel) rfl kM_len ?_
  intro p e s m below meth c X hP
  obtain ⟨⟨hx, hb, hml, hown, hts⟩, hr, hlk, hK, hN, hZ⟩ := id X
  have hD : ∀ σ, va_D (AW B 26) (wW cy B kM σ) := AW_D kM_len
  have hS : va_S (AW B 26) s.heap s.heap [] := va_S.rf
  have hl := lv_entry ([.long v0, .int v2]) (n := 4) (Nat.le_of_ble_eq_true rfl)
  rw [lg_entry_eq]
  generalize (lg_sl ([.long v0, .int v2]) ++ List.replicate (4 - (lg_sl ([.long v0, .int v2])).length) Slot.unset).toArray = ls at hl ⊢
  have hl : lv_has ls 4 [(0, .long v0), (2, .int v2)] := hl
  unfold wX11_modulo at h
  refine lv_lload_n hx hb dX11_modulo_0 rfl (lv_at hl 0 rfl) ?_
  refine lv_iload_n hx hb dX11_modulo_1 rfl (lv_at hl 1 rfl) ?_
  refine lv_i2l hx hb dX11_modulo_2 rfl ?_
  obtain ⟨z1, h⟩ := h
  refine lv_lrem hx hb dX11_modulo_3 z1 ?_
  refine lv_l2i hx hb dX11_modulo_4 rfl ?_
  refine lv_topi (fun x1 ex1 => ?_)
  have h := h x1 ex1
  refine lv_istore_n (lv' := [(3, .int x1), (0, .long v0), (2, .int v2)]) hx hb dX11_modulo_5 rfl hl (by decide) rfl (fun ls hl => ?_)
  refine lv_iload_n hx hb dX11_modulo_6 rfl (lv_at hl 0 rfl) ?_
  refine lv_if_ge (tgt := 16) hx hb dX11_modulo_7 (by decide) (fun c1 => ?_) (fun c1 => ?_)
  · have h := h.1 c1
    refine lv_iload_n hx hb dX11_modulo_16 rfl (lv_at hl 0 rfl) ?_
    exact rk_iret X rfl kM_len h hP hS dX11_modulo_17
  · have h := h.2 c1
    refine lv_iload_n hx hb dX11_modulo_10 rfl (lv_at hl 0 rfl) ?_
    refine lv_iload_n hx hb dX11_modulo_11 rfl (lv_at hl 2 rfl) ?_
    refine lv_iadd hx hb dX11_modulo_12 ?_
    refine lv_goto (tgt := 17) hx hb dX11_modulo_13 (by decide) ?_
    exact rk_iret X rfl kM_len h hP hS dX11_modulo_17
