theorem hd_X10_layOnTape : yX10_layOnTape.cls = RX10 ∧ yX10_layOnTape.cls ≠ "java/lang/invoke/MethodHandle" ∧ yX10_layOnTape.cls ≠ "java/lang/invoke/VarHandle" ∧ (parseMethodDescriptor yX10_layOnTape.desc).map (fun d => d.parameters.length) = some 1 := by decide +kernel
set_option maxRecDepth 100000 in
set_option maxHeartbeats 4000000 in
theorem tX10_layOnTape_3 {p : Program} {l : Launch} {e : Env} {s : State} {m : MethodId} {av : Array Value} {below : List Frame} {meth : Method} {c : Code} {D : va_G} {cy : Nat → ClassId} {B : Nat} (X : kC p s m av meth c cX10_layOnTape 3 none WALL RX10 D cy (AW B 346)) {post : St → Prop} : ∀ (n : Nat) (v0 : Nat) (v1 : Int32) (v2 : Int32) (σ : St), kX[v0]? = some 10 → wX10_layOnTape_3 post n v0 v1 v2 σ → ∀ (H : Heap) (locs : List Loc) (ls : Array Slot), va_P D vwCl (wW cy B kX σ) H → va_S (AW B 346) s.heap H locs → lv_has ls 3 [(0, .ref (B + v0)), (1, .int v1), (2, .int v2)] → W p l e (rmD 0) s m av below meth c H locs 0 0 (MQ below (va_Qv post (BW D cy B kX) (AW B 346)) av s 0 0 (AW B 346)) (F0 m 3 ls []) := by
  obtain ⟨⟨hx, hb, hml, hown, hts⟩, hr, hlk, hK, hN, hZ⟩ := id X
  have hD : ∀ σ, va_D (AW B 346) (wW cy B kX σ) := AW_D kX_len
  intro n
  induction n with
  | zero => intro v0 v1 v2 σ h0 h; exact absurd h id
  | succ n ih =>
    intro v0 v1 v2 σ h0 h H locs ls hP hS hl
    rw [wX10_layOnTape_3] at h
    refine lv_iload_n hx hb dX10_layOnTape_3 rfl (lv_at hl 2 rfl) ?_
    refine lv_if_lt (tgt := 46) hx hb dX10_layOnTape_4 (by decide) (fun c1 => ?_) (fun c1 => ?_)
    · have h := h.1 c1
      exact rk_vret X kX_len h hP hS dX10_layOnTape_46
    · have h := h.2 c1
      refine lv_aload_n hx hb dX10_layOnTape_7 rfl (lv_at hl 0 rfl) ?_
      refine rk_get X hP (C := RX10) (T := TX10) (N := 14) (ci := 10) wix_10 h0 rfl rfl 1 (by decide) (wi_20 _ (List.mem_of_getElem? (i := 8) rfl)) rfl rfl dX10_layOnTape_8 ?_
      refine lv_sipush (v := (700 : Int32)) hx hb dX10_layOnTape_11 (by decide) ?_
      refine lv_icmp_ge (tgt := 40) hx hb dX10_layOnTape_14 (by decide) (fun c2 => ?_) (fun c2 => ?_)
      · have h := h.1 c2
        obtain ⟨x1, ex1⟩ : ∃ y : Int32, y = v2 + (-8 : Int32) := ⟨_, rfl⟩
        have h := h x1 ex1
        refine lv_iinc (v := x1) (lv' := [(2, .int x1), (0, .ref (B + v0)), (1, .int v1)]) hx hb dX10_layOnTape_40 hl (k := 2) rfl (by rw [ex1]; rfl) (by decide) rfl (fun ls hl => ?_)
        refine lv_goto (tgt := 3) hx hb dX10_layOnTape_43 (by decide) ?_
        exact ih _ _ _ _ h0 h _ _ _ hP hS (lv_sub hl [1, 2, 0] rfl)
      · have h := h.2 c2
        refine lv_aload_n hx hb dX10_layOnTape_17 rfl (lv_at hl 0 rfl) ?_
        refine rk_get X hP (C := RX10) (T := TX10) (N := 14) (ci := 10) wix_10 h0 rfl rfl 0 (by decide) (wi_20 _ (List.mem_of_getElem? (i := 7) rfl)) rfl rfl dX10_layOnTape_18 ?_
        refine lv_aload_n hx hb dX10_layOnTape_21 rfl (lv_at hl 0 rfl) ?_
        refine rk_get X hP (C := RX10) (T := TX10) (N := 14) (ci := 10) wix_10 h0 rfl rfl 1 (by decide) (wi_20 _ (List.mem_of_getElem? (i := 8) rfl)) rfl rfl dX10_layOnTape_22 ?_
        refine lv_iload_n hx hb dX10_layOnTape_25 rfl (lv_at hl 1 rfl) ?_
        refine lv_iload_n hx hb dX10_layOnTape_26 rfl (lv_at hl 2 rfl) ?_
        refine lv_iushr hx hb dX10_layOnTape_27 rfl ?_
        refine lv_i2b hx hb dX10_layOnTape_28 rfl ?_
        obtain ⟨b1, h⟩ := h
        refine rk_bast X hP hD hS (n := 700) (klX_X10_0 h0) (fun _ _ => rfl) b1 dX10_layOnTape_29 (fun H locs hP hS => ?_)
        obtain ⟨s1, es1⟩ : ∃ z : St, z = u1 σ (v0 + 1) (σ.1 v0 1).toNatClampNeg (vp_nar .byte (((v1.toUInt32 >>> (v2.toUInt32 &&& Int32.toUInt32 31)).toInt32).toInt8.toInt32)) := ⟨_, rfl⟩
        rw [← es1] at hP
        have h := h s1 es1
        refine lv_aload_n hx hb dX10_layOnTape_30 rfl (lv_at hl 0 rfl) ?_
        refine lv_dup hx hb dX10_layOnTape_31 rfl ?_
        refine rk_get X hP (C := RX10) (T := TX10) (N := 14) (ci := 10) wix_10 h0 rfl rfl 1 (by decide) (wi_20 _ (List.mem_of_getElem? (i := 8) rfl)) rfl rfl dX10_layOnTape_32 ?_
        refine lv_iconst (v := (1 : Int32)) hx hb dX10_layOnTape_35 (by decide) ?_
        refine lv_iadd hx hb dX10_layOnTape_36 ?_
        refine rk_puti X hP hD hS (C := RX10) (T := TX10) (N := 14) (ci := 10) wix_10 h0 rfl rfl tyX10 tyX10_ok nmX10 1 (by decide) (wi_20 _ (List.mem_of_getElem? (i := 8) rfl)) rfl rfl (by decide +kernel) (Nat.le_of_ble_eq_true rfl) rfl dX10_layOnTape_37 (fun H locs hP hS => ?_)
        obtain ⟨s2, es2⟩ : ∃ z : St, z = u1 s1 v0 1 ((s1.1 v0 1) + (1 : Int32)) := ⟨_, rfl⟩
        rw [← es2] at hP
        have h := h s2 es2
        obtain ⟨x2, ex2⟩ : ∃ y : Int32, y = v2 + (-8 : Int32) := ⟨_, rfl⟩
        have h := h x2 ex2
        refine lv_iinc (v := x2) (lv' := [(2, .int x2), (0, .ref (B + v0)), (1, .int v1)]) hx hb dX10_layOnTape_40 hl (k := 2) rfl (by rw [ex2]; rfl) (by decide) rfl (fun ls hl => ?_)
        refine lv_goto (tgt := 3) hx hb dX10_layOnTape_43 (by decide) ?_
        exact ih _ _ _ _ h0 h _ _ _ hP hS (lv_sub hl [1, 2, 0] rfl)
set_option maxRecDepth 100000 in
set_option maxHeartbeats 4000000 in
theorem mX10_layOnTape (l : Launch) (D : va_G) (cy : Nat → ClassId) (B : Nat) (v0 : Nat) (v1 : Int32) (σ : St) (h0 : kX[v0]? = some 10) {post : St → Prop} (h : wX10_layOnTape v0 v1 σ post) : Met l yX10_layOnTape (Cond.code yX10_layOnTape cX10_layOnTape 3 none :: WALL) (rmD 0) (PcW D cy B kX σ [.ref (B + v0), .int v1]) (va_Qv post (BW D cy B kX) (AW B 346)) 0 0 (AW B 346) := by
  refine Met.ofK (cc := cX10_layOnTape) (maxL := 3) (ret := none) (by decide +kernel) rfl kX_len ?_
  intro p e s m below meth c X hP
  obtain ⟨⟨hx, hb, hml, hown, hts⟩, hr, hlk, hK, hN, hZ⟩ := id X
  have hD : ∀ σ, va_D (AW B 346) (wW cy B kX σ) := AW_D kX_len
  have hS : va_S (AW B 346) s.heap s.heap [] := va_S.rf
  have hl := lv_entry ([.ref (B + v0), .int v1]) (n := 3) (Nat.le_of_ble_eq_true rfl)
  rw [lg_entry_eq]
  generalize (lg_sl ([.ref (B + v0), .int v1]) ++ List.replicate (3 - (lg_sl ([.ref (B + v0), .int v1])).length) Slot.unset).toArray = ls at hl ⊢
  have hl : lv_has ls 3 [(0, .ref (B + v0)), (1, .int v1)] := hl
  unfold wX10_layOnTape at h
  refine lv_bipush (v := (24 : Int32)) hx hb dX10_layOnTape_0 (by decide) ?_
  refine lv_istore_n (lv' := [(2, .int (24 : Int32)), (0, .ref (B + v0)), (1, .int v1)]) hx hb dX10_layOnTape_2 rfl hl (by decide) rfl (fun ls hl => ?_)
  obtain ⟨j, h⟩ := h
  exact tX10_layOnTape_3 X j _ _ _ _ h0 h _ _ _ hP hS (lv_sub hl [1, 2, 0] rfl)

theorem hd_X10_feed : yX10_feed.cls = RX10 ∧ yX10_feed.cls ≠ "java/lang/invoke/MethodHandle" ∧ yX10_feed.cls ≠ "java/lang/invoke/VarHandle" ∧ (parseMethodDescriptor yX10_feed.desc).map (fun d => d.parameters.length) = some 5 := by decide +kernel
set_option maxRecDepth 100000 in
set_option maxHeartbeats 4000000 in
theorem mX10_feed (l : Launch) (D : va_G) (cy : Nat → ClassId) (B : Nat) (v0 : Nat) (v1 : Int32) (v2 : Int32) (v3 : Int32) (v4 : Int32) (v5 : Int32) (σ : St) (h0 : kX[v0]? = some 10) {post : Int32 → St → Prop} (h : wX10_feed v0 v1 v2 v3 v4 v5 σ post) : Met l yX10_feed (Cond.code yX10_feed cX10_feed 6 (some .int) :: WALL) (rmD 1) (PcW D cy B kX σ [.ref (B + v0), .int v1, .int v2, .int v3, .int v4, .int v5]) (va_Qi post (BW D cy B kX) (AW B 346)) 0 0 (AW B 346) := by
  refine Met.ofK (cc := cX10_feed) (maxL := 6) (ret := (some .int)) (by decide +kernel) rfl kX_len ?_
  intro p e s m below meth c X hP
  obtain ⟨⟨hx, hb, hml, hown, hts⟩, hr, hlk, hK, hN, hZ⟩ := id X
  have hD : ∀ σ, va_D (AW B 346) (wW cy B kX σ) := AW_D kX_len
  have hS : va_S (AW B 346) s.heap s.heap [] := va_S.rf
  have hl := lv_entry ([.ref (B + v0), .int v1, .int v2, .int v3, .int v4, .int v5]) (n := 6) (Nat.le_of_ble_eq_true rfl)
  rw [lg_entry_eq]
  generalize (lg_sl ([.ref (B + v0), .int v1, .int v2, .int v3, .int v4, .int v5]) ++ List.replicate (6 - (lg_sl ([.ref (B + v0), .int v1, .int v2, .int v3, .int v4, .int v5])).length) Slot.unset).toArray = ls at hl ⊢
  have hl : lv_has ls 6 [(0, .ref (B + v0)), (1, .int v1), (2, .int v2), (3, .int v3), (4, .int v4), (5, .int v5)] := hl
  unfold wX10_feed at h
  refine lv_aload_n hx hb dX10_feed_0 rfl (lv_at hl 0 rfl) ?_
  refine rk_get X hP (C := RX10) (T := TX10) (N := 14) (ci := 10) wix_10 h0 rfl rfl 1 (by decide) (wi_20 _ (List.mem_of_getElem? (i := 8) rfl)) rfl rfl dX10_feed_1 ?_
  refine lv_sipush (v := (680 : Int32)) hx hb dX10_feed_4 (by decide) ?_
  refine lv_icmp_le (tgt := 12) hx hb dX10_feed_7 (by decide) (fun c1 => ?_) (fun c1 => ?_)
  · have h := h.1 c1
    refine lv_aload_n hx hb dX10_feed_12 rfl (lv_at hl 0 rfl) ?_
    refine lv_iload_n hx hb dX10_feed_13 rfl (lv_at hl 1 rfl) ?_
    refine rk_callv (va_runV (As := [.int v1]) (rest := []) X.1 (mX10_layOnTape l D cy B v0 v1 σ h0 h) (cwV 1 hts (gW_V (wi_22 _ (List.mem_of_getElem? (i := 2) rfl)) (wi_22 _ (List.mem_of_getElem? (i := 3) rfl)) (wi_22 _ (List.mem_of_getElem? (i := 4) rfl)) (wi_2 _ (List.mem_of_getElem? (i := 8) rfl)) (wi_22 _ (List.mem_of_getElem? (i := 0) rfl))) rfl rfl rfl hd_X10_layOnTape ⟨Nat.le_of_ble_eq_true rfl, Nat.le_of_ble_eq_true rfl⟩) (rk_preV X hS hP h0 rfl rfl [.int v1]) rfl rfl hl.1 rfl (lv_room (Nat.le_of_ble_eq_true rfl)) dX10_feed_14 ⟨Nat.zero_le _, Nat.zero_le _⟩) hS (fun _ h => h) (fun s1 H locs h hP hS => ?_)
    refine lv_aload_n hx hb dX10_feed_17 rfl (lv_at hl 0 rfl) ?_
    refine lv_iload_n hx hb dX10_feed_18 rfl (lv_at hl 2 rfl) ?_
    refine rk_callv (va_runV (As := [.int v2]) (rest := []) X.1 (mX10_layOnTape l D cy B v0 v2 s1 h0 h) (cwV 1 hts (gW_V (wi_22 _ (List.mem_of_getElem? (i := 2) rfl)) (wi_22 _ (List.mem_of_getElem? (i := 3) rfl)) (wi_22 _ (List.mem_of_getElem? (i := 4) rfl)) (wi_2 _ (List.mem_of_getElem? (i := 8) rfl)) (wi_22 _ (List.mem_of_getElem? (i := 0) rfl))) rfl rfl rfl hd_X10_layOnTape ⟨Nat.le_of_ble_eq_true rfl, Nat.le_of_ble_eq_true rfl⟩) (rk_preV X hS hP h0 rfl rfl [.int v2]) rfl rfl hl.1 rfl (lv_room (Nat.le_of_ble_eq_true rfl)) dX10_feed_19 ⟨Nat.zero_le _, Nat.zero_le _⟩) hS (fun _ h => h) (fun s2 H locs h hP hS => ?_)
    refine lv_aload_n hx hb dX10_feed_22 rfl (lv_at hl 0 rfl) ?_
    refine lv_iload_n hx hb dX10_feed_23 rfl (lv_at hl 3 rfl) ?_
    refine rk_callv (va_runV (As := [.int v3]) (rest := []) X.1 (mX10_layOnTape l D cy B v0 v3 s2 h0 h) (cwV 1 hts (gW_V (wi_22 _ (List.mem_of_getElem? (i := 2) rfl)) (wi_22 _ (List.mem_of_getElem? (i := 3) rfl)) (wi_22 _ (List.mem_of_getElem? (i := 4) rfl)) (wi_2 _ (List.mem_of_getElem? (i := 8) rfl)) (wi_22 _ (List.mem_of_getElem? (i := 0) rfl))) rfl rfl rfl hd_X10_layOnTape ⟨Nat.le_of_ble_eq_true rfl, Nat.le_of_ble_eq_true rfl⟩) (rk_preV X hS hP h0 rfl rfl [.int v3]) rfl rfl hl.1 rfl (lv_room (Nat.le_of_ble_eq_true rfl)) dX10_feed_24 ⟨Nat.zero_le _, Nat.zero_le _⟩) hS (fun _ h => h) (fun s3 H locs h hP hS => ?_)
    refine lv_aload_n hx hb dX10_feed_27 rfl (lv_at hl 0 rfl) ?_
    refine lv_iload hx hb dX10_feed_28 (lv_at hl 4 rfl) ?_
    refine rk_callv (va_runV (As := [.int v4]) (rest := []) X.1 (mX10_layOnTape l D cy B v0 v4 s3 h0 h) (cwV 1 hts (gW_V (wi_22 _ (List.mem_of_getElem? (i := 2) rfl)) (wi_22 _ (List.mem_of_getElem? (i := 3) rfl)) (wi_22 _ (List.mem_of_getElem? (i := 4) rfl)) (wi_2 _ (List.mem_of_getElem? (i := 8) rfl)) (wi_22 _ (List.mem_of_getElem? (i := 0) rfl))) rfl rfl rfl hd_X10_layOnTape ⟨Nat.le_of_ble_eq_true rfl, Nat.le_of_ble_eq_true rfl⟩) (rk_preV X hS hP h0 rfl rfl [.int v4]) rfl rfl hl.1 rfl (lv_room (Nat.le_of_ble_eq_true rfl)) dX10_feed_30 ⟨Nat.zero_le _, Nat.zero_le _⟩) hS (fun _ h => h) (fun s4 H locs h hP hS => ?_)
    refine lv_aload_n hx hb dX10_feed_33 rfl (lv_at hl 0 rfl) ?_
    refine lv_iload hx hb dX10_feed_34 (lv_at hl 5 rfl) ?_
    refine rk_callv (va_runV (As := [.int v5]) (rest := []) X.1 (mX10_layOnTape l D cy B v0 v5 s4 h0 h) (cwV 1 hts (gW_V (wi_22 _ (List.mem_of_getElem? (i := 2) rfl)) (wi_22 _ (List.mem_of_getElem? (i := 3) rfl)) (wi_22 _ (List.mem_of_getElem? (i := 4) rfl)) (wi_2 _ (List.mem_of_getElem? (i := 8) rfl)) (wi_22 _ (List.mem_of_getElem? (i := 0) rfl))) rfl rfl rfl hd_X10_layOnTape ⟨Nat.le_of_ble_eq_true rfl, Nat.le_of_ble_eq_true rfl⟩) (rk_preV X hS hP h0 rfl rfl [.int v5]) rfl rfl hl.1 rfl (lv_room (Nat.le_of_ble_eq_true rfl)) dX10_feed_36 ⟨Nat.zero_le _, Nat.zero_le _⟩) hS (fun _ h => h) (fun s5 H locs h hP hS => ?_)
    refine lv_aload_n hx hb dX10_feed_39 rfl (lv_at hl 0 rfl) ?_
    refine rk_get X hP (C := RX10) (T := TX10) (N := 14) (ci := 10) wix_10 h0 rfl rfl 1 (by decide) (wi_20 _ (List.mem_of_getElem? (i := 8) rfl)) rfl rfl dX10_feed_40 ?_
    exact rk_iret X rfl kX_len h hP hS dX10_feed_43
  · have h := h.2 c1
    refine lv_iconst (v := (-1 : Int32)) hx hb dX10_feed_10 (by decide) ?_
    exact rk_iret X rfl kX_len h hP hS dX10_feed_11

theorem hd_X10_net : yX10_net.cls = RX10 ∧ yX10_net.cls ≠ "java/lang/invoke/MethodHandle" ∧ yX10_net.cls ≠ "java/lang/invoke/VarHandle" ∧ (parseMethodDescriptor yX10_net.desc).map (fun d => d.parameters.length) = some 1 := by decide +kernel
set_option maxRecDepth 100000 in
set_option maxHeartbeats 4000000 in
theorem tX10_net_84 {p : Program} {l : Launch} {e : Env} {s : State} {m : MethodId} {av : Array Value} {below : List Frame} {meth : Method} {c : Code} {D : va_G} {cy : Nat → ClassId} {B : Nat} (X : kC p s m av meth c cX10_net 5 (some .int) WALL RX10 D cy (AW B 346)) {post : Int32 → St → Prop} : ∀ (n : Nat) (v0 : Nat) (v2 : Int32) (v4 : Int32) (σ : St), kX[v0]? = some 10 → wX10_net_84 post n v0 v2 v4 σ → ∀ (H : Heap) (locs : List Loc) (ls : Array Slot), va_P D vwCl (wW cy B kX σ) H → va_S (AW B 346) s.heap H locs → lv_has ls 5 [(0, .ref (B + v0)), (2, .int v2), (4, .int v4)] → W p l e (rmD 6) s m av below meth c H locs 0 0 (MQ below (va_Qi post (BW D cy B kX) (AW B 346)) av s 0 0 (AW B 346)) (F0 m 84 ls []) := by
  obtain ⟨⟨hx, hb, hml, hown, hts⟩, hr, hlk, hK, hN, hZ⟩ := id X
  have hD : ∀ σ, va_D (AW B 346) (wW cy B kX σ) := AW_D kX_len
  intro n
  induction n with
  | zero => intro v0 v2 v4 σ h0 h; exact absurd h id
  | succ n ih =>
    intro v0 v2 v4 σ h0 h H locs ls hP hS hl
    rw [wX10_net_84] at h
    refine lv_iload hx hb dX10_net_84 (lv_at hl 2 rfl) ?_
    refine lv_iconst (v := (2 : Int32)) hx hb dX10_net_86 (by decide) ?_
    refine lv_icmp_ge (tgt := 104) hx hb dX10_net_87 (by decide) (fun c1 => ?_) (fun c1 => ?_)
    · have h := h.1 c1
      refine lv_iload_n hx hb dX10_net_104 rfl (lv_at hl 1 rfl) ?_
      exact rk_iret X rfl kX_len h hP hS dX10_net_105
    · have h := h.2 c1
      refine lv_aload_n hx hb dX10_net_90 rfl (lv_at hl 0 rfl) ?_
      refine rk_get X hP (C := RX10) (T := TX10) (N := 14) (ci := 10) wix_10 h0 rfl rfl 7 (by decide) (wi_20 _ (List.mem_of_getElem? (i := 21) rfl)) rfl rfl dX10_net_91 ?_
      refine lv_iload hx hb dX10_net_94 (lv_at hl 2 rfl) ?_
      refine lv_iconst (v := (0 : Int32)) hx hb dX10_net_96 (by decide) ?_
      obtain ⟨b1, h⟩ := h
      refine rk_zast X hP hD hS (n := 2) (klX_X10_7 h0) (fun _ _ => rfl) b1 dX10_net_97 (fun H locs hP hS => ?_)
      obtain ⟨s1, es1⟩ : ∃ z : St, z = u1 σ (v0 + 284) v4.toNatClampNeg (vp_nar .boolean (0 : Int32)) := ⟨_, rfl⟩
      rw [← es1] at hP
      have h := h s1 es1
      obtain ⟨x1, ex1⟩ : ∃ y : Int32, y = v4 + (1 : Int32) := ⟨_, rfl⟩
      have h := h x1 ex1
      refine lv_iinc (v := x1) (lv' := [(4, .int x1), (0, .ref (B + v0)), (2, .int v2)]) hx hb dX10_net_98 hl (k := 2) rfl (by rw [ex1]; rfl) (by decide) rfl (fun ls hl => ?_)
      refine lv_goto (tgt := 84) hx hb dX10_net_101 (by decide) ?_
      exact ih _ _ _ _ h0 h _ _ _ hP hS (lv_sub hl [1, 2, 0] rfl)
set_option maxRecDepth 100000 in
set_option maxHeartbeats 4000000 in
theorem mX10_net (l : Launch) (D : va_G) (cy : Nat → ClassId) (B : Nat) (v0 : Nat) (v1 : Int32) (σ : St) (h0 : kX[v0]? = some 10) {post : Int32 → St → Prop} (h : wX10_net v0 v1 σ post) : Met l yX10_net (Cond.code yX10_net cX10_net 5 (some .int) :: WALL) (rmD 6) (PcW D cy B kX σ [.ref (B + v0), .int v1]) (va_Qi post (BW D cy B kX) (AW B 346)) 0 0 (AW B 346) := by
  refine Met.ofK (cc := cX10_net) (maxL := 5) (ret := (some .int)) (by decide +kernel) rfl kX_len ?_
  intro p e s m below meth c X hP
  obtain ⟨⟨hx, hb, hml, hown, hts⟩, hr, hlk, hK, hN, hZ⟩ := id X
  have hD : ∀ σ, va_D (AW B 346) (wW cy B kX σ) := AW_D kX_len
  have hS : va_S (AW B 346) s.heap s.heap [] := va_S.rf
  have hl := lv_entry ([.ref (B + v0), .int v1]) (n := 5) (Nat.le_of_ble_eq_true rfl)
  rw [lg_entry_eq]
  generalize (lg_sl ([.ref (B + v0), .int v1]) ++ List.replicate (5 - (lg_sl ([.ref (B + v0), .int v1])).length) Slot.unset).toArray = ls at hl ⊢
  have hl : lv_has ls 5 [(0, .ref (B + v0)), (1, .int v1)] := hl
  unfold wX10_net at h
  refine lv_iload_n hx hb dX10_net_0 rfl (lv_at hl 1 rfl) ?_
  refine lv_if_lt (tgt := 12) hx hb dX10_net_1 (by decide) (fun c1 => ?_) (fun c1 => ?_)
  · have h := h.1 c1
    refine lv_iconst (v := (-1 : Int32)) hx hb dX10_net_12 (by decide) ?_
    exact rk_iret X rfl kX_len h hP hS dX10_net_13
  · have h := h.2 c1
    refine lv_iload_n hx hb dX10_net_4 rfl (lv_at hl 1 rfl) ?_
    refine lv_aload_n hx hb dX10_net_5 rfl (lv_at hl 0 rfl) ?_
    refine rk_get X hP (C := RX10) (T := TX10) (N := 14) (ci := 10) wix_10 h0 rfl rfl 1 (by decide) (wi_20 _ (List.mem_of_getElem? (i := 8) rfl)) rfl rfl dX10_net_6 ?_
    refine lv_icmp_le (tgt := 14) hx hb dX10_net_9 (by decide) (fun c2 => ?_) (fun c2 => ?_)
    · have h := h.1 c2
      refine lv_aload_n hx hb dX10_net_14 rfl (lv_at hl 0 rfl) ?_
      refine lv_iconst (v := (0 : Int32)) hx hb dX10_net_15 (by decide) ?_
      refine rk_puti X hP hD hS (C := RX10) (T := TX10) (N := 14) (ci := 10) wix_10 h0 rfl rfl tyX10 tyX10_ok nmX10 1 (by decide) (wi_20 _ (List.mem_of_getElem? (i := 8) rfl)) rfl rfl (by decide +kernel) (Nat.le_of_ble_eq_true rfl) rfl dX10_net_16 (fun H locs hP hS => ?_)
      obtain ⟨s1, es1⟩ : ∃ z : St, z = u1 σ v0 1 (0 : Int32) := ⟨_, rfl⟩
      rw [← es1] at hP
      have h := h s1 es1
      refine lv_aload_n hx hb dX10_net_19 rfl (lv_at hl 0 rfl) ?_
      refine rk_get X hP (C := RX10) (T := TX10) (N := 14) (ci := 10) wix_10 h0 rfl rfl 8 (by decide) (wi_21 _ (List.mem_of_getElem? (i := 0) rfl)) rfl rfl dX10_net_20 ?_
      refine lv_aload_n hx hb dX10_net_23 rfl (lv_at hl 0 rfl) ?_
      refine rk_get X hP (C := RX10) (T := TX10) (N := 14) (ci := 10) wix_10 h0 rfl rfl 0 (by decide) (wi_20 _ (List.mem_of_getElem? (i := 7) rfl)) rfl rfl dX10_net_24 ?_
      refine lv_iload_n hx hb dX10_net_27 rfl (lv_at hl 1 rfl) ?_
      refine lv_aload_n hx hb dX10_net_28 rfl (lv_at hl 0 rfl) ?_
      refine rk_get X hP (C := RX10) (T := TX10) (N := 14) (ci := 10) wix_10 h0 rfl rfl 3 (by decide) (wi_20 _ (List.mem_of_getElem? (i := 12) rfl)) rfl rfl dX10_net_29 ?_
      obtain ⟨p1, ep1⟩ : ∃ z : Nat, z = (s1.1 v0 3).toNatClampNeg := ⟨_, rfl⟩
      rw [← ep1]
      obtain ⟨kp1, h⟩ := h p1 ep1
      refine rk_calli (va_runV (As := [.ref (B + (v0 + 1)), .int v1, .ref (B + p1)]) (rest := []) X.1 (mX6_read l D cy B (v0 + 285) (v0 + 1) v1 p1 s1 (klX_X10_8 h0) (klX_X10_0 h0) kp1 h) (cwV 3 hts (gW_V (wi_22 _ (List.mem_of_getElem? (i := 6) rfl)) (wi_22 _ (List.mem_of_getElem? (i := 7) rfl)) (wi_22 _ (List.mem_of_getElem? (i := 8) rfl)) (wi_10 _ (List.mem_of_getElem? (i := 2) rfl)) (wi_16 _ (List.mem_of_getElem? (i := 1) rfl))) rfl rfl rfl hd_X6_read ⟨Nat.le_of_ble_eq_true rfl, Nat.le_of_ble_eq_true rfl⟩) (rk_preV X hS hP (klX_X10_8 h0) rfl rfl [.ref (B + (v0 + 1)), .int v1, .ref (B + p1)]) rfl rfl hl.1 rfl (lv_room (Nat.le_of_ble_eq_true rfl)) dX10_net_32 ⟨Nat.zero_le _, Nat.zero_le _⟩) hS (fun _ h => h) (fun r1 s2 H locs h hP hS => ?_)
      refine lv_istore_n (lv' := [(2, .int r1), (0, .ref (B + v0)), (1, .int v1)]) hx hb dX10_net_35 rfl hl (by decide) rfl (fun ls hl => ?_)
      refine lv_iload_n hx hb dX10_net_36 rfl (lv_at hl 0 rfl) ?_
      refine lv_if_ge (tgt := 42) hx hb dX10_net_37 (by decide) (fun c3 => ?_) (fun c3 => ?_)
      · have h := h.1 c3
        refine lv_aload_n hx hb dX10_net_42 rfl (lv_at hl 1 rfl) ?_
        refine rk_get X hP (C := RX10) (T := TX10) (N := 14) (ci := 10) wix_10 h0 rfl rfl 3 (by decide) (wi_20 _ (List.mem_of_getElem? (i := 12) rfl)) rfl rfl dX10_net_43 ?_
        obtain ⟨p2, ep2⟩ : ∃ z : Nat, z = (s2.1 v0 3).toNatClampNeg := ⟨_, rfl⟩
        rw [← ep2]
        obtain ⟨kp2, h⟩ := h p2 ep2
        refine lv_astore_n (lv' := [(3, .ref (B + p2)), (2, .int r1), (0, .ref (B + v0)), (1, .int v1)]) hx hb dX10_net_46 rfl hl (by decide) rfl (fun ls hl => ?_)
        refine lv_aload_n hx hb dX10_net_47 rfl (lv_at hl 2 rfl) ?_
        refine lv_aload_n hx hb dX10_net_48 rfl (lv_at hl 2 rfl) ?_
        refine rk_get X hP (C := RX10) (T := TX10) (N := 14) (ci := 10) wix_10 h0 rfl rfl 2 (by decide) (wi_20 _ (List.mem_of_getElem? (i := 11) rfl)) rfl rfl dX10_net_49 ?_
        obtain ⟨p3, ep3⟩ : ∃ z : Nat, z = (s2.1 v0 2).toNatClampNeg := ⟨_, rfl⟩
        rw [← ep3]
        obtain ⟨kp3, h⟩ := h p3 ep3
        refine rk_putr (E := "HoloNet$Text") X hP hD hS (C := RX10) (T := TX10) (N := 14) (ci := 10) wix_10 h0 rfl rfl tyX10 tyX10_ok nmX10 3 (by decide) (wi_20 _ (List.mem_of_getElem? (i := 12) rfl)) rfl rfl (by decide +kernel) (Nat.le_of_ble_eq_true rfl) rfl (Nat.lt_trans (kX_lt kp3) (Nat.le_of_ble_eq_true rfl)) dX10_net_52 (fun H locs hP hS => ?_)
        obtain ⟨s3, es3⟩ : ∃ z : St, z = u1 s2 v0 3 (nI p3) := ⟨_, rfl⟩
        rw [← es3] at hP
        have h := h s3 es3
        refine lv_aload_n hx hb dX10_net_55 rfl (lv_at hl 2 rfl) ?_
        refine lv_aload_n hx hb dX10_net_56 rfl (lv_at hl 0 rfl) ?_
        refine rk_putr (E := "HoloNet$Text") X hP hD hS (C := RX10) (T := TX10) (N := 14) (ci := 10) wix_10 h0 rfl rfl tyX10 tyX10_ok nmX10 2 (by decide) (wi_20 _ (List.mem_of_getElem? (i := 11) rfl)) rfl rfl (by decide +kernel) (Nat.le_of_ble_eq_true rfl) rfl (Nat.lt_trans (kX_lt kp2) (Nat.le_of_ble_eq_true rfl)) dX10_net_57 (fun H locs hP hS => ?_)
        obtain ⟨s4, es4⟩ : ∃ z : St, z = u1 s3 v0 2 (nI p2) := ⟨_, rfl⟩
        rw [← es4] at hP
        have h := h s4 es4
        refine lv_aload_n hx hb dX10_net_60 rfl (lv_at hl 2 rfl) ?_
        refine rk_get X hP (C := RX10) (T := TX10) (N := 14) (ci := 10) wix_10 h0 rfl rfl 4 (by decide) (wi_20 _ (List.mem_of_getElem? (i := 14) rfl)) rfl rfl dX10_net_61 ?_
        refine lv_aload_n hx hb dX10_net_64 rfl (lv_at hl 2 rfl) ?_
        refine rk_get X hP (C := RX10) (T := TX10) (N := 14) (ci := 10) wix_10 h0 rfl rfl 2 (by decide) (wi_20 _ (List.mem_of_getElem? (i := 11) rfl)) rfl rfl dX10_net_65 ?_
        obtain ⟨p4, ep4⟩ : ∃ z : Nat, z = (s4.1 v0 2).toNatClampNeg := ⟨_, rfl⟩
        rw [← ep4]
        obtain ⟨kp4, h⟩ := h p4 ep4
        refine rk_get X hP (C := RX9) (T := TX9) (N := 10) (ci := 9) wix_9 kp4 rfl rfl 5 (by decide) (wi_22 _ (List.mem_of_getElem? (i := 5) rfl)) rfl rfl dX10_net_68 ?_
        refine rk_callv (va_runV (As := [.ref (B + (p4 + 3))]) (rest := []) X.1 (mX4_copyFrom l D cy B (v0 + 86) (p4 + 3) s4 (klX_X10_4 h0) (klX_X9_5 kp4) h) (cwV 1 hts (gW_V (wi_22 _ (List.mem_of_getElem? (i := 9) rfl)) (wi_1 _ (List.mem_of_getElem? (i := 16) rfl)) (wi_1 _ (List.mem_of_getElem? (i := 17) rfl)) (wi_0 _ (List.mem_of_getElem? (i := 23) rfl)) (wi_1 _ (List.mem_of_getElem? (i := 9) rfl))) rfl rfl rfl hd_X4_copyFrom ⟨Nat.le_of_ble_eq_true rfl, Nat.le_of_ble_eq_true rfl⟩) (rk_preV X hS hP (klX_X10_4 h0) rfl rfl [.ref (B + (p4 + 3))]) rfl rfl hl.1 rfl (lv_room (Nat.le_of_ble_eq_true rfl)) dX10_net_71 ⟨Nat.zero_le _, Nat.zero_le _⟩) hS (fun _ h => h) (fun s5 H locs h hP hS => ?_)
        refine lv_aload_n hx hb dX10_net_74 rfl (lv_at hl 2 rfl) ?_
        refine rk_get X hP (C := RX10) (T := TX10) (N := 14) (ci := 10) wix_10 h0 rfl rfl 5 (by decide) (wi_20 _ (List.mem_of_getElem? (i := 18) rfl)) rfl rfl dX10_net_75 ?_
        refine rk_callv (va_runV (As := []) (rest := []) X.1 (mX0_forget l D cy B (v0 + 101) s5 (klX_X10_5 h0) h) (cwV 0 hts (gW_V (wi_22 _ (List.mem_of_getElem? (i := 10) rfl)) (wi_22 _ (List.mem_of_getElem? (i := 11) rfl)) (wi_22 _ (List.mem_of_getElem? (i := 12) rfl)) (wi_20 _ (List.mem_of_getElem? (i := 17) rfl)) (wi_1 _ (List.mem_of_getElem? (i := 3) rfl))) rfl rfl rfl hd_X0_forget ⟨Nat.le_of_ble_eq_true rfl, Nat.le_of_ble_eq_true rfl⟩) (rk_preV X hS hP (klX_X10_5 h0) rfl rfl []) rfl rfl hl.1 rfl (lv_room (Nat.le_of_ble_eq_true rfl)) dX10_net_78 ⟨Nat.zero_le _, Nat.zero_le _⟩) hS (fun _ h => h) (fun s6 H locs h hP hS => ?_)
        refine lv_iconst (v := (0 : Int32)) hx hb dX10_net_81 (by decide) ?_
        refine lv_istore (lv' := [(4, .int (0 : Int32)), (3, .ref (B + p2)), (2, .int r1), (0, .ref (B + v0)), (1, .int v1)]) hx hb dX10_net_82 hl (by decide) rfl (fun ls hl => ?_)
        obtain ⟨j, h⟩ := h
        exact tX10_net_84 X j _ _ _ _ h0 h _ _ _ hP hS (lv_sub hl [3, 2, 0] rfl)
      · have h := h.2 c3
        refine lv_iload_n hx hb dX10_net_40 rfl (lv_at hl 0 rfl) ?_
        exact rk_iret X rfl kX_len h hP hS dX10_net_41
    · have h := h.2 c2
      refine lv_iconst (v := (-1 : Int32)) hx hb dX10_net_12 (by decide) ?_
      exact rk_iret X rfl kX_len h hP hS dX10_net_13

theorem hd_X10_isTable : yX10_isTable.cls = RX10 ∧ yX10_isTable.cls ≠ "java/lang/invoke/MethodHandle" ∧ yX10_isTable.cls ≠ "java/lang/invoke/VarHandle" ∧ (parseMethodDescriptor yX10_isTable.desc).map (fun d => d.parameters.length) = some 1 := by decide +kernel
set_option maxRecDepth 100000 in
set_option maxHeartbeats 4000000 in
theorem mX10_isTable (l : Launch) (D : va_G) (cy : Nat → ClassId) (B : Nat) (v0 : Nat) (v1 : Int32) (σ : St) (h0 : kX[v0]? = some 10) {post : Bool → St → Prop} (h : wX10_isTable v0 v1 σ post) : Met l yX10_isTable (Cond.code yX10_isTable cX10_isTable 2 (some .boolean) :: WALL) (rmD 0) (PcW D cy B kX σ [.ref (B + v0), .int v1]) (Qz post D cy B kX 346) 0 0 (AW B 346) := by
  refine Met.ofK (cc := cX10_isTable) (maxL := 2) (ret := (some .boolean)) (by decide +kernel) rfl kX_len ?_
  intro p e s m below meth c X hP
  obtain ⟨⟨hx, hb, hml, hown, hts⟩, hr, hlk, hK, hN, hZ⟩ := id X
  have hD : ∀ σ, va_D (AW B 346) (wW cy B kX σ) := AW_D kX_len
  have hS : va_S (AW B 346) s.heap s.heap [] := va_S.rf
  have hl := lv_entry ([.ref (B + v0), .int v1]) (n := 2) (Nat.le_of_ble_eq_true rfl)
  rw [lg_entry_eq]
  generalize (lg_sl ([.ref (B + v0), .int v1]) ++ List.replicate (2 - (lg_sl ([.ref (B + v0), .int v1])).length) Slot.unset).toArray = ls at hl ⊢
  have hl : lv_has ls 2 [(0, .ref (B + v0)), (1, .int v1)] := hl
  unfold wX10_isTable at h
  refine lv_iload_n hx hb dX10_isTable_0 rfl (lv_at hl 1 rfl) ?_
  refine lv_if_lt (tgt := 19) hx hb dX10_isTable_1 (by decide) (fun c1 => ?_) (fun c1 => ?_)
  · have h := h.1 c1
    refine lv_iconst (v := (0 : Int32)) hx hb dX10_isTable_19 (by decide) ?_
    exact rk_zret X kX_len false h hP hS dX10_isTable_20
  · have h := h.2 c1
    refine lv_iload_n hx hb dX10_isTable_4 rfl (lv_at hl 1 rfl) ?_
    refine lv_aload_n hx hb dX10_isTable_5 rfl (lv_at hl 0 rfl) ?_
    refine rk_get X hP (C := RX10) (T := TX10) (N := 14) (ci := 10) wix_10 h0 rfl rfl 2 (by decide) (wi_20 _ (List.mem_of_getElem? (i := 11) rfl)) rfl rfl dX10_isTable_6 ?_
    obtain ⟨p1, ep1⟩ : ∃ z : Nat, z = (σ.1 v0 2).toNatClampNeg := ⟨_, rfl⟩
    rw [← ep1]
    obtain ⟨kp1, h⟩ := h p1 ep1
    refine rk_get X hP (C := RX9) (T := TX9) (N := 10) (ci := 9) wix_9 kp1 rfl rfl 1 (by decide) (wi_22 _ (List.mem_of_getElem? (i := 15) rfl)) rfl rfl dX10_isTable_9 ?_
    refine lv_icmp_ge (tgt := 19) hx hb dX10_isTable_12 (by decide) (fun c2 => ?_) (fun c2 => ?_)
    · have h := h.1 c2
      refine lv_iconst (v := (0 : Int32)) hx hb dX10_isTable_19 (by decide) ?_
      exact rk_zret X kX_len false h hP hS dX10_isTable_20
    · have h := h.2 c2
      refine lv_iconst (v := (1 : Int32)) hx hb dX10_isTable_15 (by decide) ?_
      refine lv_goto (tgt := 20) hx hb dX10_isTable_16 (by decide) ?_
      exact rk_zret X kX_len true h hP hS dX10_isTable_20

theorem hd_X10_valueOrLegs : yX10_valueOrLegs.cls ≠ "java/lang/invoke/MethodHandle" ∧ yX10_valueOrLegs.cls ≠ "java/lang/invoke/VarHandle" ∧ (parseMethodDescriptor yX10_valueOrLegs.desc).map (fun d => d.parameters.length) = some 2 := by decide +kernel
set_option maxRecDepth 100000 in
set_option maxHeartbeats 4000000 in
theorem mX10_valueOrLegs (l : Launch) (D : va_G) (cy : Nat → ClassId) (B : Nat) (v0 : Nat) (v1 : Int32) (σ : St) (h0 : kX[v0]? = some 7) {post : Int32 → St → Prop} (h : wX10_valueOrLegs v0 v1 σ post) : Met l yX10_valueOrLegs (Cond.code yX10_valueOrLegs cX10_valueOrLegs 2 (some .int) :: WALL) (rmD 2) (PcW D cy B kX σ [.ref (B + v0), .int v1]) (va_Qi post (BW D cy B kX) (AW B 346)) 0 0 (AW B 346) := by
  refine Met.ofK (cc := cX10_valueOrLegs) (maxL := 2) (ret := (some .int)) (by decide +kernel) rfl kX_len ?_
  intro p e s m below meth c X hP
  obtain ⟨⟨hx, hb, hml, hown, hts⟩, hr, hlk, hK, hN, hZ⟩ := id X
  have hD : ∀ σ, va_D (AW B 346) (wW cy B kX σ) := AW_D kX_len
  have hS : va_S (AW B 346) s.heap s.heap [] := va_S.rf
  have hl := lv_entry ([.ref (B + v0), .int v1]) (n := 2) (Nat.le_of_ble_eq_true rfl)
  rw [lg_entry_eq]
  generalize (lg_sl ([.ref (B + v0), .int v1]) ++ List.replicate (2 - (lg_sl ([.ref (B + v0), .int v1])).length) Slot.unset).toArray = ls at hl ⊢
  have hl : lv_has ls 2 [(0, .ref (B + v0)), (1, .int v1)] := hl
  unfold wX10_valueOrLegs at h
  refine lv_iload_n hx hb dX10_valueOrLegs_0 rfl (lv_at hl 1 rfl) ?_
  refine lv_iconst (v := (-1 : Int32)) hx hb dX10_valueOrLegs_1 (by decide) ?_
  refine lv_icmp_ne (tgt := 10) hx hb dX10_valueOrLegs_2 (by decide) (fun c1 => ?_) (fun c1 => ?_)
  · have h := h.1 c1
    refine lv_aload_n hx hb dX10_valueOrLegs_10 rfl (lv_at hl 0 rfl) ?_
    refine lv_iload_n hx hb dX10_valueOrLegs_11 rfl (lv_at hl 1 rfl) ?_
    refine rk_callz (va_runV (As := [.int v1]) (rest := []) X.1 (mX7_hasIndex l D cy B v0 v1 σ h0 h) (cwV 1 hts (gW_V (wi_22 _ (List.mem_of_getElem? (i := 19) rfl)) (wi_22 _ (List.mem_of_getElem? (i := 20) rfl)) (wi_22 _ (List.mem_of_getElem? (i := 21) rfl)) (wi_0 _ (List.mem_of_getElem? (i := 15) rfl)) (wi_16 _ (List.mem_of_getElem? (i := 2) rfl))) rfl rfl rfl hd_X7_hasIndex ⟨Nat.le_of_ble_eq_true rfl, Nat.le_of_ble_eq_true rfl⟩) (rk_preV X hS hP h0 rfl rfl [.int v1]) rfl rfl hl.1 rfl (lv_room (Nat.le_of_ble_eq_true rfl)) dX10_valueOrLegs_12 ⟨Nat.zero_le _, Nat.zero_le _⟩) hS (fun _ h => h) (fun r1 s1 H locs h hP hS => ?_)
    refine lv_if_eq (tgt := 27) hx hb dX10_valueOrLegs_15 (by decide) (fun c2 => ?_) (fun c2 => ?_)
    · have h := h.1 (b2i_f c2)
      refine lv_bipush (v := (-2 : Int32)) hx hb dX10_valueOrLegs_27 (by decide) ?_
      exact rk_iret X rfl kX_len h hP hS dX10_valueOrLegs_29
    · have h := h.2 (b2i_t c2)
      refine lv_aload_n hx hb dX10_valueOrLegs_18 rfl (lv_at hl 0 rfl) ?_
      refine rk_get X hP (C := RX7) (T := TX7) (N := 2) (ci := 7) wix_7 h0 rfl rfl 1 (by decide) (wi_22 _ (List.mem_of_getElem? (i := 18) rfl)) rfl rfl dX10_valueOrLegs_19 ?_
      refine lv_iload_n hx hb dX10_valueOrLegs_22 rfl (lv_at hl 1 rfl) ?_
      obtain ⟨b1, h⟩ := h
      refine rk_iald X hP (n := 16) (klX_X7_1 h0) (fun _ _ => rfl) b1 dX10_valueOrLegs_23 ?_
      refine lv_goto (tgt := 29) hx hb dX10_valueOrLegs_24 (by decide) ?_
      exact rk_iret X rfl kX_len h hP hS dX10_valueOrLegs_29
  · have h := h.2 c1
    refine lv_aload_n hx hb dX10_valueOrLegs_5 rfl (lv_at hl 0 rfl) ?_
    refine rk_get X hP (C := RX7) (T := TX7) (N := 2) (ci := 7) wix_7 h0 rfl rfl 0 (by decide) (wi_22 _ (List.mem_of_getElem? (i := 17) rfl)) rfl rfl dX10_valueOrLegs_6 ?_
    exact rk_iret X rfl kX_len h hP hS dX10_valueOrLegs_9

theorem hd_X10_table : yX10_table.cls = RX10 ∧ yX10_table.cls ≠ "java/lang/invoke/MethodHandle" ∧ yX10_table.cls ≠ "java/lang/invoke/VarHandle" ∧ (parseMethodDescriptor yX10_table.desc).map (fun d => d.parameters.length) = some 2 := by decide +kernel
set_option maxRecDepth 100000 in
set_option maxHeartbeats 4000000 in
theorem mX10_table (l : Launch) (D : va_G) (cy : Nat → ClassId) (B : Nat) (v0 : Nat) (v1 : Int32) (v2 : Int32) (σ : St) (h0 : kX[v0]? = some 10) {post : Int32 → St → Prop} (h : wX10_table v0 v1 v2 σ post) : Met l yX10_table (Cond.code yX10_table cX10_table 3 (some .int) :: WALL) (rmD 3) (PcW D cy B kX σ [.ref (B + v0), .int v1, .int v2]) (va_Qi post (BW D cy B kX) (AW B 346)) 0 0 (AW B 346) := by
  refine Met.ofK (cc := cX10_table) (maxL := 3) (ret := (some .int)) (by decide +kernel) rfl kX_len ?_
  intro p e s m below meth c X hP
  obtain ⟨⟨hx, hb, hml, hown, hts⟩, hr, hlk, hK, hN, hZ⟩ := id X
  have hD : ∀ σ, va_D (AW B 346) (wW cy B kX σ) := AW_D kX_len
  have hS : va_S (AW B 346) s.heap s.heap [] := va_S.rf
  have hl := lv_entry ([.ref (B + v0), .int v1, .int v2]) (n := 3) (Nat.le_of_ble_eq_true rfl)
  rw [lg_entry_eq]
  generalize (lg_sl ([.ref (B + v0), .int v1, .int v2]) ++ List.replicate (3 - (lg_sl ([.ref (B + v0), .int v1, .int v2])).length) Slot.unset).toArray = ls at hl ⊢
  have hl : lv_has ls 3 [(0, .ref (B + v0)), (1, .int v1), (2, .int v2)] := hl
  unfold wX10_table at h
  refine lv_aload_n hx hb dX10_table_0 rfl (lv_at hl 0 rfl) ?_
  refine lv_iload_n hx hb dX10_table_1 rfl (lv_at hl 1 rfl) ?_
  refine rk_callz (va_runV (As := [.int v1]) (rest := []) X.1 (mX10_isTable l D cy B v0 v1 σ h0 h) (cwV 1 hts (gW_V (wi_23 _ (List.mem_of_getElem? (i := 0) rfl)) (wi_23 _ (List.mem_of_getElem? (i := 1) rfl)) (wi_23 _ (List.mem_of_getElem? (i := 2) rfl)) (wi_2 _ (List.mem_of_getElem? (i := 8) rfl)) (wi_22 _ (List.mem_of_getElem? (i := 14) rfl))) rfl rfl rfl hd_X10_isTable ⟨Nat.le_of_ble_eq_true rfl, Nat.le_of_ble_eq_true rfl⟩) (rk_preV X hS hP h0 rfl rfl [.int v1]) rfl rfl hl.1 rfl (lv_room (Nat.le_of_ble_eq_true rfl)) dX10_table_2 ⟨Nat.zero_le _, Nat.zero_le _⟩) hS (fun _ h => h) (fun r1 s1 H locs h hP hS => ?_)
  refine lv_if_ne (tgt := 11) hx hb dX10_table_5 (by decide) (fun c1 => ?_) (fun c1 => ?_)
  · have h := h.1 (b2i_t c1)
    refine lv_aload_n hx hb dX10_table_11 rfl (lv_at hl 0 rfl) ?_
    refine rk_get X hP (C := RX10) (T := TX10) (N := 14) (ci := 10) wix_10 h0 rfl rfl 2 (by decide) (wi_20 _ (List.mem_of_getElem? (i := 11) rfl)) rfl rfl dX10_table_12 ?_
    obtain ⟨p1, ep1⟩ : ∃ z : Nat, z = (s1.1 v0 2).toNatClampNeg := ⟨_, rfl⟩
    rw [← ep1]
    obtain ⟨kp1, h⟩ := h p1 ep1
    refine rk_get X hP (C := RX9) (T := TX9) (N := 10) (ci := 9) wix_9 kp1 rfl rfl 2 (by decide) (wi_22 _ (List.mem_of_getElem? (i := 23) rfl)) rfl rfl dX10_table_15 ?_
    refine lv_iload_n hx hb dX10_table_18 rfl (lv_at hl 1 rfl) ?_
    obtain ⟨b1, h⟩ := h
    refine rk_aald X hP (C := RX7) (n := 8) (t0 := 6) (d := 20) (r := 2) (klX_X9_2 kp1) (fun _ _ => rfl) rfl b1 dX10_table_19 ?_
    refine lv_iload_n hx hb dX10_table_20 rfl (lv_at hl 2 rfl) ?_
    refine rk_calli (va_runS (As := [.ref (B + ((p1 + 1) + 20 + 2 * v1.toNatClampNeg)), .int v2]) (rest := []) X.1 (mX10_valueOrLegs l D cy B ((p1 + 1) + 20 + 2 * v1.toNatClampNeg) v2 s1 (klX_12 (klX_X9_2 kp1) (vp_lt b1)) h) (va_cwS 2 hts (gW_S (wi_23 _ (List.mem_of_getElem? (i := 3) rfl)) (wi_23 _ (List.mem_of_getElem? (i := 4) rfl)) (wi_2 _ (List.mem_of_getElem? (i := 8) rfl)) (wi_22 _ (List.mem_of_getElem? (i := 16) rfl))) rfl rfl rfl hd_X10_valueOrLegs ⟨Nat.le_of_ble_eq_true rfl, Nat.le_of_ble_eq_true rfl⟩) (rk_preS X hS hP [.ref (B + ((p1 + 1) + 20 + 2 * v1.toNatClampNeg)), .int v2]) rfl rfl hl.1 rfl (lv_room (Nat.le_of_ble_eq_true rfl)) dX10_table_21 ⟨Nat.zero_le _, Nat.zero_le _⟩) hS (fun _ h => h) (fun r2 s2 H locs h hP hS => ?_)
    exact rk_iret X rfl kX_len h hP hS dX10_table_24
  · have h := h.2 (b2i_f c1)
    refine lv_bipush (v := (-2 : Int32)) hx hb dX10_table_8 (by decide) ?_
    exact rk_iret X rfl kX_len h hP hS dX10_table_10

theorem hd_X10_parity : yX10_parity.cls = RX10 ∧ yX10_parity.cls ≠ "java/lang/invoke/MethodHandle" ∧ yX10_parity.cls ≠ "java/lang/invoke/VarHandle" ∧ (parseMethodDescriptor yX10_parity.desc).map (fun d => d.parameters.length) = some 1 := by decide +kernel
set_option maxRecDepth 100000 in
set_option maxHeartbeats 4000000 in
theorem mX10_parity (l : Launch) (D : va_G) (cy : Nat → ClassId) (B : Nat) (v0 : Nat) (v1 : Int32) (σ : St) (h0 : kX[v0]? = some 10) {post : Int32 → St → Prop} (h : wX10_parity v0 v1 σ post) : Met l yX10_parity (Cond.code yX10_parity cX10_parity 2 (some .int) :: WALL) (rmD 2) (PcW D cy B kX σ [.ref (B + v0), .int v1]) (va_Qi post (BW D cy B kX) (AW B 346)) 0 0 (AW B 346) := by
  refine Met.ofK (cc := cX10_parity) (maxL := 2) (ret := (some .int)) (by decide +kernel) rfl kX_len ?_
  intro p e s m below meth c X hP
  obtain ⟨⟨hx, hb, hml, hown, hts⟩, hr, hlk, hK, hN, hZ⟩ := id X
  have hD : ∀ σ, va_D (AW B 346) (wW cy B kX σ) := AW_D kX_len
  have hS : va_S (AW B 346) s.heap s.heap [] := va_S.rf
  have hl := lv_entry ([.ref (B + v0), .int v1]) (n := 2) (Nat.le_of_ble_eq_true rfl)
  rw [lg_entry_eq]
  generalize (lg_sl ([.ref (B + v0), .int v1]) ++ List.replicate (2 - (lg_sl ([.ref (B + v0), .int v1])).length) Slot.unset).toArray = ls at hl ⊢
  have hl : lv_has ls 2 [(0, .ref (B + v0)), (1, .int v1)] := hl
  unfold wX10_parity at h
  refine lv_aload_n hx hb dX10_parity_0 rfl (lv_at hl 0 rfl) ?_
  refine lv_iload_n hx hb dX10_parity_1 rfl (lv_at hl 1 rfl) ?_
  refine rk_callz (va_runV (As := [.int v1]) (rest := []) X.1 (mX10_isTable l D cy B v0 v1 σ h0 h) (cwV 1 hts (gW_V (wi_23 _ (List.mem_of_getElem? (i := 0) rfl)) (wi_23 _ (List.mem_of_getElem? (i := 1) rfl)) (wi_23 _ (List.mem_of_getElem? (i := 2) rfl)) (wi_2 _ (List.mem_of_getElem? (i := 8) rfl)) (wi_22 _ (List.mem_of_getElem? (i := 14) rfl))) rfl rfl rfl hd_X10_isTable ⟨Nat.le_of_ble_eq_true rfl, Nat.le_of_ble_eq_true rfl⟩) (rk_preV X hS hP h0 rfl rfl [.int v1]) rfl rfl hl.1 rfl (lv_room (Nat.le_of_ble_eq_true rfl)) dX10_parity_2 ⟨Nat.zero_le _, Nat.zero_le _⟩) hS (fun _ h => h) (fun r1 s1 H locs h hP hS => ?_)
  refine lv_if_eq (tgt := 23) hx hb dX10_parity_5 (by decide) (fun c1 => ?_) (fun c1 => ?_)
  · have h := h.1 (b2i_f c1)
    refine lv_iconst (v := (-1 : Int32)) hx hb dX10_parity_23 (by decide) ?_
    exact rk_iret X rfl kX_len h hP hS dX10_parity_24
  · have h := h.2 (b2i_t c1)
    refine lv_aload_n hx hb dX10_parity_8 rfl (lv_at hl 0 rfl) ?_
    refine rk_get X hP (C := RX10) (T := TX10) (N := 14) (ci := 10) wix_10 h0 rfl rfl 2 (by decide) (wi_20 _ (List.mem_of_getElem? (i := 11) rfl)) rfl rfl dX10_parity_9 ?_
    obtain ⟨p1, ep1⟩ : ∃ z : Nat, z = (s1.1 v0 2).toNatClampNeg := ⟨_, rfl⟩
    rw [← ep1]
    obtain ⟨kp1, h⟩ := h p1 ep1
    refine rk_get X hP (C := RX9) (T := TX9) (N := 10) (ci := 9) wix_9 kp1 rfl rfl 2 (by decide) (wi_22 _ (List.mem_of_getElem? (i := 23) rfl)) rfl rfl dX10_parity_12 ?_
    refine lv_iload_n hx hb dX10_parity_15 rfl (lv_at hl 1 rfl) ?_
    obtain ⟨b1, h⟩ := h
    refine rk_aald X hP (C := RX7) (n := 8) (t0 := 6) (d := 20) (r := 2) (klX_X9_2 kp1) (fun _ _ => rfl) rfl b1 dX10_parity_16 ?_
    refine rk_calli (va_runV (As := []) (rest := []) X.1 (mX7_parityKind l D cy B ((p1 + 1) + 20 + 2 * v1.toNatClampNeg) s1 (klX_12 (klX_X9_2 kp1) (vp_lt b1)) h) (cwV 0 hts (gW_V (wi_23 _ (List.mem_of_getElem? (i := 5) rfl)) (wi_16 _ (List.mem_of_getElem? (i := 8) rfl)) (wi_16 _ (List.mem_of_getElem? (i := 9) rfl)) (wi_0 _ (List.mem_of_getElem? (i := 15) rfl)) (wi_16 _ (List.mem_of_getElem? (i := 4) rfl))) rfl rfl rfl hd_X7_parityKind ⟨Nat.le_of_ble_eq_true rfl, Nat.le_of_ble_eq_true rfl⟩) (rk_preV X hS hP (klX_12 (klX_X9_2 kp1) (vp_lt b1)) rfl rfl []) rfl rfl hl.1 rfl (lv_room (Nat.le_of_ble_eq_true rfl)) dX10_parity_17 ⟨Nat.zero_le _, Nat.zero_le _⟩) hS (fun _ h => h) (fun r2 s2 H locs h hP hS => ?_)
    refine lv_goto (tgt := 24) hx hb dX10_parity_20 (by decide) ?_
    exact rk_iret X rfl kX_len h hP hS dX10_parity_24

theorem hd_X10_identity : yX10_identity.cls = RX10 ∧ yX10_identity.cls ≠ "java/lang/invoke/MethodHandle" ∧ yX10_identity.cls ≠ "java/lang/invoke/VarHandle" ∧ (parseMethodDescriptor yX10_identity.desc).map (fun d => d.parameters.length) = some 2 := by decide +kernel
set_option maxRecDepth 100000 in
set_option maxHeartbeats 4000000 in
theorem mX10_identity (l : Launch) (D : va_G) (cy : Nat → ClassId) (B : Nat) (v0 : Nat) (v1 : Int32) (v2 : Int32) (σ : St) (h0 : kX[v0]? = some 10) {post : Int32 → St → Prop} (h : wX10_identity v0 v1 v2 σ post) : Met l yX10_identity (Cond.code yX10_identity cX10_identity 4 (some .int) :: WALL) (rmD 3) (PcW D cy B kX σ [.ref (B + v0), .int v1, .int v2]) (va_Qi post (BW D cy B kX) (AW B 346)) 0 0 (AW B 346) := by
  refine Met.ofK (cc := cX10_identity) (maxL := 4) (ret := (some .int)) (by decide +kernel) rfl kX_len ?_
  intro p e s m below meth c X hP
  obtain ⟨⟨hx, hb, hml, hown, hts⟩, hr, hlk, hK, hN, hZ⟩ := id X
  have hD : ∀ σ, va_D (AW B 346) (wW cy B kX σ) := AW_D kX_len
  have hS : va_S (AW B 346) s.heap s.heap [] := va_S.rf
  have hl := lv_entry ([.ref (B + v0), .int v1, .int v2]) (n := 4) (Nat.le_of_ble_eq_true rfl)
  rw [lg_entry_eq]
  generalize (lg_sl ([.ref (B + v0), .int v1, .int v2]) ++ List.replicate (4 - (lg_sl ([.ref (B + v0), .int v1, .int v2])).length) Slot.unset).toArray = ls at hl ⊢
  have hl : lv_has ls 4 [(0, .ref (B + v0)), (1, .int v1), (2, .int v2)] := hl
  unfold wX10_identity at h
  refine lv_aload_n hx hb dX10_identity_0 rfl (lv_at hl 0 rfl) ?_
  refine lv_iload_n hx hb dX10_identity_1 rfl (lv_at hl 1 rfl) ?_
  refine rk_callz (va_runV (As := [.int v1]) (rest := []) X.1 (mX10_isTable l D cy B v0 v1 σ h0 h) (cwV 1 hts (gW_V (wi_23 _ (List.mem_of_getElem? (i := 0) rfl)) (wi_23 _ (List.mem_of_getElem? (i := 1) rfl)) (wi_23 _ (List.mem_of_getElem? (i := 2) rfl)) (wi_2 _ (List.mem_of_getElem? (i := 8) rfl)) (wi_22 _ (List.mem_of_getElem? (i := 14) rfl))) rfl rfl rfl hd_X10_isTable ⟨Nat.le_of_ble_eq_true rfl, Nat.le_of_ble_eq_true rfl⟩) (rk_preV X hS hP h0 rfl rfl [.int v1]) rfl rfl hl.1 rfl (lv_room (Nat.le_of_ble_eq_true rfl)) dX10_identity_2 ⟨Nat.zero_le _, Nat.zero_le _⟩) hS (fun _ h => h) (fun r1 s1 H locs h hP hS => ?_)
  refine lv_if_ne (tgt := 10) hx hb dX10_identity_5 (by decide) (fun c1 => ?_) (fun c1 => ?_)
  · have h := h.1 (b2i_t c1)
    refine lv_aload_n hx hb dX10_identity_10 rfl (lv_at hl 0 rfl) ?_
    refine rk_get X hP (C := RX10) (T := TX10) (N := 14) (ci := 10) wix_10 h0 rfl rfl 2 (by decide) (wi_20 _ (List.mem_of_getElem? (i := 11) rfl)) rfl rfl dX10_identity_11 ?_
    obtain ⟨p1, ep1⟩ : ∃ z : Nat, z = (s1.1 v0 2).toNatClampNeg := ⟨_, rfl⟩
    rw [← ep1]
    obtain ⟨kp1, h⟩ := h p1 ep1
    refine rk_get X hP (C := RX9) (T := TX9) (N := 10) (ci := 9) wix_9 kp1 rfl rfl 2 (by decide) (wi_22 _ (List.mem_of_getElem? (i := 23) rfl)) rfl rfl dX10_identity_14 ?_
    refine lv_iload_n hx hb dX10_identity_17 rfl (lv_at hl 1 rfl) ?_
    obtain ⟨b1, h⟩ := h
    refine rk_aald X hP (C := RX7) (n := 8) (t0 := 6) (d := 20) (r := 2) (klX_X9_2 kp1) (fun _ _ => rfl) rfl b1 dX10_identity_18 ?_
    refine lv_astore_n (lv' := [(3, .ref (B + ((p1 + 1) + 20 + 2 * v1.toNatClampNeg))), (0, .ref (B + v0)), (1, .int v1), (2, .int v2)]) hx hb dX10_identity_19 rfl hl (by decide) rfl (fun ls hl => ?_)
    refine lv_aload_n hx hb dX10_identity_20 rfl (lv_at hl 0 rfl) ?_
    refine rk_get X hP (C := RX7) (T := TX7) (N := 2) (ci := 7) wix_7 (klX_12 (klX_X9_2 kp1) (vp_lt b1)) rfl rfl 0 (by decide) (wi_22 _ (List.mem_of_getElem? (i := 17) rfl)) rfl rfl dX10_identity_21 ?_
    refine lv_iconst (v := (4 : Int32)) hx hb dX10_identity_24 (by decide) ?_
    refine lv_icmp_ne (tgt := 43) hx hb dX10_identity_25 (by decide) (fun c2 => ?_) (fun c2 => ?_)
    · have h := h.1 c2
      refine lv_bipush (v := (-2 : Int32)) hx hb dX10_identity_43 (by decide) ?_
      exact rk_iret X rfl kX_len h hP hS dX10_identity_45
    · have h := h.2 c2
      refine lv_aload_n hx hb dX10_identity_28 rfl (lv_at hl 0 rfl) ?_
      refine lv_iload_n hx hb dX10_identity_29 rfl (lv_at hl 3 rfl) ?_
      refine lv_aload_n hx hb dX10_identity_30 rfl (lv_at hl 1 rfl) ?_
      refine rk_get X hP (C := RX10) (T := TX10) (N := 14) (ci := 10) wix_10 h0 rfl rfl 2 (by decide) (wi_20 _ (List.mem_of_getElem? (i := 11) rfl)) rfl rfl dX10_identity_31 ?_
      obtain ⟨p2, ep2⟩ : ∃ z : Nat, z = (s1.1 v0 2).toNatClampNeg := ⟨_, rfl⟩
      rw [← ep2]
      obtain ⟨kp2, h⟩ := h p2 ep2
      refine rk_get X hP (C := RX9) (T := TX9) (N := 10) (ci := 9) wix_9 kp2 rfl rfl 0 (by decide) (wi_23 _ (List.mem_of_getElem? (i := 8) rfl)) rfl rfl dX10_identity_34 ?_
      refine rk_calli (va_runV (As := [.int v2, .int (s1.1 p2 0)]) (rest := []) X.1 (mX7_rule l D cy B ((p1 + 1) + 20 + 2 * v1.toNatClampNeg) v2 (s1.1 p2 0) s1 (klX_12 (klX_X9_2 kp1) (vp_lt b1)) h) (cwV 2 hts (gW_V (wi_23 _ (List.mem_of_getElem? (i := 9) rfl)) (wi_16 _ (List.mem_of_getElem? (i := 11) rfl)) (wi_16 _ (List.mem_of_getElem? (i := 12) rfl)) (wi_0 _ (List.mem_of_getElem? (i := 15) rfl)) (wi_16 _ (List.mem_of_getElem? (i := 6) rfl))) rfl rfl rfl hd_X7_rule ⟨Nat.le_of_ble_eq_true rfl, Nat.le_of_ble_eq_true rfl⟩) (rk_preV X hS hP (klX_12 (klX_X9_2 kp1) (vp_lt b1)) rfl rfl [.int v2, .int (s1.1 p2 0)]) rfl rfl hl.1 rfl (lv_room (Nat.le_of_ble_eq_true rfl)) dX10_identity_37 ⟨Nat.zero_le _, Nat.zero_le _⟩) hS (fun _ h => h) (fun r2 s2 H locs h hP hS => ?_)
      refine lv_goto (tgt := 45) hx hb dX10_identity_40 (by decide) ?_
      exact rk_iret X rfl kX_len h hP hS dX10_identity_45
  · have h := h.2 (b2i_f c1)
    refine lv_iconst (v := (-1 : Int32)) hx hb dX10_identity_8 (by decide) ?_
    exact rk_iret X rfl kX_len h hP hS dX10_identity_9

theorem hd_X10_made : yX10_made.cls = RX10 ∧ yX10_made.cls ≠ "java/lang/invoke/MethodHandle" ∧ yX10_made.cls ≠ "java/lang/invoke/VarHandle" ∧ (parseMethodDescriptor yX10_made.desc).map (fun d => d.parameters.length) = some 1 := by decide +kernel
set_option maxRecDepth 100000 in
set_option maxHeartbeats 4000000 in
theorem mX10_made (l : Launch) (D : va_G) (cy : Nat → ClassId) (B : Nat) (v0 : Nat) (v1 : Int32) (σ : St) (h0 : kX[v0]? = some 10) {post : Int32 → St → Prop} (h : wX10_made v0 v1 σ post) : Met l yX10_made (Cond.code yX10_made cX10_made 2 (some .int) :: WALL) (rmD 4) (PcW D cy B kX σ [.ref (B + v0), .int v1]) (va_Qi post (BW D cy B kX) (AW B 346)) 0 0 (AW B 346) := by
  refine Met.ofK (cc := cX10_made) (maxL := 2) (ret := (some .int)) (by decide +kernel) rfl kX_len ?_
  intro p e s m below meth c X hP
  obtain ⟨⟨hx, hb, hml, hown, hts⟩, hr, hlk, hK, hN, hZ⟩ := id X
  have hD : ∀ σ, va_D (AW B 346) (wW cy B kX σ) := AW_D kX_len
  have hS : va_S (AW B 346) s.heap s.heap [] := va_S.rf
  have hl := lv_entry ([.ref (B + v0), .int v1]) (n := 2) (Nat.le_of_ble_eq_true rfl)
  rw [lg_entry_eq]
  generalize (lg_sl ([.ref (B + v0), .int v1]) ++ List.replicate (2 - (lg_sl ([.ref (B + v0), .int v1])).length) Slot.unset).toArray = ls at hl ⊢
  have hl : lv_has ls 2 [(0, .ref (B + v0)), (1, .int v1)] := hl
  unfold wX10_made at h
  refine lv_aload_n hx hb dX10_made_0 rfl (lv_at hl 0 rfl) ?_
  refine lv_iload_n hx hb dX10_made_1 rfl (lv_at hl 1 rfl) ?_
  refine rk_callz (va_runV (As := [.int v1]) (rest := []) X.1 (mX10_isTable l D cy B v0 v1 σ h0 h) (cwV 1 hts (gW_V (wi_23 _ (List.mem_of_getElem? (i := 0) rfl)) (wi_23 _ (List.mem_of_getElem? (i := 1) rfl)) (wi_23 _ (List.mem_of_getElem? (i := 2) rfl)) (wi_2 _ (List.mem_of_getElem? (i := 8) rfl)) (wi_22 _ (List.mem_of_getElem? (i := 14) rfl))) rfl rfl rfl hd_X10_isTable ⟨Nat.le_of_ble_eq_true rfl, Nat.le_of_ble_eq_true rfl⟩) (rk_preV X hS hP h0 rfl rfl [.int v1]) rfl rfl hl.1 rfl (lv_room (Nat.le_of_ble_eq_true rfl)) dX10_made_2 ⟨Nat.zero_le _, Nat.zero_le _⟩) hS (fun _ h => h) (fun r1 s1 H locs h hP hS => ?_)
  refine lv_if_ne (tgt := 10) hx hb dX10_made_5 (by decide) (fun c1 => ?_) (fun c1 => ?_)
  · have h := h.1 (b2i_t c1)
    refine lv_aload_n hx hb dX10_made_10 rfl (lv_at hl 0 rfl) ?_
    refine rk_get X hP (C := RX10) (T := TX10) (N := 14) (ci := 10) wix_10 h0 rfl rfl 2 (by decide) (wi_20 _ (List.mem_of_getElem? (i := 11) rfl)) rfl rfl dX10_made_11 ?_
    obtain ⟨p1, ep1⟩ : ∃ z : Nat, z = (s1.1 v0 2).toNatClampNeg := ⟨_, rfl⟩
    rw [← ep1]
    obtain ⟨kp1, h⟩ := h p1 ep1
    refine rk_get X hP (C := RX9) (T := TX9) (N := 10) (ci := 9) wix_9 kp1 rfl rfl 2 (by decide) (wi_22 _ (List.mem_of_getElem? (i := 23) rfl)) rfl rfl dX10_made_14 ?_
    refine lv_iload_n hx hb dX10_made_17 rfl (lv_at hl 1 rfl) ?_
    obtain ⟨b1, h⟩ := h
    refine rk_aald X hP (C := RX7) (n := 8) (t0 := 6) (d := 20) (r := 2) (klX_X9_2 kp1) (fun _ _ => rfl) rfl b1 dX10_made_18 ?_
    refine lv_aload_n hx hb dX10_made_19 rfl (lv_at hl 0 rfl) ?_
    refine rk_get X hP (C := RX10) (T := TX10) (N := 14) (ci := 10) wix_10 h0 rfl rfl 2 (by decide) (wi_20 _ (List.mem_of_getElem? (i := 11) rfl)) rfl rfl dX10_made_20 ?_
    obtain ⟨p2, ep2⟩ : ∃ z : Nat, z = (s1.1 v0 2).toNatClampNeg := ⟨_, rfl⟩
    rw [← ep2]
    obtain ⟨kp2, h⟩ := h p2 ep2
    refine rk_get X hP (C := RX9) (T := TX9) (N := 10) (ci := 9) wix_9 kp2 rfl rfl 0 (by decide) (wi_23 _ (List.mem_of_getElem? (i := 8) rfl)) rfl rfl dX10_made_23 ?_
    refine rk_callz (va_runV (As := [.int (s1.1 p2 0)]) (rest := []) X.1 (mX7_isMade l D cy B ((p1 + 1) + 20 + 2 * v1.toNatClampNeg) (s1.1 p2 0) s1 (klX_12 (klX_X9_2 kp1) (vp_lt b1)) h) (cwV 1 hts (gW_V (wi_23 _ (List.mem_of_getElem? (i := 10) rfl)) (wi_23 _ (List.mem_of_getElem? (i := 11) rfl)) (wi_23 _ (List.mem_of_getElem? (i := 12) rfl)) (wi_0 _ (List.mem_of_getElem? (i := 15) rfl)) (wi_16 _ (List.mem_of_getElem? (i := 13) rfl))) rfl rfl rfl hd_X7_isMade ⟨Nat.le_of_ble_eq_true rfl, Nat.le_of_ble_eq_true rfl⟩) (rk_preV X hS hP (klX_12 (klX_X9_2 kp1) (vp_lt b1)) rfl rfl [.int (s1.1 p2 0)]) rfl rfl hl.1 rfl (lv_room (Nat.le_of_ble_eq_true rfl)) dX10_made_26 ⟨Nat.zero_le _, Nat.zero_le _⟩) hS (fun _ h => h) (fun r2 s2 H locs h hP hS => ?_)
    refine lv_if_eq (tgt := 36) hx hb dX10_made_29 (by decide) (fun c2 => ?_) (fun c2 => ?_)
    · have h := h.1 (b2i_f c2)
      refine lv_iconst (v := (0 : Int32)) hx hb dX10_made_36 (by decide) ?_
      exact rk_iret X rfl kX_len h hP hS dX10_made_37
    · have h := h.2 (b2i_t c2)
      refine lv_iconst (v := (1 : Int32)) hx hb dX10_made_32 (by decide) ?_
      refine lv_goto (tgt := 37) hx hb dX10_made_33 (by decide) ?_
      exact rk_iret X rfl kX_len h hP hS dX10_made_37
  · have h := h.2 (b2i_f c1)
    refine lv_iconst (v := (-1 : Int32)) hx hb dX10_made_8 (by decide) ?_
    exact rk_iret X rfl kX_len h hP hS dX10_made_9

theorem hd_X10_plain : yX10_plain.cls = RX10 ∧ yX10_plain.cls ≠ "java/lang/invoke/MethodHandle" ∧ yX10_plain.cls ≠ "java/lang/invoke/VarHandle" ∧ (parseMethodDescriptor yX10_plain.desc).map (fun d => d.parameters.length) = some 1 := by decide +kernel
set_option maxRecDepth 100000 in
set_option maxHeartbeats 4000000 in
theorem mX10_plain (l : Launch) (D : va_G) (cy : Nat → ClassId) (B : Nat) (v0 : Nat) (v1 : Int32) (σ : St) (h0 : kX[v0]? = some 10) {post : Int32 → St → Prop} (h : wX10_plain v0 v1 σ post) : Met l yX10_plain (Cond.code yX10_plain cX10_plain 2 (some .int) :: WALL) (rmD 2) (PcW D cy B kX σ [.ref (B + v0), .int v1]) (va_Qi post (BW D cy B kX) (AW B 346)) 0 0 (AW B 346) := by
  refine Met.ofK (cc := cX10_plain) (maxL := 2) (ret := (some .int)) (by decide +kernel) rfl kX_len ?_
  intro p e s m below meth c X hP
  obtain ⟨⟨hx, hb, hml, hown, hts⟩, hr, hlk, hK, hN, hZ⟩ := id X
  have hD : ∀ σ, va_D (AW B 346) (wW cy B kX σ) := AW_D kX_len
  have hS : va_S (AW B 346) s.heap s.heap [] := va_S.rf
  have hl := lv_entry ([.ref (B + v0), .int v1]) (n := 2) (Nat.le_of_ble_eq_true rfl)
  rw [lg_entry_eq]
  generalize (lg_sl ([.ref (B + v0), .int v1]) ++ List.replicate (2 - (lg_sl ([.ref (B + v0), .int v1])).length) Slot.unset).toArray = ls at hl ⊢
  have hl : lv_has ls 2 [(0, .ref (B + v0)), (1, .int v1)] := hl
  unfold wX10_plain at h
  refine lv_aload_n hx hb dX10_plain_0 rfl (lv_at hl 0 rfl) ?_
  refine lv_iload_n hx hb dX10_plain_1 rfl (lv_at hl 1 rfl) ?_
  refine rk_callz (va_runV (As := [.int v1]) (rest := []) X.1 (mX10_isTable l D cy B v0 v1 σ h0 h) (cwV 1 hts (gW_V (wi_23 _ (List.mem_of_getElem? (i := 0) rfl)) (wi_23 _ (List.mem_of_getElem? (i := 1) rfl)) (wi_23 _ (List.mem_of_getElem? (i := 2) rfl)) (wi_2 _ (List.mem_of_getElem? (i := 8) rfl)) (wi_22 _ (List.mem_of_getElem? (i := 14) rfl))) rfl rfl rfl hd_X10_isTable ⟨Nat.le_of_ble_eq_true rfl, Nat.le_of_ble_eq_true rfl⟩) (rk_preV X hS hP h0 rfl rfl [.int v1]) rfl rfl hl.1 rfl (lv_room (Nat.le_of_ble_eq_true rfl)) dX10_plain_2 ⟨Nat.zero_le _, Nat.zero_le _⟩) hS (fun _ h => h) (fun r1 s1 H locs h hP hS => ?_)
  refine lv_if_ne (tgt := 10) hx hb dX10_plain_5 (by decide) (fun c1 => ?_) (fun c1 => ?_)
  · have h := h.1 (b2i_t c1)
    refine lv_aload_n hx hb dX10_plain_10 rfl (lv_at hl 0 rfl) ?_
    refine rk_get X hP (C := RX10) (T := TX10) (N := 14) (ci := 10) wix_10 h0 rfl rfl 2 (by decide) (wi_20 _ (List.mem_of_getElem? (i := 11) rfl)) rfl rfl dX10_plain_11 ?_
    obtain ⟨p1, ep1⟩ : ∃ z : Nat, z = (s1.1 v0 2).toNatClampNeg := ⟨_, rfl⟩
    rw [← ep1]
    obtain ⟨kp1, h⟩ := h p1 ep1
    refine rk_get X hP (C := RX9) (T := TX9) (N := 10) (ci := 9) wix_9 kp1 rfl rfl 2 (by decide) (wi_22 _ (List.mem_of_getElem? (i := 23) rfl)) rfl rfl dX10_plain_14 ?_
    refine lv_iload_n hx hb dX10_plain_17 rfl (lv_at hl 1 rfl) ?_
    obtain ⟨b1, h⟩ := h
    refine rk_aald X hP (C := RX7) (n := 8) (t0 := 6) (d := 20) (r := 2) (klX_X9_2 kp1) (fun _ _ => rfl) rfl b1 dX10_plain_18 ?_
    refine rk_callz (va_runV (As := []) (rest := []) X.1 (mX7_dependsOnBitCount l D cy B ((p1 + 1) + 20 + 2 * v1.toNatClampNeg) s1 (klX_12 (klX_X9_2 kp1) (vp_lt b1)) h) (cwV 0 hts (gW_V (wi_23 _ (List.mem_of_getElem? (i := 14) rfl)) (wi_23 _ (List.mem_of_getElem? (i := 15) rfl)) (wi_23 _ (List.mem_of_getElem? (i := 16) rfl)) (wi_0 _ (List.mem_of_getElem? (i := 15) rfl)) (wi_16 _ (List.mem_of_getElem? (i := 14) rfl))) rfl rfl rfl hd_X7_dependsOnBitCount ⟨Nat.le_of_ble_eq_true rfl, Nat.le_of_ble_eq_true rfl⟩) (rk_preV X hS hP (klX_12 (klX_X9_2 kp1) (vp_lt b1)) rfl rfl []) rfl rfl hl.1 rfl (lv_room (Nat.le_of_ble_eq_true rfl)) dX10_plain_19 ⟨Nat.zero_le _, Nat.zero_le _⟩) hS (fun _ h => h) (fun r2 s2 H locs h hP hS => ?_)
    refine lv_if_eq (tgt := 29) hx hb dX10_plain_22 (by decide) (fun c2 => ?_) (fun c2 => ?_)
    · have h := h.1 (b2i_f c2)
      refine lv_iconst (v := (0 : Int32)) hx hb dX10_plain_29 (by decide) ?_
      exact rk_iret X rfl kX_len h hP hS dX10_plain_30
    · have h := h.2 (b2i_t c2)
      refine lv_iconst (v := (1 : Int32)) hx hb dX10_plain_25 (by decide) ?_
      refine lv_goto (tgt := 30) hx hb dX10_plain_26 (by decide) ?_
      exact rk_iret X rfl kX_len h hP hS dX10_plain_30
  · have h := h.2 (b2i_f c1)
    refine lv_iconst (v := (-1 : Int32)) hx hb dX10_plain_8 (by decide) ?_
    exact rk_iret X rfl kX_len h hP hS dX10_plain_9

theorem hd_X10_like : yX10_like.cls = RX10 ∧ yX10_like.cls ≠ "java/lang/invoke/MethodHandle" ∧ yX10_like.cls ≠ "java/lang/invoke/VarHandle" ∧ (parseMethodDescriptor yX10_like.desc).map (fun d => d.parameters.length) = some 2 := by decide +kernel
set_option maxRecDepth 100000 in
set_option maxHeartbeats 4000000 in
theorem mX10_like (l : Launch) (D : va_G) (cy : Nat → ClassId) (B : Nat) (v0 : Nat) (v1 : Int32) (v2 : Int32) (σ : St) (h0 : kX[v0]? = some 10) {post : Int32 → St → Prop} (h : wX10_like v0 v1 v2 σ post) : Met l yX10_like (Cond.code yX10_like cX10_like 3 (some .int) :: WALL) (rmD 4) (PcW D cy B kX σ [.ref (B + v0), .int v1, .int v2]) (va_Qi post (BW D cy B kX) (AW B 346)) 0 0 (AW B 346) := by
  refine Met.ofK (cc := cX10_like) (maxL := 3) (ret := (some .int)) (by decide +kernel) rfl kX_len ?_
  intro p e s m below meth c X hP
  obtain ⟨⟨hx, hb, hml, hown, hts⟩, hr, hlk, hK, hN, hZ⟩ := id X
  have hD : ∀ σ, va_D (AW B 346) (wW cy B kX σ) := AW_D kX_len
  have hS : va_S (AW B 346) s.heap s.heap [] := va_S.rf
  have hl := lv_entry ([.ref (B + v0), .int v1, .int v2]) (n := 3) (Nat.le_of_ble_eq_true rfl)
  rw [lg_entry_eq]
  generalize (lg_sl ([.ref (B + v0), .int v1, .int v2]) ++ List.replicate (3 - (lg_sl ([.ref (B + v0), .int v1, .int v2])).length) Slot.unset).toArray = ls at hl ⊢
  have hl : lv_has ls 3 [(0, .ref (B + v0)), (1, .int v1), (2, .int v2)] := hl
  unfold wX10_like at h
  refine lv_aload_n hx hb dX10_like_0 rfl (lv_at hl 0 rfl) ?_
  refine lv_iload_n hx hb dX10_like_1 rfl (lv_at hl 1 rfl) ?_
  refine rk_callz (va_runV (As := [.int v1]) (rest := []) X.1 (mX10_isTable l D cy B v0 v1 σ h0 h) (cwV 1 hts (gW_V (wi_23 _ (List.mem_of_getElem? (i := 0) rfl)) (wi_23 _ (List.mem_of_getElem? (i := 1) rfl)) (wi_23 _ (List.mem_of_getElem? (i := 2) rfl)) (wi_2 _ (List.mem_of_getElem? (i := 8) rfl)) (wi_22 _ (List.mem_of_getElem? (i := 14) rfl))) rfl rfl rfl hd_X10_isTable ⟨Nat.le_of_ble_eq_true rfl, Nat.le_of_ble_eq_true rfl⟩) (rk_preV X hS hP h0 rfl rfl [.int v1]) rfl rfl hl.1 rfl (lv_room (Nat.le_of_ble_eq_true rfl)) dX10_like_2 ⟨Nat.zero_le _, Nat.zero_le _⟩) hS (fun _ h => h) (fun r1 s1 H locs h hP hS => ?_)
  refine lv_if_eq (tgt := 16) hx hb dX10_like_5 (by decide) (fun c1 => ?_) (fun c1 => ?_)
  · have h := h.1 (b2i_f c1)
    refine lv_iconst (v := (-1 : Int32)) hx hb dX10_like_16 (by decide) ?_
    exact rk_iret X rfl kX_len h hP hS dX10_like_17
  · have h := h.2 (b2i_t c1)
    refine lv_aload_n hx hb dX10_like_8 rfl (lv_at hl 0 rfl) ?_
    refine lv_iload_n hx hb dX10_like_9 rfl (lv_at hl 2 rfl) ?_
    refine rk_callz (va_runV (As := [.int v2]) (rest := []) X.1 (mX10_isTable l D cy B v0 v2 s1 h0 h) (cwV 1 hts (gW_V (wi_23 _ (List.mem_of_getElem? (i := 0) rfl)) (wi_23 _ (List.mem_of_getElem? (i := 1) rfl)) (wi_23 _ (List.mem_of_getElem? (i := 2) rfl)) (wi_2 _ (List.mem_of_getElem? (i := 8) rfl)) (wi_22 _ (List.mem_of_getElem? (i := 14) rfl))) rfl rfl rfl hd_X10_isTable ⟨Nat.le_of_ble_eq_true rfl, Nat.le_of_ble_eq_true rfl⟩) (rk_preV X hS hP h0 rfl rfl [.int v2]) rfl rfl hl.1 rfl (lv_room (Nat.le_of_ble_eq_true rfl)) dX10_like_10 ⟨Nat.zero_le _, Nat.zero_le _⟩) hS (fun _ h => h) (fun r2 s2 H locs h hP hS => ?_)
    refine lv_if_ne (tgt := 18) hx hb dX10_like_13 (by decide) (fun c2 => ?_) (fun c2 => ?_)
    · have h := h.1 (b2i_t c2)
      refine lv_aload_n hx hb dX10_like_18 rfl (lv_at hl 0 rfl) ?_
      refine rk_get X hP (C := RX10) (T := TX10) (N := 14) (ci := 10) wix_10 h0 rfl rfl 2 (by decide) (wi_20 _ (List.mem_of_getElem? (i := 11) rfl)) rfl rfl dX10_like_19 ?_
      obtain ⟨p1, ep1⟩ : ∃ z : Nat, z = (s2.1 v0 2).toNatClampNeg := ⟨_, rfl⟩
      rw [← ep1]
      obtain ⟨kp1, h⟩ := h p1 ep1
      refine rk_get X hP (C := RX9) (T := TX9) (N := 10) (ci := 9) wix_9 kp1 rfl rfl 2 (by decide) (wi_22 _ (List.mem_of_getElem? (i := 23) rfl)) rfl rfl dX10_like_22 ?_
      refine lv_iload_n hx hb dX10_like_25 rfl (lv_at hl 1 rfl) ?_
      obtain ⟨b1, h⟩ := h
      refine rk_aald X hP (C := RX7) (n := 8) (t0 := 6) (d := 20) (r := 2) (klX_X9_2 kp1) (fun _ _ => rfl) rfl b1 dX10_like_26 ?_
      refine lv_aload_n hx hb dX10_like_27 rfl (lv_at hl 0 rfl) ?_
      refine rk_get X hP (C := RX10) (T := TX10) (N := 14) (ci := 10) wix_10 h0 rfl rfl 2 (by decide) (wi_20 _ (List.mem_of_getElem? (i := 11) rfl)) rfl rfl dX10_like_28 ?_
      obtain ⟨p2, ep2⟩ : ∃ z : Nat, z = (s2.1 v0 2).toNatClampNeg := ⟨_, rfl⟩
      rw [← ep2]
      obtain ⟨kp2, h⟩ := h p2 ep2
      refine rk_get X hP (C := RX9) (T := TX9) (N := 10) (ci := 9) wix_9 kp2 rfl rfl 2 (by decide) (wi_22 _ (List.mem_of_getElem? (i := 23) rfl)) rfl rfl dX10_like_31 ?_
      refine lv_iload_n hx hb dX10_like_34 rfl (lv_at hl 2 rfl) ?_
      obtain ⟨b2, h⟩ := h
      refine rk_aald X hP (C := RX7) (n := 8) (t0 := 6) (d := 20) (r := 2) (klX_X9_2 kp2) (fun _ _ => rfl) rfl b2 dX10_like_35 ?_
      refine lv_aload_n hx hb dX10_like_36 rfl (lv_at hl 0 rfl) ?_
      refine rk_get X hP (C := RX10) (T := TX10) (N := 14) (ci := 10) wix_10 h0 rfl rfl 2 (by decide) (wi_20 _ (List.mem_of_getElem? (i := 11) rfl)) rfl rfl dX10_like_37 ?_
      obtain ⟨p3, ep3⟩ : ∃ z : Nat, z = (s2.1 v0 2).toNatClampNeg := ⟨_, rfl⟩
      rw [← ep3]
      obtain ⟨kp3, h⟩ := h p3 ep3
      refine rk_get X hP (C := RX9) (T := TX9) (N := 10) (ci := 9) wix_9 kp3 rfl rfl 0 (by decide) (wi_23 _ (List.mem_of_getElem? (i := 8) rfl)) rfl rfl dX10_like_40 ?_
      refine rk_calli (va_runV (As := [.ref (B + ((p2 + 1) + 20 + 2 * v2.toNatClampNeg)), .int (s2.1 p3 0)]) (rest := []) X.1 (mX7_factorOver l D cy B ((p1 + 1) + 20 + 2 * v1.toNatClampNeg) ((p2 + 1) + 20 + 2 * v2.toNatClampNeg) (s2.1 p3 0) s2 (klX_12 (klX_X9_2 kp1) (vp_lt b1)) (klX_12 (klX_X9_2 kp2) (vp_lt b2)) h) (cwV 2 hts (gW_V (wi_23 _ (List.mem_of_getElem? (i := 18) rfl)) (wi_23 _ (List.mem_of_getElem? (i := 19) rfl)) (wi_23 _ (List.mem_of_getElem? (i := 20) rfl)) (wi_0 _ (List.mem_of_getElem? (i := 15) rfl)) (wi_16 _ (List.mem_of_getElem? (i := 16) rfl))) rfl rfl rfl hd_X7_factorOver ⟨Nat.le_of_ble_eq_true rfl, Nat.le_of_ble_eq_true rfl⟩) (rk_preV X hS hP (klX_12 (klX_X9_2 kp1) (vp_lt b1)) rfl rfl [.ref (B + ((p2 + 1) + 20 + 2 * v2.toNatClampNeg)), .int (s2.1 p3 0)]) rfl rfl hl.1 rfl (lv_room (Nat.le_of_ble_eq_true rfl)) dX10_like_43 ⟨Nat.zero_le _, Nat.zero_le _⟩) hS (fun _ h => h) (fun r3 s3 H locs h hP hS => ?_)
      exact rk_iret X rfl kX_len h hP hS dX10_like_46
    · have h := h.2 (b2i_f c2)
      refine lv_iconst (v := (-1 : Int32)) hx hb dX10_like_16 (by decide) ?_
      exact rk_iret X rfl kX_len h hP hS dX10_like_17

theorem hd_X10_rank : yX10_rank.cls = RX10 ∧ yX10_rank.cls ≠ "java/lang/invoke/MethodHandle" ∧ yX10_rank.cls ≠ "java/lang/invoke/VarHandle" ∧ (parseMethodDescriptor yX10_rank.desc).map (fun d => d.parameters.length) = some 2 := by decide +kernel
set_option maxRecDepth 100000 in
set_option maxHeartbeats 4000000 in
theorem mX10_rank (l : Launch) (D : va_G) (cy : Nat → ClassId) (B : Nat) (v0 : Nat) (v1 : Int32) (v2 : Int32) (σ : St) (h0 : kX[v0]? = some 10) {post : Int32 → St → Prop} (h : wX10_rank v0 v1 v2 σ post) : Met l yX10_rank (Cond.code yX10_rank cX10_rank 3 (some .int) :: WALL) (rmD 4) (PcW D cy B kX σ [.ref (B + v0), .int v1, .int v2]) (va_Qi post (BW D cy B kX) (AW B 346)) 0 0 (AW B 346) := by
  refine Met.ofK (cc := cX10_rank) (maxL := 3) (ret := (some .int)) (by decide +kernel) rfl kX_len ?_
  intro p e s m below meth c X hP
  obtain ⟨⟨hx, hb, hml, hown, hts⟩, hr, hlk, hK, hN, hZ⟩ := id X
  have hD : ∀ σ, va_D (AW B 346) (wW cy B kX σ) := AW_D kX_len
  have hS : va_S (AW B 346) s.heap s.heap [] := va_S.rf
  have hl := lv_entry ([.ref (B + v0), .int v1, .int v2]) (n := 3) (Nat.le_of_ble_eq_true rfl)
  rw [lg_entry_eq]
  generalize (lg_sl ([.ref (B + v0), .int v1, .int v2]) ++ List.replicate (3 - (lg_sl ([.ref (B + v0), .int v1, .int v2])).length) Slot.unset).toArray = ls at hl ⊢
  have hl : lv_has ls 3 [(0, .ref (B + v0)), (1, .int v1), (2, .int v2)] := hl
  unfold wX10_rank at h
  refine lv_aload_n hx hb dX10_rank_0 rfl (lv_at hl 0 rfl) ?_
  refine lv_iload_n hx hb dX10_rank_1 rfl (lv_at hl 1 rfl) ?_
  refine rk_callz (va_runV (As := [.int v1]) (rest := []) X.1 (mX10_isTable l D cy B v0 v1 σ h0 h) (cwV 1 hts (gW_V (wi_23 _ (List.mem_of_getElem? (i := 0) rfl)) (wi_23 _ (List.mem_of_getElem? (i := 1) rfl)) (wi_23 _ (List.mem_of_getElem? (i := 2) rfl)) (wi_2 _ (List.mem_of_getElem? (i := 8) rfl)) (wi_22 _ (List.mem_of_getElem? (i := 14) rfl))) rfl rfl rfl hd_X10_isTable ⟨Nat.le_of_ble_eq_true rfl, Nat.le_of_ble_eq_true rfl⟩) (rk_preV X hS hP h0 rfl rfl [.int v1]) rfl rfl hl.1 rfl (lv_room (Nat.le_of_ble_eq_true rfl)) dX10_rank_2 ⟨Nat.zero_le _, Nat.zero_le _⟩) hS (fun _ h => h) (fun r1 s1 H locs h hP hS => ?_)
  refine lv_if_eq (tgt := 24) hx hb dX10_rank_5 (by decide) (fun c1 => ?_) (fun c1 => ?_)
  · have h := h.1 (b2i_f c1)
    refine lv_iconst (v := (-1 : Int32)) hx hb dX10_rank_24 (by decide) ?_
    exact rk_iret X rfl kX_len h hP hS dX10_rank_25
  · have h := h.2 (b2i_t c1)
    refine lv_aload_n hx hb dX10_rank_8 rfl (lv_at hl 0 rfl) ?_
    refine rk_get X hP (C := RX10) (T := TX10) (N := 14) (ci := 10) wix_10 h0 rfl rfl 2 (by decide) (wi_20 _ (List.mem_of_getElem? (i := 11) rfl)) rfl rfl dX10_rank_9 ?_
    obtain ⟨p1, ep1⟩ : ∃ z : Nat, z = (s1.1 v0 2).toNatClampNeg := ⟨_, rfl⟩
    rw [← ep1]
    obtain ⟨kp1, h⟩ := h p1 ep1
    refine rk_get X hP (C := RX9) (T := TX9) (N := 10) (ci := 9) wix_9 kp1 rfl rfl 2 (by decide) (wi_22 _ (List.mem_of_getElem? (i := 23) rfl)) rfl rfl dX10_rank_12 ?_
    refine lv_iload_n hx hb dX10_rank_15 rfl (lv_at hl 1 rfl) ?_
    obtain ⟨b1, h⟩ := h
    refine rk_aald X hP (C := RX7) (n := 8) (t0 := 6) (d := 20) (r := 2) (klX_X9_2 kp1) (fun _ _ => rfl) rfl b1 dX10_rank_16 ?_
    refine lv_iload_n hx hb dX10_rank_17 rfl (lv_at hl 2 rfl) ?_
    refine rk_callz (va_runV (As := [.int v2]) (rest := []) X.1 (mX7_hasIndex l D cy B ((p1 + 1) + 20 + 2 * v1.toNatClampNeg) v2 s1 (klX_12 (klX_X9_2 kp1) (vp_lt b1)) h) (cwV 1 hts (gW_V (wi_22 _ (List.mem_of_getElem? (i := 19) rfl)) (wi_22 _ (List.mem_of_getElem? (i := 20) rfl)) (wi_22 _ (List.mem_of_getElem? (i := 21) rfl)) (wi_0 _ (List.mem_of_getElem? (i := 15) rfl)) (wi_16 _ (List.mem_of_getElem? (i := 2) rfl))) rfl rfl rfl hd_X7_hasIndex ⟨Nat.le_of_ble_eq_true rfl, Nat.le_of_ble_eq_true rfl⟩) (rk_preV X hS hP (klX_12 (klX_X9_2 kp1) (vp_lt b1)) rfl rfl [.int v2]) rfl rfl hl.1 rfl (lv_room (Nat.le_of_ble_eq_true rfl)) dX10_rank_18 ⟨Nat.zero_le _, Nat.zero_le _⟩) hS (fun _ h => h) (fun r2 s2 H locs h hP hS => ?_)
    refine lv_if_ne (tgt := 26) hx hb dX10_rank_21 (by decide) (fun c2 => ?_) (fun c2 => ?_)
    · have h := h.1 (b2i_t c2)
      refine lv_aload_n hx hb dX10_rank_26 rfl (lv_at hl 0 rfl) ?_
      refine rk_get X hP (C := RX10) (T := TX10) (N := 14) (ci := 10) wix_10 h0 rfl rfl 11 (by decide) (wi_21 _ (List.mem_of_getElem? (i := 9) rfl)) rfl rfl dX10_rank_27 ?_
      refine lv_aload_n hx hb dX10_rank_30 rfl (lv_at hl 0 rfl) ?_
      refine rk_get X hP (C := RX10) (T := TX10) (N := 14) (ci := 10) wix_10 h0 rfl rfl 2 (by decide) (wi_20 _ (List.mem_of_getElem? (i := 11) rfl)) rfl rfl dX10_rank_31 ?_
      obtain ⟨p2, ep2⟩ : ∃ z : Nat, z = (s2.1 v0 2).toNatClampNeg := ⟨_, rfl⟩
      rw [← ep2]
      obtain ⟨kp2, h⟩ := h p2 ep2
      refine rk_get X hP (C := RX9) (T := TX9) (N := 10) (ci := 9) wix_9 kp2 rfl rfl 2 (by decide) (wi_22 _ (List.mem_of_getElem? (i := 23) rfl)) rfl rfl dX10_rank_34 ?_
      refine lv_iload_n hx hb dX10_rank_37 rfl (lv_at hl 1 rfl) ?_
      obtain ⟨b2, h⟩ := h
      refine rk_aald X hP (C := RX7) (n := 8) (t0 := 6) (d := 20) (r := 2) (klX_X9_2 kp2) (fun _ _ => rfl) rfl b2 dX10_rank_38 ?_
      refine lv_iload_n hx hb dX10_rank_39 rfl (lv_at hl 2 rfl) ?_
      refine rk_callv (va_runV (As := [.ref (B + ((p2 + 1) + 20 + 2 * v1.toNatClampNeg)), .int v2]) (rest := []) X.1 (mX3_fill l D cy B (v0 + 311) ((p2 + 1) + 20 + 2 * v1.toNatClampNeg) v2 s2 (klX_X10_11 h0) (klX_12 (klX_X9_2 kp2) (vp_lt b2)) h) (cwV 2 hts (gW_V (wi_23 _ (List.mem_of_getElem? (i := 22) rfl)) (wi_23 _ (List.mem_of_getElem? (i := 23) rfl)) (wi_24 _ (List.mem_of_getElem? (i := 0) rfl)) (wi_4 _ (List.mem_of_getElem? (i := 8) rfl)) (wi_4 _ (List.mem_of_getElem? (i := 0) rfl))) rfl rfl rfl hd_X3_fill ⟨Nat.le_of_ble_eq_true rfl, Nat.le_of_ble_eq_true rfl⟩) (rk_preV X hS hP (klX_X10_11 h0) rfl rfl [.ref (B + ((p2 + 1) + 20 + 2 * v1.toNatClampNeg)), .int v2]) rfl rfl hl.1 rfl (lv_room (Nat.le_of_ble_eq_true rfl)) dX10_rank_40 ⟨Nat.zero_le _, Nat.zero_le _⟩) hS (fun _ h => h) (fun s3 H locs h hP hS => ?_)
      refine lv_aload_n hx hb dX10_rank_43 rfl (lv_at hl 0 rfl) ?_
      refine rk_get X hP (C := RX10) (T := TX10) (N := 14) (ci := 10) wix_10 h0 rfl rfl 11 (by decide) (wi_21 _ (List.mem_of_getElem? (i := 9) rfl)) rfl rfl dX10_rank_44 ?_
      refine lv_aload_n hx hb dX10_rank_47 rfl (lv_at hl 0 rfl) ?_
      refine rk_get X hP (C := RX10) (T := TX10) (N := 14) (ci := 10) wix_10 h0 rfl rfl 2 (by decide) (wi_20 _ (List.mem_of_getElem? (i := 11) rfl)) rfl rfl dX10_rank_48 ?_
      obtain ⟨p3, ep3⟩ : ∃ z : Nat, z = (s3.1 v0 2).toNatClampNeg := ⟨_, rfl⟩
      rw [← ep3]
      obtain ⟨kp3, h⟩ := h p3 ep3
      refine rk_get X hP (C := RX9) (T := TX9) (N := 10) (ci := 9) wix_9 kp3 rfl rfl 0 (by decide) (wi_23 _ (List.mem_of_getElem? (i := 8) rfl)) rfl rfl dX10_rank_51 ?_
      refine rk_calli (va_runV (As := [.int (s3.1 p3 0)]) (rest := []) X.1 (mX3_rankModulo l D cy B (v0 + 311) (s3.1 p3 0) s3 (klX_X10_11 h0) h) (cwV 1 hts (gW_V (wi_24 _ (List.mem_of_getElem? (i := 1) rfl)) (wi_24 _ (List.mem_of_getElem? (i := 2) rfl)) (wi_24 _ (List.mem_of_getElem? (i := 3) rfl)) (wi_4 _ (List.mem_of_getElem? (i := 8) rfl)) (wi_4 _ (List.mem_of_getElem? (i := 12) rfl))) rfl rfl rfl hd_X3_rankModulo ⟨Nat.le_of_ble_eq_true rfl, Nat.le_of_ble_eq_true rfl⟩) (rk_preV X hS hP (klX_X10_11 h0) rfl rfl [.int (s3.1 p3 0)]) rfl rfl hl.1 rfl (lv_room (Nat.le_of_ble_eq_true rfl)) dX10_rank_54 ⟨Nat.zero_le _, Nat.zero_le _⟩) hS (fun _ h => h) (fun r3 s4 H locs h hP hS => ?_)
      exact rk_iret X rfl kX_len h hP hS dX10_rank_57
    · have h := h.2 (b2i_f c2)
      refine lv_iconst (v := (-1 : Int32)) hx hb dX10_rank_24 (by decide) ?_
      exact rk_iret X rfl kX_len h hP hS dX10_rank_25

theorem hd_X10_isBase : yX10_isBase.cls = RX10 ∧ yX10_isBase.cls ≠ "java/lang/invoke/MethodHandle" ∧ yX10_isBase.cls ≠ "java/lang/invoke/VarHandle" ∧ (parseMethodDescriptor yX10_isBase.desc).map (fun d => d.parameters.length) = some 1 := by decide +kernel
set_option maxRecDepth 100000 in
set_option maxHeartbeats 4000000 in
theorem mX10_isBase (l : Launch) (D : va_G) (cy : Nat → ClassId) (B : Nat) (v0 : Nat) (v1 : Int32) (σ : St) (h0 : kX[v0]? = some 10) {post : Bool → St → Prop} (h : wX10_isBase v0 v1 σ post) : Met l yX10_isBase (Cond.code yX10_isBase cX10_isBase 2 (some .boolean) :: WALL) (rmD 0) (PcW D cy B kX σ [.ref (B + v0), .int v1]) (Qz post D cy B kX 346) 0 0 (AW B 346) := by
  refine Met.ofK (cc := cX10_isBase) (maxL := 2) (ret := (some .boolean)) (by decide +kernel) rfl kX_len ?_
  intro p e s m below meth c X hP
  obtain ⟨⟨hx, hb, hml, hown, hts⟩, hr, hlk, hK, hN, hZ⟩ := id X
  have hD : ∀ σ, va_D (AW B 346) (wW cy B kX σ) := AW_D kX_len
  have hS : va_S (AW B 346) s.heap s.heap [] := va_S.rf
  have hl := lv_entry ([.ref (B + v0), .int v1]) (n := 2) (Nat.le_of_ble_eq_true rfl)
  rw [lg_entry_eq]
  generalize (lg_sl ([.ref (B + v0), .int v1]) ++ List.replicate (2 - (lg_sl ([.ref (B + v0), .int v1])).length) Slot.unset).toArray = ls at hl ⊢
  have hl : lv_has ls 2 [(0, .ref (B + v0)), (1, .int v1)] := hl
  unfold wX10_isBase at h
  refine lv_iload_n hx hb dX10_isBase_0 rfl (lv_at hl 1 rfl) ?_
  refine lv_if_lt (tgt := 19) hx hb dX10_isBase_1 (by decide) (fun c1 => ?_) (fun c1 => ?_)
  · have h := h.1 c1
    refine lv_iconst (v := (0 : Int32)) hx hb dX10_isBase_19 (by decide) ?_
    exact rk_zret X kX_len false h hP hS dX10_isBase_20
  · have h := h.2 c1
    refine lv_iload_n hx hb dX10_isBase_4 rfl (lv_at hl 1 rfl) ?_
    refine lv_aload_n hx hb dX10_isBase_5 rfl (lv_at hl 0 rfl) ?_
    refine rk_get X hP (C := RX10) (T := TX10) (N := 14) (ci := 10) wix_10 h0 rfl rfl 2 (by decide) (wi_20 _ (List.mem_of_getElem? (i := 11) rfl)) rfl rfl dX10_isBase_6 ?_
    obtain ⟨p1, ep1⟩ : ∃ z : Nat, z = (σ.1 v0 2).toNatClampNeg := ⟨_, rfl⟩
    rw [← ep1]
    obtain ⟨kp1, h⟩ := h p1 ep1
    refine rk_get X hP (C := RX9) (T := TX9) (N := 10) (ci := 9) wix_9 kp1 rfl rfl 3 (by decide) (wi_24 _ (List.mem_of_getElem? (i := 6) rfl)) rfl rfl dX10_isBase_9 ?_
    refine lv_icmp_ge (tgt := 19) hx hb dX10_isBase_12 (by decide) (fun c2 => ?_) (fun c2 => ?_)
    · have h := h.1 c2
      refine lv_iconst (v := (0 : Int32)) hx hb dX10_isBase_19 (by decide) ?_
      exact rk_zret X kX_len false h hP hS dX10_isBase_20
    · have h := h.2 c2
      refine lv_iconst (v := (1 : Int32)) hx hb dX10_isBase_15 (by decide) ?_
      refine lv_goto (tgt := 20) hx hb dX10_isBase_16 (by decide) ?_
      exact rk_zret X kX_len true h hP hS dX10_isBase_20

theorem hd_X10_based : yX10_based.cls = RX10 ∧ yX10_based.cls ≠ "java/lang/invoke/MethodHandle" ∧ yX10_based.cls ≠ "java/lang/invoke/VarHandle" ∧ (parseMethodDescriptor yX10_based.desc).map (fun d => d.parameters.length) = some 3 := by decide +kernel
set_option maxRecDepth 100000 in
set_option maxHeartbeats 4000000 in
theorem mX10_based (l : Launch) (D : va_G) (cy : Nat → ClassId) (B : Nat) (v0 : Nat) (v1 : Int32) (v2 : Int32) (v3 : Int32) (σ : St) (h0 : kX[v0]? = some 10) {post : Int32 → St → Prop} (h : wX10_based v0 v1 v2 v3 σ post) : Met l yX10_based (Cond.code yX10_based cX10_based 4 (some .int) :: WALL) (rmD 4) (PcW D cy B kX σ [.ref (B + v0), .int v1, .int v2, .int v3]) (va_Qi post (BW D cy B kX) (AW B 346)) 0 0 (AW B 346) := by
  refine Met.ofK (cc := cX10_based) (maxL := 4) (ret := (some .int)) (by decide +kernel) rfl kX_len ?_
  intro p e s m below meth c X hP
  obtain ⟨⟨hx, hb, hml, hown, hts⟩, hr, hlk, hK, hN, hZ⟩ := id X
  have hD : ∀ σ, va_D (AW B 346) (wW cy B kX σ) := AW_D kX_len
  have hS : va_S (AW B 346) s.heap s.heap [] := va_S.rf
  have hl := lv_entry ([.ref (B + v0), .int v1, .int v2, .int v3]) (n := 4) (Nat.le_of_ble_eq_true rfl)
  rw [lg_entry_eq]
  generalize (lg_sl ([.ref (B + v0), .int v1, .int v2, .int v3]) ++ List.replicate (4 - (lg_sl ([.ref (B + v0), .int v1, .int v2, .int v3])).length) Slot.unset).toArray = ls at hl ⊢
  have hl : lv_has ls 4 [(0, .ref (B + v0)), (1, .int v1), (2, .int v2), (3, .int v3)] := hl
  unfold wX10_based at h
  refine lv_aload_n hx hb dX10_based_0 rfl (lv_at hl 0 rfl) ?_
  refine lv_iload_n hx hb dX10_based_1 rfl (lv_at hl 1 rfl) ?_
  refine rk_callz (va_runV (As := [.int v1]) (rest := []) X.1 (mX10_isTable l D cy B v0 v1 σ h0 h) (cwV 1 hts (gW_V (wi_23 _ (List.mem_of_getElem? (i := 0) rfl)) (wi_23 _ (List.mem_of_getElem? (i := 1) rfl)) (wi_23 _ (List.mem_of_getElem? (i := 2) rfl)) (wi_2 _ (List.mem_of_getElem? (i := 8) rfl)) (wi_22 _ (List.mem_of_getElem? (i := 14) rfl))) rfl rfl rfl hd_X10_isTable ⟨Nat.le_of_ble_eq_true rfl, Nat.le_of_ble_eq_true rfl⟩) (rk_preV X hS hP h0 rfl rfl [.int v1]) rfl rfl hl.1 rfl (lv_room (Nat.le_of_ble_eq_true rfl)) dX10_based_2 ⟨Nat.zero_le _, Nat.zero_le _⟩) hS (fun _ h => h) (fun r1 s1 H locs h hP hS => ?_)
  refine lv_if_eq (tgt := 32) hx hb dX10_based_5 (by decide) (fun c1 => ?_) (fun c1 => ?_)
  · have h := h.1 (b2i_f c1)
    refine lv_iconst (v := (-1 : Int32)) hx hb dX10_based_32 (by decide) ?_
    exact rk_iret X rfl kX_len h hP hS dX10_based_33
  · have h := h.2 (b2i_t c1)
    refine lv_aload_n hx hb dX10_based_8 rfl (lv_at hl 0 rfl) ?_
    refine lv_iload_n hx hb dX10_based_9 rfl (lv_at hl 2 rfl) ?_
    refine rk_callz (va_runV (As := [.int v2]) (rest := []) X.1 (mX10_isBase l D cy B v0 v2 s1 h0 h) (cwV 1 hts (gW_V (wi_24 _ (List.mem_of_getElem? (i := 14) rfl)) (wi_24 _ (List.mem_of_getElem? (i := 15) rfl)) (wi_24 _ (List.mem_of_getElem? (i := 16) rfl)) (wi_2 _ (List.mem_of_getElem? (i := 8) rfl)) (wi_24 _ (List.mem_of_getElem? (i := 5) rfl))) rfl rfl rfl hd_X10_isBase ⟨Nat.le_of_ble_eq_true rfl, Nat.le_of_ble_eq_true rfl⟩) (rk_preV X hS hP h0 rfl rfl [.int v2]) rfl rfl hl.1 rfl (lv_room (Nat.le_of_ble_eq_true rfl)) dX10_based_10 ⟨Nat.zero_le _, Nat.zero_le _⟩) hS (fun _ h => h) (fun r2 s2 H locs h hP hS => ?_)
    refine lv_if_eq (tgt := 32) hx hb dX10_based_13 (by decide) (fun c2 => ?_) (fun c2 => ?_)
    · have h := h.1 (b2i_f c2)
      refine lv_iconst (v := (-1 : Int32)) hx hb dX10_based_32 (by decide) ?_
      exact rk_iret X rfl kX_len h hP hS dX10_based_33
    · have h := h.2 (b2i_t c2)
      refine lv_aload_n hx hb dX10_based_16 rfl (lv_at hl 0 rfl) ?_
      refine rk_get X hP (C := RX10) (T := TX10) (N := 14) (ci := 10) wix_10 h0 rfl rfl 2 (by decide) (wi_20 _ (List.mem_of_getElem? (i := 11) rfl)) rfl rfl dX10_based_17 ?_
      obtain ⟨p1, ep1⟩ : ∃ z : Nat, z = (s2.1 v0 2).toNatClampNeg := ⟨_, rfl⟩
      rw [← ep1]
      obtain ⟨kp1, h⟩ := h p1 ep1
      refine rk_get X hP (C := RX9) (T := TX9) (N := 10) (ci := 9) wix_9 kp1 rfl rfl 2 (by decide) (wi_22 _ (List.mem_of_getElem? (i := 23) rfl)) rfl rfl dX10_based_20 ?_
      refine lv_iload_n hx hb dX10_based_23 rfl (lv_at hl 1 rfl) ?_
      obtain ⟨b1, h⟩ := h
      refine rk_aald X hP (C := RX7) (n := 8) (t0 := 6) (d := 20) (r := 2) (klX_X9_2 kp1) (fun _ _ => rfl) rfl b1 dX10_based_24 ?_
      refine lv_iload_n hx hb dX10_based_25 rfl (lv_at hl 3 rfl) ?_
      refine rk_callz (va_runV (As := [.int v3]) (rest := []) X.1 (mX7_hasIndex l D cy B ((p1 + 1) + 20 + 2 * v1.toNatClampNeg) v3 s2 (klX_12 (klX_X9_2 kp1) (vp_lt b1)) h) (cwV 1 hts (gW_V (wi_22 _ (List.mem_of_getElem? (i := 19) rfl)) (wi_22 _ (List.mem_of_getElem? (i := 20) rfl)) (wi_22 _ (List.mem_of_getElem? (i := 21) rfl)) (wi_0 _ (List.mem_of_getElem? (i := 15) rfl)) (wi_16 _ (List.mem_of_getElem? (i := 2) rfl))) rfl rfl rfl hd_X7_hasIndex ⟨Nat.le_of_ble_eq_true rfl, Nat.le_of_ble_eq_true rfl⟩) (rk_preV X hS hP (klX_12 (klX_X9_2 kp1) (vp_lt b1)) rfl rfl [.int v3]) rfl rfl hl.1 rfl (lv_room (Nat.le_of_ble_eq_true rfl)) dX10_based_26 ⟨Nat.zero_le _, Nat.zero_le _⟩) hS (fun _ h => h) (fun r3 s3 H locs h hP hS => ?_)
      refine lv_if_ne (tgt := 34) hx hb dX10_based_29 (by decide) (fun c3 => ?_) (fun c3 => ?_)
      · have h := h.1 (b2i_t c3)
        refine lv_aload_n hx hb dX10_based_34 rfl (lv_at hl 0 rfl) ?_
        refine rk_get X hP (C := RX10) (T := TX10) (N := 14) (ci := 10) wix_10 h0 rfl rfl 12 (by decide) (wi_21 _ (List.mem_of_getElem? (i := 11) rfl)) rfl rfl dX10_based_35 ?_
        refine lv_aload_n hx hb dX10_based_38 rfl (lv_at hl 0 rfl) ?_
        refine rk_get X hP (C := RX10) (T := TX10) (N := 14) (ci := 10) wix_10 h0 rfl rfl 2 (by decide) (wi_20 _ (List.mem_of_getElem? (i := 11) rfl)) rfl rfl dX10_based_39 ?_
        obtain ⟨p2, ep2⟩ : ∃ z : Nat, z = (s3.1 v0 2).toNatClampNeg := ⟨_, rfl⟩
        rw [← ep2]
        obtain ⟨kp2, h⟩ := h p2 ep2
        refine rk_get X hP (C := RX9) (T := TX9) (N := 10) (ci := 9) wix_9 kp2 rfl rfl 2 (by decide) (wi_22 _ (List.mem_of_getElem? (i := 23) rfl)) rfl rfl dX10_based_42 ?_
        refine lv_iload_n hx hb dX10_based_45 rfl (lv_at hl 1 rfl) ?_
        obtain ⟨b2, h⟩ := h
        refine rk_aald X hP (C := RX7) (n := 8) (t0 := 6) (d := 20) (r := 2) (klX_X9_2 kp2) (fun _ _ => rfl) rfl b2 dX10_based_46 ?_
        refine rk_callv (va_runV (As := [.ref (B + ((p2 + 1) + 20 + 2 * v1.toNatClampNeg))]) (rest := []) X.1 (mX7_copyFrom l D cy B (v0 + 313) ((p2 + 1) + 20 + 2 * v1.toNatClampNeg) s3 (klX_X10_12 h0) (klX_12 (klX_X9_2 kp2) (vp_lt b2)) h) (cwV 1 hts (gW_V (wi_24 _ (List.mem_of_getElem? (i := 19) rfl)) (wi_1 _ (List.mem_of_getElem? (i := 12) rfl)) (wi_1 _ (List.mem_of_getElem? (i := 13) rfl)) (wi_0 _ (List.mem_of_getElem? (i := 15) rfl)) (wi_1 _ (List.mem_of_getElem? (i := 4) rfl))) rfl rfl rfl hd_X7_copyFrom ⟨Nat.le_of_ble_eq_true rfl, Nat.le_of_ble_eq_true rfl⟩) (rk_preV X hS hP (klX_X10_12 h0) rfl rfl [.ref (B + ((p2 + 1) + 20 + 2 * v1.toNatClampNeg))]) rfl rfl hl.1 rfl (lv_room (Nat.le_of_ble_eq_true rfl)) dX10_based_47 ⟨Nat.zero_le _, Nat.zero_le _⟩) hS (fun _ h => h) (fun s4 H locs h hP hS => ?_)
        refine lv_aload_n hx hb dX10_based_50 rfl (lv_at hl 0 rfl) ?_
        refine rk_get X hP (C := RX10) (T := TX10) (N := 14) (ci := 10) wix_10 h0 rfl rfl 12 (by decide) (wi_21 _ (List.mem_of_getElem? (i := 11) rfl)) rfl rfl dX10_based_51 ?_
        refine lv_aload_n hx hb dX10_based_54 rfl (lv_at hl 0 rfl) ?_
        refine rk_get X hP (C := RX10) (T := TX10) (N := 14) (ci := 10) wix_10 h0 rfl rfl 2 (by decide) (wi_20 _ (List.mem_of_getElem? (i := 11) rfl)) rfl rfl dX10_based_55 ?_
        obtain ⟨p3, ep3⟩ : ∃ z : Nat, z = (s4.1 v0 2).toNatClampNeg := ⟨_, rfl⟩
        rw [← ep3]
        obtain ⟨kp3, h⟩ := h p3 ep3
        refine rk_get X hP (C := RX9) (T := TX9) (N := 10) (ci := 9) wix_9 kp3 rfl rfl 4 (by decide) (wi_24 _ (List.mem_of_getElem? (i := 9) rfl)) rfl rfl dX10_based_58 ?_
        refine lv_iload_n hx hb dX10_based_61 rfl (lv_at hl 2 rfl) ?_
        obtain ⟨b3, h⟩ := h
        refine rk_aald X hP (C := RX1) (n := 5) (t0 := 4) (d := 35) (r := 1) (klX_X9_4 kp3) (fun _ _ => rfl) rfl b3 dX10_based_62 ?_
        refine lv_aload_n hx hb dX10_based_63 rfl (lv_at hl 0 rfl) ?_
        refine rk_get X hP (C := RX10) (T := TX10) (N := 14) (ci := 10) wix_10 h0 rfl rfl 2 (by decide) (wi_20 _ (List.mem_of_getElem? (i := 11) rfl)) rfl rfl dX10_based_64 ?_
        obtain ⟨p4, ep4⟩ : ∃ z : Nat, z = (s4.1 v0 2).toNatClampNeg := ⟨_, rfl⟩
        rw [← ep4]
        obtain ⟨kp4, h⟩ := h p4 ep4
        refine rk_get X hP (C := RX9) (T := TX9) (N := 10) (ci := 9) wix_9 kp4 rfl rfl 0 (by decide) (wi_23 _ (List.mem_of_getElem? (i := 8) rfl)) rfl rfl dX10_based_67 ?_
        refine rk_callv (va_runV (As := [.ref (B + ((p3 + 2) + 35 + 1 * v2.toNatClampNeg)), .int (s4.1 p4 0)]) (rest := []) X.1 (mX7_changeAllLegs l D cy B (v0 + 313) ((p3 + 2) + 35 + 1 * v2.toNatClampNeg) (s4.1 p4 0) s4 (klX_X10_12 h0) (klX_13 (klX_X9_4 kp3) (vp_lt b3)) h) (cwV 2 hts (gW_V (wi_24 _ (List.mem_of_getElem? (i := 20) rfl)) (wi_24 _ (List.mem_of_getElem? (i := 21) rfl)) (wi_24 _ (List.mem_of_getElem? (i := 22) rfl)) (wi_0 _ (List.mem_of_getElem? (i := 15) rfl)) (wi_17 _ (List.mem_of_getElem? (i := 1) rfl))) rfl rfl rfl hd_X7_changeAllLegs ⟨Nat.le_of_ble_eq_true rfl, Nat.le_of_ble_eq_true rfl⟩) (rk_preV X hS hP (klX_X10_12 h0) rfl rfl [.ref (B + ((p3 + 2) + 35 + 1 * v2.toNatClampNeg)), .int (s4.1 p4 0)]) rfl rfl hl.1 rfl (lv_room (Nat.le_of_ble_eq_true rfl)) dX10_based_70 ⟨Nat.zero_le _, Nat.zero_le _⟩) hS (fun _ h => h) (fun s5 H locs h hP hS => ?_)
        refine lv_aload_n hx hb dX10_based_73 rfl (lv_at hl 0 rfl) ?_
        refine rk_get X hP (C := RX10) (T := TX10) (N := 14) (ci := 10) wix_10 h0 rfl rfl 12 (by decide) (wi_21 _ (List.mem_of_getElem? (i := 11) rfl)) rfl rfl dX10_based_74 ?_
        refine rk_get X hP (C := RX7) (T := TX7) (N := 2) (ci := 7) wix_7 (klX_X10_12 h0) rfl rfl 1 (by decide) (wi_22 _ (List.mem_of_getElem? (i := 18) rfl)) rfl rfl dX10_based_77 ?_
        refine lv_iload_n hx hb dX10_based_80 rfl (lv_at hl 3 rfl) ?_
        obtain ⟨b4, h⟩ := h
        refine rk_iald X hP (n := 16) (klX_X7_1 (klX_X10_12 h0)) (fun _ _ => rfl) b4 dX10_based_81 ?_
        exact rk_iret X rfl kX_len h hP hS dX10_based_82
      · have h := h.2 (b2i_f c3)
        refine lv_iconst (v := (-1 : Int32)) hx hb dX10_based_32 (by decide) ?_
        exact rk_iret X rfl kX_len h hP hS dX10_based_33

theorem hd_X10_isMadeBy : yX10_isMadeBy.cls = RX10 ∧ yX10_isMadeBy.cls ≠ "java/lang/invoke/MethodHandle" ∧ yX10_isMadeBy.cls ≠ "java/lang/invoke/VarHandle" ∧ (parseMethodDescriptor yX10_isMadeBy.desc).map (fun d => d.parameters.length) = some 2 := by decide +kernel
set_option maxRecDepth 100000 in
set_option maxHeartbeats 4000000 in
theorem mX10_isMadeBy (l : Launch) (D : va_G) (cy : Nat → ClassId) (B : Nat) (v0 : Nat) (v1 : Nat) (v2 : Nat) (σ : St) (h0 : kX[v0]? = some 10) (h1 : kX[v1]? = some 7) (h2 : kX[v2]? = some 1) {post : Bool → St → Prop} (h : wX10_isMadeBy v0 v1 v2 σ post) : Met l yX10_isMadeBy (Cond.code yX10_isMadeBy cX10_isMadeBy 3 (some .boolean) :: WALL) (rmD 4) (PcW D cy B kX σ [.ref (B + v0), .ref (B + v1), .ref (B + v2)]) (Qz post D cy B kX 346) 0 0 (AW B 346) := by
  refine Met.ofK (cc := cX10_isMadeBy) (maxL := 3) (ret := (some .boolean)) (by decide +kernel) rfl kX_len ?_
  intro p e s m below meth c X hP
  obtain ⟨⟨hx, hb, hml, hown, hts⟩, hr, hlk, hK, hN, hZ⟩ := id X
  have hD : ∀ σ, va_D (AW B 346) (wW cy B kX σ) := AW_D kX_len
  have hS : va_S (AW B 346) s.heap s.heap [] := va_S.rf
  have hl := lv_entry ([.ref (B + v0), .ref (B + v1), .ref (B + v2)]) (n := 3) (Nat.le_of_ble_eq_true rfl)
  rw [lg_entry_eq]
  generalize (lg_sl ([.ref (B + v0), .ref (B + v1), .ref (B + v2)]) ++ List.replicate (3 - (lg_sl ([.ref (B + v0), .ref (B + v1), .ref (B + v2)])).length) Slot.unset).toArray = ls at hl ⊢
  have hl : lv_has ls 3 [(0, .ref (B + v0)), (1, .ref (B + v1)), (2, .ref (B + v2))] := hl
  unfold wX10_isMadeBy at h
  refine lv_aload_n hx hb dX10_isMadeBy_0 rfl (lv_at hl 0 rfl) ?_
  refine rk_get X hP (C := RX10) (T := TX10) (N := 14) (ci := 10) wix_10 h0 rfl rfl 12 (by decide) (wi_21 _ (List.mem_of_getElem? (i := 11) rfl)) rfl rfl dX10_isMadeBy_1 ?_
  refine lv_aload_n hx hb dX10_isMadeBy_4 rfl (lv_at hl 1 rfl) ?_
  refine rk_callv (va_runV (As := [.ref (B + v1)]) (rest := []) X.1 (mX7_copyFrom l D cy B (v0 + 313) v1 σ (klX_X10_12 h0) h1 h) (cwV 1 hts (gW_V (wi_24 _ (List.mem_of_getElem? (i := 19) rfl)) (wi_1 _ (List.mem_of_getElem? (i := 12) rfl)) (wi_1 _ (List.mem_of_getElem? (i := 13) rfl)) (wi_0 _ (List.mem_of_getElem? (i := 15) rfl)) (wi_1 _ (List.mem_of_getElem? (i := 4) rfl))) rfl rfl rfl hd_X7_copyFrom ⟨Nat.le_of_ble_eq_true rfl, Nat.le_of_ble_eq_true rfl⟩) (rk_preV X hS hP (klX_X10_12 h0) rfl rfl [.ref (B + v1)]) rfl rfl hl.1 rfl (lv_room (Nat.le_of_ble_eq_true rfl)) dX10_isMadeBy_5 ⟨Nat.zero_le _, Nat.zero_le _⟩) hS (fun _ h => h) (fun s1 H locs h hP hS => ?_)
  refine lv_aload_n hx hb dX10_isMadeBy_8 rfl (lv_at hl 0 rfl) ?_
  refine rk_get X hP (C := RX10) (T := TX10) (N := 14) (ci := 10) wix_10 h0 rfl rfl 12 (by decide) (wi_21 _ (List.mem_of_getElem? (i := 11) rfl)) rfl rfl dX10_isMadeBy_9 ?_
  refine lv_aload_n hx hb dX10_isMadeBy_12 rfl (lv_at hl 2 rfl) ?_
  refine lv_aload_n hx hb dX10_isMadeBy_13 rfl (lv_at hl 0 rfl) ?_
  refine rk_get X hP (C := RX10) (T := TX10) (N := 14) (ci := 10) wix_10 h0 rfl rfl 2 (by decide) (wi_20 _ (List.mem_of_getElem? (i := 11) rfl)) rfl rfl dX10_isMadeBy_14 ?_
  obtain ⟨p1, ep1⟩ : ∃ z : Nat, z = (s1.1 v0 2).toNatClampNeg := ⟨_, rfl⟩
  rw [← ep1]
  obtain ⟨kp1, h⟩ := h p1 ep1
  refine rk_get X hP (C := RX9) (T := TX9) (N := 10) (ci := 9) wix_9 kp1 rfl rfl 0 (by decide) (wi_23 _ (List.mem_of_getElem? (i := 8) rfl)) rfl rfl dX10_isMadeBy_17 ?_
  refine rk_callv (va_runV (As := [.ref (B + v2), .int (s1.1 p1 0)]) (rest := []) X.1 (mX7_changeAllLegs l D cy B (v0 + 313) v2 (s1.1 p1 0) s1 (klX_X10_12 h0) h2 h) (cwV 2 hts (gW_V (wi_24 _ (List.mem_of_getElem? (i := 20) rfl)) (wi_24 _ (List.mem_of_getElem? (i := 21) rfl)) (wi_24 _ (List.mem_of_getElem? (i := 22) rfl)) (wi_0 _ (List.mem_of_getElem? (i := 15) rfl)) (wi_17 _ (List.mem_of_getElem? (i := 1) rfl))) rfl rfl rfl hd_X7_changeAllLegs ⟨Nat.le_of_ble_eq_true rfl, Nat.le_of_ble_eq_true rfl⟩) (rk_preV X hS hP (klX_X10_12 h0) rfl rfl [.ref (B + v2), .int (s1.1 p1 0)]) rfl rfl hl.1 rfl (lv_room (Nat.le_of_ble_eq_true rfl)) dX10_isMadeBy_20 ⟨Nat.zero_le _, Nat.zero_le _⟩) hS (fun _ h => h) (fun s2 H locs h hP hS => ?_)
  refine lv_aload_n hx hb dX10_isMadeBy_23 rfl (lv_at hl 0 rfl) ?_
  refine rk_get X hP (C := RX10) (T := TX10) (N := 14) (ci := 10) wix_10 h0 rfl rfl 12 (by decide) (wi_21 _ (List.mem_of_getElem? (i := 11) rfl)) rfl rfl dX10_isMadeBy_24 ?_
  refine lv_aload_n hx hb dX10_isMadeBy_27 rfl (lv_at hl 0 rfl) ?_
  refine rk_get X hP (C := RX10) (T := TX10) (N := 14) (ci := 10) wix_10 h0 rfl rfl 2 (by decide) (wi_20 _ (List.mem_of_getElem? (i := 11) rfl)) rfl rfl dX10_isMadeBy_28 ?_
  obtain ⟨p2, ep2⟩ : ∃ z : Nat, z = (s2.1 v0 2).toNatClampNeg := ⟨_, rfl⟩
  rw [← ep2]
  obtain ⟨kp2, h⟩ := h p2 ep2
  refine rk_get X hP (C := RX9) (T := TX9) (N := 10) (ci := 9) wix_9 kp2 rfl rfl 0 (by decide) (wi_23 _ (List.mem_of_getElem? (i := 8) rfl)) rfl rfl dX10_isMadeBy_31 ?_
  refine rk_callz (va_runV (As := [.int (s2.1 p2 0)]) (rest := []) X.1 (mX7_isMade l D cy B (v0 + 313) (s2.1 p2 0) s2 (klX_X10_12 h0) h) (cwV 1 hts (gW_V (wi_23 _ (List.mem_of_getElem? (i := 10) rfl)) (wi_23 _ (List.mem_of_getElem? (i := 11) rfl)) (wi_23 _ (List.mem_of_getElem? (i := 12) rfl)) (wi_0 _ (List.mem_of_getElem? (i := 15) rfl)) (wi_16 _ (List.mem_of_getElem? (i := 13) rfl))) rfl rfl rfl hd_X7_isMade ⟨Nat.le_of_ble_eq_true rfl, Nat.le_of_ble_eq_true rfl⟩) (rk_preV X hS hP (klX_X10_12 h0) rfl rfl [.int (s2.1 p2 0)]) rfl rfl hl.1 rfl (lv_room (Nat.le_of_ble_eq_true rfl)) dX10_isMadeBy_34 ⟨Nat.zero_le _, Nat.zero_le _⟩) hS (fun _ h => h) (fun r1 s3 H locs h hP hS => ?_)
  exact rk_zret X kX_len r1 h hP hS dX10_isMadeBy_37

theorem hd_X10_fits : yX10_fits.cls = RX10 ∧ yX10_fits.cls ≠ "java/lang/invoke/MethodHandle" ∧ yX10_fits.cls ≠ "java/lang/invoke/VarHandle" ∧ (parseMethodDescriptor yX10_fits.desc).map (fun d => d.parameters.length) = some 2 := by decide +kernel
set_option maxRecDepth 100000 in
set_option maxHeartbeats 4000000 in
theorem mX10_fits (l : Launch) (D : va_G) (cy : Nat → ClassId) (B : Nat) (v0 : Nat) (v1 : Int32) (v2 : Int32) (σ : St) (h0 : kX[v0]? = some 10) {post : Int32 → St → Prop} (h : wX10_fits v0 v1 v2 σ post) : Met l yX10_fits (Cond.code yX10_fits cX10_fits 3 (some .int) :: WALL) (rmD 5) (PcW D cy B kX σ [.ref (B + v0), .int v1, .int v2]) (va_Qi post (BW D cy B kX) (AW B 346)) 0 0 (AW B 346) := by
  refine Met.ofK (cc := cX10_fits) (maxL := 3) (ret := (some .int)) (by decide +kernel) rfl kX_len ?_
  intro p e s m below meth c X hP
  obtain ⟨⟨hx, hb, hml, hown, hts⟩, hr, hlk, hK, hN, hZ⟩ := id X
  have hD : ∀ σ, va_D (AW B 346) (wW cy B kX σ) := AW_D kX_len
  have hS : va_S (AW B 346) s.heap s.heap [] := va_S.rf
  have hl := lv_entry ([.ref (B + v0), .int v1, .int v2]) (n := 3) (Nat.le_of_ble_eq_true rfl)
  rw [lg_entry_eq]
  generalize (lg_sl ([.ref (B + v0), .int v1, .int v2]) ++ List.replicate (3 - (lg_sl ([.ref (B + v0), .int v1, .int v2])).length) Slot.unset).toArray = ls at hl ⊢
  have hl : lv_has ls 3 [(0, .ref (B + v0)), (1, .int v1), (2, .int v2)] := hl
  unfold wX10_fits at h
  refine lv_aload_n hx hb dX10_fits_0 rfl (lv_at hl 0 rfl) ?_
  refine lv_iload_n hx hb dX10_fits_1 rfl (lv_at hl 1 rfl) ?_
  refine rk_callz (va_runV (As := [.int v1]) (rest := []) X.1 (mX10_isTable l D cy B v0 v1 σ h0 h) (cwV 1 hts (gW_V (wi_23 _ (List.mem_of_getElem? (i := 0) rfl)) (wi_23 _ (List.mem_of_getElem? (i := 1) rfl)) (wi_23 _ (List.mem_of_getElem? (i := 2) rfl)) (wi_2 _ (List.mem_of_getElem? (i := 8) rfl)) (wi_22 _ (List.mem_of_getElem? (i := 14) rfl))) rfl rfl rfl hd_X10_isTable ⟨Nat.le_of_ble_eq_true rfl, Nat.le_of_ble_eq_true rfl⟩) (rk_preV X hS hP h0 rfl rfl [.int v1]) rfl rfl hl.1 rfl (lv_room (Nat.le_of_ble_eq_true rfl)) dX10_fits_2 ⟨Nat.zero_le _, Nat.zero_le _⟩) hS (fun _ h => h) (fun r1 s1 H locs h hP hS => ?_)
  refine lv_if_eq (tgt := 16) hx hb dX10_fits_5 (by decide) (fun c1 => ?_) (fun c1 => ?_)
  · have h := h.1 (b2i_f c1)
    refine lv_iconst (v := (-1 : Int32)) hx hb dX10_fits_16 (by decide) ?_
    exact rk_iret X rfl kX_len h hP hS dX10_fits_17
  · have h := h.2 (b2i_t c1)
    refine lv_aload_n hx hb dX10_fits_8 rfl (lv_at hl 0 rfl) ?_
    refine lv_iload_n hx hb dX10_fits_9 rfl (lv_at hl 2 rfl) ?_
    refine rk_callz (va_runV (As := [.int v2]) (rest := []) X.1 (mX10_isBase l D cy B v0 v2 s1 h0 h) (cwV 1 hts (gW_V (wi_24 _ (List.mem_of_getElem? (i := 14) rfl)) (wi_24 _ (List.mem_of_getElem? (i := 15) rfl)) (wi_24 _ (List.mem_of_getElem? (i := 16) rfl)) (wi_2 _ (List.mem_of_getElem? (i := 8) rfl)) (wi_24 _ (List.mem_of_getElem? (i := 5) rfl))) rfl rfl rfl hd_X10_isBase ⟨Nat.le_of_ble_eq_true rfl, Nat.le_of_ble_eq_true rfl⟩) (rk_preV X hS hP h0 rfl rfl [.int v2]) rfl rfl hl.1 rfl (lv_room (Nat.le_of_ble_eq_true rfl)) dX10_fits_10 ⟨Nat.zero_le _, Nat.zero_le _⟩) hS (fun _ h => h) (fun r2 s2 H locs h hP hS => ?_)
    refine lv_if_ne (tgt := 18) hx hb dX10_fits_13 (by decide) (fun c2 => ?_) (fun c2 => ?_)
    · have h := h.1 (b2i_t c2)
      refine lv_aload_n hx hb dX10_fits_18 rfl (lv_at hl 0 rfl) ?_
      refine lv_aload_n hx hb dX10_fits_19 rfl (lv_at hl 0 rfl) ?_
      refine rk_get X hP (C := RX10) (T := TX10) (N := 14) (ci := 10) wix_10 h0 rfl rfl 2 (by decide) (wi_20 _ (List.mem_of_getElem? (i := 11) rfl)) rfl rfl dX10_fits_20 ?_
      obtain ⟨p1, ep1⟩ : ∃ z : Nat, z = (s2.1 v0 2).toNatClampNeg := ⟨_, rfl⟩
      rw [← ep1]
      obtain ⟨kp1, h⟩ := h p1 ep1
      refine rk_get X hP (C := RX9) (T := TX9) (N := 10) (ci := 9) wix_9 kp1 rfl rfl 2 (by decide) (wi_22 _ (List.mem_of_getElem? (i := 23) rfl)) rfl rfl dX10_fits_23 ?_
      refine lv_iload_n hx hb dX10_fits_26 rfl (lv_at hl 1 rfl) ?_
      obtain ⟨b1, h⟩ := h
      refine rk_aald X hP (C := RX7) (n := 8) (t0 := 6) (d := 20) (r := 2) (klX_X9_2 kp1) (fun _ _ => rfl) rfl b1 dX10_fits_27 ?_
      refine lv_aload_n hx hb dX10_fits_28 rfl (lv_at hl 0 rfl) ?_
      refine rk_get X hP (C := RX10) (T := TX10) (N := 14) (ci := 10) wix_10 h0 rfl rfl 2 (by decide) (wi_20 _ (List.mem_of_getElem? (i := 11) rfl)) rfl rfl dX10_fits_29 ?_
      obtain ⟨p2, ep2⟩ : ∃ z : Nat, z = (s2.1 v0 2).toNatClampNeg := ⟨_, rfl⟩
      rw [← ep2]
      obtain ⟨kp2, h⟩ := h p2 ep2
      refine rk_get X hP (C := RX9) (T := TX9) (N := 10) (ci := 9) wix_9 kp2 rfl rfl 4 (by decide) (wi_24 _ (List.mem_of_getElem? (i := 9) rfl)) rfl rfl dX10_fits_32 ?_
      refine lv_iload_n hx hb dX10_fits_35 rfl (lv_at hl 2 rfl) ?_
      obtain ⟨b2, h⟩ := h
      refine rk_aald X hP (C := RX1) (n := 5) (t0 := 4) (d := 35) (r := 1) (klX_X9_4 kp2) (fun _ _ => rfl) rfl b2 dX10_fits_36 ?_
      refine rk_callz (va_runV (As := [.ref (B + ((p1 + 1) + 20 + 2 * v1.toNatClampNeg)), .ref (B + ((p2 + 2) + 35 + 1 * v2.toNatClampNeg))]) (rest := []) X.1 (mX10_isMadeBy l D cy B v0 ((p1 + 1) + 20 + 2 * v1.toNatClampNeg) ((p2 + 2) + 35 + 1 * v2.toNatClampNeg) s2 h0 (klX_12 (klX_X9_2 kp1) (vp_lt b1)) (klX_13 (klX_X9_4 kp2) (vp_lt b2)) h) (cwV 2 hts (gW_V (wi_25 _ (List.mem_of_getElem? (i := 1) rfl)) (wi_25 _ (List.mem_of_getElem? (i := 2) rfl)) (wi_25 _ (List.mem_of_getElem? (i := 3) rfl)) (wi_2 _ (List.mem_of_getElem? (i := 8) rfl)) (wi_25 _ (List.mem_of_getElem? (i := 0) rfl))) rfl rfl rfl hd_X10_isMadeBy ⟨Nat.le_of_ble_eq_true rfl, Nat.le_of_ble_eq_true rfl⟩) (rk_preV X hS hP h0 rfl rfl [.ref (B + ((p1 + 1) + 20 + 2 * v1.toNatClampNeg)), .ref (B + ((p2 + 2) + 35 + 1 * v2.toNatClampNeg))]) rfl rfl hl.1 rfl (lv_room (Nat.le_of_ble_eq_true rfl)) dX10_fits_37 ⟨Nat.zero_le _, Nat.zero_le _⟩) hS (fun _ h => h) (fun r3 s3 H locs h hP hS => ?_)
      refine lv_if_eq (tgt := 47) hx hb dX10_fits_40 (by decide) (fun c3 => ?_) (fun c3 => ?_)
      · have h := h.1 (b2i_f c3)
        refine lv_iconst (v := (0 : Int32)) hx hb dX10_fits_47 (by decide) ?_
        exact rk_iret X rfl kX_len h hP hS dX10_fits_48
      · have h := h.2 (b2i_t c3)
        refine lv_iconst (v := (1 : Int32)) hx hb dX10_fits_43 (by decide) ?_
        refine lv_goto (tgt := 48) hx hb dX10_fits_44 (by decide) ?_
        exact rk_iret X rfl kX_len h hP hS dX10_fits_48
    · have h := h.2 (b2i_f c2)
      refine lv_iconst (v := (-1 : Int32)) hx hb dX10_fits_16 (by decide) ?_
      exact rk_iret X rfl kX_len h hP hS dX10_fits_17

theorem hd_X10_first : yX10_first.cls = RX10 ∧ yX10_first.cls ≠ "java/lang/invoke/MethodHandle" ∧ yX10_first.cls ≠ "java/lang/invoke/VarHandle" ∧ (parseMethodDescriptor yX10_first.desc).map (fun d => d.parameters.length) = some 1 := by decide +kernel
set_option maxRecDepth 100000 in
set_option maxHeartbeats 4000000 in
theorem tX10_first_12 {p : Program} {l : Launch} {e : Env} {s : State} {m : MethodId} {av : Array Value} {below : List Frame} {meth : Method} {c : Code} {D : va_G} {cy : Nat → ClassId} {B : Nat} (X : kC p s m av meth c cX10_first 3 (some .int) WALL RX10 D cy (AW B 346)) {post : Int32 → St → Prop} : ∀ (n : Nat) (v0 : Nat) (v1 : Int32) (v2 : Int32) (σ : St), kX[v0]? = some 10 → wX10_first_12 post n v0 v1 v2 σ → ∀ (H : Heap) (locs : List Loc) (ls : Array Slot), va_P D vwCl (wW cy B kX σ) H → va_S (AW B 346) s.heap H locs → lv_has ls 3 [(0, .ref (B + v0)), (1, .int v1), (2, .int v2)] → W p l e (rmD 5) s m av below meth c H locs 0 0 (MQ below (va_Qi post (BW D cy B kX) (AW B 346)) av s 0 0 (AW B 346)) (F0 m 12 ls []) := by
  obtain ⟨⟨hx, hb, hml, hown, hts⟩, hr, hlk, hK, hN, hZ⟩ := id X
  have hD : ∀ σ, va_D (AW B 346) (wW cy B kX σ) := AW_D kX_len
  intro n
  induction n with
  | zero => intro v0 v1 v2 σ h0 h; exact absurd h id
  | succ n ih =>
    intro v0 v1 v2 σ h0 h H locs ls hP hS hl
    rw [wX10_first_12] at h
    refine lv_iload_n hx hb dX10_first_12 rfl (lv_at hl 2 rfl) ?_
    refine lv_aload_n hx hb dX10_first_13 rfl (lv_at hl 0 rfl) ?_
    refine rk_get X hP (C := RX10) (T := TX10) (N := 14) (ci := 10) wix_10 h0 rfl rfl 2 (by decide) (wi_20 _ (List.mem_of_getElem? (i := 11) rfl)) rfl rfl dX10_first_14 ?_
    obtain ⟨p1, ep1⟩ : ∃ z : Nat, z = (σ.1 v0 2).toNatClampNeg := ⟨_, rfl⟩
    rw [← ep1]
    obtain ⟨kp1, h⟩ := h p1 ep1
    refine rk_get X hP (C := RX9) (T := TX9) (N := 10) (ci := 9) wix_9 kp1 rfl rfl 3 (by decide) (wi_24 _ (List.mem_of_getElem? (i := 6) rfl)) rfl rfl dX10_first_17 ?_
    refine lv_icmp_ge (tgt := 56) hx hb dX10_first_20 (by decide) (fun c1 => ?_) (fun c1 => ?_)
    · have h := h.1 c1
      refine lv_bipush (v := (-2 : Int32)) hx hb dX10_first_56 (by decide) ?_
      exact rk_iret X rfl kX_len h hP hS dX10_first_58
    · have h := h.2 c1
      refine lv_aload_n hx hb dX10_first_23 rfl (lv_at hl 0 rfl) ?_
      refine lv_aload_n hx hb dX10_first_24 rfl (lv_at hl 0 rfl) ?_
      refine rk_get X hP (C := RX10) (T := TX10) (N := 14) (ci := 10) wix_10 h0 rfl rfl 2 (by decide) (wi_20 _ (List.mem_of_getElem? (i := 11) rfl)) rfl rfl dX10_first_25 ?_
      obtain ⟨p2, ep2⟩ : ∃ z : Nat, z = (σ.1 v0 2).toNatClampNeg := ⟨_, rfl⟩
      rw [← ep2]
      obtain ⟨kp2, h⟩ := h p2 ep2
      refine rk_get X hP (C := RX9) (T := TX9) (N := 10) (ci := 9) wix_9 kp2 rfl rfl 2 (by decide) (wi_22 _ (List.mem_of_getElem? (i := 23) rfl)) rfl rfl dX10_first_28 ?_
      refine lv_iload_n hx hb dX10_first_31 rfl (lv_at hl 1 rfl) ?_
      obtain ⟨b1, h⟩ := h
      refine rk_aald X hP (C := RX7) (n := 8) (t0 := 6) (d := 20) (r := 2) (klX_X9_2 kp2) (fun _ _ => rfl) rfl b1 dX10_first_32 ?_
      refine lv_aload_n hx hb dX10_first_33 rfl (lv_at hl 0 rfl) ?_
      refine rk_get X hP (C := RX10) (T := TX10) (N := 14) (ci := 10) wix_10 h0 rfl rfl 2 (by decide) (wi_20 _ (List.mem_of_getElem? (i := 11) rfl)) rfl rfl dX10_first_34 ?_
      obtain ⟨p3, ep3⟩ : ∃ z : Nat, z = (σ.1 v0 2).toNatClampNeg := ⟨_, rfl⟩
      rw [← ep3]
      obtain ⟨kp3, h⟩ := h p3 ep3
      refine rk_get X hP (C := RX9) (T := TX9) (N := 10) (ci := 9) wix_9 kp3 rfl rfl 4 (by decide) (wi_24 _ (List.mem_of_getElem? (i := 9) rfl)) rfl rfl dX10_first_37 ?_
      refine lv_iload_n hx hb dX10_first_40 rfl (lv_at hl 2 rfl) ?_
      obtain ⟨b2, h⟩ := h
      refine rk_aald X hP (C := RX1) (n := 5) (t0 := 4) (d := 35) (r := 1) (klX_X9_4 kp3) (fun _ _ => rfl) rfl b2 dX10_first_41 ?_
      refine rk_callz (va_runV (As := [.ref (B + ((p2 + 1) + 20 + 2 * v1.toNatClampNeg)), .ref (B + ((p3 + 2) + 35 + 1 * v2.toNatClampNeg))]) (rest := []) X.1 (mX10_isMadeBy l D cy B v0 ((p2 + 1) + 20 + 2 * v1.toNatClampNeg) ((p3 + 2) + 35 + 1 * v2.toNatClampNeg) σ h0 (klX_12 (klX_X9_2 kp2) (vp_lt b1)) (klX_13 (klX_X9_4 kp3) (vp_lt b2)) h) (cwV 2 hts (gW_V (wi_25 _ (List.mem_of_getElem? (i := 1) rfl)) (wi_25 _ (List.mem_of_getElem? (i := 2) rfl)) (wi_25 _ (List.mem_of_getElem? (i := 3) rfl)) (wi_2 _ (List.mem_of_getElem? (i := 8) rfl)) (wi_25 _ (List.mem_of_getElem? (i := 0) rfl))) rfl rfl rfl hd_X10_isMadeBy ⟨Nat.le_of_ble_eq_true rfl, Nat.le_of_ble_eq_true rfl⟩) (rk_preV X hS hP h0 rfl rfl [.ref (B + ((p2 + 1) + 20 + 2 * v1.toNatClampNeg)), .ref (B + ((p3 + 2) + 35 + 1 * v2.toNatClampNeg))]) rfl rfl hl.1 rfl (lv_room (Nat.le_of_ble_eq_true rfl)) dX10_first_42 ⟨Nat.zero_le _, Nat.zero_le _⟩) hS (fun _ h => h) (fun r1 s1 H locs h hP hS => ?_)
      refine lv_if_eq (tgt := 50) hx hb dX10_first_45 (by decide) (fun c2 => ?_) (fun c2 => ?_)
      · have h := h.1 (b2i_f c2)
        obtain ⟨x1, ex1⟩ : ∃ y : Int32, y = v2 + (1 : Int32) := ⟨_, rfl⟩
        have h := h x1 ex1
        refine lv_iinc (v := x1) (lv' := [(2, .int x1), (0, .ref (B + v0)), (1, .int v1)]) hx hb dX10_first_50 hl (k := 2) rfl (by rw [ex1]; rfl) (by decide) rfl (fun ls hl => ?_)
        refine lv_goto (tgt := 12) hx hb dX10_first_53 (by decide) ?_
        exact ih _ _ _ _ h0 h _ _ _ hP hS (lv_sub hl [1, 2, 0] rfl)
      · have h := h.2 (b2i_t c2)
        refine lv_iload_n hx hb dX10_first_48 rfl (lv_at hl 2 rfl) ?_
        exact rk_iret X rfl kX_len h hP hS dX10_first_49
set_option maxRecDepth 100000 in
set_option maxHeartbeats 4000000 in
theorem mX10_first (l : Launch) (D : va_G) (cy : Nat → ClassId) (B : Nat) (v0 : Nat) (v1 : Int32) (σ : St) (h0 : kX[v0]? = some 10) {post : Int32 → St → Prop} (h : wX10_first v0 v1 σ post) : Met l yX10_first (Cond.code yX10_first cX10_first 3 (some .int) :: WALL) (rmD 5) (PcW D cy B kX σ [.ref (B + v0), .int v1]) (va_Qi post (BW D cy B kX) (AW B 346)) 0 0 (AW B 346) := by
  refine Met.ofK (cc := cX10_first) (maxL := 3) (ret := (some .int)) (by decide +kernel) rfl kX_len ?_
  intro p e s m below meth c X hP
  obtain ⟨⟨hx, hb, hml, hown, hts⟩, hr, hlk, hK, hN, hZ⟩ := id X
  have hD : ∀ σ, va_D (AW B 346) (wW cy B kX σ) := AW_D kX_len
  have hS : va_S (AW B 346) s.heap s.heap [] := va_S.rf
  have hl := lv_entry ([.ref (B + v0), .int v1]) (n := 3) (Nat.le_of_ble_eq_true rfl)
  rw [lg_entry_eq]
  generalize (lg_sl ([.ref (B + v0), .int v1]) ++ List.replicate (3 - (lg_sl ([.ref (B + v0), .int v1])).length) Slot.unset).toArray = ls at hl ⊢
  have hl : lv_has ls 3 [(0, .ref (B + v0)), (1, .int v1)] := hl
  unfold wX10_first at h
  refine lv_aload_n hx hb dX10_first_0 rfl (lv_at hl 0 rfl) ?_
  refine lv_iload_n hx hb dX10_first_1 rfl (lv_at hl 1 rfl) ?_
  refine rk_callz (va_runV (As := [.int v1]) (rest := []) X.1 (mX10_isTable l D cy B v0 v1 σ h0 h) (cwV 1 hts (gW_V (wi_23 _ (List.mem_of_getElem? (i := 0) rfl)) (wi_23 _ (List.mem_of_getElem? (i := 1) rfl)) (wi_23 _ (List.mem_of_getElem? (i := 2) rfl)) (wi_2 _ (List.mem_of_getElem? (i := 8) rfl)) (wi_22 _ (List.mem_of_getElem? (i := 14) rfl))) rfl rfl rfl hd_X10_isTable ⟨Nat.le_of_ble_eq_true rfl, Nat.le_of_ble_eq_true rfl⟩) (rk_preV X hS hP h0 rfl rfl [.int v1]) rfl rfl hl.1 rfl (lv_room (Nat.le_of_ble_eq_true rfl)) dX10_first_2 ⟨Nat.zero_le _, Nat.zero_le _⟩) hS (fun _ h => h) (fun r1 s1 H locs h hP hS => ?_)
  refine lv_if_ne (tgt := 10) hx hb dX10_first_5 (by decide) (fun c1 => ?_) (fun c1 => ?_)
  · have h := h.1 (b2i_t c1)
    refine lv_iconst (v := (0 : Int32)) hx hb dX10_first_10 (by decide) ?_
    refine lv_istore_n (lv' := [(2, .int (0 : Int32)), (0, .ref (B + v0)), (1, .int v1)]) hx hb dX10_first_11 rfl hl (by decide) rfl (fun ls hl => ?_)
    obtain ⟨j, h⟩ := h
    exact tX10_first_12 X j _ _ _ _ h0 h _ _ _ hP hS (lv_sub hl [1, 2, 0] rfl)
  · have h := h.2 (b2i_f c1)
    refine lv_iconst (v := (-1 : Int32)) hx hb dX10_first_8 (by decide) ?_
    exact rk_iret X rfl kX_len h hP hS dX10_first_9

theorem hd_X10_isMadeByRow : yX10_isMadeByRow.cls = RX10 ∧ yX10_isMadeByRow.cls ≠ "java/lang/invoke/MethodHandle" ∧ yX10_isMadeByRow.cls ≠ "java/lang/invoke/VarHandle" ∧ (parseMethodDescriptor yX10_isMadeByRow.desc).map (fun d => d.parameters.length) = some 3 := by decide +kernel
set_option maxRecDepth 100000 in
set_option maxHeartbeats 4000000 in
theorem mX10_isMadeByRow (l : Launch) (D : va_G) (cy : Nat → ClassId) (B : Nat) (v0 : Nat) (v1 : Nat) (v2 : Int32) (v3 : Int32) (σ : St) (h0 : kX[v0]? = some 10) (h1 : kX[v1]? = some 7) {post : Bool → St → Prop} (h : wX10_isMadeByRow v0 v1 v2 v3 σ post) : Met l yX10_isMadeByRow (Cond.code yX10_isMadeByRow cX10_isMadeByRow 4 (some .boolean) :: WALL) (rmD 5) (PcW D cy B kX σ [.ref (B + v0), .ref (B + v1), .int v2, .int v3]) (Qz post D cy B kX 346) 0 0 (AW B 346) := by
  refine Met.ofK (cc := cX10_isMadeByRow) (maxL := 4) (ret := (some .boolean)) (by decide +kernel) rfl kX_len ?_
  intro p e s m below meth c X hP
  obtain ⟨⟨hx, hb, hml, hown, hts⟩, hr, hlk, hK, hN, hZ⟩ := id X
  have hD : ∀ σ, va_D (AW B 346) (wW cy B kX σ) := AW_D kX_len
  have hS : va_S (AW B 346) s.heap s.heap [] := va_S.rf
  have hl := lv_entry ([.ref (B + v0), .ref (B + v1), .int v2, .int v3]) (n := 4) (Nat.le_of_ble_eq_true rfl)
  rw [lg_entry_eq]
  generalize (lg_sl ([.ref (B + v0), .ref (B + v1), .int v2, .int v3]) ++ List.replicate (4 - (lg_sl ([.ref (B + v0), .ref (B + v1), .int v2, .int v3])).length) Slot.unset).toArray = ls at hl ⊢
  have hl : lv_has ls 4 [(0, .ref (B + v0)), (1, .ref (B + v1)), (2, .int v2), (3, .int v3)] := hl
  unfold wX10_isMadeByRow at h
  refine lv_aload_n hx hb dX10_isMadeByRow_0 rfl (lv_at hl 0 rfl) ?_
  refine rk_get X hP (C := RX10) (T := TX10) (N := 14) (ci := 10) wix_10 h0 rfl rfl 13 (by decide) (wi_21 _ (List.mem_of_getElem? (i := 13) rfl)) rfl rfl dX10_isMadeByRow_1 ?_
  refine lv_iconst (v := (1 : Int32)) hx hb dX10_isMadeByRow_4 (by decide) ?_
  refine rk_puti X hP hD hS (C := RX1) (T := TX1) (N := 4) (ci := 1) wix_1 (klX_X10_13 h0) rfl rfl tyX1 tyX1_ok nmX1 0 (by decide) (wi_24 _ (List.mem_of_getElem? (i := 10) rfl)) rfl rfl (by decide +kernel) (Nat.le_of_ble_eq_true rfl) rfl dX10_isMadeByRow_5 (fun H locs hP hS => ?_)
  obtain ⟨s1, es1⟩ : ∃ z : St, z = u1 σ (v0 + 315) 0 (1 : Int32) := ⟨_, rfl⟩
  rw [← es1] at hP
  have h := h s1 es1
  refine lv_aload_n hx hb dX10_isMadeByRow_8 rfl (lv_at hl 0 rfl) ?_
  refine rk_get X hP (C := RX10) (T := TX10) (N := 14) (ci := 10) wix_10 h0 rfl rfl 13 (by decide) (wi_21 _ (List.mem_of_getElem? (i := 13) rfl)) rfl rfl dX10_isMadeByRow_9 ?_
  refine lv_iconst (v := (1 : Int32)) hx hb dX10_isMadeByRow_12 (by decide) ?_
  refine rk_puti X hP hD hS (C := RX1) (T := TX1) (N := 4) (ci := 1) wix_1 (klX_X10_13 h0) rfl rfl tyX1 tyX1_ok nmX1 1 (by decide) (wi_24 _ (List.mem_of_getElem? (i := 11) rfl)) rfl rfl (by decide +kernel) (Nat.le_of_ble_eq_true rfl) rfl dX10_isMadeByRow_13 (fun H locs hP hS => ?_)
  obtain ⟨s2, es2⟩ : ∃ z : St, z = u1 s1 (v0 + 315) 1 (1 : Int32) := ⟨_, rfl⟩
  rw [← es2] at hP
  have h := h s2 es2
  refine lv_aload_n hx hb dX10_isMadeByRow_16 rfl (lv_at hl 0 rfl) ?_
  refine rk_get X hP (C := RX10) (T := TX10) (N := 14) (ci := 10) wix_10 h0 rfl rfl 13 (by decide) (wi_21 _ (List.mem_of_getElem? (i := 13) rfl)) rfl rfl dX10_isMadeByRow_17 ?_
  refine lv_iload_n hx hb dX10_isMadeByRow_20 rfl (lv_at hl 2 rfl) ?_
  refine rk_puti X hP hD hS (C := RX1) (T := TX1) (N := 4) (ci := 1) wix_1 (klX_X10_13 h0) rfl rfl tyX1 tyX1_ok nmX1 2 (by decide) (wi_24 _ (List.mem_of_getElem? (i := 12) rfl)) rfl rfl (by decide +kernel) (Nat.le_of_ble_eq_true rfl) rfl dX10_isMadeByRow_21 (fun H locs hP hS => ?_)
  obtain ⟨s3, es3⟩ : ∃ z : St, z = u1 s2 (v0 + 315) 2 v2 := ⟨_, rfl⟩
  rw [← es3] at hP
  have h := h s3 es3
  refine lv_aload_n hx hb dX10_isMadeByRow_24 rfl (lv_at hl 0 rfl) ?_
  refine rk_get X hP (C := RX10) (T := TX10) (N := 14) (ci := 10) wix_10 h0 rfl rfl 13 (by decide) (wi_21 _ (List.mem_of_getElem? (i := 13) rfl)) rfl rfl dX10_isMadeByRow_25 ?_
  refine lv_iload_n hx hb dX10_isMadeByRow_28 rfl (lv_at hl 3 rfl) ?_
  refine rk_puti X hP hD hS (C := RX1) (T := TX1) (N := 4) (ci := 1) wix_1 (klX_X10_13 h0) rfl rfl tyX1 tyX1_ok nmX1 3 (by decide) (wi_24 _ (List.mem_of_getElem? (i := 13) rfl)) rfl rfl (by decide +kernel) (Nat.le_of_ble_eq_true rfl) rfl dX10_isMadeByRow_29 (fun H locs hP hS => ?_)
  obtain ⟨s4, es4⟩ : ∃ z : St, z = u1 s3 (v0 + 315) 3 v3 := ⟨_, rfl⟩
  rw [← es4] at hP
  have h := h s4 es4
  refine lv_aload_n hx hb dX10_isMadeByRow_32 rfl (lv_at hl 0 rfl) ?_
  refine lv_aload_n hx hb dX10_isMadeByRow_33 rfl (lv_at hl 1 rfl) ?_
  refine lv_aload_n hx hb dX10_isMadeByRow_34 rfl (lv_at hl 0 rfl) ?_
  refine rk_get X hP (C := RX10) (T := TX10) (N := 14) (ci := 10) wix_10 h0 rfl rfl 13 (by decide) (wi_21 _ (List.mem_of_getElem? (i := 13) rfl)) rfl rfl dX10_isMadeByRow_35 ?_
  refine rk_callz (va_runV (As := [.ref (B + v1), .ref (B + (v0 + 315))]) (rest := []) X.1 (mX10_isMadeBy l D cy B v0 v1 (v0 + 315) s4 h0 h1 (klX_X10_13 h0) h) (cwV 2 hts (gW_V (wi_25 _ (List.mem_of_getElem? (i := 1) rfl)) (wi_25 _ (List.mem_of_getElem? (i := 2) rfl)) (wi_25 _ (List.mem_of_getElem? (i := 3) rfl)) (wi_2 _ (List.mem_of_getElem? (i := 8) rfl)) (wi_25 _ (List.mem_of_getElem? (i := 0) rfl))) rfl rfl rfl hd_X10_isMadeBy ⟨Nat.le_of_ble_eq_true rfl, Nat.le_of_ble_eq_true rfl⟩) (rk_preV X hS hP h0 rfl rfl [.ref (B + v1), .ref (B + (v0 + 315))]) rfl rfl hl.1 rfl (lv_room (Nat.le_of_ble_eq_true rfl)) dX10_isMadeByRow_38 ⟨Nat.zero_le _, Nat.zero_le _⟩) hS (fun _ h => h) (fun r1 s5 H locs h hP hS => ?_)
  exact rk_zret X kX_len r1 h hP hS dX10_isMadeByRow_41

theorem hd_X10_seek : yX10_seek.cls = RX10 ∧ yX10_seek.cls ≠ "java/lang/invoke/MethodHandle" ∧ yX10_seek.cls ≠ "java/lang/invoke/VarHandle" ∧ (parseMethodDescriptor yX10_seek.desc).map (fun d => d.parameters.length) = some 1 := by decide +kernel
set_option maxRecDepth 100000 in
set_option maxHeartbeats 4000000 in
theorem tX10_seek_34 {p : Program} {l : Launch} {e : Env} {s : State} {m : MethodId} {av : Array Value} {below : List Frame} {meth : Method} {c : Code} {D : va_G} {cy : Nat → ClassId} {B : Nat} (X : kC p s m av meth c cX10_seek 4 (some .int) WALL RX10 D cy (AW B 346)) {post : Int32 → St → Prop} : ∀ (n : Nat) (v0 : Nat) (v2 : Nat) (v3 : Int32) (σ : St), kX[v0]? = some 10 → kX[v2]? = some 7 → wX10_seek_34 post n v0 v2 v3 σ → ∀ (H : Heap) (locs : List Loc) (ls : Array Slot), va_P D vwCl (wW cy B kX σ) H → va_S (AW B 346) s.heap H locs → lv_has ls 4 [(0, .ref (B + v0)), (2, .ref (B + v2)), (3, .int v3)] → W p l e (rmD 6) s m av below meth c H locs 0 0 (MQ below (va_Qi post (BW D cy B kX) (AW B 346)) av s 0 0 (AW B 346)) (F0 m 34 ls []) := by
  obtain ⟨⟨hx, hb, hml, hown, hts⟩, hr, hlk, hK, hN, hZ⟩ := id X
  have hD : ∀ σ, va_D (AW B 346) (wW cy B kX σ) := AW_D kX_len
  intro n
  induction n with
  | zero => intro v0 v2 v3 σ h0 h2 h; exact absurd h id
  | succ n ih =>
    intro v0 v2 v3 σ h0 h2 h H locs ls hP hS hl
    rw [wX10_seek_34] at h
    refine lv_iload_n hx hb dX10_seek_34 rfl (lv_at hl 2 rfl) ?_
    refine lv_aload_n hx hb dX10_seek_35 rfl (lv_at hl 0 rfl) ?_
    refine rk_get X hP (C := RX10) (T := TX10) (N := 14) (ci := 10) wix_10 h0 rfl rfl 2 (by decide) (wi_20 _ (List.mem_of_getElem? (i := 11) rfl)) rfl rfl dX10_seek_36 ?_
    obtain ⟨p1, ep1⟩ : ∃ z : Nat, z = (σ.1 v0 2).toNatClampNeg := ⟨_, rfl⟩
    rw [← ep1]
    obtain ⟨kp1, h⟩ := h p1 ep1
    refine rk_get X hP (C := RX9) (T := TX9) (N := 10) (ci := 9) wix_9 kp1 rfl rfl 0 (by decide) (wi_23 _ (List.mem_of_getElem? (i := 8) rfl)) rfl rfl dX10_seek_39 ?_
    refine lv_icmp_ge (tgt := 76) hx hb dX10_seek_42 (by decide) (fun c1 => ?_) (fun c1 => ?_)
    · have h := h.1 c1
      refine lv_bipush (v := (-2 : Int32)) hx hb dX10_seek_76 (by decide) ?_
      exact rk_iret X rfl kX_len h hP hS dX10_seek_78
    · have h := h.2 c1
      refine lv_iload_n hx hb dX10_seek_45 rfl (lv_at hl 2 rfl) ?_
      refine lv_iconst (v := (1 : Int32)) hx hb dX10_seek_46 (by decide) ?_
      refine lv_icmp_eq (tgt := 70) hx hb dX10_seek_47 (by decide) (fun c2 => ?_) (fun c2 => ?_)
      · have h := h.1 c2
        obtain ⟨x1, ex1⟩ : ∃ y : Int32, y = v3 + (1 : Int32) := ⟨_, rfl⟩
        have h := h x1 ex1
        refine lv_iinc (v := x1) (lv' := [(3, .int x1), (0, .ref (B + v0)), (2, .ref (B + v2))]) hx hb dX10_seek_70 hl (k := 2) rfl (by rw [ex1]; rfl) (by decide) rfl (fun ls hl => ?_)
        refine lv_goto (tgt := 34) hx hb dX10_seek_73 (by decide) ?_
        exact ih _ _ _ _ h0 h2 h _ _ _ hP hS (lv_sub hl [1, 2, 0] rfl)
      · have h := h.2 c2
        refine lv_aload_n hx hb dX10_seek_50 rfl (lv_at hl 0 rfl) ?_
        refine lv_aload_n hx hb dX10_seek_51 rfl (lv_at hl 1 rfl) ?_
        refine lv_iconst (v := (1 : Int32)) hx hb dX10_seek_52 (by decide) ?_
        refine lv_iload_n hx hb dX10_seek_53 rfl (lv_at hl 2 rfl) ?_
        refine rk_callz (va_runV (As := [.ref (B + v2), .int (1 : Int32), .int v3]) (rest := []) X.1 (mX10_isMadeByRow l D cy B v0 v2 (1 : Int32) v3 σ h0 h2 h) (cwV 3 hts (gW_V (wi_25 _ (List.mem_of_getElem? (i := 7) rfl)) (wi_25 _ (List.mem_of_getElem? (i := 8) rfl)) (wi_25 _ (List.mem_of_getElem? (i := 9) rfl)) (wi_2 _ (List.mem_of_getElem? (i := 8) rfl)) (wi_25 _ (List.mem_of_getElem? (i := 6) rfl))) rfl rfl rfl hd_X10_isMadeByRow ⟨Nat.le_of_ble_eq_true rfl, Nat.le_of_ble_eq_true rfl⟩) (rk_preV X hS hP h0 rfl rfl [.ref (B + v2), .int (1 : Int32), .int v3]) rfl rfl hl.1 rfl (lv_room (Nat.le_of_ble_eq_true rfl)) dX10_seek_54 ⟨Nat.zero_le _, Nat.zero_le _⟩) hS (fun _ h => h) (fun r1 s1 H locs h hP hS => ?_)
        refine lv_if_eq (tgt := 70) hx hb dX10_seek_57 (by decide) (fun c3 => ?_) (fun c3 => ?_)
        · have h := h.1 (b2i_f c3)
          obtain ⟨x2, ex2⟩ : ∃ y : Int32, y = v3 + (1 : Int32) := ⟨_, rfl⟩
          have h := h x2 ex2
          refine lv_iinc (v := x2) (lv' := [(3, .int x2), (0, .ref (B + v0)), (2, .ref (B + v2))]) hx hb dX10_seek_70 hl (k := 2) rfl (by rw [ex2]; rfl) (by decide) rfl (fun ls hl => ?_)
          refine lv_goto (tgt := 34) hx hb dX10_seek_73 (by decide) ?_
          exact ih _ _ _ _ h0 h2 h _ _ _ hP hS (lv_sub hl [1, 2, 0] rfl)
        · have h := h.2 (b2i_t c3)
          refine lv_aload_n hx hb dX10_seek_60 rfl (lv_at hl 0 rfl) ?_
          refine rk_get X hP (C := RX10) (T := TX10) (N := 14) (ci := 10) wix_10 h0 rfl rfl 2 (by decide) (wi_20 _ (List.mem_of_getElem? (i := 11) rfl)) rfl rfl dX10_seek_61 ?_
          obtain ⟨p2, ep2⟩ : ∃ z : Nat, z = (s1.1 v0 2).toNatClampNeg := ⟨_, rfl⟩
          rw [← ep2]
          obtain ⟨kp2, h⟩ := h p2 ep2
          refine rk_get X hP (C := RX9) (T := TX9) (N := 10) (ci := 9) wix_9 kp2 rfl rfl 0 (by decide) (wi_23 _ (List.mem_of_getElem? (i := 8) rfl)) rfl rfl dX10_seek_64 ?_
          refine lv_iload_n hx hb dX10_seek_67 rfl (lv_at hl 2 rfl) ?_
          refine lv_iadd hx hb dX10_seek_68 ?_
          exact rk_iret X rfl kX_len h hP hS dX10_seek_69
set_option maxRecDepth 100000 in
set_option maxHeartbeats 4000000 in
theorem mX10_seek (l : Launch) (D : va_G) (cy : Nat → ClassId) (B : Nat) (v0 : Nat) (v1 : Int32) (σ : St) (h0 : kX[v0]? = some 10) {post : Int32 → St → Prop} (h : wX10_seek v0 v1 σ post) : Met l yX10_seek (Cond.code yX10_seek cX10_seek 4 (some .int) :: WALL) (rmD 6) (PcW D cy B kX σ [.ref (B + v0), .int v1]) (va_Qi post (BW D cy B kX) (AW B 346)) 0 0 (AW B 346) := by
  refine Met.ofK (cc := cX10_seek) (maxL := 4) (ret := (some .int)) (by decide +kernel) rfl kX_len ?_
  intro p e s m below meth c X hP
  obtain ⟨⟨hx, hb, hml, hown, hts⟩, hr, hlk, hK, hN, hZ⟩ := id X
  have hD : ∀ σ, va_D (AW B 346) (wW cy B kX σ) := AW_D kX_len
  have hS : va_S (AW B 346) s.heap s.heap [] := va_S.rf
  have hl := lv_entry ([.ref (B + v0), .int v1]) (n := 4) (Nat.le_of_ble_eq_true rfl)
  rw [lg_entry_eq]
  generalize (lg_sl ([.ref (B + v0), .int v1]) ++ List.replicate (4 - (lg_sl ([.ref (B + v0), .int v1])).length) Slot.unset).toArray = ls at hl ⊢
  have hl : lv_has ls 4 [(0, .ref (B + v0)), (1, .int v1)] := hl
  unfold wX10_seek at h
  refine lv_aload_n hx hb dX10_seek_0 rfl (lv_at hl 0 rfl) ?_
  refine lv_iload_n hx hb dX10_seek_1 rfl (lv_at hl 1 rfl) ?_
  refine rk_callz (va_runV (As := [.int v1]) (rest := []) X.1 (mX10_isTable l D cy B v0 v1 σ h0 h) (cwV 1 hts (gW_V (wi_23 _ (List.mem_of_getElem? (i := 0) rfl)) (wi_23 _ (List.mem_of_getElem? (i := 1) rfl)) (wi_23 _ (List.mem_of_getElem? (i := 2) rfl)) (wi_2 _ (List.mem_of_getElem? (i := 8) rfl)) (wi_22 _ (List.mem_of_getElem? (i := 14) rfl))) rfl rfl rfl hd_X10_isTable ⟨Nat.le_of_ble_eq_true rfl, Nat.le_of_ble_eq_true rfl⟩) (rk_preV X hS hP h0 rfl rfl [.int v1]) rfl rfl hl.1 rfl (lv_room (Nat.le_of_ble_eq_true rfl)) dX10_seek_2 ⟨Nat.zero_le _, Nat.zero_le _⟩) hS (fun _ h => h) (fun r1 s1 H locs h hP hS => ?_)
  refine lv_if_ne (tgt := 10) hx hb dX10_seek_5 (by decide) (fun c1 => ?_) (fun c1 => ?_)
  · have h := h.1 (b2i_t c1)
    refine lv_aload_n hx hb dX10_seek_10 rfl (lv_at hl 0 rfl) ?_
    refine rk_get X hP (C := RX10) (T := TX10) (N := 14) (ci := 10) wix_10 h0 rfl rfl 2 (by decide) (wi_20 _ (List.mem_of_getElem? (i := 11) rfl)) rfl rfl dX10_seek_11 ?_
    obtain ⟨p1, ep1⟩ : ∃ z : Nat, z = (s1.1 v0 2).toNatClampNeg := ⟨_, rfl⟩
    rw [← ep1]
    obtain ⟨kp1, h⟩ := h p1 ep1
    refine rk_get X hP (C := RX9) (T := TX9) (N := 10) (ci := 9) wix_9 kp1 rfl rfl 2 (by decide) (wi_22 _ (List.mem_of_getElem? (i := 23) rfl)) rfl rfl dX10_seek_14 ?_
    refine lv_iload_n hx hb dX10_seek_17 rfl (lv_at hl 1 rfl) ?_
    obtain ⟨b1, h⟩ := h
    refine rk_aald X hP (C := RX7) (n := 8) (t0 := 6) (d := 20) (r := 2) (klX_X9_2 kp1) (fun _ _ => rfl) rfl b1 dX10_seek_18 ?_
    refine lv_astore_n (lv' := [(2, .ref (B + ((p1 + 1) + 20 + 2 * v1.toNatClampNeg))), (0, .ref (B + v0)), (1, .int v1)]) hx hb dX10_seek_19 rfl hl (by decide) rfl (fun ls hl => ?_)
    refine lv_aload_n hx hb dX10_seek_20 rfl (lv_at hl 1 rfl) ?_
    refine lv_aload_n hx hb dX10_seek_21 rfl (lv_at hl 0 rfl) ?_
    refine lv_iconst (v := (0 : Int32)) hx hb dX10_seek_22 (by decide) ?_
    refine lv_iconst (v := (1 : Int32)) hx hb dX10_seek_23 (by decide) ?_
    refine rk_callz (va_runV (As := [.ref (B + ((p1 + 1) + 20 + 2 * v1.toNatClampNeg)), .int (0 : Int32), .int (1 : Int32)]) (rest := []) X.1 (mX10_isMadeByRow l D cy B v0 ((p1 + 1) + 20 + 2 * v1.toNatClampNeg) (0 : Int32) (1 : Int32) s1 h0 (klX_12 (klX_X9_2 kp1) (vp_lt b1)) h) (cwV 3 hts (gW_V (wi_25 _ (List.mem_of_getElem? (i := 7) rfl)) (wi_25 _ (List.mem_of_getElem? (i := 8) rfl)) (wi_25 _ (List.mem_of_getElem? (i := 9) rfl)) (wi_2 _ (List.mem_of_getElem? (i := 8) rfl)) (wi_25 _ (List.mem_of_getElem? (i := 6) rfl))) rfl rfl rfl hd_X10_isMadeByRow ⟨Nat.le_of_ble_eq_true rfl, Nat.le_of_ble_eq_true rfl⟩) (rk_preV X hS hP h0 rfl rfl [.ref (B + ((p1 + 1) + 20 + 2 * v1.toNatClampNeg)), .int (0 : Int32), .int (1 : Int32)]) rfl rfl hl.1 rfl (lv_room (Nat.le_of_ble_eq_true rfl)) dX10_seek_24 ⟨Nat.zero_le _, Nat.zero_le _⟩) hS (fun _ h => h) (fun r2 s2 H locs h hP hS => ?_)
    refine lv_if_eq (tgt := 32) hx hb dX10_seek_27 (by decide) (fun c2 => ?_) (fun c2 => ?_)
    · have h := h.1 (b2i_f c2)
      refine lv_iconst (v := (0 : Int32)) hx hb dX10_seek_32 (by decide) ?_
      refine lv_istore_n (lv' := [(3, .int (0 : Int32)), (2, .ref (B + ((p1 + 1) + 20 + 2 * v1.toNatClampNeg))), (0, .ref (B + v0)), (1, .int v1)]) hx hb dX10_seek_33 rfl hl (by decide) rfl (fun ls hl => ?_)
      obtain ⟨j, h⟩ := h
      exact tX10_seek_34 X j _ _ _ _ h0 (klX_12 (klX_X9_2 kp1) (vp_lt b1)) h _ _ _ hP hS (lv_sub hl [2, 1, 0] rfl)
    · have h := h.2 (b2i_t c2)
      refine lv_iconst (v := (1 : Int32)) hx hb dX10_seek_30 (by decide) ?_
      exact rk_iret X rfl kX_len h hP hS dX10_seek_31
  · have h := h.2 (b2i_f c1)
    refine lv_iconst (v := (-1 : Int32)) hx hb dX10_seek_8 (by decide) ?_
    exact rk_iret X rfl kX_len h hP hS dX10_seek_9

theorem hd_X10_node : yX10_node.cls = RX10 ∧ yX10_node.cls ≠ "java/lang/invoke/MethodHandle" ∧ yX10_node.cls ≠ "java/lang/invoke/VarHandle" ∧ (parseMethodDescriptor yX10_node.desc).map (fun d => d.parameters.length) = some 2 := by decide +kernel
set_option maxRecDepth 100000 in
set_option maxHeartbeats 4000000 in
theorem mX10_node (l : Launch) (D : va_G) (cy : Nat → ClassId) (B : Nat) (v0 : Nat) (v1 : Int32) (v2 : Int32) (σ : St) (h0 : kX[v0]? = some 10) {post : Int32 → St → Prop} (h : wX10_node v0 v1 v2 σ post) : Met l yX10_node (Cond.code yX10_node cX10_node 3 (some .int) :: WALL) (rmD 3) (PcW D cy B kX σ [.ref (B + v0), .int v1, .int v2]) (va_Qi post (BW D cy B kX) (AW B 346)) 0 0 (AW B 346) := by
  refine Met.ofK (cc := cX10_node) (maxL := 3) (ret := (some .int)) (by decide +kernel) rfl kX_len ?_
  intro p e s m below meth c X hP
  obtain ⟨⟨hx, hb, hml, hown, hts⟩, hr, hlk, hK, hN, hZ⟩ := id X
  have hD : ∀ σ, va_D (AW B 346) (wW cy B kX σ) := AW_D kX_len
  have hS : va_S (AW B 346) s.heap s.heap [] := va_S.rf
  have hl := lv_entry ([.ref (B + v0), .int v1, .int v2]) (n := 3) (Nat.le_of_ble_eq_true rfl)
  rw [lg_entry_eq]
  generalize (lg_sl ([.ref (B + v0), .int v1, .int v2]) ++ List.replicate (3 - (lg_sl ([.ref (B + v0), .int v1, .int v2])).length) Slot.unset).toArray = ls at hl ⊢
  have hl : lv_has ls 3 [(0, .ref (B + v0)), (1, .int v1), (2, .int v2)] := hl
  unfold wX10_node at h
  refine lv_aload_n hx hb dX10_node_0 rfl (lv_at hl 0 rfl) ?_
  refine rk_get X hP (C := RX10) (T := TX10) (N := 14) (ci := 10) wix_10 h0 rfl rfl 4 (by decide) (wi_20 _ (List.mem_of_getElem? (i := 14) rfl)) rfl rfl dX10_node_1 ?_
  refine lv_iload_n hx hb dX10_node_4 rfl (lv_at hl 1 rfl) ?_
  refine rk_callz (va_runV (As := [.int v1]) (rest := []) X.1 (mX4_hasNode l D cy B (v0 + 86) v1 σ (klX_X10_4 h0) h) (cwV 1 hts (gW_V (wi_25 _ (List.mem_of_getElem? (i := 13) rfl)) (wi_5 _ (List.mem_of_getElem? (i := 2) rfl)) (wi_5 _ (List.mem_of_getElem? (i := 3) rfl)) (wi_0 _ (List.mem_of_getElem? (i := 23) rfl)) (wi_4 _ (List.mem_of_getElem? (i := 22) rfl))) rfl rfl rfl hd_X4_hasNode ⟨Nat.le_of_ble_eq_true rfl, Nat.le_of_ble_eq_true rfl⟩) (rk_preV X hS hP (klX_X10_4 h0) rfl rfl [.int v1]) rfl rfl hl.1 rfl (lv_room (Nat.le_of_ble_eq_true rfl)) dX10_node_5 ⟨Nat.zero_le _, Nat.zero_le _⟩) hS (fun _ h => h) (fun r1 s1 H locs h hP hS => ?_)
  refine lv_if_ne (tgt := 14) hx hb dX10_node_8 (by decide) (fun c1 => ?_) (fun c1 => ?_)
  · have h := h.1 (b2i_t c1)
    refine lv_aload_n hx hb dX10_node_14 rfl (lv_at hl 0 rfl) ?_
    refine rk_get X hP (C := RX10) (T := TX10) (N := 14) (ci := 10) wix_10 h0 rfl rfl 4 (by decide) (wi_20 _ (List.mem_of_getElem? (i := 14) rfl)) rfl rfl dX10_node_15 ?_
    refine rk_get X hP (C := RX4) (T := TX4) (N := 4) (ci := 4) wix_4 (klX_X10_4 h0) rfl rfl 2 (by decide) (wi_25 _ (List.mem_of_getElem? (i := 12) rfl)) rfl rfl dX10_node_18 ?_
    refine lv_iload_n hx hb dX10_node_21 rfl (lv_at hl 1 rfl) ?_
    obtain ⟨b1, h⟩ := h
    refine rk_aald X hP (C := RX7) (n := 6) (t0 := 6) (d := 2) (r := 2) (klX_X4_2 (klX_X10_4 h0)) (fun _ _ => rfl) rfl b1 dX10_node_22 ?_
    refine lv_iload_n hx hb dX10_node_23 rfl (lv_at hl 2 rfl) ?_
    refine rk_calli (va_runS (As := [.ref (B + (((v0 + 86) + 1) + 2 + 2 * v1.toNatClampNeg)), .int v2]) (rest := []) X.1 (mX10_valueOrLegs l D cy B (((v0 + 86) + 1) + 2 + 2 * v1.toNatClampNeg) v2 s1 (klX_14 (klX_X4_2 (klX_X10_4 h0)) (vp_lt b1)) h) (va_cwS 2 hts (gW_S (wi_23 _ (List.mem_of_getElem? (i := 3) rfl)) (wi_23 _ (List.mem_of_getElem? (i := 4) rfl)) (wi_2 _ (List.mem_of_getElem? (i := 8) rfl)) (wi_22 _ (List.mem_of_getElem? (i := 16) rfl))) rfl rfl rfl hd_X10_valueOrLegs ⟨Nat.le_of_ble_eq_true rfl, Nat.le_of_ble_eq_true rfl⟩) (rk_preS X hS hP [.ref (B + (((v0 + 86) + 1) + 2 + 2 * v1.toNatClampNeg)), .int v2]) rfl rfl hl.1 rfl (lv_room (Nat.le_of_ble_eq_true rfl)) dX10_node_24 ⟨Nat.zero_le _, Nat.zero_le _⟩) hS (fun _ h => h) (fun r2 s2 H locs h hP hS => ?_)
    exact rk_iret X rfl kX_len h hP hS dX10_node_27
  · have h := h.2 (b2i_f c1)
    refine lv_bipush (v := (-2 : Int32)) hx hb dX10_node_11 (by decide) ?_
    exact rk_iret X rfl kX_len h hP hS dX10_node_13

theorem hd_X10_open : yX10_open.cls = RX10 ∧ yX10_open.cls ≠ "java/lang/invoke/MethodHandle" ∧ yX10_open.cls ≠ "java/lang/invoke/VarHandle" ∧ (parseMethodDescriptor yX10_open.desc).map (fun d => d.parameters.length) = some 1 := by decide +kernel
set_option maxRecDepth 100000 in
set_option maxHeartbeats 4000000 in
theorem mX10_open (l : Launch) (D : va_G) (cy : Nat → ClassId) (B : Nat) (v0 : Nat) (v1 : Int32) (σ : St) (h0 : kX[v0]? = some 10) {post : Int32 → St → Prop} (h : wX10_open v0 v1 σ post) : Met l yX10_open (Cond.code yX10_open cX10_open 3 (some .int) :: WALL) (rmD 4) (PcW D cy B kX σ [.ref (B + v0), .int v1]) (va_Qi post (BW D cy B kX) (AW B 346)) 0 0 (AW B 346) := by
  refine Met.ofK (cc := cX10_open) (maxL := 3) (ret := (some .int)) (by decide +kernel) rfl kX_len ?_
  intro p e s m below meth c X hP
  obtain ⟨⟨hx, hb, hml, hown, hts⟩, hr, hlk, hK, hN, hZ⟩ := id X
  have hD : ∀ σ, va_D (AW B 346) (wW cy B kX σ) := AW_D kX_len
  have hS : va_S (AW B 346) s.heap s.heap [] := va_S.rf
  have hl := lv_entry ([.ref (B + v0), .int v1]) (n := 3) (Nat.le_of_ble_eq_true rfl)
  rw [lg_entry_eq]
  generalize (lg_sl ([.ref (B + v0), .int v1]) ++ List.replicate (3 - (lg_sl ([.ref (B + v0), .int v1])).length) Slot.unset).toArray = ls at hl ⊢
  have hl : lv_has ls 3 [(0, .ref (B + v0)), (1, .int v1)] := hl
  unfold wX10_open at h
  refine lv_iload_n hx hb dX10_open_0 rfl (lv_at hl 1 rfl) ?_
  refine lv_iconst (v := (-1 : Int32)) hx hb dX10_open_1 (by decide) ?_
  refine lv_icmp_ne (tgt := 13) hx hb dX10_open_2 (by decide) (fun c1 => ?_) (fun c1 => ?_)
  · have h := h.1 c1
    refine lv_aload_n hx hb dX10_open_13 rfl (lv_at hl 0 rfl) ?_
    refine rk_get X hP (C := RX10) (T := TX10) (N := 14) (ci := 10) wix_10 h0 rfl rfl 4 (by decide) (wi_20 _ (List.mem_of_getElem? (i := 14) rfl)) rfl rfl dX10_open_14 ?_
    refine lv_iload_n hx hb dX10_open_17 rfl (lv_at hl 1 rfl) ?_
    refine rk_calli (va_runV (As := [.int v1]) (rest := []) X.1 (mX4_openLeg l D cy B (v0 + 86) v1 σ (klX_X10_4 h0) h) (cwV 1 hts (gW_V (wi_25 _ (List.mem_of_getElem? (i := 22) rfl)) (wi_25 _ (List.mem_of_getElem? (i := 23) rfl)) (wi_26 _ (List.mem_of_getElem? (i := 0) rfl)) (wi_0 _ (List.mem_of_getElem? (i := 23) rfl)) (wi_5 _ (List.mem_of_getElem? (i := 15) rfl))) rfl rfl rfl hd_X4_openLeg ⟨Nat.le_of_ble_eq_true rfl, Nat.le_of_ble_eq_true rfl⟩) (rk_preV X hS hP (klX_X10_4 h0) rfl rfl [.int v1]) rfl rfl hl.1 rfl (lv_room (Nat.le_of_ble_eq_true rfl)) dX10_open_18 ⟨Nat.zero_le _, Nat.zero_le _⟩) hS (fun _ h => h) (fun r1 s1 H locs h hP hS => ?_)
    refine lv_istore_n (lv' := [(2, .int r1), (0, .ref (B + v0)), (1, .int v1)]) hx hb dX10_open_21 rfl hl (by decide) rfl (fun ls hl => ?_)
    refine lv_iload_n hx hb dX10_open_22 rfl (lv_at hl 0 rfl) ?_
    refine lv_iconst (v := (-1 : Int32)) hx hb dX10_open_23 (by decide) ?_
    refine lv_icmp_ne (tgt := 32) hx hb dX10_open_24 (by decide) (fun c2 => ?_) (fun c2 => ?_)
    · have h := h.1 c2
      refine lv_bipush (v := (10 : Int32)) hx hb dX10_open_32 (by decide) ?_
      refine lv_iload_n hx hb dX10_open_34 rfl (lv_at hl 0 rfl) ?_
      refine lv_iconst (v := (4 : Int32)) hx hb dX10_open_35 (by decide) ?_
      refine lv_idiv hx hb dX10_open_36 (by decide) ?_
      refine lv_imul hx hb dX10_open_37 ?_
      refine lv_iload_n hx hb dX10_open_38 rfl (lv_at hl 0 rfl) ?_
      refine lv_iconst (v := (4 : Int32)) hx hb dX10_open_39 (by decide) ?_
      refine lv_irem hx hb dX10_open_40 (by decide) ?_
      refine lv_iadd hx hb dX10_open_41 ?_
      exact rk_iret X rfl kX_len h hP hS dX10_open_42
    · have h := h.2 c2
      refine lv_bipush (v := (-2 : Int32)) hx hb dX10_open_27 (by decide) ?_
      refine lv_goto (tgt := 42) hx hb dX10_open_29 (by decide) ?_
      exact rk_iret X rfl kX_len h hP hS dX10_open_42
  · have h := h.2 c1
    refine lv_aload_n hx hb dX10_open_5 rfl (lv_at hl 0 rfl) ?_
    refine rk_get X hP (C := RX10) (T := TX10) (N := 14) (ci := 10) wix_10 h0 rfl rfl 4 (by decide) (wi_20 _ (List.mem_of_getElem? (i := 14) rfl)) rfl rfl dX10_open_6 ?_
    refine rk_calli (va_runV (As := []) (rest := []) X.1 (mX4_openCount l D cy B (v0 + 86) σ (klX_X10_4 h0) h) (cwV 0 hts (gW_V (wi_25 _ (List.mem_of_getElem? (i := 19) rfl)) (wi_25 _ (List.mem_of_getElem? (i := 20) rfl)) (wi_25 _ (List.mem_of_getElem? (i := 21) rfl)) (wi_0 _ (List.mem_of_getElem? (i := 23) rfl)) (wi_5 _ (List.mem_of_getElem? (i := 7) rfl))) rfl rfl rfl hd_X4_openCount ⟨Nat.le_of_ble_eq_true rfl, Nat.le_of_ble_eq_true rfl⟩) (rk_preV X hS hP (klX_X10_4 h0) rfl rfl []) rfl rfl hl.1 rfl (lv_room (Nat.le_of_ble_eq_true rfl)) dX10_open_9 ⟨Nat.zero_le _, Nat.zero_le _⟩) hS (fun _ h => h) (fun r2 s2 H locs h hP hS => ?_)
    exact rk_iret X rfl kX_len h hP hS dX10_open_12

theorem hd_X10_isOpenIndex : yX10_isOpenIndex.cls = RX10 ∧ yX10_isOpenIndex.cls ≠ "java/lang/invoke/MethodHandle" ∧ yX10_isOpenIndex.cls ≠ "java/lang/invoke/VarHandle" ∧ (parseMethodDescriptor yX10_isOpenIndex.desc).map (fun d => d.parameters.length) = some 1 := by decide +kernel
set_option maxRecDepth 100000 in
set_option maxHeartbeats 4000000 in
theorem mX10_isOpenIndex (l : Launch) (D : va_G) (cy : Nat → ClassId) (B : Nat) (v0 : Nat) (v1 : Int32) (σ : St) (h0 : kX[v0]? = some 10) {post : Bool → St → Prop} (h : wX10_isOpenIndex v0 v1 σ post) : Met l yX10_isOpenIndex (Cond.code yX10_isOpenIndex cX10_isOpenIndex 2 (some .boolean) :: WALL) (rmD 1) (PcW D cy B kX σ [.ref (B + v0), .int v1]) (Qz post D cy B kX 346) 0 0 (AW B 346) := by
  refine Met.ofK (cc := cX10_isOpenIndex) (maxL := 2) (ret := (some .boolean)) (by decide +kernel) rfl kX_len ?_
  intro p e s m below meth c X hP
  obtain ⟨⟨hx, hb, hml, hown, hts⟩, hr, hlk, hK, hN, hZ⟩ := id X
  have hD : ∀ σ, va_D (AW B 346) (wW cy B kX σ) := AW_D kX_len
  have hS : va_S (AW B 346) s.heap s.heap [] := va_S.rf
  have hl := lv_entry ([.ref (B + v0), .int v1]) (n := 2) (Nat.le_of_ble_eq_true rfl)
  rw [lg_entry_eq]
  generalize (lg_sl ([.ref (B + v0), .int v1]) ++ List.replicate (2 - (lg_sl ([.ref (B + v0), .int v1])).length) Slot.unset).toArray = ls at hl ⊢
  have hl : lv_has ls 2 [(0, .ref (B + v0)), (1, .int v1)] := hl
  unfold wX10_isOpenIndex at h
  refine lv_iload_n hx hb dX10_isOpenIndex_0 rfl (lv_at hl 1 rfl) ?_
  refine lv_if_lt (tgt := 21) hx hb dX10_isOpenIndex_1 (by decide) (fun c1 => ?_) (fun c1 => ?_)
  · have h := h.1 c1
    refine lv_iconst (v := (0 : Int32)) hx hb dX10_isOpenIndex_21 (by decide) ?_
    exact rk_zret X kX_len false h hP hS dX10_isOpenIndex_22
  · have h := h.2 c1
    refine lv_iload_n hx hb dX10_isOpenIndex_4 rfl (lv_at hl 1 rfl) ?_
    refine lv_iconst (v := (1 : Int32)) hx hb dX10_isOpenIndex_5 (by decide) ?_
    refine lv_aload_n hx hb dX10_isOpenIndex_6 rfl (lv_at hl 0 rfl) ?_
    refine rk_get X hP (C := RX10) (T := TX10) (N := 14) (ci := 10) wix_10 h0 rfl rfl 4 (by decide) (wi_20 _ (List.mem_of_getElem? (i := 14) rfl)) rfl rfl dX10_isOpenIndex_7 ?_
    refine rk_calli (va_runV (As := []) (rest := [.int (1 : Int32), .int v1]) X.1 (mX4_openCount l D cy B (v0 + 86) σ (klX_X10_4 h0) h) (cwV 0 hts (gW_V (wi_25 _ (List.mem_of_getElem? (i := 19) rfl)) (wi_25 _ (List.mem_of_getElem? (i := 20) rfl)) (wi_25 _ (List.mem_of_getElem? (i := 21) rfl)) (wi_0 _ (List.mem_of_getElem? (i := 23) rfl)) (wi_5 _ (List.mem_of_getElem? (i := 7) rfl))) rfl rfl rfl hd_X4_openCount ⟨Nat.le_of_ble_eq_true rfl, Nat.le_of_ble_eq_true rfl⟩) (rk_preV X hS hP (klX_X10_4 h0) rfl rfl []) rfl rfl hl.1 rfl (lv_room (Nat.le_of_ble_eq_true rfl)) dX10_isOpenIndex_10 ⟨Nat.zero_le _, Nat.zero_le _⟩) hS (fun _ h => h) (fun r1 s1 H locs h hP hS => ?_)
    refine lv_ishl hx hb dX10_isOpenIndex_13 ?_
    refine lv_icmp_ge (tgt := 21) hx hb dX10_isOpenIndex_14 (by decide) (fun c2 => ?_) (fun c2 => ?_)
    · have h := h.1 c2
      refine lv_iconst (v := (0 : Int32)) hx hb dX10_isOpenIndex_21 (by decide) ?_
      exact rk_zret X kX_len false h hP hS dX10_isOpenIndex_22
    · have h := h.2 c2
      refine lv_iconst (v := (1 : Int32)) hx hb dX10_isOpenIndex_17 (by decide) ?_
      refine lv_goto (tgt := 22) hx hb dX10_isOpenIndex_18 (by decide) ?_
      exact rk_zret X kX_len true h hP hS dX10_isOpenIndex_22

theorem hd_X10_sum : yX10_sum.cls = RX10 ∧ yX10_sum.cls ≠ "java/lang/invoke/MethodHandle" ∧ yX10_sum.cls ≠ "java/lang/invoke/VarHandle" ∧ (parseMethodDescriptor yX10_sum.desc).map (fun d => d.parameters.length) = some 1 := by decide +kernel
set_option maxRecDepth 100000 in
set_option maxHeartbeats 4000000 in
theorem mX10_sum (l : Launch) (D : va_G) (cy : Nat → ClassId) (B : Nat) (v0 : Nat) (v1 : Int32) (σ : St) (h0 : kX[v0]? = some 10) {post : Int32 → St → Prop} (h : wX10_sum v0 v1 σ post) : Met l yX10_sum (Cond.code yX10_sum cX10_sum 2 (some .int) :: WALL) (rmD 5) (PcW D cy B kX σ [.ref (B + v0), .int v1]) (va_Qi post (BW D cy B kX) (AW B 346)) 0 0 (AW B 346) := by
  refine Met.ofK (cc := cX10_sum) (maxL := 2) (ret := (some .int)) (by decide +kernel) rfl kX_len ?_
  intro p e s m below meth c X hP
  obtain ⟨⟨hx, hb, hml, hown, hts⟩, hr, hlk, hK, hN, hZ⟩ := id X
  have hD : ∀ σ, va_D (AW B 346) (wW cy B kX σ) := AW_D kX_len
  have hS : va_S (AW B 346) s.heap s.heap [] := va_S.rf
  have hl := lv_entry ([.ref (B + v0), .int v1]) (n := 2) (Nat.le_of_ble_eq_true rfl)
  rw [lg_entry_eq]
  generalize (lg_sl ([.ref (B + v0), .int v1]) ++ List.replicate (2 - (lg_sl ([.ref (B + v0), .int v1])).length) Slot.unset).toArray = ls at hl ⊢
  have hl : lv_has ls 2 [(0, .ref (B + v0)), (1, .int v1)] := hl
  unfold wX10_sum at h
  refine lv_aload_n hx hb dX10_sum_0 rfl (lv_at hl 0 rfl) ?_
  refine lv_iload_n hx hb dX10_sum_1 rfl (lv_at hl 1 rfl) ?_
  refine rk_callz (va_runV (As := [.int v1]) (rest := []) X.1 (mX10_isOpenIndex l D cy B v0 v1 σ h0 h) (cwV 1 hts (gW_V (wi_26 _ (List.mem_of_getElem? (i := 4) rfl)) (wi_26 _ (List.mem_of_getElem? (i := 5) rfl)) (wi_26 _ (List.mem_of_getElem? (i := 6) rfl)) (wi_2 _ (List.mem_of_getElem? (i := 8) rfl)) (wi_26 _ (List.mem_of_getElem? (i := 2) rfl))) rfl rfl rfl hd_X10_isOpenIndex ⟨Nat.le_of_ble_eq_true rfl, Nat.le_of_ble_eq_true rfl⟩) (rk_preV X hS hP h0 rfl rfl [.int v1]) rfl rfl hl.1 rfl (lv_room (Nat.le_of_ble_eq_true rfl)) dX10_sum_2 ⟨Nat.zero_le _, Nat.zero_le _⟩) hS (fun _ h => h) (fun r1 s1 H locs h hP hS => ?_)
  refine lv_if_ne (tgt := 10) hx hb dX10_sum_5 (by decide) (fun c1 => ?_) (fun c1 => ?_)
  · have h := h.1 (b2i_t c1)
    refine lv_aload_n hx hb dX10_sum_10 rfl (lv_at hl 0 rfl) ?_
    refine rk_get X hP (C := RX10) (T := TX10) (N := 14) (ci := 10) wix_10 h0 rfl rfl 9 (by decide) (wi_21 _ (List.mem_of_getElem? (i := 3) rfl)) rfl rfl dX10_sum_11 ?_
    refine lv_aload_n hx hb dX10_sum_14 rfl (lv_at hl 0 rfl) ?_
    refine rk_get X hP (C := RX10) (T := TX10) (N := 14) (ci := 10) wix_10 h0 rfl rfl 4 (by decide) (wi_20 _ (List.mem_of_getElem? (i := 14) rfl)) rfl rfl dX10_sum_15 ?_
    refine lv_iload_n hx hb dX10_sum_18 rfl (lv_at hl 1 rfl) ?_
    refine lv_aload_n hx hb dX10_sum_19 rfl (lv_at hl 0 rfl) ?_
    refine rk_get X hP (C := RX10) (T := TX10) (N := 14) (ci := 10) wix_10 h0 rfl rfl 2 (by decide) (wi_20 _ (List.mem_of_getElem? (i := 11) rfl)) rfl rfl dX10_sum_20 ?_
    obtain ⟨p1, ep1⟩ : ∃ z : Nat, z = (s1.1 v0 2).toNatClampNeg := ⟨_, rfl⟩
    rw [← ep1]
    obtain ⟨kp1, h⟩ := h p1 ep1
    refine rk_get X hP (C := RX9) (T := TX9) (N := 10) (ci := 9) wix_9 kp1 rfl rfl 0 (by decide) (wi_23 _ (List.mem_of_getElem? (i := 8) rfl)) rfl rfl dX10_sum_23 ?_
    refine rk_callv (va_runV (As := [.ref (B + (v0 + 86)), .int v1, .int (s1.1 p1 0)]) (rest := []) X.1 (mX8_goThrough l D cy B (v0 + 291) (v0 + 86) v1 (s1.1 p1 0) s1 (klX_X10_9 h0) (klX_X10_4 h0) h) (cwV 3 hts (gW_V (wi_26 _ (List.mem_of_getElem? (i := 7) rfl)) (wi_26 _ (List.mem_of_getElem? (i := 8) rfl)) (wi_26 _ (List.mem_of_getElem? (i := 9) rfl)) (wi_18 _ (List.mem_of_getElem? (i := 10) rfl)) (wi_19 _ (List.mem_of_getElem? (i := 8) rfl))) rfl rfl rfl hd_X8_goThrough ⟨Nat.le_of_ble_eq_true rfl, Nat.le_of_ble_eq_true rfl⟩) (rk_preV X hS hP (klX_X10_9 h0) rfl rfl [.ref (B + (v0 + 86)), .int v1, .int (s1.1 p1 0)]) rfl rfl hl.1 rfl (lv_room (Nat.le_of_ble_eq_true rfl)) dX10_sum_26 ⟨Nat.zero_le _, Nat.zero_le _⟩) hS (fun _ h => h) (fun s2 H locs h hP hS => ?_)
    refine lv_aload_n hx hb dX10_sum_29 rfl (lv_at hl 0 rfl) ?_
    refine rk_get X hP (C := RX10) (T := TX10) (N := 14) (ci := 10) wix_10 h0 rfl rfl 9 (by decide) (wi_21 _ (List.mem_of_getElem? (i := 3) rfl)) rfl rfl dX10_sum_30 ?_
    refine rk_get X hP (C := RX8) (T := TX8) (N := 6) (ci := 8) wix_8 (klX_X10_9 h0) rfl rfl 0 (by decide) (wi_26 _ (List.mem_of_getElem? (i := 3) rfl)) rfl rfl dX10_sum_33 ?_
    exact rk_iret X rfl kX_len h hP hS dX10_sum_36
  · have h := h.2 (b2i_f c1)
    refine lv_iconst (v := (-1 : Int32)) hx hb dX10_sum_8 (by decide) ?_
    exact rk_iret X rfl kX_len h hP hS dX10_sum_9

theorem hd_X10_total : yX10_total.cls = RX10 ∧ yX10_total.cls ≠ "java/lang/invoke/MethodHandle" ∧ yX10_total.cls ≠ "java/lang/invoke/VarHandle" ∧ (parseMethodDescriptor yX10_total.desc).map (fun d => d.parameters.length) = some 0 := by decide +kernel
set_option maxRecDepth 100000 in
set_option maxHeartbeats 4000000 in
theorem mX10_total (l : Launch) (D : va_G) (cy : Nat → ClassId) (B : Nat) (v0 : Nat) (σ : St) (h0 : kX[v0]? = some 10) {post : Int32 → St → Prop} (h : wX10_total v0 σ post) : Met l yX10_total (Cond.code yX10_total cX10_total 1 (some .int) :: WALL) (rmD 6) (PcW D cy B kX σ [.ref (B + v0)]) (va_Qi post (BW D cy B kX) (AW B 346)) 0 0 (AW B 346) := by
  refine Met.ofK (cc := cX10_total) (maxL := 1) (ret := (some .int)) (by decide +kernel) rfl kX_len ?_
  intro p e s m below meth c X hP
  obtain ⟨⟨hx, hb, hml, hown, hts⟩, hr, hlk, hK, hN, hZ⟩ := id X
  have hD : ∀ σ, va_D (AW B 346) (wW cy B kX σ) := AW_D kX_len
  have hS : va_S (AW B 346) s.heap s.heap [] := va_S.rf
  have hl := lv_entry ([.ref (B + v0)]) (n := 1) (Nat.le_of_ble_eq_true rfl)
  rw [lg_entry_eq]
  generalize (lg_sl ([.ref (B + v0)]) ++ List.replicate (1 - (lg_sl ([.ref (B + v0)])).length) Slot.unset).toArray = ls at hl ⊢
  have hl : lv_has ls 1 [(0, .ref (B + v0))] := hl
  unfold wX10_total at h
  refine lv_aload_n hx hb dX10_total_0 rfl (lv_at hl 0 rfl) ?_
  refine rk_get X hP (C := RX10) (T := TX10) (N := 14) (ci := 10) wix_10 h0 rfl rfl 9 (by decide) (wi_21 _ (List.mem_of_getElem? (i := 3) rfl)) rfl rfl dX10_total_1 ?_
  refine lv_aload_n hx hb dX10_total_4 rfl (lv_at hl 0 rfl) ?_
  refine rk_get X hP (C := RX10) (T := TX10) (N := 14) (ci := 10) wix_10 h0 rfl rfl 4 (by decide) (wi_20 _ (List.mem_of_getElem? (i := 14) rfl)) rfl rfl dX10_total_5 ?_
  refine lv_aload_n hx hb dX10_total_8 rfl (lv_at hl 0 rfl) ?_
  refine rk_get X hP (C := RX10) (T := TX10) (N := 14) (ci := 10) wix_10 h0 rfl rfl 2 (by decide) (wi_20 _ (List.mem_of_getElem? (i := 11) rfl)) rfl rfl dX10_total_9 ?_
  obtain ⟨p1, ep1⟩ : ∃ z : Nat, z = (σ.1 v0 2).toNatClampNeg := ⟨_, rfl⟩
  rw [← ep1]
  obtain ⟨kp1, h⟩ := h p1 ep1
  refine rk_get X hP (C := RX9) (T := TX9) (N := 10) (ci := 9) wix_9 kp1 rfl rfl 0 (by decide) (wi_23 _ (List.mem_of_getElem? (i := 8) rfl)) rfl rfl dX10_total_12 ?_
  refine rk_callv (va_runV (As := [.ref (B + (v0 + 86)), .int (σ.1 p1 0)]) (rest := []) X.1 (mX8_goThroughAll l D cy B (v0 + 291) (v0 + 86) (σ.1 p1 0) σ (klX_X10_9 h0) (klX_X10_4 h0) h) (cwV 2 hts (gW_V (wi_26 _ (List.mem_of_getElem? (i := 11) rfl)) (wi_26 _ (List.mem_of_getElem? (i := 12) rfl)) (wi_26 _ (List.mem_of_getElem? (i := 13) rfl)) (wi_18 _ (List.mem_of_getElem? (i := 10) rfl)) (wi_19 _ (List.mem_of_getElem? (i := 18) rfl))) rfl rfl rfl hd_X8_goThroughAll ⟨Nat.le_of_ble_eq_true rfl, Nat.le_of_ble_eq_true rfl⟩) (rk_preV X hS hP (klX_X10_9 h0) rfl rfl [.ref (B + (v0 + 86)), .int (σ.1 p1 0)]) rfl rfl hl.1 rfl (lv_room (Nat.le_of_ble_eq_true rfl)) dX10_total_15 ⟨Nat.zero_le _, Nat.zero_le _⟩) hS (fun _ h => h) (fun s1 H locs h hP hS => ?_)
  refine lv_aload_n hx hb dX10_total_18 rfl (lv_at hl 0 rfl) ?_
  refine rk_get X hP (C := RX10) (T := TX10) (N := 14) (ci := 10) wix_10 h0 rfl rfl 9 (by decide) (wi_21 _ (List.mem_of_getElem? (i := 3) rfl)) rfl rfl dX10_total_19 ?_
  refine rk_get X hP (C := RX8) (T := TX8) (N := 6) (ci := 8) wix_8 (klX_X10_9 h0) rfl rfl 0 (by decide) (wi_26 _ (List.mem_of_getElem? (i := 3) rfl)) rfl rfl dX10_total_22 ?_
  exact rk_iret X rfl kX_len h hP hS dX10_total_25

theorem hd_X10_ways : yX10_ways.cls = RX10 ∧ yX10_ways.cls ≠ "java/lang/invoke/MethodHandle" ∧ yX10_ways.cls ≠ "java/lang/invoke/VarHandle" ∧ (parseMethodDescriptor yX10_ways.desc).map (fun d => d.parameters.length) = some 1 := by decide +kernel
set_option maxRecDepth 100000 in
set_option maxHeartbeats 4000000 in
theorem mX10_ways (l : Launch) (D : va_G) (cy : Nat → ClassId) (B : Nat) (v0 : Nat) (v1 : Int32) (σ : St) (h0 : kX[v0]? = some 10) {post : Int32 → St → Prop} (h : wX10_ways v0 v1 σ post) : Met l yX10_ways (Cond.code yX10_ways cX10_ways 2 (some .int) :: WALL) (rmD 5) (PcW D cy B kX σ [.ref (B + v0), .int v1]) (va_Qi post (BW D cy B kX) (AW B 346)) 0 0 (AW B 346) := by
  refine Met.ofK (cc := cX10_ways) (maxL := 2) (ret := (some .int)) (by decide +kernel) rfl kX_len ?_
  intro p e s m below meth c X hP
  obtain ⟨⟨hx, hb, hml, hown, hts⟩, hr, hlk, hK, hN, hZ⟩ := id X
  have hD : ∀ σ, va_D (AW B 346) (wW cy B kX σ) := AW_D kX_len
  have hS : va_S (AW B 346) s.heap s.heap [] := va_S.rf
  have hl := lv_entry ([.ref (B + v0), .int v1]) (n := 2) (Nat.le_of_ble_eq_true rfl)
  rw [lg_entry_eq]
  generalize (lg_sl ([.ref (B + v0), .int v1]) ++ List.replicate (2 - (lg_sl ([.ref (B + v0), .int v1])).length) Slot.unset).toArray = ls at hl ⊢
  have hl : lv_has ls 2 [(0, .ref (B + v0)), (1, .int v1)] := hl
  unfold wX10_ways at h
  refine lv_aload_n hx hb dX10_ways_0 rfl (lv_at hl 0 rfl) ?_
  refine lv_iload_n hx hb dX10_ways_1 rfl (lv_at hl 1 rfl) ?_
  refine rk_callz (va_runV (As := [.int v1]) (rest := []) X.1 (mX10_isOpenIndex l D cy B v0 v1 σ h0 h) (cwV 1 hts (gW_V (wi_26 _ (List.mem_of_getElem? (i := 4) rfl)) (wi_26 _ (List.mem_of_getElem? (i := 5) rfl)) (wi_26 _ (List.mem_of_getElem? (i := 6) rfl)) (wi_2 _ (List.mem_of_getElem? (i := 8) rfl)) (wi_26 _ (List.mem_of_getElem? (i := 2) rfl))) rfl rfl rfl hd_X10_isOpenIndex ⟨Nat.le_of_ble_eq_true rfl, Nat.le_of_ble_eq_true rfl⟩) (rk_preV X hS hP h0 rfl rfl [.int v1]) rfl rfl hl.1 rfl (lv_room (Nat.le_of_ble_eq_true rfl)) dX10_ways_2 ⟨Nat.zero_le _, Nat.zero_le _⟩) hS (fun _ h => h) (fun r1 s1 H locs h hP hS => ?_)
  refine lv_if_ne (tgt := 10) hx hb dX10_ways_5 (by decide) (fun c1 => ?_) (fun c1 => ?_)
  · have h := h.1 (b2i_t c1)
    refine lv_aload_n hx hb dX10_ways_10 rfl (lv_at hl 0 rfl) ?_
    refine rk_get X hP (C := RX10) (T := TX10) (N := 14) (ci := 10) wix_10 h0 rfl rfl 9 (by decide) (wi_21 _ (List.mem_of_getElem? (i := 3) rfl)) rfl rfl dX10_ways_11 ?_
    refine lv_aload_n hx hb dX10_ways_14 rfl (lv_at hl 0 rfl) ?_
    refine rk_get X hP (C := RX10) (T := TX10) (N := 14) (ci := 10) wix_10 h0 rfl rfl 4 (by decide) (wi_20 _ (List.mem_of_getElem? (i := 14) rfl)) rfl rfl dX10_ways_15 ?_
    refine lv_iload_n hx hb dX10_ways_18 rfl (lv_at hl 1 rfl) ?_
    refine lv_aload_n hx hb dX10_ways_19 rfl (lv_at hl 0 rfl) ?_
    refine rk_get X hP (C := RX10) (T := TX10) (N := 14) (ci := 10) wix_10 h0 rfl rfl 2 (by decide) (wi_20 _ (List.mem_of_getElem? (i := 11) rfl)) rfl rfl dX10_ways_20 ?_
    obtain ⟨p1, ep1⟩ : ∃ z : Nat, z = (s1.1 v0 2).toNatClampNeg := ⟨_, rfl⟩
    rw [← ep1]
    obtain ⟨kp1, h⟩ := h p1 ep1
    refine rk_get X hP (C := RX9) (T := TX9) (N := 10) (ci := 9) wix_9 kp1 rfl rfl 0 (by decide) (wi_23 _ (List.mem_of_getElem? (i := 8) rfl)) rfl rfl dX10_ways_23 ?_
    refine rk_callv (va_runV (As := [.ref (B + (v0 + 86)), .int v1, .int (s1.1 p1 0)]) (rest := []) X.1 (mX8_goThrough l D cy B (v0 + 291) (v0 + 86) v1 (s1.1 p1 0) s1 (klX_X10_9 h0) (klX_X10_4 h0) h) (cwV 3 hts (gW_V (wi_26 _ (List.mem_of_getElem? (i := 7) rfl)) (wi_26 _ (List.mem_of_getElem? (i := 8) rfl)) (wi_26 _ (List.mem_of_getElem? (i := 9) rfl)) (wi_18 _ (List.mem_of_getElem? (i := 10) rfl)) (wi_19 _ (List.mem_of_getElem? (i := 8) rfl))) rfl rfl rfl hd_X8_goThrough ⟨Nat.le_of_ble_eq_true rfl, Nat.le_of_ble_eq_true rfl⟩) (rk_preV X hS hP (klX_X10_9 h0) rfl rfl [.ref (B + (v0 + 86)), .int v1, .int (s1.1 p1 0)]) rfl rfl hl.1 rfl (lv_room (Nat.le_of_ble_eq_true rfl)) dX10_ways_26 ⟨Nat.zero_le _, Nat.zero_le _⟩) hS (fun _ h => h) (fun s2 H locs h hP hS => ?_)
    refine lv_aload_n hx hb dX10_ways_29 rfl (lv_at hl 0 rfl) ?_
    refine rk_get X hP (C := RX10) (T := TX10) (N := 14) (ci := 10) wix_10 h0 rfl rfl 9 (by decide) (wi_21 _ (List.mem_of_getElem? (i := 3) rfl)) rfl rfl dX10_ways_30 ?_
    refine rk_get X hP (C := RX8) (T := TX8) (N := 6) (ci := 8) wix_8 (klX_X10_9 h0) rfl rfl 1 (by decide) (wi_26 _ (List.mem_of_getElem? (i := 15) rfl)) rfl rfl dX10_ways_33 ?_
    exact rk_iret X rfl kX_len h hP hS dX10_ways_36
  · have h := h.2 (b2i_f c1)
    refine lv_iconst (v := (-1 : Int32)) hx hb dX10_ways_8 (by decide) ?_
    exact rk_iret X rfl kX_len h hP hS dX10_ways_9

theorem hd_X10_within : yX10_within.cls = RX10 ∧ yX10_within.cls ≠ "java/lang/invoke/MethodHandle" ∧ yX10_within.cls ≠ "java/lang/invoke/VarHandle" ∧ (parseMethodDescriptor yX10_within.desc).map (fun d => d.parameters.length) = some 1 := by decide +kernel
set_option maxRecDepth 100000 in
set_option maxHeartbeats 4000000 in
theorem mX10_within (l : Launch) (D : va_G) (cy : Nat → ClassId) (B : Nat) (v0 : Nat) (v1 : Int32) (σ : St) (h0 : kX[v0]? = some 10) {post : Int32 → St → Prop} (h : wX10_within v0 v1 σ post) : Met l yX10_within (Cond.code yX10_within cX10_within 2 (some .int) :: WALL) (rmD 5) (PcW D cy B kX σ [.ref (B + v0), .int v1]) (va_Qi post (BW D cy B kX) (AW B 346)) 0 0 (AW B 346) := by
  refine Met.ofK (cc := cX10_within) (maxL := 2) (ret := (some .int)) (by decide +kernel) rfl kX_len ?_
  intro p e s m below meth c X hP
  obtain ⟨⟨hx, hb, hml, hown, hts⟩, hr, hlk, hK, hN, hZ⟩ := id X
  have hD : ∀ σ, va_D (AW B 346) (wW cy B kX σ) := AW_D kX_len
  have hS : va_S (AW B 346) s.heap s.heap [] := va_S.rf
  have hl := lv_entry ([.ref (B + v0), .int v1]) (n := 2) (Nat.le_of_ble_eq_true rfl)
  rw [lg_entry_eq]
  generalize (lg_sl ([.ref (B + v0), .int v1]) ++ List.replicate (2 - (lg_sl ([.ref (B + v0), .int v1])).length) Slot.unset).toArray = ls at hl ⊢
  have hl : lv_has ls 2 [(0, .ref (B + v0)), (1, .int v1)] := hl
  unfold wX10_within at h
  refine lv_iload_n hx hb dX10_within_0 rfl (lv_at hl 1 rfl) ?_
  refine lv_if_lt (tgt := 15) hx hb dX10_within_1 (by decide) (fun c1 => ?_) (fun c1 => ?_)
  · have h := h.1 c1
    refine lv_iconst (v := (-1 : Int32)) hx hb dX10_within_15 (by decide) ?_
    exact rk_iret X rfl kX_len h hP hS dX10_within_16
  · have h := h.2 c1
    refine lv_iload_n hx hb dX10_within_4 rfl (lv_at hl 1 rfl) ?_
    refine lv_aload_n hx hb dX10_within_5 rfl (lv_at hl 0 rfl) ?_
    refine rk_get X hP (C := RX10) (T := TX10) (N := 14) (ci := 10) wix_10 h0 rfl rfl 4 (by decide) (wi_20 _ (List.mem_of_getElem? (i := 14) rfl)) rfl rfl dX10_within_6 ?_
    refine rk_calli (va_runV (As := []) (rest := [.int v1]) X.1 (mX4_allNodes l D cy B (v0 + 86) σ (klX_X10_4 h0) h) (cwV 0 hts (gW_V (wi_26 _ (List.mem_of_getElem? (i := 17) rfl)) (wi_6 _ (List.mem_of_getElem? (i := 16) rfl)) (wi_6 _ (List.mem_of_getElem? (i := 17) rfl)) (wi_0 _ (List.mem_of_getElem? (i := 23) rfl)) (wi_5 _ (List.mem_of_getElem? (i := 6) rfl))) rfl rfl rfl hd_X4_allNodes ⟨Nat.le_of_ble_eq_true rfl, Nat.le_of_ble_eq_true rfl⟩) (rk_preV X hS hP (klX_X10_4 h0) rfl rfl []) rfl rfl hl.1 rfl (lv_room (Nat.le_of_ble_eq_true rfl)) dX10_within_9 ⟨Nat.zero_le _, Nat.zero_le _⟩) hS (fun _ h => h) (fun r1 s1 H locs h hP hS => ?_)
    refine lv_icmp_le (tgt := 17) hx hb dX10_within_12 (by decide) (fun c2 => ?_) (fun c2 => ?_)
    · have h := h.1 c2
      refine lv_aload_n hx hb dX10_within_17 rfl (lv_at hl 0 rfl) ?_
      refine rk_get X hP (C := RX10) (T := TX10) (N := 14) (ci := 10) wix_10 h0 rfl rfl 9 (by decide) (wi_21 _ (List.mem_of_getElem? (i := 3) rfl)) rfl rfl dX10_within_18 ?_
      refine lv_aload_n hx hb dX10_within_21 rfl (lv_at hl 0 rfl) ?_
      refine rk_get X hP (C := RX10) (T := TX10) (N := 14) (ci := 10) wix_10 h0 rfl rfl 4 (by decide) (wi_20 _ (List.mem_of_getElem? (i := 14) rfl)) rfl rfl dX10_within_22 ?_
      refine lv_iload_n hx hb dX10_within_25 rfl (lv_at hl 1 rfl) ?_
      refine lv_aload_n hx hb dX10_within_26 rfl (lv_at hl 0 rfl) ?_
      refine rk_get X hP (C := RX10) (T := TX10) (N := 14) (ci := 10) wix_10 h0 rfl rfl 2 (by decide) (wi_20 _ (List.mem_of_getElem? (i := 11) rfl)) rfl rfl dX10_within_27 ?_
      obtain ⟨p1, ep1⟩ : ∃ z : Nat, z = (s1.1 v0 2).toNatClampNeg := ⟨_, rfl⟩
      rw [← ep1]
      obtain ⟨kp1, h⟩ := h p1 ep1
      refine rk_get X hP (C := RX9) (T := TX9) (N := 10) (ci := 9) wix_9 kp1 rfl rfl 0 (by decide) (wi_23 _ (List.mem_of_getElem? (i := 8) rfl)) rfl rfl dX10_within_30 ?_
      refine rk_callv (va_runV (As := [.ref (B + (v0 + 86)), .int v1, .int (s1.1 p1 0)]) (rest := []) X.1 (mX8_goThroughSome l D cy B (v0 + 291) (v0 + 86) v1 (s1.1 p1 0) s1 (klX_X10_9 h0) (klX_X10_4 h0) h) (cwV 3 hts (gW_V (wi_26 _ (List.mem_of_getElem? (i := 18) rfl)) (wi_19 _ (List.mem_of_getElem? (i := 16) rfl)) (wi_19 _ (List.mem_of_getElem? (i := 17) rfl)) (wi_18 _ (List.mem_of_getElem? (i := 10) rfl)) (wi_19 _ (List.mem_of_getElem? (i := 9) rfl))) rfl rfl rfl hd_X8_goThroughSome ⟨Nat.le_of_ble_eq_true rfl, Nat.le_of_ble_eq_true rfl⟩) (rk_preV X hS hP (klX_X10_9 h0) rfl rfl [.ref (B + (v0 + 86)), .int v1, .int (s1.1 p1 0)]) rfl rfl hl.1 rfl (lv_room (Nat.le_of_ble_eq_true rfl)) dX10_within_33 ⟨Nat.zero_le _, Nat.zero_le _⟩) hS (fun _ h => h) (fun s2 H locs h hP hS => ?_)
      refine lv_aload_n hx hb dX10_within_36 rfl (lv_at hl 0 rfl) ?_
      refine rk_get X hP (C := RX10) (T := TX10) (N := 14) (ci := 10) wix_10 h0 rfl rfl 9 (by decide) (wi_21 _ (List.mem_of_getElem? (i := 3) rfl)) rfl rfl dX10_within_37 ?_
      refine rk_get X hP (C := RX8) (T := TX8) (N := 6) (ci := 8) wix_8 (klX_X10_9 h0) rfl rfl 0 (by decide) (wi_26 _ (List.mem_of_getElem? (i := 3) rfl)) rfl rfl dX10_within_40 ?_
      exact rk_iret X rfl kX_len h hP hS dX10_within_43
    · have h := h.2 c2
      refine lv_iconst (v := (-1 : Int32)) hx hb dX10_within_15 (by decide) ?_
      exact rk_iret X rfl kX_len h hP hS dX10_within_16

theorem hd_X10_width : yX10_width.cls = RX10 ∧ yX10_width.cls ≠ "java/lang/invoke/MethodHandle" ∧ yX10_width.cls ≠ "java/lang/invoke/VarHandle" ∧ (parseMethodDescriptor yX10_width.desc).map (fun d => d.parameters.length) = some 1 := by decide +kernel
set_option maxRecDepth 100000 in
set_option maxHeartbeats 4000000 in
theorem mX10_width (l : Launch) (D : va_G) (cy : Nat → ClassId) (B : Nat) (v0 : Nat) (v1 : Int32) (σ : St) (h0 : kX[v0]? = some 10) {post : Int32 → St → Prop} (h : wX10_width v0 v1 σ post) : Met l yX10_width (Cond.code yX10_width cX10_width 2 (some .int) :: WALL) (rmD 3) (PcW D cy B kX σ [.ref (B + v0), .int v1]) (va_Qi post (BW D cy B kX) (AW B 346)) 0 0 (AW B 346) := by
  refine Met.ofK (cc := cX10_width) (maxL := 2) (ret := (some .int)) (by decide +kernel) rfl kX_len ?_
  intro p e s m below meth c X hP
  obtain ⟨⟨hx, hb, hml, hown, hts⟩, hr, hlk, hK, hN, hZ⟩ := id X
  have hD : ∀ σ, va_D (AW B 346) (wW cy B kX σ) := AW_D kX_len
  have hS : va_S (AW B 346) s.heap s.heap [] := va_S.rf
  have hl := lv_entry ([.ref (B + v0), .int v1]) (n := 2) (Nat.le_of_ble_eq_true rfl)
  rw [lg_entry_eq]
  generalize (lg_sl ([.ref (B + v0), .int v1]) ++ List.replicate (2 - (lg_sl ([.ref (B + v0), .int v1])).length) Slot.unset).toArray = ls at hl ⊢
  have hl : lv_has ls 2 [(0, .ref (B + v0)), (1, .int v1)] := hl
  unfold wX10_width at h
  refine lv_iload_n hx hb dX10_width_0 rfl (lv_at hl 1 rfl) ?_
  refine lv_if_lt (tgt := 15) hx hb dX10_width_1 (by decide) (fun c1 => ?_) (fun c1 => ?_)
  · have h := h.1 c1
    refine lv_iconst (v := (-1 : Int32)) hx hb dX10_width_15 (by decide) ?_
    exact rk_iret X rfl kX_len h hP hS dX10_width_16
  · have h := h.2 c1
    refine lv_iload_n hx hb dX10_width_4 rfl (lv_at hl 1 rfl) ?_
    refine lv_aload_n hx hb dX10_width_5 rfl (lv_at hl 0 rfl) ?_
    refine rk_get X hP (C := RX10) (T := TX10) (N := 14) (ci := 10) wix_10 h0 rfl rfl 4 (by decide) (wi_20 _ (List.mem_of_getElem? (i := 14) rfl)) rfl rfl dX10_width_6 ?_
    refine rk_get X hP (C := RX4) (T := TX4) (N := 4) (ci := 4) wix_4 (klX_X10_4 h0) rfl rfl 0 (by decide) (wi_26 _ (List.mem_of_getElem? (i := 20) rfl)) rfl rfl dX10_width_9 ?_
    refine lv_icmp_le (tgt := 17) hx hb dX10_width_12 (by decide) (fun c2 => ?_) (fun c2 => ?_)
    · have h := h.1 c2
      refine lv_aload_n hx hb dX10_width_17 rfl (lv_at hl 0 rfl) ?_
      refine rk_get X hP (C := RX10) (T := TX10) (N := 14) (ci := 10) wix_10 h0 rfl rfl 10 (by decide) (wi_21 _ (List.mem_of_getElem? (i := 6) rfl)) rfl rfl dX10_width_18 ?_
      refine lv_aload_n hx hb dX10_width_21 rfl (lv_at hl 0 rfl) ?_
      refine rk_get X hP (C := RX10) (T := TX10) (N := 14) (ci := 10) wix_10 h0 rfl rfl 4 (by decide) (wi_20 _ (List.mem_of_getElem? (i := 14) rfl)) rfl rfl dX10_width_22 ?_
      refine rk_callv (va_runV (As := [.ref (B + (v0 + 86))]) (rest := []) X.1 (mX5_weigh l D cy B (v0 + 309) (v0 + 86) σ (klX_X10_10 h0) (klX_X10_4 h0) h) (cwV 1 hts (gW_V (wi_26 _ (List.mem_of_getElem? (i := 21) rfl)) (wi_26 _ (List.mem_of_getElem? (i := 22) rfl)) (wi_26 _ (List.mem_of_getElem? (i := 23) rfl)) (wi_6 _ (List.mem_of_getElem? (i := 23) rfl)) (wi_7 _ (List.mem_of_getElem? (i := 3) rfl))) rfl rfl rfl hd_X5_weigh ⟨Nat.le_of_ble_eq_true rfl, Nat.le_of_ble_eq_true rfl⟩) (rk_preV X hS hP (klX_X10_10 h0) rfl rfl [.ref (B + (v0 + 86))]) rfl rfl hl.1 rfl (lv_room (Nat.le_of_ble_eq_true rfl)) dX10_width_25 ⟨Nat.zero_le _, Nat.zero_le _⟩) hS (fun _ h => h) (fun s1 H locs h hP hS => ?_)
      refine lv_iload_n hx hb dX10_width_28 rfl (lv_at hl 1 rfl) ?_
      refine lv_if_ne (tgt := 42) hx hb dX10_width_29 (by decide) (fun c3 => ?_) (fun c3 => ?_)
      · have h := h.1 c3
        refine lv_aload_n hx hb dX10_width_42 rfl (lv_at hl 0 rfl) ?_
        refine rk_get X hP (C := RX10) (T := TX10) (N := 14) (ci := 10) wix_10 h0 rfl rfl 10 (by decide) (wi_21 _ (List.mem_of_getElem? (i := 6) rfl)) rfl rfl dX10_width_43 ?_
        refine lv_aload_n hx hb dX10_width_46 rfl (lv_at hl 0 rfl) ?_
        refine rk_get X hP (C := RX10) (T := TX10) (N := 14) (ci := 10) wix_10 h0 rfl rfl 4 (by decide) (wi_20 _ (List.mem_of_getElem? (i := 14) rfl)) rfl rfl dX10_width_47 ?_
        refine lv_iload_n hx hb dX10_width_50 rfl (lv_at hl 1 rfl) ?_
        refine lv_iconst (v := (1 : Int32)) hx hb dX10_width_51 (by decide) ?_
        refine lv_isub hx hb dX10_width_52 ?_
        refine rk_calli (va_runV (As := [.ref (B + (v0 + 86)), .int (v1 - (1 : Int32))]) (rest := []) X.1 (mX5_bestNode l D cy B (v0 + 309) (v0 + 86) (v1 - (1 : Int32)) s1 (klX_X10_10 h0) (klX_X10_4 h0) h) (cwV 2 hts (gW_V (wi_27 _ (List.mem_of_getElem? (i := 3) rfl)) (wi_27 _ (List.mem_of_getElem? (i := 4) rfl)) (wi_27 _ (List.mem_of_getElem? (i := 5) rfl)) (wi_6 _ (List.mem_of_getElem? (i := 23) rfl)) (wi_7 _ (List.mem_of_getElem? (i := 6) rfl))) rfl rfl rfl hd_X5_bestNode ⟨Nat.le_of_ble_eq_true rfl, Nat.le_of_ble_eq_true rfl⟩) (rk_preV X hS hP (klX_X10_10 h0) rfl rfl [.ref (B + (v0 + 86)), .int (v1 - (1 : Int32))]) rfl rfl hl.1 rfl (lv_room (Nat.le_of_ble_eq_true rfl)) dX10_width_53 ⟨Nat.zero_le _, Nat.zero_le _⟩) hS (fun _ h => h) (fun r1 s2 H locs h hP hS => ?_)
        exact rk_iret X rfl kX_len h hP hS dX10_width_56
      · have h := h.2 c3
        refine lv_aload_n hx hb dX10_width_32 rfl (lv_at hl 0 rfl) ?_
        refine rk_get X hP (C := RX10) (T := TX10) (N := 14) (ci := 10) wix_10 h0 rfl rfl 10 (by decide) (wi_21 _ (List.mem_of_getElem? (i := 6) rfl)) rfl rfl dX10_width_33 ?_
        refine rk_calli (va_runV (As := []) (rest := []) X.1 (mX5_leastWidth l D cy B (v0 + 309) s1 (klX_X10_10 h0) h) (cwV 0 hts (gW_V (wi_27 _ (List.mem_of_getElem? (i := 0) rfl)) (wi_27 _ (List.mem_of_getElem? (i := 1) rfl)) (wi_27 _ (List.mem_of_getElem? (i := 2) rfl)) (wi_6 _ (List.mem_of_getElem? (i := 23) rfl)) (wi_7 _ (List.mem_of_getElem? (i := 4) rfl))) rfl rfl rfl hd_X5_leastWidth ⟨Nat.le_of_ble_eq_true rfl, Nat.le_of_ble_eq_true rfl⟩) (rk_preV X hS hP (klX_X10_10 h0) rfl rfl []) rfl rfl hl.1 rfl (lv_room (Nat.le_of_ble_eq_true rfl)) dX10_width_36 ⟨Nat.zero_le _, Nat.zero_le _⟩) hS (fun _ h => h) (fun r2 s3 H locs h hP hS => ?_)
        refine lv_goto (tgt := 56) hx hb dX10_width_39 (by decide) ?_
        exact rk_iret X rfl kX_len h hP hS dX10_width_56
    · have h := h.2 c2
      refine lv_iconst (v := (-1 : Int32)) hx hb dX10_width_15 (by decide) ?_
      exact rk_iret X rfl kX_len h hP hS dX10_width_16

theorem hd_X10_changeLegOfNet : yX10_changeLegOfNet.cls = RX10 ∧ yX10_changeLegOfNet.cls ≠ "java/lang/invoke/MethodHandle" ∧ yX10_changeLegOfNet.cls ≠ "java/lang/invoke/VarHandle" ∧ (parseMethodDescriptor yX10_changeLegOfNet.desc).map (fun d => d.parameters.length) = some 2 := by decide +kernel
set_option maxRecDepth 100000 in
set_option maxHeartbeats 4000000 in
theorem mX10_changeLegOfNet (l : Launch) (D : va_G) (cy : Nat → ClassId) (B : Nat) (v0 : Nat) (v1 : Int32) (v2 : Nat) (σ : St) (h0 : kX[v0]? = some 10) (h2 : kX[v2]? = some 1) {post : St → Prop} (h : wX10_changeLegOfNet v0 v1 v2 σ post) : Met l yX10_changeLegOfNet (Cond.code yX10_changeLegOfNet cX10_changeLegOfNet 3 none :: WALL) (rmD 3) (PcW D cy B kX σ [.ref (B + v0), .int v1, .ref (B + v2)]) (va_Qv post (BW D cy B kX) (AW B 346)) 0 0 (AW B 346) := by
  refine Met.ofK (cc := cX10_changeLegOfNet) (maxL := 3) (ret := none) (by decide +kernel) rfl kX_len ?_
  intro p e s m below meth c X hP
  obtain ⟨⟨hx, hb, hml, hown, hts⟩, hr, hlk, hK, hN, hZ⟩ := id X
  have hD : ∀ σ, va_D (AW B 346) (wW cy B kX σ) := AW_D kX_len
  have hS : va_S (AW B 346) s.heap s.heap [] := va_S.rf
  have hl := lv_entry ([.ref (B + v0), .int v1, .ref (B + v2)]) (n := 3) (Nat.le_of_ble_eq_true rfl)
  rw [lg_entry_eq]
  generalize (lg_sl ([.ref (B + v0), .int v1, .ref (B + v2)]) ++ List.replicate (3 - (lg_sl ([.ref (B + v0), .int v1, .ref (B + v2)])).length) Slot.unset).toArray = ls at hl ⊢
  have hl : lv_has ls 3 [(0, .ref (B + v0)), (1, .int v1), (2, .ref (B + v2))] := hl
  unfold wX10_changeLegOfNet at h
  refine lv_aload_n hx hb dX10_changeLegOfNet_0 rfl (lv_at hl 0 rfl) ?_
  refine rk_get X hP (C := RX10) (T := TX10) (N := 14) (ci := 10) wix_10 h0 rfl rfl 4 (by decide) (wi_20 _ (List.mem_of_getElem? (i := 14) rfl)) rfl rfl dX10_changeLegOfNet_1 ?_
  refine rk_get X hP (C := RX4) (T := TX4) (N := 4) (ci := 4) wix_4 (klX_X10_4 h0) rfl rfl 2 (by decide) (wi_25 _ (List.mem_of_getElem? (i := 12) rfl)) rfl rfl dX10_changeLegOfNet_4 ?_
  refine lv_iload_n hx hb dX10_changeLegOfNet_7 rfl (lv_at hl 1 rfl) ?_
  refine lv_iconst (v := (4 : Int32)) hx hb dX10_changeLegOfNet_8 (by decide) ?_
  refine lv_idiv hx hb dX10_changeLegOfNet_9 (by decide) ?_
  refine lv_topi (fun x1 ex1 => ?_)
  have h := h x1 ex1
  obtain ⟨b1, h⟩ := h
  refine rk_aald X hP (C := RX7) (n := 6) (t0 := 6) (d := 2) (r := 2) (klX_X4_2 (klX_X10_4 h0)) (fun _ _ => rfl) rfl b1 dX10_changeLegOfNet_10 ?_
  refine lv_iload_n hx hb dX10_changeLegOfNet_11 rfl (lv_at hl 1 rfl) ?_
  refine lv_iconst (v := (4 : Int32)) hx hb dX10_changeLegOfNet_12 (by decide) ?_
  refine lv_irem hx hb dX10_changeLegOfNet_13 (by decide) ?_
  refine lv_aload_n hx hb dX10_changeLegOfNet_14 rfl (lv_at hl 2 rfl) ?_
  refine lv_aload_n hx hb dX10_changeLegOfNet_15 rfl (lv_at hl 0 rfl) ?_
  refine rk_get X hP (C := RX10) (T := TX10) (N := 14) (ci := 10) wix_10 h0 rfl rfl 2 (by decide) (wi_20 _ (List.mem_of_getElem? (i := 11) rfl)) rfl rfl dX10_changeLegOfNet_16 ?_
  obtain ⟨p1, ep1⟩ : ∃ z : Nat, z = (σ.1 v0 2).toNatClampNeg := ⟨_, rfl⟩
  rw [← ep1]
  obtain ⟨kp1, h⟩ := h p1 ep1
  refine rk_get X hP (C := RX9) (T := TX9) (N := 10) (ci := 9) wix_9 kp1 rfl rfl 0 (by decide) (wi_23 _ (List.mem_of_getElem? (i := 8) rfl)) rfl rfl dX10_changeLegOfNet_19 ?_
  refine rk_callv (va_runV (As := [.int (v1 - v1 / (4 : Int32) * (4 : Int32)), .ref (B + v2), .int (σ.1 p1 0)]) (rest := []) X.1 (mX7_changeLeg l D cy B (((v0 + 86) + 1) + 2 + 2 * x1.toNatClampNeg) (v1 - v1 / (4 : Int32) * (4 : Int32)) v2 (σ.1 p1 0) σ (klX_14 (klX_X4_2 (klX_X10_4 h0)) (vp_lt b1)) h2 h) (cwV 3 hts (gW_V (wi_27 _ (List.mem_of_getElem? (i := 7) rfl)) (wi_17 _ (List.mem_of_getElem? (i := 3) rfl)) (wi_17 _ (List.mem_of_getElem? (i := 4) rfl)) (wi_0 _ (List.mem_of_getElem? (i := 15) rfl)) (wi_16 _ (List.mem_of_getElem? (i := 20) rfl))) rfl rfl rfl hd_X7_changeLeg ⟨Nat.le_of_ble_eq_true rfl, Nat.le_of_ble_eq_true rfl⟩) (rk_preV X hS hP (klX_14 (klX_X4_2 (klX_X10_4 h0)) (vp_lt b1)) rfl rfl [.int (v1 - v1 / (4 : Int32) * (4 : Int32)), .ref (B + v2), .int (σ.1 p1 0)]) rfl rfl hl.1 rfl (lv_room (Nat.le_of_ble_eq_true rfl)) dX10_changeLegOfNet_22 ⟨Nat.zero_le _, Nat.zero_le _⟩) hS (fun _ h => h) (fun s1 H locs h hP hS => ?_)
  exact rk_vret X kX_len h hP hS dX10_changeLegOfNet_25

theorem hd_X10_change : yX10_change.cls = RX10 ∧ yX10_change.cls ≠ "java/lang/invoke/MethodHandle" ∧ yX10_change.cls ≠ "java/lang/invoke/VarHandle" ∧ (parseMethodDescriptor yX10_change.desc).map (fun d => d.parameters.length) = some 2 := by decide +kernel
set_option maxRecDepth 100000 in
set_option maxHeartbeats 4000000 in
theorem mX10_change (l : Launch) (D : va_G) (cy : Nat → ClassId) (B : Nat) (v0 : Nat) (v1 : Int32) (v2 : Int32) (σ : St) (h0 : kX[v0]? = some 10) {post : Bool → St → Prop} (h : wX10_change v0 v1 v2 σ post) : Met l yX10_change (Cond.code yX10_change cX10_change 4 (some .boolean) :: WALL) (rmD 5) (PcW D cy B kX σ [.ref (B + v0), .int v1, .int v2]) (Qz post D cy B kX 346) 0 0 (AW B 346) := by
  refine Met.ofK (cc := cX10_change) (maxL := 4) (ret := (some .boolean)) (by decide +kernel) rfl kX_len ?_
  intro p e s m below meth c X hP
  obtain ⟨⟨hx, hb, hml, hown, hts⟩, hr, hlk, hK, hN, hZ⟩ := id X
  have hD : ∀ σ, va_D (AW B 346) (wW cy B kX σ) := AW_D kX_len
  have hS : va_S (AW B 346) s.heap s.heap [] := va_S.rf
  have hl := lv_entry ([.ref (B + v0), .int v1, .int v2]) (n := 4) (Nat.le_of_ble_eq_true rfl)
  rw [lg_entry_eq]
  generalize (lg_sl ([.ref (B + v0), .int v1, .int v2]) ++ List.replicate (4 - (lg_sl ([.ref (B + v0), .int v1, .int v2])).length) Slot.unset).toArray = ls at hl ⊢
  have hl : lv_has ls 4 [(0, .ref (B + v0)), (1, .int v1), (2, .int v2)] := hl
  unfold wX10_change at h
  refine lv_aload_n hx hb dX10_change_0 rfl (lv_at hl 0 rfl) ?_
  refine rk_get X hP (C := RX10) (T := TX10) (N := 14) (ci := 10) wix_10 h0 rfl rfl 4 (by decide) (wi_20 _ (List.mem_of_getElem? (i := 14) rfl)) rfl rfl dX10_change_1 ?_
  refine lv_iload_n hx hb dX10_change_4 rfl (lv_at hl 1 rfl) ?_
  refine rk_callz (va_runV (As := [.int v1]) (rest := []) X.1 (mX4_hasWire l D cy B (v0 + 86) v1 σ (klX_X10_4 h0) h) (cwV 1 hts (gW_V (wi_25 _ (List.mem_of_getElem? (i := 16) rfl)) (wi_25 _ (List.mem_of_getElem? (i := 17) rfl)) (wi_25 _ (List.mem_of_getElem? (i := 18) rfl)) (wi_0 _ (List.mem_of_getElem? (i := 23) rfl)) (wi_5 _ (List.mem_of_getElem? (i := 4) rfl))) rfl rfl rfl hd_X4_hasWire ⟨Nat.le_of_ble_eq_true rfl, Nat.le_of_ble_eq_true rfl⟩) (rk_preV X hS hP (klX_X10_4 h0) rfl rfl [.int v1]) rfl rfl hl.1 rfl (lv_room (Nat.le_of_ble_eq_true rfl)) dX10_change_5 ⟨Nat.zero_le _, Nat.zero_le _⟩) hS (fun _ h => h) (fun r1 s1 H locs h hP hS => ?_)
  refine lv_if_eq (tgt := 19) hx hb dX10_change_8 (by decide) (fun c1 => ?_) (fun c1 => ?_)
  · have h := h.1 (b2i_f c1)
    refine lv_iconst (v := (0 : Int32)) hx hb dX10_change_19 (by decide) ?_
    exact rk_zret X kX_len false h hP hS dX10_change_20
  · have h := h.2 (b2i_t c1)
    refine lv_aload_n hx hb dX10_change_11 rfl (lv_at hl 0 rfl) ?_
    refine lv_iload_n hx hb dX10_change_12 rfl (lv_at hl 2 rfl) ?_
    refine rk_callz (va_runV (As := [.int v2]) (rest := []) X.1 (mX10_isBase l D cy B v0 v2 s1 h0 h) (cwV 1 hts (gW_V (wi_24 _ (List.mem_of_getElem? (i := 14) rfl)) (wi_24 _ (List.mem_of_getElem? (i := 15) rfl)) (wi_24 _ (List.mem_of_getElem? (i := 16) rfl)) (wi_2 _ (List.mem_of_getElem? (i := 8) rfl)) (wi_24 _ (List.mem_of_getElem? (i := 5) rfl))) rfl rfl rfl hd_X10_isBase ⟨Nat.le_of_ble_eq_true rfl, Nat.le_of_ble_eq_true rfl⟩) (rk_preV X hS hP h0 rfl rfl [.int v2]) rfl rfl hl.1 rfl (lv_room (Nat.le_of_ble_eq_true rfl)) dX10_change_13 ⟨Nat.zero_le _, Nat.zero_le _⟩) hS (fun _ h => h) (fun r2 s2 H locs h hP hS => ?_)
    refine lv_if_ne (tgt := 21) hx hb dX10_change_16 (by decide) (fun c2 => ?_) (fun c2 => ?_)
    · have h := h.1 (b2i_t c2)
      refine lv_aload_n hx hb dX10_change_21 rfl (lv_at hl 0 rfl) ?_
      refine rk_get X hP (C := RX10) (T := TX10) (N := 14) (ci := 10) wix_10 h0 rfl rfl 5 (by decide) (wi_20 _ (List.mem_of_getElem? (i := 18) rfl)) rfl rfl dX10_change_22 ?_
      refine lv_aload_n hx hb dX10_change_25 rfl (lv_at hl 0 rfl) ?_
      refine rk_get X hP (C := RX10) (T := TX10) (N := 14) (ci := 10) wix_10 h0 rfl rfl 4 (by decide) (wi_20 _ (List.mem_of_getElem? (i := 14) rfl)) rfl rfl dX10_change_26 ?_
      refine rk_callv (va_runV (As := [.ref (B + (v0 + 86))]) (rest := []) X.1 (mX0_remember l D cy B (v0 + 101) (v0 + 86) s2 (klX_X10_5 h0) (klX_X10_4 h0) h) (cwV 1 hts (gW_V (wi_27 _ (List.mem_of_getElem? (i := 9) rfl)) (wi_27 _ (List.mem_of_getElem? (i := 10) rfl)) (wi_27 _ (List.mem_of_getElem? (i := 11) rfl)) (wi_20 _ (List.mem_of_getElem? (i := 17) rfl)) (wi_1 _ (List.mem_of_getElem? (i := 14) rfl))) rfl rfl rfl hd_X0_remember ⟨Nat.le_of_ble_eq_true rfl, Nat.le_of_ble_eq_true rfl⟩) (rk_preV X hS hP (klX_X10_5 h0) rfl rfl [.ref (B + (v0 + 86))]) rfl rfl hl.1 rfl (lv_room (Nat.le_of_ble_eq_true rfl)) dX10_change_29 ⟨Nat.zero_le _, Nat.zero_le _⟩) hS (fun _ h => h) (fun s3 H locs h hP hS => ?_)
      refine lv_aload_n hx hb dX10_change_32 rfl (lv_at hl 0 rfl) ?_
      refine rk_get X hP (C := RX10) (T := TX10) (N := 14) (ci := 10) wix_10 h0 rfl rfl 2 (by decide) (wi_20 _ (List.mem_of_getElem? (i := 11) rfl)) rfl rfl dX10_change_33 ?_
      obtain ⟨p1, ep1⟩ : ∃ z : Nat, z = (s3.1 v0 2).toNatClampNeg := ⟨_, rfl⟩
      rw [← ep1]
      obtain ⟨kp1, h⟩ := h p1 ep1
      refine rk_get X hP (C := RX9) (T := TX9) (N := 10) (ci := 9) wix_9 kp1 rfl rfl 4 (by decide) (wi_24 _ (List.mem_of_getElem? (i := 9) rfl)) rfl rfl dX10_change_36 ?_
      refine lv_iload_n hx hb dX10_change_39 rfl (lv_at hl 2 rfl) ?_
      obtain ⟨b1, h⟩ := h
      refine rk_aald X hP (C := RX1) (n := 5) (t0 := 4) (d := 35) (r := 1) (klX_X9_4 kp1) (fun _ _ => rfl) rfl b1 dX10_change_40 ?_
      refine lv_astore_n (lv' := [(3, .ref (B + ((p1 + 2) + 35 + 1 * v2.toNatClampNeg))), (0, .ref (B + v0)), (1, .int v1), (2, .int v2)]) hx hb dX10_change_41 rfl hl (by decide) rfl (fun ls hl => ?_)
      refine lv_aload_n hx hb dX10_change_42 rfl (lv_at hl 1 rfl) ?_
      refine lv_aload_n hx hb dX10_change_43 rfl (lv_at hl 1 rfl) ?_
      refine rk_get X hP (C := RX10) (T := TX10) (N := 14) (ci := 10) wix_10 h0 rfl rfl 4 (by decide) (wi_20 _ (List.mem_of_getElem? (i := 14) rfl)) rfl rfl dX10_change_44 ?_
      refine rk_get X hP (C := RX4) (T := TX4) (N := 4) (ci := 4) wix_4 (klX_X10_4 h0) rfl rfl 3 (by decide) (wi_25 _ (List.mem_of_getElem? (i := 15) rfl)) rfl rfl dX10_change_47 ?_
      refine lv_iconst (v := (2 : Int32)) hx hb dX10_change_50 (by decide) ?_
      refine lv_iload_n hx hb dX10_change_51 rfl (lv_at hl 2 rfl) ?_
      refine lv_imul hx hb dX10_change_52 ?_
      refine lv_topi (fun x1 ex1 => ?_)
      have h := h x1 ex1
      obtain ⟨b2, h⟩ := h
      refine rk_iald X hP (n := 20) (klX_X4_3 (klX_X10_4 h0)) (fun _ _ => rfl) b2 dX10_change_53 ?_
      refine lv_aload_n hx hb dX10_change_54 rfl (lv_at hl 0 rfl) ?_
      refine rk_callv (va_runV (As := [.int (s3.1 ((v0 + 86) + 2) x1.toNatClampNeg), .ref (B + ((p1 + 2) + 35 + 1 * v2.toNatClampNeg))]) (rest := []) X.1 (mX10_changeLegOfNet l D cy B v0 (s3.1 ((v0 + 86) + 2) x1.toNatClampNeg) ((p1 + 2) + 35 + 1 * v2.toNatClampNeg) s3 h0 (klX_13 (klX_X9_4 kp1) (vp_lt b1)) h) (cwV 2 hts (gW_V (wi_27 _ (List.mem_of_getElem? (i := 12) rfl)) (wi_27 _ (List.mem_of_getElem? (i := 13) rfl)) (wi_27 _ (List.mem_of_getElem? (i := 14) rfl)) (wi_2 _ (List.mem_of_getElem? (i := 8) rfl)) (wi_27 _ (List.mem_of_getElem? (i := 8) rfl))) rfl rfl rfl hd_X10_changeLegOfNet ⟨Nat.le_of_ble_eq_true rfl, Nat.le_of_ble_eq_true rfl⟩) (rk_preV X hS hP h0 rfl rfl [.int (s3.1 ((v0 + 86) + 2) x1.toNatClampNeg), .ref (B + ((p1 + 2) + 35 + 1 * v2.toNatClampNeg))]) rfl rfl hl.1 rfl (lv_room (Nat.le_of_ble_eq_true rfl)) dX10_change_55 ⟨Nat.zero_le _, Nat.zero_le _⟩) hS (fun _ h => h) (fun s4 H locs h hP hS => ?_)
      refine lv_aload_n hx hb dX10_change_58 rfl (lv_at hl 1 rfl) ?_
      refine rk_get X hP (C := RX10) (T := TX10) (N := 14) (ci := 10) wix_10 h0 rfl rfl 13 (by decide) (wi_21 _ (List.mem_of_getElem? (i := 13) rfl)) rfl rfl dX10_change_59 ?_
      refine lv_aload_n hx hb dX10_change_62 rfl (lv_at hl 0 rfl) ?_
      refine lv_aload_n hx hb dX10_change_63 rfl (lv_at hl 1 rfl) ?_
      refine rk_get X hP (C := RX10) (T := TX10) (N := 14) (ci := 10) wix_10 h0 rfl rfl 2 (by decide) (wi_20 _ (List.mem_of_getElem? (i := 11) rfl)) rfl rfl dX10_change_64 ?_
      obtain ⟨p2, ep2⟩ : ∃ z : Nat, z = (s4.1 v0 2).toNatClampNeg := ⟨_, rfl⟩
      rw [← ep2]
      obtain ⟨kp2, h⟩ := h p2 ep2
      refine rk_get X hP (C := RX9) (T := TX9) (N := 10) (ci := 9) wix_9 kp2 rfl rfl 0 (by decide) (wi_23 _ (List.mem_of_getElem? (i := 8) rfl)) rfl rfl dX10_change_67 ?_
      refine rk_callv (va_runV (As := [.ref (B + ((p1 + 2) + 35 + 1 * v2.toNatClampNeg)), .int (s4.1 p2 0)]) (rest := []) X.1 (mX1_setInverseTurnedOver l D cy B (v0 + 315) ((p1 + 2) + 35 + 1 * v2.toNatClampNeg) (s4.1 p2 0) s4 (klX_X10_13 h0) (klX_13 (klX_X9_4 kp1) (vp_lt b1)) h) (cwV 2 hts (gW_V (wi_27 _ (List.mem_of_getElem? (i := 15) rfl)) (wi_27 _ (List.mem_of_getElem? (i := 16) rfl)) (wi_27 _ (List.mem_of_getElem? (i := 17) rfl)) (wi_2 _ (List.mem_of_getElem? (i := 14) rfl)) (wi_2 _ (List.mem_of_getElem? (i := 10) rfl))) rfl rfl rfl hd_X1_setInverseTurnedOver ⟨Nat.le_of_ble_eq_true rfl, Nat.le_of_ble_eq_true rfl⟩) (rk_preV X hS hP (klX_X10_13 h0) rfl rfl [.ref (B + ((p1 + 2) + 35 + 1 * v2.toNatClampNeg)), .int (s4.1 p2 0)]) rfl rfl hl.1 rfl (lv_room (Nat.le_of_ble_eq_true rfl)) dX10_change_70 ⟨Nat.zero_le _, Nat.zero_le _⟩) hS (fun _ h => h) (fun s5 H locs h hP hS => ?_)
      refine lv_aload_n hx hb dX10_change_73 rfl (lv_at hl 1 rfl) ?_
      refine lv_aload_n hx hb dX10_change_74 rfl (lv_at hl 1 rfl) ?_
      refine rk_get X hP (C := RX10) (T := TX10) (N := 14) (ci := 10) wix_10 h0 rfl rfl 4 (by decide) (wi_20 _ (List.mem_of_getElem? (i := 14) rfl)) rfl rfl dX10_change_75 ?_
      refine rk_get X hP (C := RX4) (T := TX4) (N := 4) (ci := 4) wix_4 (klX_X10_4 h0) rfl rfl 3 (by decide) (wi_25 _ (List.mem_of_getElem? (i := 15) rfl)) rfl rfl dX10_change_78 ?_
      refine lv_iconst (v := (2 : Int32)) hx hb dX10_change_81 (by decide) ?_
      refine lv_iload_n hx hb dX10_change_82 rfl (lv_at hl 2 rfl) ?_
      refine lv_imul hx hb dX10_change_83 ?_
      refine lv_iconst (v := (1 : Int32)) hx hb dX10_change_84 (by decide) ?_
      refine lv_iadd hx hb dX10_change_85 ?_
      refine lv_topi (fun x2 ex2 => ?_)
      have h := h x2 ex2
      obtain ⟨b3, h⟩ := h
      refine rk_iald X hP (n := 20) (klX_X4_3 (klX_X10_4 h0)) (fun _ _ => rfl) b3 dX10_change_86 ?_
      refine lv_aload_n hx hb dX10_change_87 rfl (lv_at hl 1 rfl) ?_
      refine rk_get X hP (C := RX10) (T := TX10) (N := 14) (ci := 10) wix_10 h0 rfl rfl 13 (by decide) (wi_21 _ (List.mem_of_getElem? (i := 13) rfl)) rfl rfl dX10_change_88 ?_
      refine rk_callv (va_runV (As := [.int (s5.1 ((v0 + 86) + 2) x2.toNatClampNeg), .ref (B + (v0 + 315))]) (rest := []) X.1 (mX10_changeLegOfNet l D cy B v0 (s5.1 ((v0 + 86) + 2) x2.toNatClampNeg) (v0 + 315) s5 h0 (klX_X10_13 h0) h) (cwV 2 hts (gW_V (wi_27 _ (List.mem_of_getElem? (i := 12) rfl)) (wi_27 _ (List.mem_of_getElem? (i := 13) rfl)) (wi_27 _ (List.mem_of_getElem? (i := 14) rfl)) (wi_2 _ (List.mem_of_getElem? (i := 8) rfl)) (wi_27 _ (List.mem_of_getElem? (i := 8) rfl))) rfl rfl rfl hd_X10_changeLegOfNet ⟨Nat.le_of_ble_eq_true rfl, Nat.le_of_ble_eq_true rfl⟩) (rk_preV X hS hP h0 rfl rfl [.int (s5.1 ((v0 + 86) + 2) x2.toNatClampNeg), .ref (B + (v0 + 315))]) rfl rfl hl.1 rfl (lv_room (Nat.le_of_ble_eq_true rfl)) dX10_change_91 ⟨Nat.zero_le _, Nat.zero_le _⟩) hS (fun _ h => h) (fun s6 H locs h hP hS => ?_)
      refine lv_iconst (v := (1 : Int32)) hx hb dX10_change_94 (by decide) ?_
      exact rk_zret X kX_len true h hP hS dX10_change_95
    · have h := h.2 (b2i_f c2)
      refine lv_iconst (v := (0 : Int32)) hx hb dX10_change_19 (by decide) ?_
      exact rk_zret X kX_len false h hP hS dX10_change_20

theorem hd_X10_plug : yX10_plug.cls = RX10 ∧ yX10_plug.cls ≠ "java/lang/invoke/MethodHandle" ∧ yX10_plug.cls ≠ "java/lang/invoke/VarHandle" ∧ (parseMethodDescriptor yX10_plug.desc).map (fun d => d.parameters.length) = some 2 := by decide +kernel
set_option maxRecDepth 100000 in
set_option maxHeartbeats 4000000 in
theorem mX10_plug (l : Launch) (D : va_G) (cy : Nat → ClassId) (B : Nat) (v0 : Nat) (v1 : Int32) (v2 : Int32) (σ : St) (h0 : kX[v0]? = some 10) {post : Bool → St → Prop} (h : wX10_plug v0 v1 v2 σ post) : Met l yX10_plug (Cond.code yX10_plug cX10_plug 3 (some .boolean) :: WALL) (rmD 5) (PcW D cy B kX σ [.ref (B + v0), .int v1, .int v2]) (Qz post D cy B kX 346) 0 0 (AW B 346) := by
  refine Met.ofK (cc := cX10_plug) (maxL := 3) (ret := (some .boolean)) (by decide +kernel) rfl kX_len ?_
  intro p e s m below meth c X hP
  obtain ⟨⟨hx, hb, hml, hown, hts⟩, hr, hlk, hK, hN, hZ⟩ := id X
  have hD : ∀ σ, va_D (AW B 346) (wW cy B kX σ) := AW_D kX_len
  have hS : va_S (AW B 346) s.heap s.heap [] := va_S.rf
  have hl := lv_entry ([.ref (B + v0), .int v1, .int v2]) (n := 3) (Nat.le_of_ble_eq_true rfl)
  rw [lg_entry_eq]
  generalize (lg_sl ([.ref (B + v0), .int v1, .int v2]) ++ List.replicate (3 - (lg_sl ([.ref (B + v0), .int v1, .int v2])).length) Slot.unset).toArray = ls at hl ⊢
  have hl : lv_has ls 3 [(0, .ref (B + v0)), (1, .int v1), (2, .int v2)] := hl
  unfold wX10_plug at h
  refine lv_aload_n hx hb dX10_plug_0 rfl (lv_at hl 0 rfl) ?_
  refine rk_get X hP (C := RX10) (T := TX10) (N := 14) (ci := 10) wix_10 h0 rfl rfl 4 (by decide) (wi_20 _ (List.mem_of_getElem? (i := 14) rfl)) rfl rfl dX10_plug_1 ?_
  refine lv_iload_n hx hb dX10_plug_4 rfl (lv_at hl 1 rfl) ?_
  refine rk_callz (va_runV (As := [.int v1]) (rest := []) X.1 (mX4_hasNode l D cy B (v0 + 86) v1 σ (klX_X10_4 h0) h) (cwV 1 hts (gW_V (wi_25 _ (List.mem_of_getElem? (i := 13) rfl)) (wi_5 _ (List.mem_of_getElem? (i := 2) rfl)) (wi_5 _ (List.mem_of_getElem? (i := 3) rfl)) (wi_0 _ (List.mem_of_getElem? (i := 23) rfl)) (wi_4 _ (List.mem_of_getElem? (i := 22) rfl))) rfl rfl rfl hd_X4_hasNode ⟨Nat.le_of_ble_eq_true rfl, Nat.le_of_ble_eq_true rfl⟩) (rk_preV X hS hP (klX_X10_4 h0) rfl rfl [.int v1]) rfl rfl hl.1 rfl (lv_room (Nat.le_of_ble_eq_true rfl)) dX10_plug_5 ⟨Nat.zero_le _, Nat.zero_le _⟩) hS (fun _ h => h) (fun r1 s1 H locs h hP hS => ?_)
  refine lv_if_eq (tgt := 19) hx hb dX10_plug_8 (by decide) (fun c1 => ?_) (fun c1 => ?_)
  · have h := h.1 (b2i_f c1)
    refine lv_iconst (v := (0 : Int32)) hx hb dX10_plug_19 (by decide) ?_
    exact rk_zret X kX_len false h hP hS dX10_plug_20
  · have h := h.2 (b2i_t c1)
    refine lv_aload_n hx hb dX10_plug_11 rfl (lv_at hl 0 rfl) ?_
    refine lv_iload_n hx hb dX10_plug_12 rfl (lv_at hl 2 rfl) ?_
    refine rk_callz (va_runV (As := [.int v2]) (rest := []) X.1 (mX10_isTable l D cy B v0 v2 s1 h0 h) (cwV 1 hts (gW_V (wi_23 _ (List.mem_of_getElem? (i := 0) rfl)) (wi_23 _ (List.mem_of_getElem? (i := 1) rfl)) (wi_23 _ (List.mem_of_getElem? (i := 2) rfl)) (wi_2 _ (List.mem_of_getElem? (i := 8) rfl)) (wi_22 _ (List.mem_of_getElem? (i := 14) rfl))) rfl rfl rfl hd_X10_isTable ⟨Nat.le_of_ble_eq_true rfl, Nat.le_of_ble_eq_true rfl⟩) (rk_preV X hS hP h0 rfl rfl [.int v2]) rfl rfl hl.1 rfl (lv_room (Nat.le_of_ble_eq_true rfl)) dX10_plug_13 ⟨Nat.zero_le _, Nat.zero_le _⟩) hS (fun _ h => h) (fun r2 s2 H locs h hP hS => ?_)
    refine lv_if_ne (tgt := 21) hx hb dX10_plug_16 (by decide) (fun c2 => ?_) (fun c2 => ?_)
    · have h := h.1 (b2i_t c2)
      refine lv_aload_n hx hb dX10_plug_21 rfl (lv_at hl 0 rfl) ?_
      refine rk_get X hP (C := RX10) (T := TX10) (N := 14) (ci := 10) wix_10 h0 rfl rfl 4 (by decide) (wi_20 _ (List.mem_of_getElem? (i := 14) rfl)) rfl rfl dX10_plug_22 ?_
      refine rk_get X hP (C := RX4) (T := TX4) (N := 4) (ci := 4) wix_4 (klX_X10_4 h0) rfl rfl 2 (by decide) (wi_25 _ (List.mem_of_getElem? (i := 12) rfl)) rfl rfl dX10_plug_25 ?_
      refine lv_iload_n hx hb dX10_plug_28 rfl (lv_at hl 1 rfl) ?_
      obtain ⟨b1, h⟩ := h
      refine rk_aald X hP (C := RX7) (n := 6) (t0 := 6) (d := 2) (r := 2) (klX_X4_2 (klX_X10_4 h0)) (fun _ _ => rfl) rfl b1 dX10_plug_29 ?_
      refine rk_get X hP (C := RX7) (T := TX7) (N := 2) (ci := 7) wix_7 (klX_14 (klX_X4_2 (klX_X10_4 h0)) (vp_lt b1)) rfl rfl 0 (by decide) (wi_22 _ (List.mem_of_getElem? (i := 17) rfl)) rfl rfl dX10_plug_30 ?_
      refine lv_aload_n hx hb dX10_plug_33 rfl (lv_at hl 0 rfl) ?_
      refine rk_get X hP (C := RX10) (T := TX10) (N := 14) (ci := 10) wix_10 h0 rfl rfl 2 (by decide) (wi_20 _ (List.mem_of_getElem? (i := 11) rfl)) rfl rfl dX10_plug_34 ?_
      obtain ⟨p1, ep1⟩ : ∃ z : Nat, z = (s2.1 v0 2).toNatClampNeg := ⟨_, rfl⟩
      rw [← ep1]
      obtain ⟨kp1, h⟩ := h p1 ep1
      refine rk_get X hP (C := RX9) (T := TX9) (N := 10) (ci := 9) wix_9 kp1 rfl rfl 2 (by decide) (wi_22 _ (List.mem_of_getElem? (i := 23) rfl)) rfl rfl dX10_plug_37 ?_
      refine lv_iload_n hx hb dX10_plug_40 rfl (lv_at hl 2 rfl) ?_
      obtain ⟨b2, h⟩ := h
      refine rk_aald X hP (C := RX7) (n := 8) (t0 := 6) (d := 20) (r := 2) (klX_X9_2 kp1) (fun _ _ => rfl) rfl b2 dX10_plug_41 ?_
      refine rk_get X hP (C := RX7) (T := TX7) (N := 2) (ci := 7) wix_7 (klX_12 (klX_X9_2 kp1) (vp_lt b2)) rfl rfl 0 (by decide) (wi_22 _ (List.mem_of_getElem? (i := 17) rfl)) rfl rfl dX10_plug_42 ?_
      refine lv_icmp_eq (tgt := 50) hx hb dX10_plug_45 (by decide) (fun c3 => ?_) (fun c3 => ?_)
      · have h := h.1 c3
        refine lv_aload_n hx hb dX10_plug_50 rfl (lv_at hl 0 rfl) ?_
        refine rk_get X hP (C := RX10) (T := TX10) (N := 14) (ci := 10) wix_10 h0 rfl rfl 5 (by decide) (wi_20 _ (List.mem_of_getElem? (i := 18) rfl)) rfl rfl dX10_plug_51 ?_
        refine lv_aload_n hx hb dX10_plug_54 rfl (lv_at hl 0 rfl) ?_
        refine rk_get X hP (C := RX10) (T := TX10) (N := 14) (ci := 10) wix_10 h0 rfl rfl 4 (by decide) (wi_20 _ (List.mem_of_getElem? (i := 14) rfl)) rfl rfl dX10_plug_55 ?_
        refine rk_callv (va_runV (As := [.ref (B + (v0 + 86))]) (rest := []) X.1 (mX0_remember l D cy B (v0 + 101) (v0 + 86) s2 (klX_X10_5 h0) (klX_X10_4 h0) h) (cwV 1 hts (gW_V (wi_27 _ (List.mem_of_getElem? (i := 9) rfl)) (wi_27 _ (List.mem_of_getElem? (i := 10) rfl)) (wi_27 _ (List.mem_of_getElem? (i := 11) rfl)) (wi_20 _ (List.mem_of_getElem? (i := 17) rfl)) (wi_1 _ (List.mem_of_getElem? (i := 14) rfl))) rfl rfl rfl hd_X0_remember ⟨Nat.le_of_ble_eq_true rfl, Nat.le_of_ble_eq_true rfl⟩) (rk_preV X hS hP (klX_X10_5 h0) rfl rfl [.ref (B + (v0 + 86))]) rfl rfl hl.1 rfl (lv_room (Nat.le_of_ble_eq_true rfl)) dX10_plug_58 ⟨Nat.zero_le _, Nat.zero_le _⟩) hS (fun _ h => h) (fun s3 H locs h hP hS => ?_)
        refine lv_aload_n hx hb dX10_plug_61 rfl (lv_at hl 0 rfl) ?_
        refine rk_get X hP (C := RX10) (T := TX10) (N := 14) (ci := 10) wix_10 h0 rfl rfl 4 (by decide) (wi_20 _ (List.mem_of_getElem? (i := 14) rfl)) rfl rfl dX10_plug_62 ?_
        refine rk_get X hP (C := RX4) (T := TX4) (N := 4) (ci := 4) wix_4 (klX_X10_4 h0) rfl rfl 2 (by decide) (wi_25 _ (List.mem_of_getElem? (i := 12) rfl)) rfl rfl dX10_plug_65 ?_
        refine lv_iload_n hx hb dX10_plug_68 rfl (lv_at hl 1 rfl) ?_
        obtain ⟨b3, h⟩ := h
        refine rk_aald X hP (C := RX7) (n := 6) (t0 := 6) (d := 2) (r := 2) (klX_X4_2 (klX_X10_4 h0)) (fun _ _ => rfl) rfl b3 dX10_plug_69 ?_
        refine lv_aload_n hx hb dX10_plug_70 rfl (lv_at hl 0 rfl) ?_
        refine rk_get X hP (C := RX10) (T := TX10) (N := 14) (ci := 10) wix_10 h0 rfl rfl 2 (by decide) (wi_20 _ (List.mem_of_getElem? (i := 11) rfl)) rfl rfl dX10_plug_71 ?_
        obtain ⟨p2, ep2⟩ : ∃ z : Nat, z = (s3.1 v0 2).toNatClampNeg := ⟨_, rfl⟩
        rw [← ep2]
        obtain ⟨kp2, h⟩ := h p2 ep2
        refine rk_get X hP (C := RX9) (T := TX9) (N := 10) (ci := 9) wix_9 kp2 rfl rfl 2 (by decide) (wi_22 _ (List.mem_of_getElem? (i := 23) rfl)) rfl rfl dX10_plug_74 ?_
        refine lv_iload_n hx hb dX10_plug_77 rfl (lv_at hl 2 rfl) ?_
        obtain ⟨b4, h⟩ := h
        refine rk_aald X hP (C := RX7) (n := 8) (t0 := 6) (d := 20) (r := 2) (klX_X9_2 kp2) (fun _ _ => rfl) rfl b4 dX10_plug_78 ?_
        refine rk_callv (va_runV (As := [.ref (B + ((p2 + 1) + 20 + 2 * v2.toNatClampNeg))]) (rest := []) X.1 (mX7_copyFrom l D cy B (((v0 + 86) + 1) + 2 + 2 * v1.toNatClampNeg) ((p2 + 1) + 20 + 2 * v2.toNatClampNeg) s3 (klX_14 (klX_X4_2 (klX_X10_4 h0)) (vp_lt b3)) (klX_12 (klX_X9_2 kp2) (vp_lt b4)) h) (cwV 1 hts (gW_V (wi_24 _ (List.mem_of_getElem? (i := 19) rfl)) (wi_1 _ (List.mem_of_getElem? (i := 12) rfl)) (wi_1 _ (List.mem_of_getElem? (i := 13) rfl)) (wi_0 _ (List.mem_of_getElem? (i := 15) rfl)) (wi_1 _ (List.mem_of_getElem? (i := 4) rfl))) rfl rfl rfl hd_X7_copyFrom ⟨Nat.le_of_ble_eq_true rfl, Nat.le_of_ble_eq_true rfl⟩) (rk_preV X hS hP (klX_14 (klX_X4_2 (klX_X10_4 h0)) (vp_lt b3)) rfl rfl [.ref (B + ((p2 + 1) + 20 + 2 * v2.toNatClampNeg))]) rfl rfl hl.1 rfl (lv_room (Nat.le_of_ble_eq_true rfl)) dX10_plug_79 ⟨Nat.zero_le _, Nat.zero_le _⟩) hS (fun _ h => h) (fun s4 H locs h hP hS => ?_)
        refine lv_iconst (v := (1 : Int32)) hx hb dX10_plug_82 (by decide) ?_
        exact rk_zret X kX_len true h hP hS dX10_plug_83
      · have h := h.2 c3
        refine lv_iconst (v := (0 : Int32)) hx hb dX10_plug_48 (by decide) ?_
        exact rk_zret X kX_len false h hP hS dX10_plug_49
    · have h := h.2 (b2i_f c2)
      refine lv_iconst (v := (0 : Int32)) hx hb dX10_plug_19 (by decide) ?_
      exact rk_zret X kX_len false h hP hS dX10_plug_20

theorem hd_X10_scale : yX10_scale.cls = RX10 ∧ yX10_scale.cls ≠ "java/lang/invoke/MethodHandle" ∧ yX10_scale.cls ≠ "java/lang/invoke/VarHandle" ∧ (parseMethodDescriptor yX10_scale.desc).map (fun d => d.parameters.length) = some 2 := by decide +kernel
set_option maxRecDepth 100000 in
set_option maxHeartbeats 4000000 in
theorem mX10_scale (l : Launch) (D : va_G) (cy : Nat → ClassId) (B : Nat) (v0 : Nat) (v1 : Int32) (v2 : Int32) (σ : St) (h0 : kX[v0]? = some 10) {post : Bool → St → Prop} (h : wX10_scale v0 v1 v2 σ post) : Met l yX10_scale (Cond.code yX10_scale cX10_scale 3 (some .boolean) :: WALL) (rmD 5) (PcW D cy B kX σ [.ref (B + v0), .int v1, .int v2]) (Qz post D cy B kX 346) 0 0 (AW B 346) := by
  refine Met.ofK (cc := cX10_scale) (maxL := 3) (ret := (some .boolean)) (by decide +kernel) rfl kX_len ?_
  intro p e s m below meth c X hP
  obtain ⟨⟨hx, hb, hml, hown, hts⟩, hr, hlk, hK, hN, hZ⟩ := id X
  have hD : ∀ σ, va_D (AW B 346) (wW cy B kX σ) := AW_D kX_len
  have hS : va_S (AW B 346) s.heap s.heap [] := va_S.rf
  have hl := lv_entry ([.ref (B + v0), .int v1, .int v2]) (n := 3) (Nat.le_of_ble_eq_true rfl)
  rw [lg_entry_eq]
  generalize (lg_sl ([.ref (B + v0), .int v1, .int v2]) ++ List.replicate (3 - (lg_sl ([.ref (B + v0), .int v1, .int v2])).length) Slot.unset).toArray = ls at hl ⊢
  have hl : lv_has ls 3 [(0, .ref (B + v0)), (1, .int v1), (2, .int v2)] := hl
  unfold wX10_scale at h
  refine lv_aload_n hx hb dX10_scale_0 rfl (lv_at hl 0 rfl) ?_
  refine rk_get X hP (C := RX10) (T := TX10) (N := 14) (ci := 10) wix_10 h0 rfl rfl 4 (by decide) (wi_20 _ (List.mem_of_getElem? (i := 14) rfl)) rfl rfl dX10_scale_1 ?_
  refine lv_iload_n hx hb dX10_scale_4 rfl (lv_at hl 1 rfl) ?_
  refine rk_callz (va_runV (As := [.int v1]) (rest := []) X.1 (mX4_hasNode l D cy B (v0 + 86) v1 σ (klX_X10_4 h0) h) (cwV 1 hts (gW_V (wi_25 _ (List.mem_of_getElem? (i := 13) rfl)) (wi_5 _ (List.mem_of_getElem? (i := 2) rfl)) (wi_5 _ (List.mem_of_getElem? (i := 3) rfl)) (wi_0 _ (List.mem_of_getElem? (i := 23) rfl)) (wi_4 _ (List.mem_of_getElem? (i := 22) rfl))) rfl rfl rfl hd_X4_hasNode ⟨Nat.le_of_ble_eq_true rfl, Nat.le_of_ble_eq_true rfl⟩) (rk_preV X hS hP (klX_X10_4 h0) rfl rfl [.int v1]) rfl rfl hl.1 rfl (lv_room (Nat.le_of_ble_eq_true rfl)) dX10_scale_5 ⟨Nat.zero_le _, Nat.zero_le _⟩) hS (fun _ h => h) (fun r1 s1 H locs h hP hS => ?_)
  refine lv_if_eq (tgt := 27) hx hb dX10_scale_8 (by decide) (fun c1 => ?_) (fun c1 => ?_)
  · have h := h.1 (b2i_f c1)
    refine lv_iconst (v := (0 : Int32)) hx hb dX10_scale_27 (by decide) ?_
    exact rk_zret X kX_len false h hP hS dX10_scale_28
  · have h := h.2 (b2i_t c1)
    refine lv_iload_n hx hb dX10_scale_11 rfl (lv_at hl 2 rfl) ?_
    refine lv_iconst (v := (1 : Int32)) hx hb dX10_scale_12 (by decide) ?_
    refine lv_icmp_lt (tgt := 27) hx hb dX10_scale_13 (by decide) (fun c2 => ?_) (fun c2 => ?_)
    · have h := h.1 c2
      refine lv_iconst (v := (0 : Int32)) hx hb dX10_scale_27 (by decide) ?_
      exact rk_zret X kX_len false h hP hS dX10_scale_28
    · have h := h.2 c2
      refine lv_iload_n hx hb dX10_scale_16 rfl (lv_at hl 2 rfl) ?_
      refine lv_aload_n hx hb dX10_scale_17 rfl (lv_at hl 0 rfl) ?_
      refine rk_get X hP (C := RX10) (T := TX10) (N := 14) (ci := 10) wix_10 h0 rfl rfl 2 (by decide) (wi_20 _ (List.mem_of_getElem? (i := 11) rfl)) rfl rfl dX10_scale_18 ?_
      obtain ⟨p1, ep1⟩ : ∃ z : Nat, z = (s1.1 v0 2).toNatClampNeg := ⟨_, rfl⟩
      rw [← ep1]
      obtain ⟨kp1, h⟩ := h p1 ep1
      refine rk_get X hP (C := RX9) (T := TX9) (N := 10) (ci := 9) wix_9 kp1 rfl rfl 0 (by decide) (wi_23 _ (List.mem_of_getElem? (i := 8) rfl)) rfl rfl dX10_scale_21 ?_
      refine lv_icmp_lt (tgt := 29) hx hb dX10_scale_24 (by decide) (fun c3 => ?_) (fun c3 => ?_)
      · have h := h.1 c3
        refine lv_aload_n hx hb dX10_scale_29 rfl (lv_at hl 0 rfl) ?_
        refine rk_get X hP (C := RX10) (T := TX10) (N := 14) (ci := 10) wix_10 h0 rfl rfl 5 (by decide) (wi_20 _ (List.mem_of_getElem? (i := 18) rfl)) rfl rfl dX10_scale_30 ?_
        refine lv_aload_n hx hb dX10_scale_33 rfl (lv_at hl 0 rfl) ?_
        refine rk_get X hP (C := RX10) (T := TX10) (N := 14) (ci := 10) wix_10 h0 rfl rfl 4 (by decide) (wi_20 _ (List.mem_of_getElem? (i := 14) rfl)) rfl rfl dX10_scale_34 ?_
        refine rk_callv (va_runV (As := [.ref (B + (v0 + 86))]) (rest := []) X.1 (mX0_remember l D cy B (v0 + 101) (v0 + 86) s1 (klX_X10_5 h0) (klX_X10_4 h0) h) (cwV 1 hts (gW_V (wi_27 _ (List.mem_of_getElem? (i := 9) rfl)) (wi_27 _ (List.mem_of_getElem? (i := 10) rfl)) (wi_27 _ (List.mem_of_getElem? (i := 11) rfl)) (wi_20 _ (List.mem_of_getElem? (i := 17) rfl)) (wi_1 _ (List.mem_of_getElem? (i := 14) rfl))) rfl rfl rfl hd_X0_remember ⟨Nat.le_of_ble_eq_true rfl, Nat.le_of_ble_eq_true rfl⟩) (rk_preV X hS hP (klX_X10_5 h0) rfl rfl [.ref (B + (v0 + 86))]) rfl rfl hl.1 rfl (lv_room (Nat.le_of_ble_eq_true rfl)) dX10_scale_37 ⟨Nat.zero_le _, Nat.zero_le _⟩) hS (fun _ h => h) (fun s2 H locs h hP hS => ?_)
        refine lv_aload_n hx hb dX10_scale_40 rfl (lv_at hl 0 rfl) ?_
        refine rk_get X hP (C := RX10) (T := TX10) (N := 14) (ci := 10) wix_10 h0 rfl rfl 4 (by decide) (wi_20 _ (List.mem_of_getElem? (i := 14) rfl)) rfl rfl dX10_scale_41 ?_
        refine rk_get X hP (C := RX4) (T := TX4) (N := 4) (ci := 4) wix_4 (klX_X10_4 h0) rfl rfl 2 (by decide) (wi_25 _ (List.mem_of_getElem? (i := 12) rfl)) rfl rfl dX10_scale_44 ?_
        refine lv_iload_n hx hb dX10_scale_47 rfl (lv_at hl 1 rfl) ?_
        obtain ⟨b1, h⟩ := h
        refine rk_aald X hP (C := RX7) (n := 6) (t0 := 6) (d := 2) (r := 2) (klX_X4_2 (klX_X10_4 h0)) (fun _ _ => rfl) rfl b1 dX10_scale_48 ?_
        refine lv_iload_n hx hb dX10_scale_49 rfl (lv_at hl 2 rfl) ?_
        refine lv_aload_n hx hb dX10_scale_50 rfl (lv_at hl 0 rfl) ?_
        refine rk_get X hP (C := RX10) (T := TX10) (N := 14) (ci := 10) wix_10 h0 rfl rfl 2 (by decide) (wi_20 _ (List.mem_of_getElem? (i := 11) rfl)) rfl rfl dX10_scale_51 ?_
        obtain ⟨p2, ep2⟩ : ∃ z : Nat, z = (s2.1 v0 2).toNatClampNeg := ⟨_, rfl⟩
        rw [← ep2]
        obtain ⟨kp2, h⟩ := h p2 ep2
        refine rk_get X hP (C := RX9) (T := TX9) (N := 10) (ci := 9) wix_9 kp2 rfl rfl 0 (by decide) (wi_23 _ (List.mem_of_getElem? (i := 8) rfl)) rfl rfl dX10_scale_54 ?_
        refine rk_callv (va_runV (As := [.int v2, .int (s2.1 p2 0)]) (rest := []) X.1 (mX7_multiply l D cy B (((v0 + 86) + 1) + 2 + 2 * v1.toNatClampNeg) v2 (s2.1 p2 0) s2 (klX_14 (klX_X4_2 (klX_X10_4 h0)) (vp_lt b1)) h) (cwV 2 hts (gW_V (wi_27 _ (List.mem_of_getElem? (i := 20) rfl)) (wi_27 _ (List.mem_of_getElem? (i := 21) rfl)) (wi_27 _ (List.mem_of_getElem? (i := 22) rfl)) (wi_0 _ (List.mem_of_getElem? (i := 15) rfl)) (wi_17 _ (List.mem_of_getElem? (i := 5) rfl))) rfl rfl rfl hd_X7_multiply ⟨Nat.le_of_ble_eq_true rfl, Nat.le_of_ble_eq_true rfl⟩) (rk_preV X hS hP (klX_14 (klX_X4_2 (klX_X10_4 h0)) (vp_lt b1)) rfl rfl [.int v2, .int (s2.1 p2 0)]) rfl rfl hl.1 rfl (lv_room (Nat.le_of_ble_eq_true rfl)) dX10_scale_57 ⟨Nat.zero_le _, Nat.zero_le _⟩) hS (fun _ h => h) (fun s3 H locs h hP hS => ?_)
        refine lv_iconst (v := (1 : Int32)) hx hb dX10_scale_60 (by decide) ?_
        exact rk_zret X kX_len true h hP hS dX10_scale_61
      · have h := h.2 c3
        refine lv_iconst (v := (0 : Int32)) hx hb dX10_scale_27 (by decide) ?_
        exact rk_zret X kX_len false h hP hS dX10_scale_28

theorem hd_X10_swap : yX10_swap.cls = RX10 ∧ yX10_swap.cls ≠ "java/lang/invoke/MethodHandle" ∧ yX10_swap.cls ≠ "java/lang/invoke/VarHandle" ∧ (parseMethodDescriptor yX10_swap.desc).map (fun d => d.parameters.length) = some 3 := by decide +kernel
set_option maxRecDepth 100000 in
set_option maxHeartbeats 4000000 in
theorem mX10_swap (l : Launch) (D : va_G) (cy : Nat → ClassId) (B : Nat) (v0 : Nat) (v1 : Int32) (v2 : Int32) (v3 : Int32) (σ : St) (h0 : kX[v0]? = some 10) {post : Bool → St → Prop} (h : wX10_swap v0 v1 v2 v3 σ post) : Met l yX10_swap (Cond.code yX10_swap cX10_swap 4 (some .boolean) :: WALL) (rmD 5) (PcW D cy B kX σ [.ref (B + v0), .int v1, .int v2, .int v3]) (Qz post D cy B kX 346) 0 0 (AW B 346) := by
  refine Met.ofK (cc := cX10_swap) (maxL := 4) (ret := (some .boolean)) (by decide +kernel) rfl kX_len ?_
  intro p e s m below meth c X hP
  obtain ⟨⟨hx, hb, hml, hown, hts⟩, hr, hlk, hK, hN, hZ⟩ := id X
  have hD : ∀ σ, va_D (AW B 346) (wW cy B kX σ) := AW_D kX_len
  have hS : va_S (AW B 346) s.heap s.heap [] := va_S.rf
  have hl := lv_entry ([.ref (B + v0), .int v1, .int v2, .int v3]) (n := 4) (Nat.le_of_ble_eq_true rfl)
  rw [lg_entry_eq]
  generalize (lg_sl ([.ref (B + v0), .int v1, .int v2, .int v3]) ++ List.replicate (4 - (lg_sl ([.ref (B + v0), .int v1, .int v2, .int v3])).length) Slot.unset).toArray = ls at hl ⊢
  have hl : lv_has ls 4 [(0, .ref (B + v0)), (1, .int v1), (2, .int v2), (3, .int v3)] := hl
  unfold wX10_swap at h
  refine lv_aload_n hx hb dX10_swap_0 rfl (lv_at hl 0 rfl) ?_
  refine rk_get X hP (C := RX10) (T := TX10) (N := 14) (ci := 10) wix_10 h0 rfl rfl 4 (by decide) (wi_20 _ (List.mem_of_getElem? (i := 14) rfl)) rfl rfl dX10_swap_1 ?_
  refine lv_iload_n hx hb dX10_swap_4 rfl (lv_at hl 1 rfl) ?_
  refine lv_iload_n hx hb dX10_swap_5 rfl (lv_at hl 2 rfl) ?_
  refine rk_callz (va_runV (As := [.int v1, .int v2]) (rest := []) X.1 (mX4_hasLeg l D cy B (v0 + 86) v1 v2 σ (klX_X10_4 h0) h) (cwV 2 hts (gW_V (wi_28 _ (List.mem_of_getElem? (i := 0) rfl)) (wi_5 _ (List.mem_of_getElem? (i := 10) rfl)) (wi_5 _ (List.mem_of_getElem? (i := 11) rfl)) (wi_0 _ (List.mem_of_getElem? (i := 23) rfl)) (wi_4 _ (List.mem_of_getElem? (i := 23) rfl))) rfl rfl rfl hd_X4_hasLeg ⟨Nat.le_of_ble_eq_true rfl, Nat.le_of_ble_eq_true rfl⟩) (rk_preV X hS hP (klX_X10_4 h0) rfl rfl [.int v1, .int v2]) rfl rfl hl.1 rfl (lv_room (Nat.le_of_ble_eq_true rfl)) dX10_swap_6 ⟨Nat.zero_le _, Nat.zero_le _⟩) hS (fun _ h => h) (fun r1 s1 H locs h hP hS => ?_)
  refine lv_if_eq (tgt := 29) hx hb dX10_swap_9 (by decide) (fun c1 => ?_) (fun c1 => ?_)
  · have h := h.1 (b2i_f c1)
    refine lv_iconst (v := (0 : Int32)) hx hb dX10_swap_29 (by decide) ?_
    exact rk_zret X kX_len false h hP hS dX10_swap_30
  · have h := h.2 (b2i_t c1)
    refine lv_aload_n hx hb dX10_swap_12 rfl (lv_at hl 0 rfl) ?_
    refine rk_get X hP (C := RX10) (T := TX10) (N := 14) (ci := 10) wix_10 h0 rfl rfl 4 (by decide) (wi_20 _ (List.mem_of_getElem? (i := 14) rfl)) rfl rfl dX10_swap_13 ?_
    refine lv_iload_n hx hb dX10_swap_16 rfl (lv_at hl 1 rfl) ?_
    refine lv_iload_n hx hb dX10_swap_17 rfl (lv_at hl 3 rfl) ?_
    refine rk_callz (va_runV (As := [.int v1, .int v3]) (rest := []) X.1 (mX4_hasLeg l D cy B (v0 + 86) v1 v3 s1 (klX_X10_4 h0) h) (cwV 2 hts (gW_V (wi_28 _ (List.mem_of_getElem? (i := 0) rfl)) (wi_5 _ (List.mem_of_getElem? (i := 10) rfl)) (wi_5 _ (List.mem_of_getElem? (i := 11) rfl)) (wi_0 _ (List.mem_of_getElem? (i := 23) rfl)) (wi_4 _ (List.mem_of_getElem? (i := 23) rfl))) rfl rfl rfl hd_X4_hasLeg ⟨Nat.le_of_ble_eq_true rfl, Nat.le_of_ble_eq_true rfl⟩) (rk_preV X hS hP (klX_X10_4 h0) rfl rfl [.int v1, .int v3]) rfl rfl hl.1 rfl (lv_room (Nat.le_of_ble_eq_true rfl)) dX10_swap_18 ⟨Nat.zero_le _, Nat.zero_le _⟩) hS (fun _ h => h) (fun r2 s2 H locs h hP hS => ?_)
    refine lv_if_eq (tgt := 29) hx hb dX10_swap_21 (by decide) (fun c2 => ?_) (fun c2 => ?_)
    · have h := h.1 (b2i_f c2)
      refine lv_iconst (v := (0 : Int32)) hx hb dX10_swap_29 (by decide) ?_
      exact rk_zret X kX_len false h hP hS dX10_swap_30
    · have h := h.2 (b2i_t c2)
      refine lv_iload_n hx hb dX10_swap_24 rfl (lv_at hl 2 rfl) ?_
      refine lv_iload_n hx hb dX10_swap_25 rfl (lv_at hl 3 rfl) ?_
      refine lv_icmp_ne (tgt := 31) hx hb dX10_swap_26 (by decide) (fun c3 => ?_) (fun c3 => ?_)
      · have h := h.1 c3
        refine lv_aload_n hx hb dX10_swap_31 rfl (lv_at hl 0 rfl) ?_
        refine rk_get X hP (C := RX10) (T := TX10) (N := 14) (ci := 10) wix_10 h0 rfl rfl 5 (by decide) (wi_20 _ (List.mem_of_getElem? (i := 18) rfl)) rfl rfl dX10_swap_32 ?_
        refine lv_aload_n hx hb dX10_swap_35 rfl (lv_at hl 0 rfl) ?_
        refine rk_get X hP (C := RX10) (T := TX10) (N := 14) (ci := 10) wix_10 h0 rfl rfl 4 (by decide) (wi_20 _ (List.mem_of_getElem? (i := 14) rfl)) rfl rfl dX10_swap_36 ?_
        refine rk_callv (va_runV (As := [.ref (B + (v0 + 86))]) (rest := []) X.1 (mX0_remember l D cy B (v0 + 101) (v0 + 86) s2 (klX_X10_5 h0) (klX_X10_4 h0) h) (cwV 1 hts (gW_V (wi_27 _ (List.mem_of_getElem? (i := 9) rfl)) (wi_27 _ (List.mem_of_getElem? (i := 10) rfl)) (wi_27 _ (List.mem_of_getElem? (i := 11) rfl)) (wi_20 _ (List.mem_of_getElem? (i := 17) rfl)) (wi_1 _ (List.mem_of_getElem? (i := 14) rfl))) rfl rfl rfl hd_X0_remember ⟨Nat.le_of_ble_eq_true rfl, Nat.le_of_ble_eq_true rfl⟩) (rk_preV X hS hP (klX_X10_5 h0) rfl rfl [.ref (B + (v0 + 86))]) rfl rfl hl.1 rfl (lv_room (Nat.le_of_ble_eq_true rfl)) dX10_swap_39 ⟨Nat.zero_le _, Nat.zero_le _⟩) hS (fun _ h => h) (fun s3 H locs h hP hS => ?_)
        refine lv_aload_n hx hb dX10_swap_42 rfl (lv_at hl 0 rfl) ?_
        refine rk_get X hP (C := RX10) (T := TX10) (N := 14) (ci := 10) wix_10 h0 rfl rfl 4 (by decide) (wi_20 _ (List.mem_of_getElem? (i := 14) rfl)) rfl rfl dX10_swap_43 ?_
        refine rk_get X hP (C := RX4) (T := TX4) (N := 4) (ci := 4) wix_4 (klX_X10_4 h0) rfl rfl 2 (by decide) (wi_25 _ (List.mem_of_getElem? (i := 12) rfl)) rfl rfl dX10_swap_46 ?_
        refine lv_iload_n hx hb dX10_swap_49 rfl (lv_at hl 1 rfl) ?_
        obtain ⟨b1, h⟩ := h
        refine rk_aald X hP (C := RX7) (n := 6) (t0 := 6) (d := 2) (r := 2) (klX_X4_2 (klX_X10_4 h0)) (fun _ _ => rfl) rfl b1 dX10_swap_50 ?_
        refine lv_iload_n hx hb dX10_swap_51 rfl (lv_at hl 2 rfl) ?_
        refine lv_iload_n hx hb dX10_swap_52 rfl (lv_at hl 3 rfl) ?_
        refine rk_callv (va_runV (As := [.int v2, .int v3]) (rest := []) X.1 (mX7_exchangeLegs l D cy B (((v0 + 86) + 1) + 2 + 2 * v1.toNatClampNeg) v2 v3 s3 (klX_14 (klX_X4_2 (klX_X10_4 h0)) (vp_lt b1)) h) (cwV 2 hts (gW_V (wi_28 _ (List.mem_of_getElem? (i := 1) rfl)) (wi_28 _ (List.mem_of_getElem? (i := 2) rfl)) (wi_28 _ (List.mem_of_getElem? (i := 3) rfl)) (wi_0 _ (List.mem_of_getElem? (i := 15) rfl)) (wi_17 _ (List.mem_of_getElem? (i := 6) rfl))) rfl rfl rfl hd_X7_exchangeLegs ⟨Nat.le_of_ble_eq_true rfl, Nat.le_of_ble_eq_true rfl⟩) (rk_preV X hS hP (klX_14 (klX_X4_2 (klX_X10_4 h0)) (vp_lt b1)) rfl rfl [.int v2, .int v3]) rfl rfl hl.1 rfl (lv_room (Nat.le_of_ble_eq_true rfl)) dX10_swap_53 ⟨Nat.zero_le _, Nat.zero_le _⟩) hS (fun _ h => h) (fun s4 H locs h hP hS => ?_)
        refine lv_iconst (v := (1 : Int32)) hx hb dX10_swap_56 (by decide) ?_
        exact rk_zret X kX_len true h hP hS dX10_swap_57
      · have h := h.2 c3
        refine lv_iconst (v := (0 : Int32)) hx hb dX10_swap_29 (by decide) ?_
        exact rk_zret X kX_len false h hP hS dX10_swap_30

theorem hd_X10_join : yX10_join.cls = RX10 ∧ yX10_join.cls ≠ "java/lang/invoke/MethodHandle" ∧ yX10_join.cls ≠ "java/lang/invoke/VarHandle" ∧ (parseMethodDescriptor yX10_join.desc).map (fun d => d.parameters.length) = some 4 := by decide +kernel
set_option maxRecDepth 100000 in
set_option maxHeartbeats 4000000 in
theorem mX10_join (l : Launch) (D : va_G) (cy : Nat → ClassId) (B : Nat) (v0 : Nat) (v1 : Int32) (v2 : Int32) (v3 : Int32) (v4 : Int32) (σ : St) (h0 : kX[v0]? = some 10) {post : Int32 → St → Prop} (h : wX10_join v0 v1 v2 v3 v4 σ post) : Met l yX10_join (Cond.code yX10_join cX10_join 7 (some .int) :: WALL) (rmD 5) (PcW D cy B kX σ [.ref (B + v0), .int v1, .int v2, .int v3, .int v4]) (va_Qi post (BW D cy B kX) (AW B 346)) 0 0 (AW B 346) := by
  refine Met.ofK (cc := cX10_join) (maxL := 7) (ret := (some .int)) (by decide +kernel) rfl kX_len ?_
  intro p e s m below meth c X hP
  obtain ⟨⟨hx, hb, hml, hown, hts⟩, hr, hlk, hK, hN, hZ⟩ := id X
  have hD : ∀ σ, va_D (AW B 346) (wW cy B kX σ) := AW_D kX_len
  have hS : va_S (AW B 346) s.heap s.heap [] := va_S.rf
  have hl := lv_entry ([.ref (B + v0), .int v1, .int v2, .int v3, .int v4]) (n := 7) (Nat.le_of_ble_eq_true rfl)
  rw [lg_entry_eq]
  generalize (lg_sl ([.ref (B + v0), .int v1, .int v2, .int v3, .int v4]) ++ List.replicate (7 - (lg_sl ([.ref (B + v0), .int v1, .int v2, .int v3, .int v4])).length) Slot.unset).toArray = ls at hl ⊢
  have hl : lv_has ls 7 [(0, .ref (B + v0)), (1, .int v1), (2, .int v2), (3, .int v3), (4, .int v4)] := hl
  unfold wX10_join at h
  refine lv_aload_n hx hb dX10_join_0 rfl (lv_at hl 0 rfl) ?_
  refine rk_get X hP (C := RX10) (T := TX10) (N := 14) (ci := 10) wix_10 h0 rfl rfl 4 (by decide) (wi_20 _ (List.mem_of_getElem? (i := 14) rfl)) rfl rfl dX10_join_1 ?_
  refine lv_iload_n hx hb dX10_join_4 rfl (lv_at hl 1 rfl) ?_
  refine lv_iload_n hx hb dX10_join_5 rfl (lv_at hl 2 rfl) ?_
  refine rk_callz (va_runV (As := [.int v1, .int v2]) (rest := []) X.1 (mX4_hasLeg l D cy B (v0 + 86) v1 v2 σ (klX_X10_4 h0) h) (cwV 2 hts (gW_V (wi_28 _ (List.mem_of_getElem? (i := 0) rfl)) (wi_5 _ (List.mem_of_getElem? (i := 10) rfl)) (wi_5 _ (List.mem_of_getElem? (i := 11) rfl)) (wi_0 _ (List.mem_of_getElem? (i := 23) rfl)) (wi_4 _ (List.mem_of_getElem? (i := 23) rfl))) rfl rfl rfl hd_X4_hasLeg ⟨Nat.le_of_ble_eq_true rfl, Nat.le_of_ble_eq_true rfl⟩) (rk_preV X hS hP (klX_X10_4 h0) rfl rfl [.int v1, .int v2]) rfl rfl hl.1 rfl (lv_room (Nat.le_of_ble_eq_true rfl)) dX10_join_6 ⟨Nat.zero_le _, Nat.zero_le _⟩) hS (fun _ h => h) (fun r1 s1 H locs h hP hS => ?_)
  refine lv_if_eq (tgt := 25) hx hb dX10_join_9 (by decide) (fun c1 => ?_) (fun c1 => ?_)
  · have h := h.1 (b2i_f c1)
    refine lv_iconst (v := (-1 : Int32)) hx hb dX10_join_25 (by decide) ?_
    exact rk_iret X rfl kX_len h hP hS dX10_join_26
  · have h := h.2 (b2i_t c1)
    refine lv_aload_n hx hb dX10_join_12 rfl (lv_at hl 0 rfl) ?_
    refine rk_get X hP (C := RX10) (T := TX10) (N := 14) (ci := 10) wix_10 h0 rfl rfl 4 (by decide) (wi_20 _ (List.mem_of_getElem? (i := 14) rfl)) rfl rfl dX10_join_13 ?_
    refine lv_iload_n hx hb dX10_join_16 rfl (lv_at hl 3 rfl) ?_
    refine lv_iload hx hb dX10_join_17 (lv_at hl 4 rfl) ?_
    refine rk_callz (va_runV (As := [.int v3, .int v4]) (rest := []) X.1 (mX4_hasLeg l D cy B (v0 + 86) v3 v4 s1 (klX_X10_4 h0) h) (cwV 2 hts (gW_V (wi_28 _ (List.mem_of_getElem? (i := 0) rfl)) (wi_5 _ (List.mem_of_getElem? (i := 10) rfl)) (wi_5 _ (List.mem_of_getElem? (i := 11) rfl)) (wi_0 _ (List.mem_of_getElem? (i := 23) rfl)) (wi_4 _ (List.mem_of_getElem? (i := 23) rfl))) rfl rfl rfl hd_X4_hasLeg ⟨Nat.le_of_ble_eq_true rfl, Nat.le_of_ble_eq_true rfl⟩) (rk_preV X hS hP (klX_X10_4 h0) rfl rfl [.int v3, .int v4]) rfl rfl hl.1 rfl (lv_room (Nat.le_of_ble_eq_true rfl)) dX10_join_19 ⟨Nat.zero_le _, Nat.zero_le _⟩) hS (fun _ h => h) (fun r2 s2 H locs h hP hS => ?_)
    refine lv_if_ne (tgt := 27) hx hb dX10_join_22 (by decide) (fun c2 => ?_) (fun c2 => ?_)
    · have h := h.1 (b2i_t c2)
      refine lv_iconst (v := (4 : Int32)) hx hb dX10_join_27 (by decide) ?_
      refine lv_iload_n hx hb dX10_join_28 rfl (lv_at hl 1 rfl) ?_
      refine lv_imul hx hb dX10_join_29 ?_
      refine lv_iload_n hx hb dX10_join_30 rfl (lv_at hl 2 rfl) ?_
      refine lv_iadd hx hb dX10_join_31 ?_
      refine lv_topi (fun x1 ex1 => ?_)
      have h := h x1 ex1
      refine lv_istore (lv' := [(5, .int x1), (0, .ref (B + v0)), (1, .int v1), (2, .int v2), (3, .int v3), (4, .int v4)]) hx hb dX10_join_32 hl (by decide) rfl (fun ls hl => ?_)
      refine lv_iconst (v := (4 : Int32)) hx hb dX10_join_34 (by decide) ?_
      refine lv_iload_n hx hb dX10_join_35 rfl (lv_at hl 4 rfl) ?_
      refine lv_imul hx hb dX10_join_36 ?_
      refine lv_iload hx hb dX10_join_37 (lv_at hl 5 rfl) ?_
      refine lv_iadd hx hb dX10_join_39 ?_
      refine lv_topi (fun x2 ex2 => ?_)
      have h := h x2 ex2
      refine lv_istore (lv' := [(6, .int x2), (5, .int x1), (0, .ref (B + v0)), (1, .int v1), (2, .int v2), (3, .int v3), (4, .int v4)]) hx hb dX10_join_40 hl (by decide) rfl (fun ls hl => ?_)
      refine lv_iload hx hb dX10_join_42 (lv_at hl 1 rfl) ?_
      refine lv_iload hx hb dX10_join_44 (lv_at hl 0 rfl) ?_
      refine lv_icmp_eq (tgt := 85) hx hb dX10_join_46 (by decide) (fun c3 => ?_) (fun c3 => ?_)
      · have h := h.1 c3
        refine lv_iconst (v := (-1 : Int32)) hx hb dX10_join_85 (by decide) ?_
        exact rk_iret X rfl kX_len h hP hS dX10_join_86
      · have h := h.2 c3
        refine lv_aload_n hx hb dX10_join_49 rfl (lv_at hl 2 rfl) ?_
        refine rk_get X hP (C := RX10) (T := TX10) (N := 14) (ci := 10) wix_10 h0 rfl rfl 4 (by decide) (wi_20 _ (List.mem_of_getElem? (i := 14) rfl)) rfl rfl dX10_join_50 ?_
        refine lv_iload hx hb dX10_join_53 (lv_at hl 1 rfl) ?_
        refine rk_callz (va_runV (As := [.int x1]) (rest := []) X.1 (mX4_hasWireAt l D cy B (v0 + 86) x1 s2 (klX_X10_4 h0) h) (cwV 1 hts (gW_V (wi_28 _ (List.mem_of_getElem? (i := 6) rfl)) (wi_5 _ (List.mem_of_getElem? (i := 13) rfl)) (wi_5 _ (List.mem_of_getElem? (i := 14) rfl)) (wi_0 _ (List.mem_of_getElem? (i := 23) rfl)) (wi_5 _ (List.mem_of_getElem? (i := 5) rfl))) rfl rfl rfl hd_X4_hasWireAt ⟨Nat.le_of_ble_eq_true rfl, Nat.le_of_ble_eq_true rfl⟩) (rk_preV X hS hP (klX_X10_4 h0) rfl rfl [.int x1]) rfl rfl hl.1 rfl (lv_room (Nat.le_of_ble_eq_true rfl)) dX10_join_55 ⟨Nat.zero_le _, Nat.zero_le _⟩) hS (fun _ h => h) (fun r3 s3 H locs h hP hS => ?_)
        refine lv_if_ne (tgt := 85) hx hb dX10_join_58 (by decide) (fun c4 => ?_) (fun c4 => ?_)
        · have h := h.1 (b2i_t c4)
          refine lv_iconst (v := (-1 : Int32)) hx hb dX10_join_85 (by decide) ?_
          exact rk_iret X rfl kX_len h hP hS dX10_join_86
        · have h := h.2 (b2i_f c4)
          refine lv_aload_n hx hb dX10_join_61 rfl (lv_at hl 2 rfl) ?_
          refine rk_get X hP (C := RX10) (T := TX10) (N := 14) (ci := 10) wix_10 h0 rfl rfl 4 (by decide) (wi_20 _ (List.mem_of_getElem? (i := 14) rfl)) rfl rfl dX10_join_62 ?_
          refine lv_iload hx hb dX10_join_65 (lv_at hl 0 rfl) ?_
          refine rk_callz (va_runV (As := [.int x2]) (rest := []) X.1 (mX4_hasWireAt l D cy B (v0 + 86) x2 s3 (klX_X10_4 h0) h) (cwV 1 hts (gW_V (wi_28 _ (List.mem_of_getElem? (i := 6) rfl)) (wi_5 _ (List.mem_of_getElem? (i := 13) rfl)) (wi_5 _ (List.mem_of_getElem? (i := 14) rfl)) (wi_0 _ (List.mem_of_getElem? (i := 23) rfl)) (wi_5 _ (List.mem_of_getElem? (i := 5) rfl))) rfl rfl rfl hd_X4_hasWireAt ⟨Nat.le_of_ble_eq_true rfl, Nat.le_of_ble_eq_true rfl⟩) (rk_preV X hS hP (klX_X10_4 h0) rfl rfl [.int x2]) rfl rfl hl.1 rfl (lv_room (Nat.le_of_ble_eq_true rfl)) dX10_join_67 ⟨Nat.zero_le _, Nat.zero_le _⟩) hS (fun _ h => h) (fun r4 s4 H locs h hP hS => ?_)
          refine lv_if_ne (tgt := 85) hx hb dX10_join_70 (by decide) (fun c5 => ?_) (fun c5 => ?_)
          · have h := h.1 (b2i_t c5)
            refine lv_iconst (v := (-1 : Int32)) hx hb dX10_join_85 (by decide) ?_
            exact rk_iret X rfl kX_len h hP hS dX10_join_86
          · have h := h.2 (b2i_f c5)
            refine lv_aload_n hx hb dX10_join_73 rfl (lv_at hl 2 rfl) ?_
            refine rk_get X hP (C := RX10) (T := TX10) (N := 14) (ci := 10) wix_10 h0 rfl rfl 4 (by decide) (wi_20 _ (List.mem_of_getElem? (i := 14) rfl)) rfl rfl dX10_join_74 ?_
            refine rk_get X hP (C := RX4) (T := TX4) (N := 4) (ci := 4) wix_4 (klX_X10_4 h0) rfl rfl 1 (by decide) (wi_28 _ (List.mem_of_getElem? (i := 5) rfl)) rfl rfl dX10_join_77 ?_
            refine lv_bipush (v := (10 : Int32)) hx hb dX10_join_80 (by decide) ?_
            refine lv_icmp_lt (tgt := 87) hx hb dX10_join_82 (by decide) (fun c6 => ?_) (fun c6 => ?_)
            · have h := h.1 c6
              refine lv_aload_n hx hb dX10_join_87 rfl (lv_at hl 2 rfl) ?_
              refine rk_get X hP (C := RX10) (T := TX10) (N := 14) (ci := 10) wix_10 h0 rfl rfl 5 (by decide) (wi_20 _ (List.mem_of_getElem? (i := 18) rfl)) rfl rfl dX10_join_88 ?_
              refine lv_aload_n hx hb dX10_join_91 rfl (lv_at hl 2 rfl) ?_
              refine rk_get X hP (C := RX10) (T := TX10) (N := 14) (ci := 10) wix_10 h0 rfl rfl 4 (by decide) (wi_20 _ (List.mem_of_getElem? (i := 14) rfl)) rfl rfl dX10_join_92 ?_
              refine rk_callv (va_runV (As := [.ref (B + (v0 + 86))]) (rest := []) X.1 (mX0_remember l D cy B (v0 + 101) (v0 + 86) s4 (klX_X10_5 h0) (klX_X10_4 h0) h) (cwV 1 hts (gW_V (wi_27 _ (List.mem_of_getElem? (i := 9) rfl)) (wi_27 _ (List.mem_of_getElem? (i := 10) rfl)) (wi_27 _ (List.mem_of_getElem? (i := 11) rfl)) (wi_20 _ (List.mem_of_getElem? (i := 17) rfl)) (wi_1 _ (List.mem_of_getElem? (i := 14) rfl))) rfl rfl rfl hd_X0_remember ⟨Nat.le_of_ble_eq_true rfl, Nat.le_of_ble_eq_true rfl⟩) (rk_preV X hS hP (klX_X10_5 h0) rfl rfl [.ref (B + (v0 + 86))]) rfl rfl hl.1 rfl (lv_room (Nat.le_of_ble_eq_true rfl)) dX10_join_95 ⟨Nat.zero_le _, Nat.zero_le _⟩) hS (fun _ h => h) (fun s5 H locs h hP hS => ?_)
              refine lv_aload_n hx hb dX10_join_98 rfl (lv_at hl 2 rfl) ?_
              refine rk_get X hP (C := RX10) (T := TX10) (N := 14) (ci := 10) wix_10 h0 rfl rfl 4 (by decide) (wi_20 _ (List.mem_of_getElem? (i := 14) rfl)) rfl rfl dX10_join_99 ?_
              refine lv_iload hx hb dX10_join_102 (lv_at hl 1 rfl) ?_
              refine lv_iload hx hb dX10_join_104 (lv_at hl 0 rfl) ?_
              refine rk_callv (va_runV (As := [.int x1, .int x2]) (rest := []) X.1 (mX4_addWire l D cy B (v0 + 86) x1 x2 s5 (klX_X10_4 h0) h) (cwV 2 hts (gW_V (wi_28 _ (List.mem_of_getElem? (i := 7) rfl)) (wi_15 _ (List.mem_of_getElem? (i := 1) rfl)) (wi_15 _ (List.mem_of_getElem? (i := 2) rfl)) (wi_0 _ (List.mem_of_getElem? (i := 23) rfl)) (wi_5 _ (List.mem_of_getElem? (i := 21) rfl))) rfl rfl rfl hd_X4_addWire ⟨Nat.le_of_ble_eq_true rfl, Nat.le_of_ble_eq_true rfl⟩) (rk_preV X hS hP (klX_X10_4 h0) rfl rfl [.int x1, .int x2]) rfl rfl hl.1 rfl (lv_room (Nat.le_of_ble_eq_true rfl)) dX10_join_106 ⟨Nat.zero_le _, Nat.zero_le _⟩) hS (fun _ h => h) (fun s6 H locs h hP hS => ?_)
              refine lv_aload_n hx hb dX10_join_109 rfl (lv_at hl 2 rfl) ?_
              refine rk_get X hP (C := RX10) (T := TX10) (N := 14) (ci := 10) wix_10 h0 rfl rfl 4 (by decide) (wi_20 _ (List.mem_of_getElem? (i := 14) rfl)) rfl rfl dX10_join_110 ?_
              refine rk_get X hP (C := RX4) (T := TX4) (N := 4) (ci := 4) wix_4 (klX_X10_4 h0) rfl rfl 1 (by decide) (wi_28 _ (List.mem_of_getElem? (i := 5) rfl)) rfl rfl dX10_join_113 ?_
              refine lv_iconst (v := (1 : Int32)) hx hb dX10_join_116 (by decide) ?_
              refine lv_isub hx hb dX10_join_117 ?_
              exact rk_iret X rfl kX_len h hP hS dX10_join_118
            · have h := h.2 c6
              refine lv_iconst (v := (-1 : Int32)) hx hb dX10_join_85 (by decide) ?_
              exact rk_iret X rfl kX_len h hP hS dX10_join_86
    · have h := h.2 (b2i_f c2)
      refine lv_iconst (v := (-1 : Int32)) hx hb dX10_join_25 (by decide) ?_
      exact rk_iret X rfl kX_len h hP hS dX10_join_26

theorem hd_X10_cut : yX10_cut.cls = RX10 ∧ yX10_cut.cls ≠ "java/lang/invoke/MethodHandle" ∧ yX10_cut.cls ≠ "java/lang/invoke/VarHandle" ∧ (parseMethodDescriptor yX10_cut.desc).map (fun d => d.parameters.length) = some 1 := by decide +kernel
set_option maxRecDepth 100000 in
set_option maxHeartbeats 4000000 in
theorem mX10_cut (l : Launch) (D : va_G) (cy : Nat → ClassId) (B : Nat) (v0 : Nat) (v1 : Int32) (σ : St) (h0 : kX[v0]? = some 10) {post : Int32 → St → Prop} (h : wX10_cut v0 v1 σ post) : Met l yX10_cut (Cond.code yX10_cut cX10_cut 2 (some .int) :: WALL) (rmD 5) (PcW D cy B kX σ [.ref (B + v0), .int v1]) (va_Qi post (BW D cy B kX) (AW B 346)) 0 0 (AW B 346) := by
  refine Met.ofK (cc := cX10_cut) (maxL := 2) (ret := (some .int)) (by decide +kernel) rfl kX_len ?_
  intro p e s m below meth c X hP
  obtain ⟨⟨hx, hb, hml, hown, hts⟩, hr, hlk, hK, hN, hZ⟩ := id X
  have hD : ∀ σ, va_D (AW B 346) (wW cy B kX σ) := AW_D kX_len
  have hS : va_S (AW B 346) s.heap s.heap [] := va_S.rf
  have hl := lv_entry ([.ref (B + v0), .int v1]) (n := 2) (Nat.le_of_ble_eq_true rfl)
  rw [lg_entry_eq]
  generalize (lg_sl ([.ref (B + v0), .int v1]) ++ List.replicate (2 - (lg_sl ([.ref (B + v0), .int v1])).length) Slot.unset).toArray = ls at hl ⊢
  have hl : lv_has ls 2 [(0, .ref (B + v0)), (1, .int v1)] := hl
  unfold wX10_cut at h
  refine lv_aload_n hx hb dX10_cut_0 rfl (lv_at hl 0 rfl) ?_
  refine rk_get X hP (C := RX10) (T := TX10) (N := 14) (ci := 10) wix_10 h0 rfl rfl 4 (by decide) (wi_20 _ (List.mem_of_getElem? (i := 14) rfl)) rfl rfl dX10_cut_1 ?_
  refine lv_iload_n hx hb dX10_cut_4 rfl (lv_at hl 1 rfl) ?_
  refine rk_callz (va_runV (As := [.int v1]) (rest := []) X.1 (mX4_hasWire l D cy B (v0 + 86) v1 σ (klX_X10_4 h0) h) (cwV 1 hts (gW_V (wi_25 _ (List.mem_of_getElem? (i := 16) rfl)) (wi_25 _ (List.mem_of_getElem? (i := 17) rfl)) (wi_25 _ (List.mem_of_getElem? (i := 18) rfl)) (wi_0 _ (List.mem_of_getElem? (i := 23) rfl)) (wi_5 _ (List.mem_of_getElem? (i := 4) rfl))) rfl rfl rfl hd_X4_hasWire ⟨Nat.le_of_ble_eq_true rfl, Nat.le_of_ble_eq_true rfl⟩) (rk_preV X hS hP (klX_X10_4 h0) rfl rfl [.int v1]) rfl rfl hl.1 rfl (lv_room (Nat.le_of_ble_eq_true rfl)) dX10_cut_5 ⟨Nat.zero_le _, Nat.zero_le _⟩) hS (fun _ h => h) (fun r1 s1 H locs h hP hS => ?_)
  refine lv_if_ne (tgt := 13) hx hb dX10_cut_8 (by decide) (fun c1 => ?_) (fun c1 => ?_)
  · have h := h.1 (b2i_t c1)
    refine lv_aload_n hx hb dX10_cut_13 rfl (lv_at hl 0 rfl) ?_
    refine rk_get X hP (C := RX10) (T := TX10) (N := 14) (ci := 10) wix_10 h0 rfl rfl 5 (by decide) (wi_20 _ (List.mem_of_getElem? (i := 18) rfl)) rfl rfl dX10_cut_14 ?_
    refine lv_aload_n hx hb dX10_cut_17 rfl (lv_at hl 0 rfl) ?_
    refine rk_get X hP (C := RX10) (T := TX10) (N := 14) (ci := 10) wix_10 h0 rfl rfl 4 (by decide) (wi_20 _ (List.mem_of_getElem? (i := 14) rfl)) rfl rfl dX10_cut_18 ?_
    refine rk_callv (va_runV (As := [.ref (B + (v0 + 86))]) (rest := []) X.1 (mX0_remember l D cy B (v0 + 101) (v0 + 86) s1 (klX_X10_5 h0) (klX_X10_4 h0) h) (cwV 1 hts (gW_V (wi_27 _ (List.mem_of_getElem? (i := 9) rfl)) (wi_27 _ (List.mem_of_getElem? (i := 10) rfl)) (wi_27 _ (List.mem_of_getElem? (i := 11) rfl)) (wi_20 _ (List.mem_of_getElem? (i := 17) rfl)) (wi_1 _ (List.mem_of_getElem? (i := 14) rfl))) rfl rfl rfl hd_X0_remember ⟨Nat.le_of_ble_eq_true rfl, Nat.le_of_ble_eq_true rfl⟩) (rk_preV X hS hP (klX_X10_5 h0) rfl rfl [.ref (B + (v0 + 86))]) rfl rfl hl.1 rfl (lv_room (Nat.le_of_ble_eq_true rfl)) dX10_cut_21 ⟨Nat.zero_le _, Nat.zero_le _⟩) hS (fun _ h => h) (fun s2 H locs h hP hS => ?_)
    refine lv_aload_n hx hb dX10_cut_24 rfl (lv_at hl 0 rfl) ?_
    refine rk_get X hP (C := RX10) (T := TX10) (N := 14) (ci := 10) wix_10 h0 rfl rfl 4 (by decide) (wi_20 _ (List.mem_of_getElem? (i := 14) rfl)) rfl rfl dX10_cut_25 ?_
    refine lv_iload_n hx hb dX10_cut_28 rfl (lv_at hl 1 rfl) ?_
    refine rk_callv (va_runV (As := [.int v1]) (rest := []) X.1 (mX4_removeWire l D cy B (v0 + 86) v1 s2 (klX_X10_4 h0) h) (cwV 1 hts (gW_V (wi_28 _ (List.mem_of_getElem? (i := 9) rfl)) (wi_28 _ (List.mem_of_getElem? (i := 10) rfl)) (wi_28 _ (List.mem_of_getElem? (i := 11) rfl)) (wi_0 _ (List.mem_of_getElem? (i := 23) rfl)) (wi_5 _ (List.mem_of_getElem? (i := 22) rfl))) rfl rfl rfl hd_X4_removeWire ⟨Nat.le_of_ble_eq_true rfl, Nat.le_of_ble_eq_true rfl⟩) (rk_preV X hS hP (klX_X10_4 h0) rfl rfl [.int v1]) rfl rfl hl.1 rfl (lv_room (Nat.le_of_ble_eq_true rfl)) dX10_cut_29 ⟨Nat.zero_le _, Nat.zero_le _⟩) hS (fun _ h => h) (fun s3 H locs h hP hS => ?_)
    refine lv_aload_n hx hb dX10_cut_32 rfl (lv_at hl 0 rfl) ?_
    refine rk_get X hP (C := RX10) (T := TX10) (N := 14) (ci := 10) wix_10 h0 rfl rfl 4 (by decide) (wi_20 _ (List.mem_of_getElem? (i := 14) rfl)) rfl rfl dX10_cut_33 ?_
    refine rk_get X hP (C := RX4) (T := TX4) (N := 4) (ci := 4) wix_4 (klX_X10_4 h0) rfl rfl 1 (by decide) (wi_28 _ (List.mem_of_getElem? (i := 5) rfl)) rfl rfl dX10_cut_36 ?_
    exact rk_iret X rfl kX_len h hP hS dX10_cut_39
  · have h := h.2 (b2i_f c1)
    refine lv_iconst (v := (-1 : Int32)) hx hb dX10_cut_11 (by decide) ?_
    exact rk_iret X rfl kX_len h hP hS dX10_cut_12

theorem hd_X10_undo : yX10_undo.cls = RX10 ∧ yX10_undo.cls ≠ "java/lang/invoke/MethodHandle" ∧ yX10_undo.cls ≠ "java/lang/invoke/VarHandle" ∧ (parseMethodDescriptor yX10_undo.desc).map (fun d => d.parameters.length) = some 0 := by decide +kernel
set_option maxRecDepth 100000 in
set_option maxHeartbeats 4000000 in
theorem mX10_undo (l : Launch) (D : va_G) (cy : Nat → ClassId) (B : Nat) (v0 : Nat) (σ : St) (h0 : kX[v0]? = some 10) {post : Int32 → St → Prop} (h : wX10_undo v0 σ post) : Met l yX10_undo (Cond.code yX10_undo cX10_undo 1 (some .int) :: WALL) (rmD 5) (PcW D cy B kX σ [.ref (B + v0)]) (va_Qi post (BW D cy B kX) (AW B 346)) 0 0 (AW B 346) := by
  refine Met.ofK (cc := cX10_undo) (maxL := 1) (ret := (some .int)) (by decide +kernel) rfl kX_len ?_
  intro p e s m below meth c X hP
  obtain ⟨⟨hx, hb, hml, hown, hts⟩, hr, hlk, hK, hN, hZ⟩ := id X
  have hD : ∀ σ, va_D (AW B 346) (wW cy B kX σ) := AW_D kX_len
  have hS : va_S (AW B 346) s.heap s.heap [] := va_S.rf
  have hl := lv_entry ([.ref (B + v0)]) (n := 1) (Nat.le_of_ble_eq_true rfl)
  rw [lg_entry_eq]
  generalize (lg_sl ([.ref (B + v0)]) ++ List.replicate (1 - (lg_sl ([.ref (B + v0)])).length) Slot.unset).toArray = ls at hl ⊢
  have hl : lv_has ls 1 [(0, .ref (B + v0))] := hl
  unfold wX10_undo at h
  refine lv_aload_n hx hb dX10_undo_0 rfl (lv_at hl 0 rfl) ?_
  refine rk_get X hP (C := RX10) (T := TX10) (N := 14) (ci := 10) wix_10 h0 rfl rfl 5 (by decide) (wi_20 _ (List.mem_of_getElem? (i := 18) rfl)) rfl rfl dX10_undo_1 ?_
  refine rk_get X hP (C := RX0) (T := TX0) (N := 3) (ci := 0) wix_0 (klX_X10_5 h0) rfl rfl 0 (by decide) (wi_28 _ (List.mem_of_getElem? (i := 13) rfl)) rfl rfl dX10_undo_4 ?_
  refine lv_if_ne (tgt := 12) hx hb dX10_undo_7 (by decide) (fun c1 => ?_) (fun c1 => ?_)
  · have h := h.1 c1
    refine lv_aload_n hx hb dX10_undo_12 rfl (lv_at hl 0 rfl) ?_
    refine rk_get X hP (C := RX10) (T := TX10) (N := 14) (ci := 10) wix_10 h0 rfl rfl 5 (by decide) (wi_20 _ (List.mem_of_getElem? (i := 18) rfl)) rfl rfl dX10_undo_13 ?_
    refine lv_aload_n hx hb dX10_undo_16 rfl (lv_at hl 0 rfl) ?_
    refine rk_get X hP (C := RX10) (T := TX10) (N := 14) (ci := 10) wix_10 h0 rfl rfl 4 (by decide) (wi_20 _ (List.mem_of_getElem? (i := 14) rfl)) rfl rfl dX10_undo_17 ?_
    refine rk_callv (va_runV (As := [.ref (B + (v0 + 86))]) (rest := []) X.1 (mX0_restore l D cy B (v0 + 101) (v0 + 86) σ (klX_X10_5 h0) (klX_X10_4 h0) h) (cwV 1 hts (gW_V (wi_28 _ (List.mem_of_getElem? (i := 14) rfl)) (wi_28 _ (List.mem_of_getElem? (i := 15) rfl)) (wi_28 _ (List.mem_of_getElem? (i := 16) rfl)) (wi_20 _ (List.mem_of_getElem? (i := 17) rfl)) (wi_1 _ (List.mem_of_getElem? (i := 18) rfl))) rfl rfl rfl hd_X0_restore ⟨Nat.le_of_ble_eq_true rfl, Nat.le_of_ble_eq_true rfl⟩) (rk_preV X hS hP (klX_X10_5 h0) rfl rfl [.ref (B + (v0 + 86))]) rfl rfl hl.1 rfl (lv_room (Nat.le_of_ble_eq_true rfl)) dX10_undo_20 ⟨Nat.zero_le _, Nat.zero_le _⟩) hS (fun _ h => h) (fun s1 H locs h hP hS => ?_)
    refine lv_aload_n hx hb dX10_undo_23 rfl (lv_at hl 0 rfl) ?_
    refine rk_get X hP (C := RX10) (T := TX10) (N := 14) (ci := 10) wix_10 h0 rfl rfl 5 (by decide) (wi_20 _ (List.mem_of_getElem? (i := 18) rfl)) rfl rfl dX10_undo_24 ?_
    refine rk_get X hP (C := RX0) (T := TX0) (N := 3) (ci := 0) wix_0 (klX_X10_5 h0) rfl rfl 0 (by decide) (wi_28 _ (List.mem_of_getElem? (i := 13) rfl)) rfl rfl dX10_undo_27 ?_
    exact rk_iret X rfl kX_len h hP hS dX10_undo_30
  · have h := h.2 c1
    refine lv_iconst (v := (-1 : Int32)) hx hb dX10_undo_10 (by decide) ?_
    exact rk_iret X rfl kX_len h hP hS dX10_undo_11

theorem hd_X10_keep : yX10_keep.cls = RX10 ∧ yX10_keep.cls ≠ "java/lang/invoke/MethodHandle" ∧ yX10_keep.cls ≠ "java/lang/invoke/VarHandle" ∧ (parseMethodDescriptor yX10_keep.desc).map (fun d => d.parameters.length) = some 2 := by decide +kernel
set_option maxRecDepth 100000 in
set_option maxHeartbeats 4000000 in
theorem mX10_keep (l : Launch) (D : va_G) (cy : Nat → ClassId) (B : Nat) (v0 : Nat) (v1 : Int32) (v2 : Int32) (σ : St) (h0 : kX[v0]? = some 10) {post : Bool → St → Prop} (h : wX10_keep v0 v1 v2 σ post) : Met l yX10_keep (Cond.code yX10_keep cX10_keep 3 (some .boolean) :: WALL) (rmD 4) (PcW D cy B kX σ [.ref (B + v0), .int v1, .int v2]) (Qz post D cy B kX 346) 0 0 (AW B 346) := by
  refine Met.ofK (cc := cX10_keep) (maxL := 3) (ret := (some .boolean)) (by decide +kernel) rfl kX_len ?_
  intro p e s m below meth c X hP
  obtain ⟨⟨hx, hb, hml, hown, hts⟩, hr, hlk, hK, hN, hZ⟩ := id X
  have hD : ∀ σ, va_D (AW B 346) (wW cy B kX σ) := AW_D kX_len
  have hS : va_S (AW B 346) s.heap s.heap [] := va_S.rf
  have hl := lv_entry ([.ref (B + v0), .int v1, .int v2]) (n := 3) (Nat.le_of_ble_eq_true rfl)
  rw [lg_entry_eq]
  generalize (lg_sl ([.ref (B + v0), .int v1, .int v2]) ++ List.replicate (3 - (lg_sl ([.ref (B + v0), .int v1, .int v2])).length) Slot.unset).toArray = ls at hl ⊢
  have hl : lv_has ls 3 [(0, .ref (B + v0)), (1, .int v1), (2, .int v2)] := hl
  unfold wX10_keep at h
  refine lv_iload_n hx hb dX10_keep_0 rfl (lv_at hl 1 rfl) ?_
  refine lv_if_lt (tgt := 9) hx hb dX10_keep_1 (by decide) (fun c1 => ?_) (fun c1 => ?_)
  · have h := h.1 c1
    refine lv_iconst (v := (0 : Int32)) hx hb dX10_keep_9 (by decide) ?_
    exact rk_zret X kX_len false h hP hS dX10_keep_10
  · have h := h.2 c1
    refine lv_iload_n hx hb dX10_keep_4 rfl (lv_at hl 1 rfl) ?_
    refine lv_iconst (v := (2 : Int32)) hx hb dX10_keep_5 (by decide) ?_
    refine lv_icmp_lt (tgt := 11) hx hb dX10_keep_6 (by decide) (fun c2 => ?_) (fun c2 => ?_)
    · have h := h.1 c2
      refine lv_iload_n hx hb dX10_keep_11 rfl (lv_at hl 2 rfl) ?_
      refine lv_if_ne (tgt := 37) hx hb dX10_keep_12 (by decide) (fun c3 => ?_) (fun c3 => ?_)
      · have h := h.1 c3
        refine lv_aload_n hx hb dX10_keep_37 rfl (lv_at hl 0 rfl) ?_
        refine rk_get X hP (C := RX10) (T := TX10) (N := 14) (ci := 10) wix_10 h0 rfl rfl 7 (by decide) (wi_20 _ (List.mem_of_getElem? (i := 21) rfl)) rfl rfl dX10_keep_38 ?_
        refine lv_iload_n hx hb dX10_keep_41 rfl (lv_at hl 1 rfl) ?_
        obtain ⟨b1, h⟩ := h
        refine rk_zald X hP (n := 2) (klX_X10_7 h0) (fun _ _ => rfl) b1 dX10_keep_42 ?_
        refine lv_if_ne (tgt := 48) hx hb dX10_keep_43 (by decide) (fun c4 => ?_) (fun c4 => ?_)
        · have h := h.1 c4
          refine lv_aload_n hx hb dX10_keep_48 rfl (lv_at hl 0 rfl) ?_
          refine rk_get X hP (C := RX10) (T := TX10) (N := 14) (ci := 10) wix_10 h0 rfl rfl 4 (by decide) (wi_20 _ (List.mem_of_getElem? (i := 14) rfl)) rfl rfl dX10_keep_49 ?_
          refine lv_aload_n hx hb dX10_keep_52 rfl (lv_at hl 0 rfl) ?_
          refine rk_get X hP (C := RX10) (T := TX10) (N := 14) (ci := 10) wix_10 h0 rfl rfl 6 (by decide) (wi_20 _ (List.mem_of_getElem? (i := 19) rfl)) rfl rfl dX10_keep_53 ?_
          refine lv_iload_n hx hb dX10_keep_56 rfl (lv_at hl 1 rfl) ?_
          obtain ⟨b2, h⟩ := h
          refine rk_aald X hP (C := RX4) (n := 2) (t0 := 5) (d := 33) (r := 15) (klX_X10_6 h0) (fun _ _ => rfl) rfl b2 dX10_keep_57 ?_
          refine rk_callv (va_runV (As := [.ref (B + ((v0 + 283) + 33 + 15 * v1.toNatClampNeg))]) (rest := []) X.1 (mX4_copyFrom l D cy B (v0 + 86) ((v0 + 283) + 33 + 15 * v1.toNatClampNeg) σ (klX_X10_4 h0) (klX_16 (klX_X10_6 h0) (vp_lt b2)) h) (cwV 1 hts (gW_V (wi_22 _ (List.mem_of_getElem? (i := 9) rfl)) (wi_1 _ (List.mem_of_getElem? (i := 16) rfl)) (wi_1 _ (List.mem_of_getElem? (i := 17) rfl)) (wi_0 _ (List.mem_of_getElem? (i := 23) rfl)) (wi_1 _ (List.mem_of_getElem? (i := 9) rfl))) rfl rfl rfl hd_X4_copyFrom ⟨Nat.le_of_ble_eq_true rfl, Nat.le_of_ble_eq_true rfl⟩) (rk_preV X hS hP (klX_X10_4 h0) rfl rfl [.ref (B + ((v0 + 283) + 33 + 15 * v1.toNatClampNeg))]) rfl rfl hl.1 rfl (lv_room (Nat.le_of_ble_eq_true rfl)) dX10_keep_58 ⟨Nat.zero_le _, Nat.zero_le _⟩) hS (fun _ h => h) (fun s1 H locs h hP hS => ?_)
          refine lv_aload_n hx hb dX10_keep_61 rfl (lv_at hl 0 rfl) ?_
          refine rk_get X hP (C := RX10) (T := TX10) (N := 14) (ci := 10) wix_10 h0 rfl rfl 5 (by decide) (wi_20 _ (List.mem_of_getElem? (i := 18) rfl)) rfl rfl dX10_keep_62 ?_
          refine rk_callv (va_runV (As := []) (rest := []) X.1 (mX0_forget l D cy B (v0 + 101) s1 (klX_X10_5 h0) h) (cwV 0 hts (gW_V (wi_22 _ (List.mem_of_getElem? (i := 10) rfl)) (wi_22 _ (List.mem_of_getElem? (i := 11) rfl)) (wi_22 _ (List.mem_of_getElem? (i := 12) rfl)) (wi_20 _ (List.mem_of_getElem? (i := 17) rfl)) (wi_1 _ (List.mem_of_getElem? (i := 3) rfl))) rfl rfl rfl hd_X0_forget ⟨Nat.le_of_ble_eq_true rfl, Nat.le_of_ble_eq_true rfl⟩) (rk_preV X hS hP (klX_X10_5 h0) rfl rfl []) rfl rfl hl.1 rfl (lv_room (Nat.le_of_ble_eq_true rfl)) dX10_keep_65 ⟨Nat.zero_le _, Nat.zero_le _⟩) hS (fun _ h => h) (fun s2 H locs h hP hS => ?_)
          refine lv_iconst (v := (1 : Int32)) hx hb dX10_keep_68 (by decide) ?_
          exact rk_zret X kX_len true h hP hS dX10_keep_69
        · have h := h.2 c4
          refine lv_iconst (v := (0 : Int32)) hx hb dX10_keep_46 (by decide) ?_
          exact rk_zret X kX_len false h hP hS dX10_keep_47
      · have h := h.2 c3
        refine lv_aload_n hx hb dX10_keep_15 rfl (lv_at hl 0 rfl) ?_
        refine rk_get X hP (C := RX10) (T := TX10) (N := 14) (ci := 10) wix_10 h0 rfl rfl 6 (by decide) (wi_20 _ (List.mem_of_getElem? (i := 19) rfl)) rfl rfl dX10_keep_16 ?_
        refine lv_iload_n hx hb dX10_keep_19 rfl (lv_at hl 1 rfl) ?_
        obtain ⟨b3, h⟩ := h
        refine rk_aald X hP (C := RX4) (n := 2) (t0 := 5) (d := 33) (r := 15) (klX_X10_6 h0) (fun _ _ => rfl) rfl b3 dX10_keep_20 ?_
        refine lv_aload_n hx hb dX10_keep_21 rfl (lv_at hl 0 rfl) ?_
        refine rk_get X hP (C := RX10) (T := TX10) (N := 14) (ci := 10) wix_10 h0 rfl rfl 4 (by decide) (wi_20 _ (List.mem_of_getElem? (i := 14) rfl)) rfl rfl dX10_keep_22 ?_
        refine rk_callv (va_runV (As := [.ref (B + (v0 + 86))]) (rest := []) X.1 (mX4_copyFrom l D cy B ((v0 + 283) + 33 + 15 * v1.toNatClampNeg) (v0 + 86) σ (klX_16 (klX_X10_6 h0) (vp_lt b3)) (klX_X10_4 h0) h) (cwV 1 hts (gW_V (wi_22 _ (List.mem_of_getElem? (i := 9) rfl)) (wi_1 _ (List.mem_of_getElem? (i := 16) rfl)) (wi_1 _ (List.mem_of_getElem? (i := 17) rfl)) (wi_0 _ (List.mem_of_getElem? (i := 23) rfl)) (wi_1 _ (List.mem_of_getElem? (i := 9) rfl))) rfl rfl rfl hd_X4_copyFrom ⟨Nat.le_of_ble_eq_true rfl, Nat.le_of_ble_eq_true rfl⟩) (rk_preV X hS hP (klX_16 (klX_X10_6 h0) (vp_lt b3)) rfl rfl [.ref (B + (v0 + 86))]) rfl rfl hl.1 rfl (lv_room (Nat.le_of_ble_eq_true rfl)) dX10_keep_25 ⟨Nat.zero_le _, Nat.zero_le _⟩) hS (fun _ h => h) (fun s3 H locs h hP hS => ?_)
        refine lv_aload_n hx hb dX10_keep_28 rfl (lv_at hl 0 rfl) ?_
        refine rk_get X hP (C := RX10) (T := TX10) (N := 14) (ci := 10) wix_10 h0 rfl rfl 7 (by decide) (wi_20 _ (List.mem_of_getElem? (i := 21) rfl)) rfl rfl dX10_keep_29 ?_
        refine lv_iload_n hx hb dX10_keep_32 rfl (lv_at hl 1 rfl) ?_
        refine lv_iconst (v := (1 : Int32)) hx hb dX10_keep_33 (by decide) ?_
        obtain ⟨b4, h⟩ := h
        refine rk_zast X hP hD hS (n := 2) (klX_X10_7 h0) (fun _ _ => rfl) b4 dX10_keep_34 (fun H locs hP hS => ?_)
        obtain ⟨s4, es4⟩ : ∃ z : St, z = u1 s3 (v0 + 284) v1.toNatClampNeg (vp_nar .boolean (1 : Int32)) := ⟨_, rfl⟩
        rw [← es4] at hP
        have h := h s4 es4
        refine lv_iconst (v := (1 : Int32)) hx hb dX10_keep_35 (by decide) ?_
        exact rk_zret X kX_len true h hP hS dX10_keep_36
    · have h := h.2 c2
      refine lv_iconst (v := (0 : Int32)) hx hb dX10_keep_9 (by decide) ?_
      exact rk_zret X kX_len false h hP hS dX10_keep_10

theorem hd_X10_count : yX10_count.cls = RX10 ∧ yX10_count.cls ≠ "java/lang/invoke/MethodHandle" ∧ yX10_count.cls ≠ "java/lang/invoke/VarHandle" ∧ (parseMethodDescriptor yX10_count.desc).map (fun d => d.parameters.length) = some 1 := by decide +kernel
set_option maxRecDepth 100000 in
set_option maxHeartbeats 4000000 in
theorem mX10_count (l : Launch) (D : va_G) (cy : Nat → ClassId) (B : Nat) (v0 : Nat) (v1 : Int32) (σ : St) (h0 : kX[v0]? = some 10) {post : Int32 → St → Prop} (h : wX10_count v0 v1 σ post) : Met l yX10_count (Cond.code yX10_count cX10_count 2 (some .int) :: WALL) (rmD 1) (PcW D cy B kX σ [.ref (B + v0), .int v1]) (va_Qi post (BW D cy B kX) (AW B 346)) 0 0 (AW B 346) := by
  refine Met.ofK (cc := cX10_count) (maxL := 2) (ret := (some .int)) (by decide +kernel) rfl kX_len ?_
  intro p e s m below meth c X hP
  obtain ⟨⟨hx, hb, hml, hown, hts⟩, hr, hlk, hK, hN, hZ⟩ := id X
  have hD : ∀ σ, va_D (AW B 346) (wW cy B kX σ) := AW_D kX_len
  have hS : va_S (AW B 346) s.heap s.heap [] := va_S.rf
  have hl := lv_entry ([.ref (B + v0), .int v1]) (n := 2) (Nat.le_of_ble_eq_true rfl)
  rw [lg_entry_eq]
  generalize (lg_sl ([.ref (B + v0), .int v1]) ++ List.replicate (2 - (lg_sl ([.ref (B + v0), .int v1])).length) Slot.unset).toArray = ls at hl ⊢
  have hl : lv_has ls 2 [(0, .ref (B + v0)), (1, .int v1)] := hl
  unfold wX10_count at h
  refine lv_iload_n hx hb dX10_count_0 rfl (lv_at hl 1 rfl) ?_
  by_cases c1 : v1 = (0 : Int32)
  · have h := h.1 c1
    refine lv_tableIn (tgt := 48) hx hb dX10_count_1 (by rw [c1]; decide) (by rw [c1]; decide) (by rw [c1]; rfl) (by decide) ?_
    refine lv_aload_n hx hb dX10_count_48 rfl (lv_at hl 0 rfl) ?_
    refine rk_get X hP (C := RX10) (T := TX10) (N := 14) (ci := 10) wix_10 h0 rfl rfl 2 (by decide) (wi_20 _ (List.mem_of_getElem? (i := 11) rfl)) rfl rfl dX10_count_49 ?_
    obtain ⟨p1, ep1⟩ : ∃ z : Nat, z = (σ.1 v0 2).toNatClampNeg := ⟨_, rfl⟩
    rw [← ep1]
    obtain ⟨kp1, h⟩ := h p1 ep1
    refine rk_get X hP (C := RX9) (T := TX9) (N := 10) (ci := 9) wix_9 kp1 rfl rfl 0 (by decide) (wi_23 _ (List.mem_of_getElem? (i := 8) rfl)) rfl rfl dX10_count_52 ?_
    exact rk_iret X rfl kX_len h hP hS dX10_count_55
  have h := h.2 c1
  by_cases c2 : v1 = (1 : Int32)
  · have h := h.1 c2
    refine lv_tableIn (tgt := 56) hx hb dX10_count_1 (by rw [c2]; decide) (by rw [c2]; decide) (by rw [c2]; rfl) (by decide) ?_
    refine lv_aload_n hx hb dX10_count_56 rfl (lv_at hl 0 rfl) ?_
    refine rk_get X hP (C := RX10) (T := TX10) (N := 14) (ci := 10) wix_10 h0 rfl rfl 2 (by decide) (wi_20 _ (List.mem_of_getElem? (i := 11) rfl)) rfl rfl dX10_count_57 ?_
    obtain ⟨p2, ep2⟩ : ∃ z : Nat, z = (σ.1 v0 2).toNatClampNeg := ⟨_, rfl⟩
    rw [← ep2]
    obtain ⟨kp2, h⟩ := h p2 ep2
    refine rk_get X hP (C := RX9) (T := TX9) (N := 10) (ci := 9) wix_9 kp2 rfl rfl 1 (by decide) (wi_22 _ (List.mem_of_getElem? (i := 15) rfl)) rfl rfl dX10_count_60 ?_
    exact rk_iret X rfl kX_len h hP hS dX10_count_63
  have h := h.2 c2
  by_cases c3 : v1 = (2 : Int32)
  · have h := h.1 c3
    refine lv_tableIn (tgt := 64) hx hb dX10_count_1 (by rw [c3]; decide) (by rw [c3]; decide) (by rw [c3]; rfl) (by decide) ?_
    refine lv_aload_n hx hb dX10_count_64 rfl (lv_at hl 0 rfl) ?_
    refine rk_get X hP (C := RX10) (T := TX10) (N := 14) (ci := 10) wix_10 h0 rfl rfl 2 (by decide) (wi_20 _ (List.mem_of_getElem? (i := 11) rfl)) rfl rfl dX10_count_65 ?_
    obtain ⟨p3, ep3⟩ : ∃ z : Nat, z = (σ.1 v0 2).toNatClampNeg := ⟨_, rfl⟩
    rw [← ep3]
    obtain ⟨kp3, h⟩ := h p3 ep3
    refine rk_get X hP (C := RX9) (T := TX9) (N := 10) (ci := 9) wix_9 kp3 rfl rfl 3 (by decide) (wi_24 _ (List.mem_of_getElem? (i := 6) rfl)) rfl rfl dX10_count_68 ?_
    exact rk_iret X rfl kX_len h hP hS dX10_count_71
  have h := h.2 c3
  by_cases c4 : v1 = (3 : Int32)
  · have h := h.1 c4
    refine lv_tableIn (tgt := 72) hx hb dX10_count_1 (by rw [c4]; decide) (by rw [c4]; decide) (by rw [c4]; rfl) (by decide) ?_
    refine lv_aload_n hx hb dX10_count_72 rfl (lv_at hl 0 rfl) ?_
    refine rk_get X hP (C := RX10) (T := TX10) (N := 14) (ci := 10) wix_10 h0 rfl rfl 4 (by decide) (wi_20 _ (List.mem_of_getElem? (i := 14) rfl)) rfl rfl dX10_count_73 ?_
    refine rk_get X hP (C := RX4) (T := TX4) (N := 4) (ci := 4) wix_4 (klX_X10_4 h0) rfl rfl 0 (by decide) (wi_26 _ (List.mem_of_getElem? (i := 20) rfl)) rfl rfl dX10_count_76 ?_
    exact rk_iret X rfl kX_len h hP hS dX10_count_79
  have h := h.2 c4
  by_cases c5 : v1 = (4 : Int32)
  · have h := h.1 c5
    refine lv_tableIn (tgt := 80) hx hb dX10_count_1 (by rw [c5]; decide) (by rw [c5]; decide) (by rw [c5]; rfl) (by decide) ?_
    refine lv_aload_n hx hb dX10_count_80 rfl (lv_at hl 0 rfl) ?_
    refine rk_get X hP (C := RX10) (T := TX10) (N := 14) (ci := 10) wix_10 h0 rfl rfl 4 (by decide) (wi_20 _ (List.mem_of_getElem? (i := 14) rfl)) rfl rfl dX10_count_81 ?_
    refine rk_get X hP (C := RX4) (T := TX4) (N := 4) (ci := 4) wix_4 (klX_X10_4 h0) rfl rfl 1 (by decide) (wi_28 _ (List.mem_of_getElem? (i := 5) rfl)) rfl rfl dX10_count_84 ?_
    exact rk_iret X rfl kX_len h hP hS dX10_count_87
  have h := h.2 c5
  by_cases c6 : v1 = (5 : Int32)
  · have h := h.1 c6
    refine lv_tableIn (tgt := 88) hx hb dX10_count_1 (by rw [c6]; decide) (by rw [c6]; decide) (by rw [c6]; rfl) (by decide) ?_
    refine lv_aload_n hx hb dX10_count_88 rfl (lv_at hl 0 rfl) ?_
    refine rk_get X hP (C := RX10) (T := TX10) (N := 14) (ci := 10) wix_10 h0 rfl rfl 4 (by decide) (wi_20 _ (List.mem_of_getElem? (i := 14) rfl)) rfl rfl dX10_count_89 ?_
    refine rk_calli (va_runV (As := []) (rest := []) X.1 (mX4_openCount l D cy B (v0 + 86) σ (klX_X10_4 h0) h) (cwV 0 hts (gW_V (wi_25 _ (List.mem_of_getElem? (i := 19) rfl)) (wi_25 _ (List.mem_of_getElem? (i := 20) rfl)) (wi_25 _ (List.mem_of_getElem? (i := 21) rfl)) (wi_0 _ (List.mem_of_getElem? (i := 23) rfl)) (wi_5 _ (List.mem_of_getElem? (i := 7) rfl))) rfl rfl rfl hd_X4_openCount ⟨Nat.le_of_ble_eq_true rfl, Nat.le_of_ble_eq_true rfl⟩) (rk_preV X hS hP (klX_X10_4 h0) rfl rfl []) rfl rfl hl.1 rfl (lv_room (Nat.le_of_ble_eq_true rfl)) dX10_count_92 ⟨Nat.zero_le _, Nat.zero_le _⟩) hS (fun _ h => h) (fun r1 s1 H locs h hP hS => ?_)
    exact rk_iret X rfl kX_len h hP hS dX10_count_95
  have h := h.2 c6
  by_cases c7 : v1 = (6 : Int32)
  · have h := h.1 c7
    refine lv_tableIn (tgt := 96) hx hb dX10_count_1 (by rw [c7]; decide) (by rw [c7]; decide) (by rw [c7]; rfl) (by decide) ?_
    refine lv_aload_n hx hb dX10_count_96 rfl (lv_at hl 0 rfl) ?_
    refine rk_get X hP (C := RX10) (T := TX10) (N := 14) (ci := 10) wix_10 h0 rfl rfl 5 (by decide) (wi_20 _ (List.mem_of_getElem? (i := 18) rfl)) rfl rfl dX10_count_97 ?_
    refine rk_get X hP (C := RX0) (T := TX0) (N := 3) (ci := 0) wix_0 (klX_X10_5 h0) rfl rfl 0 (by decide) (wi_28 _ (List.mem_of_getElem? (i := 13) rfl)) rfl rfl dX10_count_100 ?_
    exact rk_iret X rfl kX_len h hP hS dX10_count_103
  have h := h.2 c7
  by_cases c8 : v1 = (7 : Int32)
  · have h := h.1 c8
    refine lv_tableIn (tgt := 104) hx hb dX10_count_1 (by rw [c8]; decide) (by rw [c8]; decide) (by rw [c8]; rfl) (by decide) ?_
    refine lv_aload_n hx hb dX10_count_104 rfl (lv_at hl 0 rfl) ?_
    refine rk_get X hP (C := RX10) (T := TX10) (N := 14) (ci := 10) wix_10 h0 rfl rfl 1 (by decide) (wi_20 _ (List.mem_of_getElem? (i := 8) rfl)) rfl rfl dX10_count_105 ?_
    exact rk_iret X rfl kX_len h hP hS dX10_count_108
  have h := h.2 c8
  refine lv_tableOut (tgt := 109) hx hb dX10_count_1 (sw_out8 c1 c2 c3 c4 c5 c6 c7 c8) (by decide) ?_
  refine lv_iconst (v := (-1 : Int32)) hx hb dX10_count_109 (by decide) ?_
  exact rk_iret X rfl kX_len h hP hS dX10_count_110
