theorem hd_X11_table : yX11_table.cls = RX11 ∧ yX11_table.cls ≠ "java/lang/invoke/MethodHandle" ∧ yX11_table.cls ≠ "java/lang/invoke/VarHandle" ∧ (parseMethodDescriptor yX11_table.desc).map (fun d => d.parameters.length) = some 2 := by decide +kernel
set_option maxRecDepth 100000 in
set_option maxHeartbeats 4000000 in
theorem mX11_table (l : Launch) (D : va_G) (cy : Nat → ClassId) (B : Nat) (v0 : Nat) (v1 : Int32) (v2 : Int32) (σ : St) (h0 : kM[v0]? = some 11) {post : Int32 → St → Prop} (h : wX11_table v0 v1 v2 σ post) : Met l yX11_table (Cond.code yX11_table cX11_table 3 (some .int) :: WALL) (rmD 2) (PcW D cy B kM σ [.ref (B + v0), .int v1, .int v2]) (va_Qi post (BW D cy B kM) (AW B 26)) 0 0 (AW B 26) := by
  refine Met.ofK (cc := cX11_table) (maxL := 3) (ret := (some .int)) (by decide +kernel) rfl kM_len ?_
  intro p e s m below meth c X hP
  obtain ⟨⟨hx, hb, hml, hown, hts⟩, hr, hlk, hK, hN, hZ⟩ := id X
  have hD : ∀ σ, va_D (AW B 26) (wW cy B kM σ) := AW_D kM_len
  have hS : va_S (AW B 26) s.heap s.heap [] := va_S.rf
  have hl := lv_entry ([.ref (B + v0), .int v1, .int v2]) (n := 3) (Nat.le_of_ble_eq_true rfl)
  rw [lg_entry_eq]
  generalize (lg_sl ([.ref (B + v0), .int v1, .int v2]) ++ List.replicate (3 - (lg_sl ([.ref (B + v0), .int v1, .int v2])).length) Slot.unset).toArray = ls at hl ⊢
  have hl : lv_has ls 3 [(0, .ref (B + v0)), (1, .int v1), (2, .int v2)] := hl
  unfold wX11_table at h
  refine lv_aload_n hx hb dX11_table_0 rfl (lv_at hl 0 rfl) ?_
  refine lv_iconst (v := (0 : Int32)) hx hb dX11_table_1 (by decide) ?_
  refine rk_puti X hP hD hS (C := RX11) (T := TX11) (N := 44) (ci := 11) wix_11 h0 rfl rfl tyX11 tyX11_ok nmX11 0 (by decide) (wi_30 _ (List.mem_of_getElem? (i := 1) rfl)) rfl rfl (by decide +kernel) (Nat.le_of_ble_eq_true rfl) rfl dX11_table_2 (fun H locs hP hS => ?_)
  obtain ⟨s1, es1⟩ : ∃ z : St, z = u1 σ v0 0 (0 : Int32) := ⟨_, rfl⟩
  rw [← es1] at hP
  have h := h s1 es1
  refine lv_aload_n hx hb dX11_table_5 rfl (lv_at hl 0 rfl) ?_
  refine lv_iload_n hx hb dX11_table_6 rfl (lv_at hl 1 rfl) ?_
  refine rk_callz (va_runV (As := [.int v1]) (rest := []) X.1 (mX11_isTable l D cy B v0 v1 s1 h0 h) (cwV 1 hts (gW_V (wi_35 _ (List.mem_of_getElem? (i := 14) rfl)) (wi_35 _ (List.mem_of_getElem? (i := 15) rfl)) (wi_35 _ (List.mem_of_getElem? (i := 16) rfl)) (wi_30 _ (List.mem_of_getElem? (i := 9) rfl)) (wi_35 _ (List.mem_of_getElem? (i := 5) rfl))) rfl rfl rfl hd_X11_isTable ⟨Nat.le_of_ble_eq_true rfl, Nat.le_of_ble_eq_true rfl⟩) (rk_preV X hS hP h0 rfl rfl [.int v1]) rfl rfl hl.1 rfl (lv_room (Nat.le_of_ble_eq_true rfl)) dX11_table_7 ⟨Nat.zero_le _, Nat.zero_le _⟩) hS (fun _ h => h) (fun r1 s2 H locs h hP hS => ?_)
  refine lv_if_ne (tgt := 16) hx hb dX11_table_10 (by decide) (fun c1 => ?_) (fun c1 => ?_)
  · have h := h.1 (b2i_t c1)
    refine lv_iload_n hx hb dX11_table_16 rfl (lv_at hl 2 rfl) ?_
    refine lv_iconst (v := (-1 : Int32)) hx hb dX11_table_17 (by decide) ?_
    refine lv_icmp_ne (tgt := 30) hx hb dX11_table_18 (by decide) (fun c2 => ?_) (fun c2 => ?_)
    · have h := h.1 c2
      refine lv_iload_n hx hb dX11_table_30 rfl (lv_at hl 2 rfl) ?_
      refine lv_i2l hx hb dX11_table_31 rfl ?_
      refine lv_lconst (v := (0 : Int64)) hx hb dX11_table_32 (by decide) ?_
      refine lv_iconst (v := (1 : Int32)) hx hb dX11_table_33 (by decide) ?_
      refine lv_aload_n hx hb dX11_table_34 rfl (lv_at hl 0 rfl) ?_
      refine rk_get X hP (C := RX11) (T := TX11) (N := 44) (ci := 11) wix_11 h0 rfl rfl 20 (by decide) (wi_29 _ (List.mem_of_getElem? (i := 6) rfl)) rfl rfl dX11_table_35 ?_
      refine lv_iload_n hx hb dX11_table_38 rfl (lv_at hl 1 rfl) ?_
      obtain ⟨b1, h⟩ := h
      refine rk_iald X hP (n := 16) (klM_X11_20 h0) (fun _ _ => rfl) b1 dX11_table_39 ?_
      refine lv_ishl hx hb dX11_table_40 ?_
      refine lv_iconst (v := (1 : Int32)) hx hb dX11_table_41 (by decide) ?_
      refine lv_isub hx hb dX11_table_42 ?_
      refine lv_i2l hx hb dX11_table_43 rfl ?_
      refine rk_callz (va_runS (As := [.long (v2.toInt64), .long (0 : Int64), .long ((((1 : Int32) <<< ((s2.1 (v0 + 9) v1.toNatClampNeg) &&& 31)) - (1 : Int32)).toInt64)]) (rest := []) X.1 (mX11_within l D cy B (v2.toInt64) (0 : Int64) ((((1 : Int32) <<< ((s2.1 (v0 + 9) v1.toNatClampNeg) &&& 31)) - (1 : Int32)).toInt64) s2 h) (va_cwS 3 hts (gW_S (wi_31 _ (List.mem_of_getElem? (i := 2) rfl)) (wi_31 _ (List.mem_of_getElem? (i := 3) rfl)) (wi_30 _ (List.mem_of_getElem? (i := 9) rfl)) (wi_30 _ (List.mem_of_getElem? (i := 2) rfl))) rfl rfl rfl hd_X11_within ⟨Nat.le_of_ble_eq_true rfl, Nat.le_of_ble_eq_true rfl⟩) (rk_preS X hS hP [.long (v2.toInt64), .long (0 : Int64), .long ((((1 : Int32) <<< ((s2.1 (v0 + 9) v1.toNatClampNeg) &&& 31)) - (1 : Int32)).toInt64)]) rfl rfl hl.1 rfl (lv_room (Nat.le_of_ble_eq_true rfl)) dX11_table_44 ⟨Nat.zero_le _, Nat.zero_le _⟩) hS (fun _ h => h) (fun r2 s3 H locs h hP hS => ?_)
      refine lv_if_eq (tgt := 64) hx hb dX11_table_47 (by decide) (fun c3 => ?_) (fun c3 => ?_)
      · have h := h.1 (b2i_f c3)
        refine lv_bipush (v := (-2 : Int32)) hx hb dX11_table_64 (by decide) ?_
        exact rk_iret X rfl kM_len h hP hS dX11_table_66
      · have h := h.2 (b2i_t c3)
        refine lv_aload_n hx hb dX11_table_50 rfl (lv_at hl 0 rfl) ?_
        refine rk_get X hP (C := RX11) (T := TX11) (N := 44) (ci := 11) wix_11 h0 rfl rfl 21 (by decide) (wi_29 _ (List.mem_of_getElem? (i := 7) rfl)) rfl rfl dX11_table_51 ?_
        refine lv_bipush (v := (16 : Int32)) hx hb dX11_table_54 (by decide) ?_
        refine lv_iload_n hx hb dX11_table_56 rfl (lv_at hl 1 rfl) ?_
        refine lv_imul hx hb dX11_table_57 ?_
        refine lv_iload_n hx hb dX11_table_58 rfl (lv_at hl 2 rfl) ?_
        refine lv_iadd hx hb dX11_table_59 ?_
        refine lv_topi (fun x1 ex1 => ?_)
        have h := h x1 ex1
        obtain ⟨b2, h⟩ := h
        refine rk_iald X hP (n := 256) (klM_X11_21 h0) (fun _ _ => rfl) b2 dX11_table_60 ?_
        refine lv_goto (tgt := 66) hx hb dX11_table_61 (by decide) ?_
        exact rk_iret X rfl kM_len h hP hS dX11_table_66
    · have h := h.2 c2
      refine lv_aload_n hx hb dX11_table_21 rfl (lv_at hl 0 rfl) ?_
      refine rk_get X hP (C := RX11) (T := TX11) (N := 44) (ci := 11) wix_11 h0 rfl rfl 20 (by decide) (wi_29 _ (List.mem_of_getElem? (i := 6) rfl)) rfl rfl dX11_table_22 ?_
      refine lv_iload_n hx hb dX11_table_25 rfl (lv_at hl 1 rfl) ?_
      obtain ⟨b3, h⟩ := h
      refine rk_iald X hP (n := 16) (klM_X11_20 h0) (fun _ _ => rfl) b3 dX11_table_26 ?_
      refine lv_goto (tgt := 66) hx hb dX11_table_27 (by decide) ?_
      exact rk_iret X rfl kM_len h hP hS dX11_table_66
  · have h := h.2 (b2i_f c1)
    refine lv_bipush (v := (-2 : Int32)) hx hb dX11_table_13 (by decide) ?_
    exact rk_iret X rfl kM_len h hP hS dX11_table_15

theorem hd_X11_parityHere : yX11_parityHere.cls = RX11 ∧ yX11_parityHere.cls ≠ "java/lang/invoke/MethodHandle" ∧ yX11_parityHere.cls ≠ "java/lang/invoke/VarHandle" ∧ (parseMethodDescriptor yX11_parityHere.desc).map (fun d => d.parameters.length) = some 0 := by decide +kernel
set_option maxRecDepth 100000 in
set_option maxHeartbeats 4000000 in
theorem tX11_parityHere_62 {p : Program} {l : Launch} {e : Env} {s : State} {m : MethodId} {av : Array Value} {below : List Frame} {meth : Method} {c : Code} {D : va_G} {cy : Nat → ClassId} {B : Nat} (X : kC p s m av meth c cX11_parityHere 4 (some .int) WALL RX11 D cy (AW B 26)) {post : Int32 → St → Prop} : ∀ (v1 : Int32) (v2 : Int32) (σ : St), wX11_parityHere_62 post v1 v2 σ → ∀ (H : Heap) (locs : List Loc) (ls : Array Slot), va_P D vwCl (wW cy B kM σ) H → va_S (AW B 26) s.heap H locs → lv_has ls 4 [(1, .int v1), (2, .int v2)] → W p l e (rmD 1) s m av below meth c H locs 0 0 (MQ below (va_Qi post (BW D cy B kM) (AW B 26)) av s 0 0 (AW B 26)) (F0 m 62 ls []) := by
  obtain ⟨⟨hx, hb, hml, hown, hts⟩, hr, hlk, hK, hN, hZ⟩ := id X
  have hD : ∀ σ, va_D (AW B 26) (wW cy B kM σ) := AW_D kM_len
  intro v1 v2 σ h H locs ls hP hS hl
  unfold wX11_parityHere_62 at h
  refine lv_iload_n hx hb dX11_parityHere_62 rfl (lv_at hl 0 rfl) ?_
  refine lv_if_eq (tgt := 70) hx hb dX11_parityHere_63 (by decide) (fun c1 => ?_) (fun c1 => ?_)
  · have h := h.1 c1
    refine lv_iload_n hx hb dX11_parityHere_70 rfl (lv_at hl 1 rfl) ?_
    refine lv_if_eq (tgt := 78) hx hb dX11_parityHere_71 (by decide) (fun c2 => ?_) (fun c2 => ?_)
    · have h := h.1 c2
      refine lv_iconst (v := (3 : Int32)) hx hb dX11_parityHere_78 (by decide) ?_
      exact rk_iret X rfl kM_len h hP hS dX11_parityHere_79
    · have h := h.2 c2
      refine lv_iconst (v := (1 : Int32)) hx hb dX11_parityHere_74 (by decide) ?_
      refine lv_goto (tgt := 79) hx hb dX11_parityHere_75 (by decide) ?_
      exact rk_iret X rfl kM_len h hP hS dX11_parityHere_79
  · have h := h.2 c1
    refine lv_iconst (v := (0 : Int32)) hx hb dX11_parityHere_66 (by decide) ?_
    refine lv_goto (tgt := 79) hx hb dX11_parityHere_67 (by decide) ?_
    exact rk_iret X rfl kM_len h hP hS dX11_parityHere_79
set_option maxRecDepth 100000 in
set_option maxHeartbeats 4000000 in
theorem tX11_parityHere_6 {p : Program} {l : Launch} {e : Env} {s : State} {m : MethodId} {av : Array Value} {below : List Frame} {meth : Method} {c : Code} {D : va_G} {cy : Nat → ClassId} {B : Nat} (X : kC p s m av meth c cX11_parityHere 4 (some .int) WALL RX11 D cy (AW B 26)) {post : Int32 → St → Prop} : ∀ (n : Nat) (v0 : Nat) (v1 : Int32) (v2 : Int32) (v3 : Int32) (σ : St), kM[v0]? = some 11 → wX11_parityHere_6 post n v0 v1 v2 v3 σ → ∀ (H : Heap) (locs : List Loc) (ls : Array Slot), va_P D vwCl (wW cy B kM σ) H → va_S (AW B 26) s.heap H locs → lv_has ls 4 [(0, .ref (B + v0)), (1, .int v1), (2, .int v2), (3, .int v3)] → W p l e (rmD 1) s m av below meth c H locs 0 0 (MQ below (va_Qi post (BW D cy B kM) (AW B 26)) av s 0 0 (AW B 26)) (F0 m 6 ls []) := by
  obtain ⟨⟨hx, hb, hml, hown, hts⟩, hr, hlk, hK, hN, hZ⟩ := id X
  have hD : ∀ σ, va_D (AW B 26) (wW cy B kM σ) := AW_D kM_len
  intro n
  induction n with
  | zero => intro v0 v1 v2 v3 σ h0 h; exact absurd h id
  | succ n ih =>
    intro v0 v1 v2 v3 σ h0 h H locs ls hP hS hl
    rw [wX11_parityHere_6] at h
    refine lv_iload_n hx hb dX11_parityHere_6 rfl (lv_at hl 3 rfl) ?_
    refine lv_iconst (v := (1 : Int32)) hx hb dX11_parityHere_7 (by decide) ?_
    refine lv_aload_n hx hb dX11_parityHere_8 rfl (lv_at hl 0 rfl) ?_
    refine rk_get X hP (C := RX11) (T := TX11) (N := 44) (ci := 11) wix_11 h0 rfl rfl 36 (by decide) (wi_35 _ (List.mem_of_getElem? (i := 12) rfl)) rfl rfl dX11_parityHere_9 ?_
    refine lv_ishl hx hb dX11_parityHere_12 ?_
    refine lv_icmp_ge (tgt := 50) hx hb dX11_parityHere_13 (by decide) (fun c1 => ?_) (fun c1 => ?_)
    · have h := h.1 c1
      refine lv_iload_n hx hb dX11_parityHere_50 rfl (lv_at hl 1 rfl) ?_
      refine lv_if_eq (tgt := 62) hx hb dX11_parityHere_51 (by decide) (fun c2 => ?_) (fun c2 => ?_)
      · have h := h.1 c2
        exact tX11_parityHere_62 X _ _ _ h _ _ _ hP hS (lv_sub hl [1, 2] rfl)
      · have h := h.2 c2
        refine lv_iload_n hx hb dX11_parityHere_54 rfl (lv_at hl 2 rfl) ?_
        refine lv_if_eq (tgt := 62) hx hb dX11_parityHere_55 (by decide) (fun c3 => ?_) (fun c3 => ?_)
        · have h := h.1 c3
          exact tX11_parityHere_62 X _ _ _ h _ _ _ hP hS (lv_sub hl [1, 2] rfl)
        · have h := h.2 c3
          refine lv_iconst (v := (2 : Int32)) hx hb dX11_parityHere_58 (by decide) ?_
          refine lv_goto (tgt := 79) hx hb dX11_parityHere_59 (by decide) ?_
          exact rk_iret X rfl kM_len h hP hS dX11_parityHere_79
    · have h := h.2 c1
      refine lv_aload_n hx hb dX11_parityHere_16 rfl (lv_at hl 0 rfl) ?_
      refine rk_get X hP (C := RX11) (T := TX11) (N := 44) (ci := 11) wix_11 h0 rfl rfl 35 (by decide) (wi_29 _ (List.mem_of_getElem? (i := 17) rfl)) rfl rfl dX11_parityHere_17 ?_
      refine lv_iload_n hx hb dX11_parityHere_20 rfl (lv_at hl 3 rfl) ?_
      obtain ⟨b1, h⟩ := h
      refine rk_iald X hP (n := 16) (klM_X11_35 h0) (fun _ _ => rfl) b1 dX11_parityHere_21 ?_
      refine lv_if_ne (tgt := 28) hx hb dX11_parityHere_22 (by decide) (fun c4 => ?_) (fun c4 => ?_)
      · have h := h.1 c4
        refine lv_iload_n hx hb dX11_parityHere_28 rfl (lv_at hl 3 rfl) ?_
        refine rk_calli (va_runS (As := [.int v3]) (rest := []) X.1 (mX11_bits l D cy B v3 σ h) (va_cwS 1 hts (gW_S (wi_35 _ (List.mem_of_getElem? (i := 18) rfl)) (wi_35 _ (List.mem_of_getElem? (i := 19) rfl)) (wi_30 _ (List.mem_of_getElem? (i := 9) rfl)) (wi_35 _ (List.mem_of_getElem? (i := 10) rfl))) rfl rfl rfl hd_X11_bits ⟨Nat.le_of_ble_eq_true rfl, Nat.le_of_ble_eq_true rfl⟩) (rk_preS X hS hP [.int v3]) rfl rfl hl.1 rfl (lv_room (Nat.le_of_ble_eq_true rfl)) dX11_parityHere_29 ⟨Nat.zero_le _, Nat.zero_le _⟩) hS (fun _ h => h) (fun r1 s1 H locs h hP hS => ?_)
        refine lv_iconst (v := (2 : Int32)) hx hb dX11_parityHere_32 (by decide) ?_
        refine lv_irem hx hb dX11_parityHere_33 (by decide) ?_
        refine lv_if_ne (tgt := 42) hx hb dX11_parityHere_34 (by decide) (fun c5 => ?_) (fun c5 => ?_)
        · have h := h.1 c5
          refine lv_iconst (v := (0 : Int32)) hx hb dX11_parityHere_42 (by decide) ?_
          refine lv_istore_n (lv' := [(1, .int (0 : Int32)), (0, .ref (B + v0)), (2, .int v2), (3, .int v3)]) hx hb dX11_parityHere_43 rfl hl (by decide) rfl (fun ls hl => ?_)
          obtain ⟨x1, ex1⟩ : ∃ y : Int32, y = v3 + (1 : Int32) := ⟨_, rfl⟩
          have h := h x1 ex1
          refine lv_iinc (v := x1) (lv' := [(3, .int x1), (1, .int (0 : Int32)), (0, .ref (B + v0)), (2, .int v2)]) hx hb dX11_parityHere_44 hl (k := 3) rfl (by rw [ex1]; rfl) (by decide) rfl (fun ls hl => ?_)
          refine lv_goto (tgt := 6) hx hb dX11_parityHere_47 (by decide) ?_
          exact ih _ _ _ _ _ h0 h _ _ _ hP hS (lv_sub hl [2, 1, 3, 0] rfl)
        · have h := h.2 c5
          refine lv_iconst (v := (0 : Int32)) hx hb dX11_parityHere_37 (by decide) ?_
          refine lv_istore_n (lv' := [(2, .int (0 : Int32)), (0, .ref (B + v0)), (1, .int v1), (3, .int v3)]) hx hb dX11_parityHere_38 rfl hl (by decide) rfl (fun ls hl => ?_)
          refine lv_goto (tgt := 44) hx hb dX11_parityHere_39 (by decide) ?_
          obtain ⟨x2, ex2⟩ : ∃ y : Int32, y = v3 + (1 : Int32) := ⟨_, rfl⟩
          have h := h x2 ex2
          refine lv_iinc (v := x2) (lv' := [(3, .int x2), (2, .int (0 : Int32)), (0, .ref (B + v0)), (1, .int v1)]) hx hb dX11_parityHere_44 hl (k := 3) rfl (by rw [ex2]; rfl) (by decide) rfl (fun ls hl => ?_)
          refine lv_goto (tgt := 6) hx hb dX11_parityHere_47 (by decide) ?_
          exact ih _ _ _ _ _ h0 h _ _ _ hP hS (lv_sub hl [2, 3, 1, 0] rfl)
      · have h := h.2 c4
        refine lv_goto (tgt := 44) hx hb dX11_parityHere_25 (by decide) ?_
        obtain ⟨x3, ex3⟩ : ∃ y : Int32, y = v3 + (1 : Int32) := ⟨_, rfl⟩
        have h := h x3 ex3
        refine lv_iinc (v := x3) (lv' := [(3, .int x3), (0, .ref (B + v0)), (1, .int v1), (2, .int v2)]) hx hb dX11_parityHere_44 hl (k := 3) rfl (by rw [ex3]; rfl) (by decide) rfl (fun ls hl => ?_)
        refine lv_goto (tgt := 6) hx hb dX11_parityHere_47 (by decide) ?_
        exact ih _ _ _ _ _ h0 h _ _ _ hP hS (lv_sub hl [1, 2, 3, 0] rfl)
set_option maxRecDepth 100000 in
set_option maxHeartbeats 4000000 in
theorem mX11_parityHere (l : Launch) (D : va_G) (cy : Nat → ClassId) (B : Nat) (v0 : Nat) (σ : St) (h0 : kM[v0]? = some 11) {post : Int32 → St → Prop} (h : wX11_parityHere v0 σ post) : Met l yX11_parityHere (Cond.code yX11_parityHere cX11_parityHere 4 (some .int) :: WALL) (rmD 1) (PcW D cy B kM σ [.ref (B + v0)]) (va_Qi post (BW D cy B kM) (AW B 26)) 0 0 (AW B 26) := by
  refine Met.ofK (cc := cX11_parityHere) (maxL := 4) (ret := (some .int)) (by decide +kernel) rfl kM_len ?_
  intro p e s m below meth c X hP
  obtain ⟨⟨hx, hb, hml, hown, hts⟩, hr, hlk, hK, hN, hZ⟩ := id X
  have hD : ∀ σ, va_D (AW B 26) (wW cy B kM σ) := AW_D kM_len
  have hS : va_S (AW B 26) s.heap s.heap [] := va_S.rf
  have hl := lv_entry ([.ref (B + v0)]) (n := 4) (Nat.le_of_ble_eq_true rfl)
  rw [lg_entry_eq]
  generalize (lg_sl ([.ref (B + v0)]) ++ List.replicate (4 - (lg_sl ([.ref (B + v0)])).length) Slot.unset).toArray = ls at hl ⊢
  have hl : lv_has ls 4 [(0, .ref (B + v0))] := hl
  unfold wX11_parityHere at h
  refine lv_iconst (v := (1 : Int32)) hx hb dX11_parityHere_0 (by decide) ?_
  refine lv_istore_n (lv' := [(1, .int (1 : Int32)), (0, .ref (B + v0))]) hx hb dX11_parityHere_1 rfl hl (by decide) rfl (fun ls hl => ?_)
  refine lv_iconst (v := (1 : Int32)) hx hb dX11_parityHere_2 (by decide) ?_
  refine lv_istore_n (lv' := [(2, .int (1 : Int32)), (1, .int (1 : Int32)), (0, .ref (B + v0))]) hx hb dX11_parityHere_3 rfl hl (by decide) rfl (fun ls hl => ?_)
  refine lv_iconst (v := (0 : Int32)) hx hb dX11_parityHere_4 (by decide) ?_
  refine lv_istore_n (lv' := [(3, .int (0 : Int32)), (2, .int (1 : Int32)), (1, .int (1 : Int32)), (0, .ref (B + v0))]) hx hb dX11_parityHere_5 rfl hl (by decide) rfl (fun ls hl => ?_)
  obtain ⟨j, h⟩ := h
  exact tX11_parityHere_6 X j _ _ _ _ _ h0 h _ _ _ hP hS (lv_sub hl [3, 2, 1, 0] rfl)

theorem hd_X11_ruleHere : yX11_ruleHere.cls = RX11 ∧ yX11_ruleHere.cls ≠ "java/lang/invoke/MethodHandle" ∧ yX11_ruleHere.cls ≠ "java/lang/invoke/VarHandle" ∧ (parseMethodDescriptor yX11_ruleHere.desc).map (fun d => d.parameters.length) = some 1 := by decide +kernel
set_option maxRecDepth 100000 in
set_option maxHeartbeats 4000000 in
theorem tX11_ruleHere_127 {p : Program} {l : Launch} {e : Env} {s : State} {m : MethodId} {av : Array Value} {below : List Frame} {meth : Method} {c : Code} {D : va_G} {cy : Nat → ClassId} {B : Nat} (X : kC p s m av meth c cX11_ruleHere 3 (some .int) WALL RX11 D cy (AW B 26)) {post : Int32 → St → Prop} : ∀ (v0 : Nat) (t0 : Int32) (σ : St), kM[v0]? = some 11 → wX11_ruleHere_127 post v0 t0 σ → ∀ (H : Heap) (locs : List Loc) (ls : Array Slot), va_P D vwCl (wW cy B kM σ) H → va_S (AW B 26) s.heap H locs → lv_has ls 3 [(0, .ref (B + v0))] → W p l e (rmD 1) s m av below meth c H locs 0 0 (MQ below (va_Qi post (BW D cy B kM) (AW B 26)) av s 0 0 (AW B 26)) (F0 m 127 ls [.int t0]) := by
  obtain ⟨⟨hx, hb, hml, hown, hts⟩, hr, hlk, hK, hN, hZ⟩ := id X
  have hD : ∀ σ, va_D (AW B 26) (wW cy B kM σ) := AW_D kM_len
  intro v0 t0 σ h0 h H locs ls hP hS hl
  unfold wX11_ruleHere_127 at h
  refine lv_istore_n (lv' := [(2, .int t0), (0, .ref (B + v0))]) hx hb dX11_ruleHere_127 rfl hl (by decide) rfl (fun ls hl => ?_)
  refine lv_iload_n hx hb dX11_ruleHere_128 rfl (lv_at hl 0 rfl) ?_
  refine lv_i2l hx hb dX11_ruleHere_129 rfl ?_
  refine lv_aload_n hx hb dX11_ruleHere_130 rfl (lv_at hl 1 rfl) ?_
  refine rk_calli (va_runV (As := []) (rest := [.long (t0.toInt64)]) X.1 (mX11_p l D cy B v0 σ h0 h) (cwV 0 hts (gW_V (wi_35 _ (List.mem_of_getElem? (i := 21) rfl)) (wi_35 _ (List.mem_of_getElem? (i := 22) rfl)) (wi_35 _ (List.mem_of_getElem? (i := 23) rfl)) (wi_30 _ (List.mem_of_getElem? (i := 9) rfl)) (wi_35 _ (List.mem_of_getElem? (i := 4) rfl))) rfl rfl rfl hd_X11_p ⟨Nat.le_of_ble_eq_true rfl, Nat.le_of_ble_eq_true rfl⟩) (rk_preV X hS hP h0 rfl rfl []) rfl rfl hl.1 rfl (lv_room (Nat.le_of_ble_eq_true rfl)) dX11_ruleHere_131 ⟨Nat.zero_le _, Nat.zero_le _⟩) hS (fun _ h => h) (fun r1 s1 H locs h hP hS => ?_)
  refine rk_calli (va_runS (As := [.long (t0.toInt64), .int r1]) (rest := []) X.1 (mX11_modulo l D cy B (t0.toInt64) r1 s1 h) (va_cwS 2 hts (gW_S (wi_33 _ (List.mem_of_getElem? (i := 8) rfl)) (wi_33 _ (List.mem_of_getElem? (i := 9) rfl)) (wi_30 _ (List.mem_of_getElem? (i := 9) rfl)) (wi_33 _ (List.mem_of_getElem? (i := 7) rfl))) rfl rfl rfl hd_X11_modulo ⟨Nat.le_of_ble_eq_true rfl, Nat.le_of_ble_eq_true rfl⟩) (rk_preS X hS hP [.long (t0.toInt64), .int r1]) rfl rfl hl.1 rfl (lv_room (Nat.le_of_ble_eq_true rfl)) dX11_ruleHere_134 ⟨Nat.zero_le _, Nat.zero_le _⟩) hS (fun _ h => h) (fun r2 s2 H locs h hP hS => ?_)
  exact rk_iret X rfl kM_len h hP hS dX11_ruleHere_137
set_option maxRecDepth 100000 in
set_option maxHeartbeats 4000000 in
theorem mX11_ruleHere (l : Launch) (D : va_G) (cy : Nat → ClassId) (B : Nat) (v0 : Nat) (v1 : Int32) (σ : St) (h0 : kM[v0]? = some 11) {post : Int32 → St → Prop} (h : wX11_ruleHere v0 v1 σ post) : Met l yX11_ruleHere (Cond.code yX11_ruleHere cX11_ruleHere 3 (some .int) :: WALL) (rmD 1) (PcW D cy B kM σ [.ref (B + v0), .int v1]) (va_Qi post (BW D cy B kM) (AW B 26)) 0 0 (AW B 26) := by
  refine Met.ofK (cc := cX11_ruleHere) (maxL := 3) (ret := (some .int)) (by decide +kernel) rfl kM_len ?_
  intro p e s m below meth c X hP
  obtain ⟨⟨hx, hb, hml, hown, hts⟩, hr, hlk, hK, hN, hZ⟩ := id X
  have hD : ∀ σ, va_D (AW B 26) (wW cy B kM σ) := AW_D kM_len
  have hS : va_S (AW B 26) s.heap s.heap [] := va_S.rf
  have hl := lv_entry ([.ref (B + v0), .int v1]) (n := 3) (Nat.le_of_ble_eq_true rfl)
  rw [lg_entry_eq]
  generalize (lg_sl ([.ref (B + v0), .int v1]) ++ List.replicate (3 - (lg_sl ([.ref (B + v0), .int v1])).length) Slot.unset).toArray = ls at hl ⊢
  have hl : lv_has ls 3 [(0, .ref (B + v0)), (1, .int v1)] := hl
  unfold wX11_ruleHere at h
  refine lv_iload_n hx hb dX11_ruleHere_0 rfl (lv_at hl 1 rfl) ?_
  refine lv_if_eq (tgt := 67) hx hb dX11_ruleHere_1 (by decide) (fun c1 => ?_) (fun c1 => ?_)
  · have h := h.1 c1
    refine lv_aload_n hx hb dX11_ruleHere_67 rfl (lv_at hl 0 rfl) ?_
    refine rk_get X hP (C := RX11) (T := TX11) (N := 44) (ci := 11) wix_11 h0 rfl rfl 35 (by decide) (wi_29 _ (List.mem_of_getElem? (i := 17) rfl)) rfl rfl dX11_ruleHere_68 ?_
    refine lv_iconst (v := (0 : Int32)) hx hb dX11_ruleHere_71 (by decide) ?_
    have b1 : vp_in (0 : Int32) 16 := by unfold vp_in; decide
    refine rk_iald X hP (n := 16) (klM_X11_35 h0) (fun _ _ => rfl) b1 dX11_ruleHere_72 ?_
    refine lv_aload_n hx hb dX11_ruleHere_73 rfl (lv_at hl 0 rfl) ?_
    refine rk_get X hP (C := RX11) (T := TX11) (N := 44) (ci := 11) wix_11 h0 rfl rfl 35 (by decide) (wi_29 _ (List.mem_of_getElem? (i := 17) rfl)) rfl rfl dX11_ruleHere_74 ?_
    refine lv_bipush (v := (15 : Int32)) hx hb dX11_ruleHere_77 (by decide) ?_
    have b2 : vp_in (15 : Int32) 16 := by unfold vp_in; decide
    refine rk_iald X hP (n := 16) (klM_X11_35 h0) (fun _ _ => rfl) b2 dX11_ruleHere_79 ?_
    refine lv_imul hx hb dX11_ruleHere_80 ?_
    refine lv_aload_n hx hb dX11_ruleHere_81 rfl (lv_at hl 0 rfl) ?_
    refine rk_get X hP (C := RX11) (T := TX11) (N := 44) (ci := 11) wix_11 h0 rfl rfl 35 (by decide) (wi_29 _ (List.mem_of_getElem? (i := 17) rfl)) rfl rfl dX11_ruleHere_82 ?_
    refine lv_iconst (v := (3 : Int32)) hx hb dX11_ruleHere_85 (by decide) ?_
    have b3 : vp_in (3 : Int32) 16 := by unfold vp_in; decide
    refine rk_iald X hP (n := 16) (klM_X11_35 h0) (fun _ _ => rfl) b3 dX11_ruleHere_86 ?_
    refine lv_aload_n hx hb dX11_ruleHere_87 rfl (lv_at hl 0 rfl) ?_
    refine rk_get X hP (C := RX11) (T := TX11) (N := 44) (ci := 11) wix_11 h0 rfl rfl 35 (by decide) (wi_29 _ (List.mem_of_getElem? (i := 17) rfl)) rfl rfl dX11_ruleHere_88 ?_
    refine lv_bipush (v := (12 : Int32)) hx hb dX11_ruleHere_91 (by decide) ?_
    have b4 : vp_in (12 : Int32) 16 := by unfold vp_in; decide
    refine rk_iald X hP (n := 16) (klM_X11_35 h0) (fun _ _ => rfl) b4 dX11_ruleHere_93 ?_
    refine lv_imul hx hb dX11_ruleHere_94 ?_
    refine lv_isub hx hb dX11_ruleHere_95 ?_
    refine lv_aload_n hx hb dX11_ruleHere_96 rfl (lv_at hl 0 rfl) ?_
    refine rk_get X hP (C := RX11) (T := TX11) (N := 44) (ci := 11) wix_11 h0 rfl rfl 35 (by decide) (wi_29 _ (List.mem_of_getElem? (i := 17) rfl)) rfl rfl dX11_ruleHere_97 ?_
    refine lv_iconst (v := (5 : Int32)) hx hb dX11_ruleHere_100 (by decide) ?_
    have b5 : vp_in (5 : Int32) 16 := by unfold vp_in; decide
    refine rk_iald X hP (n := 16) (klM_X11_35 h0) (fun _ _ => rfl) b5 dX11_ruleHere_101 ?_
    refine lv_aload_n hx hb dX11_ruleHere_102 rfl (lv_at hl 0 rfl) ?_
    refine rk_get X hP (C := RX11) (T := TX11) (N := 44) (ci := 11) wix_11 h0 rfl rfl 35 (by decide) (wi_29 _ (List.mem_of_getElem? (i := 17) rfl)) rfl rfl dX11_ruleHere_103 ?_
    refine lv_bipush (v := (10 : Int32)) hx hb dX11_ruleHere_106 (by decide) ?_
    have b6 : vp_in (10 : Int32) 16 := by unfold vp_in; decide
    refine rk_iald X hP (n := 16) (klM_X11_35 h0) (fun _ _ => rfl) b6 dX11_ruleHere_108 ?_
    refine lv_imul hx hb dX11_ruleHere_109 ?_
    refine lv_iadd hx hb dX11_ruleHere_110 ?_
    refine lv_aload_n hx hb dX11_ruleHere_111 rfl (lv_at hl 0 rfl) ?_
    refine rk_get X hP (C := RX11) (T := TX11) (N := 44) (ci := 11) wix_11 h0 rfl rfl 35 (by decide) (wi_29 _ (List.mem_of_getElem? (i := 17) rfl)) rfl rfl dX11_ruleHere_112 ?_
    refine lv_bipush (v := (6 : Int32)) hx hb dX11_ruleHere_115 (by decide) ?_
    have b7 : vp_in (6 : Int32) 16 := by unfold vp_in; decide
    refine rk_iald X hP (n := 16) (klM_X11_35 h0) (fun _ _ => rfl) b7 dX11_ruleHere_117 ?_
    refine lv_aload_n hx hb dX11_ruleHere_118 rfl (lv_at hl 0 rfl) ?_
    refine rk_get X hP (C := RX11) (T := TX11) (N := 44) (ci := 11) wix_11 h0 rfl rfl 35 (by decide) (wi_29 _ (List.mem_of_getElem? (i := 17) rfl)) rfl rfl dX11_ruleHere_119 ?_
    refine lv_bipush (v := (9 : Int32)) hx hb dX11_ruleHere_122 (by decide) ?_
    have b8 : vp_in (9 : Int32) 16 := by unfold vp_in; decide
    refine rk_iald X hP (n := 16) (klM_X11_35 h0) (fun _ _ => rfl) b8 dX11_ruleHere_124 ?_
    refine lv_imul hx hb dX11_ruleHere_125 ?_
    refine lv_isub hx hb dX11_ruleHere_126 ?_
    exact tX11_ruleHere_127 X _ _ _ h0 h _ _ _ hP hS (lv_sub hl [0] rfl)
  · have h := h.2 c1
    refine lv_aload_n hx hb dX11_ruleHere_4 rfl (lv_at hl 0 rfl) ?_
    refine rk_get X hP (C := RX11) (T := TX11) (N := 44) (ci := 11) wix_11 h0 rfl rfl 35 (by decide) (wi_29 _ (List.mem_of_getElem? (i := 17) rfl)) rfl rfl dX11_ruleHere_5 ?_
    refine lv_iconst (v := (1 : Int32)) hx hb dX11_ruleHere_8 (by decide) ?_
    have b9 : vp_in (1 : Int32) 16 := by unfold vp_in; decide
    refine rk_iald X hP (n := 16) (klM_X11_35 h0) (fun _ _ => rfl) b9 dX11_ruleHere_9 ?_
    refine lv_aload_n hx hb dX11_ruleHere_10 rfl (lv_at hl 0 rfl) ?_
    refine rk_get X hP (C := RX11) (T := TX11) (N := 44) (ci := 11) wix_11 h0 rfl rfl 35 (by decide) (wi_29 _ (List.mem_of_getElem? (i := 17) rfl)) rfl rfl dX11_ruleHere_11 ?_
    refine lv_bipush (v := (14 : Int32)) hx hb dX11_ruleHere_14 (by decide) ?_
    have b10 : vp_in (14 : Int32) 16 := by unfold vp_in; decide
    refine rk_iald X hP (n := 16) (klM_X11_35 h0) (fun _ _ => rfl) b10 dX11_ruleHere_16 ?_
    refine lv_imul hx hb dX11_ruleHere_17 ?_
    refine lv_aload_n hx hb dX11_ruleHere_18 rfl (lv_at hl 0 rfl) ?_
    refine rk_get X hP (C := RX11) (T := TX11) (N := 44) (ci := 11) wix_11 h0 rfl rfl 35 (by decide) (wi_29 _ (List.mem_of_getElem? (i := 17) rfl)) rfl rfl dX11_ruleHere_19 ?_
    refine lv_iconst (v := (2 : Int32)) hx hb dX11_ruleHere_22 (by decide) ?_
    have b11 : vp_in (2 : Int32) 16 := by unfold vp_in; decide
    refine rk_iald X hP (n := 16) (klM_X11_35 h0) (fun _ _ => rfl) b11 dX11_ruleHere_23 ?_
    refine lv_aload_n hx hb dX11_ruleHere_24 rfl (lv_at hl 0 rfl) ?_
    refine rk_get X hP (C := RX11) (T := TX11) (N := 44) (ci := 11) wix_11 h0 rfl rfl 35 (by decide) (wi_29 _ (List.mem_of_getElem? (i := 17) rfl)) rfl rfl dX11_ruleHere_25 ?_
    refine lv_bipush (v := (13 : Int32)) hx hb dX11_ruleHere_28 (by decide) ?_
    have b12 : vp_in (13 : Int32) 16 := by unfold vp_in; decide
    refine rk_iald X hP (n := 16) (klM_X11_35 h0) (fun _ _ => rfl) b12 dX11_ruleHere_30 ?_
    refine lv_imul hx hb dX11_ruleHere_31 ?_
    refine lv_isub hx hb dX11_ruleHere_32 ?_
    refine lv_aload_n hx hb dX11_ruleHere_33 rfl (lv_at hl 0 rfl) ?_
    refine rk_get X hP (C := RX11) (T := TX11) (N := 44) (ci := 11) wix_11 h0 rfl rfl 35 (by decide) (wi_29 _ (List.mem_of_getElem? (i := 17) rfl)) rfl rfl dX11_ruleHere_34 ?_
    refine lv_iconst (v := (4 : Int32)) hx hb dX11_ruleHere_37 (by decide) ?_
    have b13 : vp_in (4 : Int32) 16 := by unfold vp_in; decide
    refine rk_iald X hP (n := 16) (klM_X11_35 h0) (fun _ _ => rfl) b13 dX11_ruleHere_38 ?_
    refine lv_aload_n hx hb dX11_ruleHere_39 rfl (lv_at hl 0 rfl) ?_
    refine rk_get X hP (C := RX11) (T := TX11) (N := 44) (ci := 11) wix_11 h0 rfl rfl 35 (by decide) (wi_29 _ (List.mem_of_getElem? (i := 17) rfl)) rfl rfl dX11_ruleHere_40 ?_
    refine lv_bipush (v := (11 : Int32)) hx hb dX11_ruleHere_43 (by decide) ?_
    have b14 : vp_in (11 : Int32) 16 := by unfold vp_in; decide
    refine rk_iald X hP (n := 16) (klM_X11_35 h0) (fun _ _ => rfl) b14 dX11_ruleHere_45 ?_
    refine lv_imul hx hb dX11_ruleHere_46 ?_
    refine lv_iadd hx hb dX11_ruleHere_47 ?_
    refine lv_aload_n hx hb dX11_ruleHere_48 rfl (lv_at hl 0 rfl) ?_
    refine rk_get X hP (C := RX11) (T := TX11) (N := 44) (ci := 11) wix_11 h0 rfl rfl 35 (by decide) (wi_29 _ (List.mem_of_getElem? (i := 17) rfl)) rfl rfl dX11_ruleHere_49 ?_
    refine lv_bipush (v := (8 : Int32)) hx hb dX11_ruleHere_52 (by decide) ?_
    have b15 : vp_in (8 : Int32) 16 := by unfold vp_in; decide
    refine rk_iald X hP (n := 16) (klM_X11_35 h0) (fun _ _ => rfl) b15 dX11_ruleHere_54 ?_
    refine lv_aload_n hx hb dX11_ruleHere_55 rfl (lv_at hl 0 rfl) ?_
    refine rk_get X hP (C := RX11) (T := TX11) (N := 44) (ci := 11) wix_11 h0 rfl rfl 35 (by decide) (wi_29 _ (List.mem_of_getElem? (i := 17) rfl)) rfl rfl dX11_ruleHere_56 ?_
    refine lv_bipush (v := (7 : Int32)) hx hb dX11_ruleHere_59 (by decide) ?_
    have b16 : vp_in (7 : Int32) 16 := by unfold vp_in; decide
    refine rk_iald X hP (n := 16) (klM_X11_35 h0) (fun _ _ => rfl) b16 dX11_ruleHere_61 ?_
    refine lv_imul hx hb dX11_ruleHere_62 ?_
    refine lv_isub hx hb dX11_ruleHere_63 ?_
    refine lv_goto (tgt := 127) hx hb dX11_ruleHere_64 (by decide) ?_
    exact tX11_ruleHere_127 X _ _ _ h0 h _ _ _ hP hS (lv_sub hl [0] rfl)

theorem hd_X11_isMadeHere : yX11_isMadeHere.cls = RX11 ∧ yX11_isMadeHere.cls ≠ "java/lang/invoke/MethodHandle" ∧ yX11_isMadeHere.cls ≠ "java/lang/invoke/VarHandle" ∧ (parseMethodDescriptor yX11_isMadeHere.desc).map (fun d => d.parameters.length) = some 0 := by decide +kernel
set_option maxRecDepth 100000 in
set_option maxHeartbeats 4000000 in
theorem mX11_isMadeHere (l : Launch) (D : va_G) (cy : Nat → ClassId) (B : Nat) (v0 : Nat) (σ : St) (h0 : kM[v0]? = some 11) {post : Bool → St → Prop} (h : wX11_isMadeHere v0 σ post) : Met l yX11_isMadeHere (Cond.code yX11_isMadeHere cX11_isMadeHere 1 (some .boolean) :: WALL) (rmD 2) (PcW D cy B kM σ [.ref (B + v0)]) (Qz post D cy B kM 26) 0 0 (AW B 26) := by
  refine Met.ofK (cc := cX11_isMadeHere) (maxL := 1) (ret := (some .boolean)) (by decide +kernel) rfl kM_len ?_
  intro p e s m below meth c X hP
  obtain ⟨⟨hx, hb, hml, hown, hts⟩, hr, hlk, hK, hN, hZ⟩ := id X
  have hD : ∀ σ, va_D (AW B 26) (wW cy B kM σ) := AW_D kM_len
  have hS : va_S (AW B 26) s.heap s.heap [] := va_S.rf
  have hl := lv_entry ([.ref (B + v0)]) (n := 1) (Nat.le_of_ble_eq_true rfl)
  rw [lg_entry_eq]
  generalize (lg_sl ([.ref (B + v0)]) ++ List.replicate (1 - (lg_sl ([.ref (B + v0)])).length) Slot.unset).toArray = ls at hl ⊢
  have hl : lv_has ls 1 [(0, .ref (B + v0))] := hl
  unfold wX11_isMadeHere at h
  refine lv_aload_n hx hb dX11_isMadeHere_0 rfl (lv_at hl 0 rfl) ?_
  refine rk_calli (va_runV (As := []) (rest := []) X.1 (mX11_parityHere l D cy B v0 σ h0 h) (cwV 0 hts (gW_V (wi_36 _ (List.mem_of_getElem? (i := 1) rfl)) (wi_36 _ (List.mem_of_getElem? (i := 2) rfl)) (wi_36 _ (List.mem_of_getElem? (i := 3) rfl)) (wi_30 _ (List.mem_of_getElem? (i := 9) rfl)) (wi_35 _ (List.mem_of_getElem? (i := 17) rfl))) rfl rfl rfl hd_X11_parityHere ⟨Nat.le_of_ble_eq_true rfl, Nat.le_of_ble_eq_true rfl⟩) (rk_preV X hS hP h0 rfl rfl []) rfl rfl hl.1 rfl (lv_room (Nat.le_of_ble_eq_true rfl)) dX11_isMadeHere_1 ⟨Nat.zero_le _, Nat.zero_le _⟩) hS (fun _ h => h) (fun r1 s1 H locs h hP hS => ?_)
  refine lv_iconst (v := (3 : Int32)) hx hb dX11_isMadeHere_4 (by decide) ?_
  refine lv_icmp_eq (tgt := 36) hx hb dX11_isMadeHere_5 (by decide) (fun c1 => ?_) (fun c1 => ?_)
  · have h := h.1 c1
    refine lv_iconst (v := (0 : Int32)) hx hb dX11_isMadeHere_36 (by decide) ?_
    exact rk_zret X kM_len false h hP hS dX11_isMadeHere_37
  · have h := h.2 c1
    refine lv_aload_n hx hb dX11_isMadeHere_8 rfl (lv_at hl 0 rfl) ?_
    refine rk_get X hP (C := RX11) (T := TX11) (N := 44) (ci := 11) wix_11 h0 rfl rfl 36 (by decide) (wi_35 _ (List.mem_of_getElem? (i := 12) rfl)) rfl rfl dX11_isMadeHere_9 ?_
    refine lv_iconst (v := (4 : Int32)) hx hb dX11_isMadeHere_12 (by decide) ?_
    refine lv_icmp_lt (tgt := 32) hx hb dX11_isMadeHere_13 (by decide) (fun c2 => ?_) (fun c2 => ?_)
    · have h := h.1 c2
      refine lv_iconst (v := (1 : Int32)) hx hb dX11_isMadeHere_32 (by decide) ?_
      refine lv_goto (tgt := 37) hx hb dX11_isMadeHere_33 (by decide) ?_
      exact rk_zret X kM_len true h hP hS dX11_isMadeHere_37
    · have h := h.2 c2
      refine lv_aload_n hx hb dX11_isMadeHere_16 rfl (lv_at hl 0 rfl) ?_
      refine lv_iconst (v := (0 : Int32)) hx hb dX11_isMadeHere_17 (by decide) ?_
      refine rk_calli (va_runV (As := [.int (0 : Int32)]) (rest := []) X.1 (mX11_ruleHere l D cy B v0 (0 : Int32) s1 h0 h) (cwV 1 hts (gW_V (wi_36 _ (List.mem_of_getElem? (i := 4) rfl)) (wi_36 _ (List.mem_of_getElem? (i := 5) rfl)) (wi_36 _ (List.mem_of_getElem? (i := 6) rfl)) (wi_30 _ (List.mem_of_getElem? (i := 9) rfl)) (wi_35 _ (List.mem_of_getElem? (i := 20) rfl))) rfl rfl rfl hd_X11_ruleHere ⟨Nat.le_of_ble_eq_true rfl, Nat.le_of_ble_eq_true rfl⟩) (rk_preV X hS hP h0 rfl rfl [.int (0 : Int32)]) rfl rfl hl.1 rfl (lv_room (Nat.le_of_ble_eq_true rfl)) dX11_isMadeHere_18 ⟨Nat.zero_le _, Nat.zero_le _⟩) hS (fun _ h => h) (fun r2 s2 H locs h hP hS => ?_)
      refine lv_if_ne (tgt := 36) hx hb dX11_isMadeHere_21 (by decide) (fun c3 => ?_) (fun c3 => ?_)
      · have h := h.1 c3
        refine lv_iconst (v := (0 : Int32)) hx hb dX11_isMadeHere_36 (by decide) ?_
        exact rk_zret X kM_len false h hP hS dX11_isMadeHere_37
      · have h := h.2 c3
        refine lv_aload_n hx hb dX11_isMadeHere_24 rfl (lv_at hl 0 rfl) ?_
        refine lv_iconst (v := (1 : Int32)) hx hb dX11_isMadeHere_25 (by decide) ?_
        refine rk_calli (va_runV (As := [.int (1 : Int32)]) (rest := []) X.1 (mX11_ruleHere l D cy B v0 (1 : Int32) s2 h0 h) (cwV 1 hts (gW_V (wi_36 _ (List.mem_of_getElem? (i := 4) rfl)) (wi_36 _ (List.mem_of_getElem? (i := 5) rfl)) (wi_36 _ (List.mem_of_getElem? (i := 6) rfl)) (wi_30 _ (List.mem_of_getElem? (i := 9) rfl)) (wi_35 _ (List.mem_of_getElem? (i := 20) rfl))) rfl rfl rfl hd_X11_ruleHere ⟨Nat.le_of_ble_eq_true rfl, Nat.le_of_ble_eq_true rfl⟩) (rk_preV X hS hP h0 rfl rfl [.int (1 : Int32)]) rfl rfl hl.1 rfl (lv_room (Nat.le_of_ble_eq_true rfl)) dX11_isMadeHere_26 ⟨Nat.zero_le _, Nat.zero_le _⟩) hS (fun _ h => h) (fun r3 s3 H locs h hP hS => ?_)
        refine lv_if_ne (tgt := 36) hx hb dX11_isMadeHere_29 (by decide) (fun c4 => ?_) (fun c4 => ?_)
        · have h := h.1 c4
          refine lv_iconst (v := (0 : Int32)) hx hb dX11_isMadeHere_36 (by decide) ?_
          exact rk_zret X kM_len false h hP hS dX11_isMadeHere_37
        · have h := h.2 c4
          refine lv_iconst (v := (1 : Int32)) hx hb dX11_isMadeHere_32 (by decide) ?_
          refine lv_goto (tgt := 37) hx hb dX11_isMadeHere_33 (by decide) ?_
          exact rk_zret X kM_len true h hP hS dX11_isMadeHere_37

theorem hd_X11_parity : yX11_parity.cls = RX11 ∧ yX11_parity.cls ≠ "java/lang/invoke/MethodHandle" ∧ yX11_parity.cls ≠ "java/lang/invoke/VarHandle" ∧ (parseMethodDescriptor yX11_parity.desc).map (fun d => d.parameters.length) = some 1 := by decide +kernel
set_option maxRecDepth 100000 in
set_option maxHeartbeats 4000000 in
theorem mX11_parity (l : Launch) (D : va_G) (cy : Nat → ClassId) (B : Nat) (v0 : Nat) (v1 : Int32) (σ : St) (h0 : kM[v0]? = some 11) {post : Int32 → St → Prop} (h : wX11_parity v0 v1 σ post) : Met l yX11_parity (Cond.code yX11_parity cX11_parity 2 (some .int) :: WALL) (rmD 2) (PcW D cy B kM σ [.ref (B + v0), .int v1]) (va_Qi post (BW D cy B kM) (AW B 26)) 0 0 (AW B 26) := by
  refine Met.ofK (cc := cX11_parity) (maxL := 2) (ret := (some .int)) (by decide +kernel) rfl kM_len ?_
  intro p e s m below meth c X hP
  obtain ⟨⟨hx, hb, hml, hown, hts⟩, hr, hlk, hK, hN, hZ⟩ := id X
  have hD : ∀ σ, va_D (AW B 26) (wW cy B kM σ) := AW_D kM_len
  have hS : va_S (AW B 26) s.heap s.heap [] := va_S.rf
  have hl := lv_entry ([.ref (B + v0), .int v1]) (n := 2) (Nat.le_of_ble_eq_true rfl)
  rw [lg_entry_eq]
  generalize (lg_sl ([.ref (B + v0), .int v1]) ++ List.replicate (2 - (lg_sl ([.ref (B + v0), .int v1])).length) Slot.unset).toArray = ls at hl ⊢
  have hl : lv_has ls 2 [(0, .ref (B + v0)), (1, .int v1)] := hl
  unfold wX11_parity at h
  refine lv_aload_n hx hb dX11_parity_0 rfl (lv_at hl 0 rfl) ?_
  refine lv_iconst (v := (0 : Int32)) hx hb dX11_parity_1 (by decide) ?_
  refine rk_puti X hP hD hS (C := RX11) (T := TX11) (N := 44) (ci := 11) wix_11 h0 rfl rfl tyX11 tyX11_ok nmX11 0 (by decide) (wi_30 _ (List.mem_of_getElem? (i := 1) rfl)) rfl rfl (by decide +kernel) (Nat.le_of_ble_eq_true rfl) rfl dX11_parity_2 (fun H locs hP hS => ?_)
  obtain ⟨s1, es1⟩ : ∃ z : St, z = u1 σ v0 0 (0 : Int32) := ⟨_, rfl⟩
  rw [← es1] at hP
  have h := h s1 es1
  refine lv_aload_n hx hb dX11_parity_5 rfl (lv_at hl 0 rfl) ?_
  refine lv_iload_n hx hb dX11_parity_6 rfl (lv_at hl 1 rfl) ?_
  refine rk_callz (va_runV (As := [.int v1]) (rest := []) X.1 (mX11_isTable l D cy B v0 v1 s1 h0 h) (cwV 1 hts (gW_V (wi_35 _ (List.mem_of_getElem? (i := 14) rfl)) (wi_35 _ (List.mem_of_getElem? (i := 15) rfl)) (wi_35 _ (List.mem_of_getElem? (i := 16) rfl)) (wi_30 _ (List.mem_of_getElem? (i := 9) rfl)) (wi_35 _ (List.mem_of_getElem? (i := 5) rfl))) rfl rfl rfl hd_X11_isTable ⟨Nat.le_of_ble_eq_true rfl, Nat.le_of_ble_eq_true rfl⟩) (rk_preV X hS hP h0 rfl rfl [.int v1]) rfl rfl hl.1 rfl (lv_room (Nat.le_of_ble_eq_true rfl)) dX11_parity_7 ⟨Nat.zero_le _, Nat.zero_le _⟩) hS (fun _ h => h) (fun r1 s2 H locs h hP hS => ?_)
  refine lv_if_ne (tgt := 15) hx hb dX11_parity_10 (by decide) (fun c1 => ?_) (fun c1 => ?_)
  · have h := h.1 (b2i_t c1)
    refine lv_aload_n hx hb dX11_parity_15 rfl (lv_at hl 0 rfl) ?_
    refine lv_iload_n hx hb dX11_parity_16 rfl (lv_at hl 1 rfl) ?_
    refine rk_callv (va_runV (As := [.int v1]) (rest := []) X.1 (mX11_laysTable l D cy B v0 v1 s2 h0 h) (cwV 1 hts (gW_V (wi_36 _ (List.mem_of_getElem? (i := 7) rfl)) (wi_36 _ (List.mem_of_getElem? (i := 8) rfl)) (wi_36 _ (List.mem_of_getElem? (i := 9) rfl)) (wi_30 _ (List.mem_of_getElem? (i := 9) rfl)) (wi_35 _ (List.mem_of_getElem? (i := 11) rfl))) rfl rfl rfl hd_X11_laysTable ⟨Nat.le_of_ble_eq_true rfl, Nat.le_of_ble_eq_true rfl⟩) (rk_preV X hS hP h0 rfl rfl [.int v1]) rfl rfl hl.1 rfl (lv_room (Nat.le_of_ble_eq_true rfl)) dX11_parity_17 ⟨Nat.zero_le _, Nat.zero_le _⟩) hS (fun _ h => h) (fun s3 H locs h hP hS => ?_)
    refine lv_aload_n hx hb dX11_parity_20 rfl (lv_at hl 0 rfl) ?_
    refine rk_calli (va_runV (As := []) (rest := []) X.1 (mX11_parityHere l D cy B v0 s3 h0 h) (cwV 0 hts (gW_V (wi_36 _ (List.mem_of_getElem? (i := 1) rfl)) (wi_36 _ (List.mem_of_getElem? (i := 2) rfl)) (wi_36 _ (List.mem_of_getElem? (i := 3) rfl)) (wi_30 _ (List.mem_of_getElem? (i := 9) rfl)) (wi_35 _ (List.mem_of_getElem? (i := 17) rfl))) rfl rfl rfl hd_X11_parityHere ⟨Nat.le_of_ble_eq_true rfl, Nat.le_of_ble_eq_true rfl⟩) (rk_preV X hS hP h0 rfl rfl []) rfl rfl hl.1 rfl (lv_room (Nat.le_of_ble_eq_true rfl)) dX11_parity_21 ⟨Nat.zero_le _, Nat.zero_le _⟩) hS (fun _ h => h) (fun r2 s4 H locs h hP hS => ?_)
    exact rk_iret X rfl kM_len h hP hS dX11_parity_24
  · have h := h.2 (b2i_f c1)
    refine lv_iconst (v := (-1 : Int32)) hx hb dX11_parity_13 (by decide) ?_
    exact rk_iret X rfl kM_len h hP hS dX11_parity_14

theorem hd_X11_identity : yX11_identity.cls = RX11 ∧ yX11_identity.cls ≠ "java/lang/invoke/MethodHandle" ∧ yX11_identity.cls ≠ "java/lang/invoke/VarHandle" ∧ (parseMethodDescriptor yX11_identity.desc).map (fun d => d.parameters.length) = some 2 := by decide +kernel
set_option maxRecDepth 100000 in
set_option maxHeartbeats 4000000 in
theorem mX11_identity (l : Launch) (D : va_G) (cy : Nat → ClassId) (B : Nat) (v0 : Nat) (v1 : Int32) (v2 : Int32) (σ : St) (h0 : kM[v0]? = some 11) {post : Int32 → St → Prop} (h : wX11_identity v0 v1 v2 σ post) : Met l yX11_identity (Cond.code yX11_identity cX11_identity 3 (some .int) :: WALL) (rmD 2) (PcW D cy B kM σ [.ref (B + v0), .int v1, .int v2]) (va_Qi post (BW D cy B kM) (AW B 26)) 0 0 (AW B 26) := by
  refine Met.ofK (cc := cX11_identity) (maxL := 3) (ret := (some .int)) (by decide +kernel) rfl kM_len ?_
  intro p e s m below meth c X hP
  obtain ⟨⟨hx, hb, hml, hown, hts⟩, hr, hlk, hK, hN, hZ⟩ := id X
  have hD : ∀ σ, va_D (AW B 26) (wW cy B kM σ) := AW_D kM_len
  have hS : va_S (AW B 26) s.heap s.heap [] := va_S.rf
  have hl := lv_entry ([.ref (B + v0), .int v1, .int v2]) (n := 3) (Nat.le_of_ble_eq_true rfl)
  rw [lg_entry_eq]
  generalize (lg_sl ([.ref (B + v0), .int v1, .int v2]) ++ List.replicate (3 - (lg_sl ([.ref (B + v0), .int v1, .int v2])).length) Slot.unset).toArray = ls at hl ⊢
  have hl : lv_has ls 3 [(0, .ref (B + v0)), (1, .int v1), (2, .int v2)] := hl
  unfold wX11_identity at h
  refine lv_aload_n hx hb dX11_identity_0 rfl (lv_at hl 0 rfl) ?_
  refine lv_iconst (v := (0 : Int32)) hx hb dX11_identity_1 (by decide) ?_
  refine rk_puti X hP hD hS (C := RX11) (T := TX11) (N := 44) (ci := 11) wix_11 h0 rfl rfl tyX11 tyX11_ok nmX11 0 (by decide) (wi_30 _ (List.mem_of_getElem? (i := 1) rfl)) rfl rfl (by decide +kernel) (Nat.le_of_ble_eq_true rfl) rfl dX11_identity_2 (fun H locs hP hS => ?_)
  obtain ⟨s1, es1⟩ : ∃ z : St, z = u1 σ v0 0 (0 : Int32) := ⟨_, rfl⟩
  rw [← es1] at hP
  have h := h s1 es1
  refine lv_aload_n hx hb dX11_identity_5 rfl (lv_at hl 0 rfl) ?_
  refine lv_iload_n hx hb dX11_identity_6 rfl (lv_at hl 1 rfl) ?_
  refine rk_callz (va_runV (As := [.int v1]) (rest := []) X.1 (mX11_isTable l D cy B v0 v1 s1 h0 h) (cwV 1 hts (gW_V (wi_35 _ (List.mem_of_getElem? (i := 14) rfl)) (wi_35 _ (List.mem_of_getElem? (i := 15) rfl)) (wi_35 _ (List.mem_of_getElem? (i := 16) rfl)) (wi_30 _ (List.mem_of_getElem? (i := 9) rfl)) (wi_35 _ (List.mem_of_getElem? (i := 5) rfl))) rfl rfl rfl hd_X11_isTable ⟨Nat.le_of_ble_eq_true rfl, Nat.le_of_ble_eq_true rfl⟩) (rk_preV X hS hP h0 rfl rfl [.int v1]) rfl rfl hl.1 rfl (lv_room (Nat.le_of_ble_eq_true rfl)) dX11_identity_7 ⟨Nat.zero_le _, Nat.zero_le _⟩) hS (fun _ h => h) (fun r1 s2 H locs h hP hS => ?_)
  refine lv_if_ne (tgt := 15) hx hb dX11_identity_10 (by decide) (fun c1 => ?_) (fun c1 => ?_)
  · have h := h.1 (b2i_t c1)
    refine lv_aload_n hx hb dX11_identity_15 rfl (lv_at hl 0 rfl) ?_
    refine lv_iload_n hx hb dX11_identity_16 rfl (lv_at hl 1 rfl) ?_
    refine rk_callv (va_runV (As := [.int v1]) (rest := []) X.1 (mX11_laysTable l D cy B v0 v1 s2 h0 h) (cwV 1 hts (gW_V (wi_36 _ (List.mem_of_getElem? (i := 7) rfl)) (wi_36 _ (List.mem_of_getElem? (i := 8) rfl)) (wi_36 _ (List.mem_of_getElem? (i := 9) rfl)) (wi_30 _ (List.mem_of_getElem? (i := 9) rfl)) (wi_35 _ (List.mem_of_getElem? (i := 11) rfl))) rfl rfl rfl hd_X11_laysTable ⟨Nat.le_of_ble_eq_true rfl, Nat.le_of_ble_eq_true rfl⟩) (rk_preV X hS hP h0 rfl rfl [.int v1]) rfl rfl hl.1 rfl (lv_room (Nat.le_of_ble_eq_true rfl)) dX11_identity_17 ⟨Nat.zero_le _, Nat.zero_le _⟩) hS (fun _ h => h) (fun s3 H locs h hP hS => ?_)
    refine lv_aload_n hx hb dX11_identity_20 rfl (lv_at hl 0 rfl) ?_
    refine rk_get X hP (C := RX11) (T := TX11) (N := 44) (ci := 11) wix_11 h0 rfl rfl 36 (by decide) (wi_35 _ (List.mem_of_getElem? (i := 12) rfl)) rfl rfl dX11_identity_21 ?_
    refine lv_iconst (v := (4 : Int32)) hx hb dX11_identity_24 (by decide) ?_
    refine lv_icmp_ge (tgt := 33) hx hb dX11_identity_25 (by decide) (fun c2 => ?_) (fun c2 => ?_)
    · have h := h.1 c2
      refine lv_aload_n hx hb dX11_identity_33 rfl (lv_at hl 0 rfl) ?_
      refine lv_iload_n hx hb dX11_identity_34 rfl (lv_at hl 2 rfl) ?_
      refine rk_calli (va_runV (As := [.int v2]) (rest := []) X.1 (mX11_ruleHere l D cy B v0 v2 s3 h0 h) (cwV 1 hts (gW_V (wi_36 _ (List.mem_of_getElem? (i := 4) rfl)) (wi_36 _ (List.mem_of_getElem? (i := 5) rfl)) (wi_36 _ (List.mem_of_getElem? (i := 6) rfl)) (wi_30 _ (List.mem_of_getElem? (i := 9) rfl)) (wi_35 _ (List.mem_of_getElem? (i := 20) rfl))) rfl rfl rfl hd_X11_ruleHere ⟨Nat.le_of_ble_eq_true rfl, Nat.le_of_ble_eq_true rfl⟩) (rk_preV X hS hP h0 rfl rfl [.int v2]) rfl rfl hl.1 rfl (lv_room (Nat.le_of_ble_eq_true rfl)) dX11_identity_35 ⟨Nat.zero_le _, Nat.zero_le _⟩) hS (fun _ h => h) (fun r2 s4 H locs h hP hS => ?_)
      exact rk_iret X rfl kM_len h hP hS dX11_identity_38
    · have h := h.2 c2
      refine lv_bipush (v := (-2 : Int32)) hx hb dX11_identity_28 (by decide) ?_
      refine lv_goto (tgt := 38) hx hb dX11_identity_30 (by decide) ?_
      exact rk_iret X rfl kM_len h hP hS dX11_identity_38
  · have h := h.2 (b2i_f c1)
    refine lv_iconst (v := (-1 : Int32)) hx hb dX11_identity_13 (by decide) ?_
    exact rk_iret X rfl kM_len h hP hS dX11_identity_14

theorem hd_X11_made : yX11_made.cls = RX11 ∧ yX11_made.cls ≠ "java/lang/invoke/MethodHandle" ∧ yX11_made.cls ≠ "java/lang/invoke/VarHandle" ∧ (parseMethodDescriptor yX11_made.desc).map (fun d => d.parameters.length) = some 1 := by decide +kernel
set_option maxRecDepth 100000 in
set_option maxHeartbeats 4000000 in
theorem mX11_made (l : Launch) (D : va_G) (cy : Nat → ClassId) (B : Nat) (v0 : Nat) (v1 : Int32) (σ : St) (h0 : kM[v0]? = some 11) {post : Int32 → St → Prop} (h : wX11_made v0 v1 σ post) : Met l yX11_made (Cond.code yX11_made cX11_made 2 (some .int) :: WALL) (rmD 3) (PcW D cy B kM σ [.ref (B + v0), .int v1]) (va_Qi post (BW D cy B kM) (AW B 26)) 0 0 (AW B 26) := by
  refine Met.ofK (cc := cX11_made) (maxL := 2) (ret := (some .int)) (by decide +kernel) rfl kM_len ?_
  intro p e s m below meth c X hP
  obtain ⟨⟨hx, hb, hml, hown, hts⟩, hr, hlk, hK, hN, hZ⟩ := id X
  have hD : ∀ σ, va_D (AW B 26) (wW cy B kM σ) := AW_D kM_len
  have hS : va_S (AW B 26) s.heap s.heap [] := va_S.rf
  have hl := lv_entry ([.ref (B + v0), .int v1]) (n := 2) (Nat.le_of_ble_eq_true rfl)
  rw [lg_entry_eq]
  generalize (lg_sl ([.ref (B + v0), .int v1]) ++ List.replicate (2 - (lg_sl ([.ref (B + v0), .int v1])).length) Slot.unset).toArray = ls at hl ⊢
  have hl : lv_has ls 2 [(0, .ref (B + v0)), (1, .int v1)] := hl
  unfold wX11_made at h
  refine lv_aload_n hx hb dX11_made_0 rfl (lv_at hl 0 rfl) ?_
  refine lv_iconst (v := (0 : Int32)) hx hb dX11_made_1 (by decide) ?_
  refine rk_puti X hP hD hS (C := RX11) (T := TX11) (N := 44) (ci := 11) wix_11 h0 rfl rfl tyX11 tyX11_ok nmX11 0 (by decide) (wi_30 _ (List.mem_of_getElem? (i := 1) rfl)) rfl rfl (by decide +kernel) (Nat.le_of_ble_eq_true rfl) rfl dX11_made_2 (fun H locs hP hS => ?_)
  obtain ⟨s1, es1⟩ : ∃ z : St, z = u1 σ v0 0 (0 : Int32) := ⟨_, rfl⟩
  rw [← es1] at hP
  have h := h s1 es1
  refine lv_aload_n hx hb dX11_made_5 rfl (lv_at hl 0 rfl) ?_
  refine lv_iload_n hx hb dX11_made_6 rfl (lv_at hl 1 rfl) ?_
  refine rk_callz (va_runV (As := [.int v1]) (rest := []) X.1 (mX11_isTable l D cy B v0 v1 s1 h0 h) (cwV 1 hts (gW_V (wi_35 _ (List.mem_of_getElem? (i := 14) rfl)) (wi_35 _ (List.mem_of_getElem? (i := 15) rfl)) (wi_35 _ (List.mem_of_getElem? (i := 16) rfl)) (wi_30 _ (List.mem_of_getElem? (i := 9) rfl)) (wi_35 _ (List.mem_of_getElem? (i := 5) rfl))) rfl rfl rfl hd_X11_isTable ⟨Nat.le_of_ble_eq_true rfl, Nat.le_of_ble_eq_true rfl⟩) (rk_preV X hS hP h0 rfl rfl [.int v1]) rfl rfl hl.1 rfl (lv_room (Nat.le_of_ble_eq_true rfl)) dX11_made_7 ⟨Nat.zero_le _, Nat.zero_le _⟩) hS (fun _ h => h) (fun r1 s2 H locs h hP hS => ?_)
  refine lv_if_ne (tgt := 15) hx hb dX11_made_10 (by decide) (fun c1 => ?_) (fun c1 => ?_)
  · have h := h.1 (b2i_t c1)
    refine lv_aload_n hx hb dX11_made_15 rfl (lv_at hl 0 rfl) ?_
    refine lv_iload_n hx hb dX11_made_16 rfl (lv_at hl 1 rfl) ?_
    refine rk_callv (va_runV (As := [.int v1]) (rest := []) X.1 (mX11_laysTable l D cy B v0 v1 s2 h0 h) (cwV 1 hts (gW_V (wi_36 _ (List.mem_of_getElem? (i := 7) rfl)) (wi_36 _ (List.mem_of_getElem? (i := 8) rfl)) (wi_36 _ (List.mem_of_getElem? (i := 9) rfl)) (wi_30 _ (List.mem_of_getElem? (i := 9) rfl)) (wi_35 _ (List.mem_of_getElem? (i := 11) rfl))) rfl rfl rfl hd_X11_laysTable ⟨Nat.le_of_ble_eq_true rfl, Nat.le_of_ble_eq_true rfl⟩) (rk_preV X hS hP h0 rfl rfl [.int v1]) rfl rfl hl.1 rfl (lv_room (Nat.le_of_ble_eq_true rfl)) dX11_made_17 ⟨Nat.zero_le _, Nat.zero_le _⟩) hS (fun _ h => h) (fun s3 H locs h hP hS => ?_)
    refine lv_aload_n hx hb dX11_made_20 rfl (lv_at hl 0 rfl) ?_
    refine rk_callz (va_runV (As := []) (rest := []) X.1 (mX11_isMadeHere l D cy B v0 s3 h0 h) (cwV 0 hts (gW_V (wi_36 _ (List.mem_of_getElem? (i := 12) rfl)) (wi_36 _ (List.mem_of_getElem? (i := 13) rfl)) (wi_36 _ (List.mem_of_getElem? (i := 14) rfl)) (wi_30 _ (List.mem_of_getElem? (i := 9) rfl)) (wi_36 _ (List.mem_of_getElem? (i := 0) rfl))) rfl rfl rfl hd_X11_isMadeHere ⟨Nat.le_of_ble_eq_true rfl, Nat.le_of_ble_eq_true rfl⟩) (rk_preV X hS hP h0 rfl rfl []) rfl rfl hl.1 rfl (lv_room (Nat.le_of_ble_eq_true rfl)) dX11_made_21 ⟨Nat.zero_le _, Nat.zero_le _⟩) hS (fun _ h => h) (fun r2 s4 H locs h hP hS => ?_)
    refine lv_if_eq (tgt := 31) hx hb dX11_made_24 (by decide) (fun c2 => ?_) (fun c2 => ?_)
    · have h := h.1 (b2i_f c2)
      refine lv_iconst (v := (0 : Int32)) hx hb dX11_made_31 (by decide) ?_
      exact rk_iret X rfl kM_len h hP hS dX11_made_32
    · have h := h.2 (b2i_t c2)
      refine lv_iconst (v := (1 : Int32)) hx hb dX11_made_27 (by decide) ?_
      refine lv_goto (tgt := 32) hx hb dX11_made_28 (by decide) ?_
      exact rk_iret X rfl kM_len h hP hS dX11_made_32
  · have h := h.2 (b2i_f c1)
    refine lv_iconst (v := (-1 : Int32)) hx hb dX11_made_13 (by decide) ?_
    exact rk_iret X rfl kM_len h hP hS dX11_made_14

theorem hd_X11_plain : yX11_plain.cls = RX11 ∧ yX11_plain.cls ≠ "java/lang/invoke/MethodHandle" ∧ yX11_plain.cls ≠ "java/lang/invoke/VarHandle" ∧ (parseMethodDescriptor yX11_plain.desc).map (fun d => d.parameters.length) = some 1 := by decide +kernel
set_option maxRecDepth 100000 in
set_option maxHeartbeats 4000000 in
theorem tX11_plain_22 {p : Program} {l : Launch} {e : Env} {s : State} {m : MethodId} {av : Array Value} {below : List Frame} {meth : Method} {c : Code} {D : va_G} {cy : Nat → ClassId} {B : Nat} (X : kC p s m av meth c cX11_plain 3 (some .int) WALL RX11 D cy (AW B 26)) {post : Int32 → St → Prop} : ∀ (n : Nat) (v0 : Nat) (v2 : Int32) (σ : St), kM[v0]? = some 11 → wX11_plain_22 post n v0 v2 σ → ∀ (H : Heap) (locs : List Loc) (ls : Array Slot), va_P D vwCl (wW cy B kM σ) H → va_S (AW B 26) s.heap H locs → lv_has ls 3 [(0, .ref (B + v0)), (2, .int v2)] → W p l e (rmD 2) s m av below meth c H locs 0 0 (MQ below (va_Qi post (BW D cy B kM) (AW B 26)) av s 0 0 (AW B 26)) (F0 m 22 ls []) := by
  obtain ⟨⟨hx, hb, hml, hown, hts⟩, hr, hlk, hK, hN, hZ⟩ := id X
  have hD : ∀ σ, va_D (AW B 26) (wW cy B kM σ) := AW_D kM_len
  intro n
  induction n with
  | zero => intro v0 v2 σ h0 h; exact absurd h id
  | succ n ih =>
    intro v0 v2 σ h0 h H locs ls hP hS hl
    rw [wX11_plain_22] at h
    refine lv_iload_n hx hb dX11_plain_22 rfl (lv_at hl 1 rfl) ?_
    refine lv_iconst (v := (1 : Int32)) hx hb dX11_plain_23 (by decide) ?_
    refine lv_aload_n hx hb dX11_plain_24 rfl (lv_at hl 0 rfl) ?_
    refine rk_get X hP (C := RX11) (T := TX11) (N := 44) (ci := 11) wix_11 h0 rfl rfl 36 (by decide) (wi_35 _ (List.mem_of_getElem? (i := 12) rfl)) rfl rfl dX11_plain_25 ?_
    refine lv_ishl hx hb dX11_plain_28 ?_
    refine lv_icmp_ge (tgt := 62) hx hb dX11_plain_29 (by decide) (fun c1 => ?_) (fun c1 => ?_)
    · have h := h.1 c1
      refine lv_iconst (v := (1 : Int32)) hx hb dX11_plain_62 (by decide) ?_
      exact rk_iret X rfl kM_len h hP hS dX11_plain_63
    · have h := h.2 c1
      refine lv_aload_n hx hb dX11_plain_32 rfl (lv_at hl 0 rfl) ?_
      refine rk_get X hP (C := RX11) (T := TX11) (N := 44) (ci := 11) wix_11 h0 rfl rfl 35 (by decide) (wi_29 _ (List.mem_of_getElem? (i := 17) rfl)) rfl rfl dX11_plain_33 ?_
      refine lv_iload_n hx hb dX11_plain_36 rfl (lv_at hl 1 rfl) ?_
      obtain ⟨b1, h⟩ := h
      refine rk_iald X hP (n := 16) (klM_X11_35 h0) (fun _ _ => rfl) b1 dX11_plain_37 ?_
      refine lv_aload_n hx hb dX11_plain_38 rfl (lv_at hl 0 rfl) ?_
      refine rk_get X hP (C := RX11) (T := TX11) (N := 44) (ci := 11) wix_11 h0 rfl rfl 35 (by decide) (wi_29 _ (List.mem_of_getElem? (i := 17) rfl)) rfl rfl dX11_plain_39 ?_
      refine lv_iconst (v := (1 : Int32)) hx hb dX11_plain_42 (by decide) ?_
      refine lv_iload_n hx hb dX11_plain_43 rfl (lv_at hl 1 rfl) ?_
      refine rk_calli (va_runS (As := [.int v2]) (rest := [.int (1 : Int32), .ref (B + (v0 + 20)), .int (σ.1 (v0 + 20) v2.toNatClampNeg)]) X.1 (mX11_bits l D cy B v2 σ h) (va_cwS 1 hts (gW_S (wi_35 _ (List.mem_of_getElem? (i := 18) rfl)) (wi_35 _ (List.mem_of_getElem? (i := 19) rfl)) (wi_30 _ (List.mem_of_getElem? (i := 9) rfl)) (wi_35 _ (List.mem_of_getElem? (i := 10) rfl))) rfl rfl rfl hd_X11_bits ⟨Nat.le_of_ble_eq_true rfl, Nat.le_of_ble_eq_true rfl⟩) (rk_preS X hS hP [.int v2]) rfl rfl hl.1 rfl (lv_room (Nat.le_of_ble_eq_true rfl)) dX11_plain_44 ⟨Nat.zero_le _, Nat.zero_le _⟩) hS (fun _ h => h) (fun r1 s1 H locs h hP hS => ?_)
      refine lv_ishl hx hb dX11_plain_47 ?_
      refine lv_iconst (v := (1 : Int32)) hx hb dX11_plain_48 (by decide) ?_
      refine lv_isub hx hb dX11_plain_49 ?_
      refine lv_topi (fun x1 ex1 => ?_)
      have h := h x1 ex1
      obtain ⟨b2, h⟩ := h
      refine rk_iald X hP (n := 16) (klM_X11_35 h0) (fun _ _ => rfl) b2 dX11_plain_50 ?_
      refine lv_icmp_eq (tgt := 56) hx hb dX11_plain_51 (by decide) (fun c2 => ?_) (fun c2 => ?_)
      · have h := h.1 c2
        obtain ⟨x2, ex2⟩ : ∃ y : Int32, y = v2 + (1 : Int32) := ⟨_, rfl⟩
        have h := h x2 ex2
        refine lv_iinc (v := x2) (lv' := [(2, .int x2), (0, .ref (B + v0))]) hx hb dX11_plain_56 hl (k := 1) rfl (by rw [ex2]; rfl) (by decide) rfl (fun ls hl => ?_)
        refine lv_goto (tgt := 22) hx hb dX11_plain_59 (by decide) ?_
        exact ih _ _ _ h0 h _ _ _ hP hS (lv_sub hl [1, 0] rfl)
      · have h := h.2 c2
        refine lv_iconst (v := (0 : Int32)) hx hb dX11_plain_54 (by decide) ?_
        exact rk_iret X rfl kM_len h hP hS dX11_plain_55
set_option maxRecDepth 100000 in
set_option maxHeartbeats 4000000 in
theorem mX11_plain (l : Launch) (D : va_G) (cy : Nat → ClassId) (B : Nat) (v0 : Nat) (v1 : Int32) (σ : St) (h0 : kM[v0]? = some 11) {post : Int32 → St → Prop} (h : wX11_plain v0 v1 σ post) : Met l yX11_plain (Cond.code yX11_plain cX11_plain 3 (some .int) :: WALL) (rmD 2) (PcW D cy B kM σ [.ref (B + v0), .int v1]) (va_Qi post (BW D cy B kM) (AW B 26)) 0 0 (AW B 26) := by
  refine Met.ofK (cc := cX11_plain) (maxL := 3) (ret := (some .int)) (by decide +kernel) rfl kM_len ?_
  intro p e s m below meth c X hP
  obtain ⟨⟨hx, hb, hml, hown, hts⟩, hr, hlk, hK, hN, hZ⟩ := id X
  have hD : ∀ σ, va_D (AW B 26) (wW cy B kM σ) := AW_D kM_len
  have hS : va_S (AW B 26) s.heap s.heap [] := va_S.rf
  have hl := lv_entry ([.ref (B + v0), .int v1]) (n := 3) (Nat.le_of_ble_eq_true rfl)
  rw [lg_entry_eq]
  generalize (lg_sl ([.ref (B + v0), .int v1]) ++ List.replicate (3 - (lg_sl ([.ref (B + v0), .int v1])).length) Slot.unset).toArray = ls at hl ⊢
  have hl : lv_has ls 3 [(0, .ref (B + v0)), (1, .int v1)] := hl
  unfold wX11_plain at h
  refine lv_aload_n hx hb dX11_plain_0 rfl (lv_at hl 0 rfl) ?_
  refine lv_iconst (v := (0 : Int32)) hx hb dX11_plain_1 (by decide) ?_
  refine rk_puti X hP hD hS (C := RX11) (T := TX11) (N := 44) (ci := 11) wix_11 h0 rfl rfl tyX11 tyX11_ok nmX11 0 (by decide) (wi_30 _ (List.mem_of_getElem? (i := 1) rfl)) rfl rfl (by decide +kernel) (Nat.le_of_ble_eq_true rfl) rfl dX11_plain_2 (fun H locs hP hS => ?_)
  obtain ⟨s1, es1⟩ : ∃ z : St, z = u1 σ v0 0 (0 : Int32) := ⟨_, rfl⟩
  rw [← es1] at hP
  have h := h s1 es1
  refine lv_aload_n hx hb dX11_plain_5 rfl (lv_at hl 0 rfl) ?_
  refine lv_iload_n hx hb dX11_plain_6 rfl (lv_at hl 1 rfl) ?_
  refine rk_callz (va_runV (As := [.int v1]) (rest := []) X.1 (mX11_isTable l D cy B v0 v1 s1 h0 h) (cwV 1 hts (gW_V (wi_35 _ (List.mem_of_getElem? (i := 14) rfl)) (wi_35 _ (List.mem_of_getElem? (i := 15) rfl)) (wi_35 _ (List.mem_of_getElem? (i := 16) rfl)) (wi_30 _ (List.mem_of_getElem? (i := 9) rfl)) (wi_35 _ (List.mem_of_getElem? (i := 5) rfl))) rfl rfl rfl hd_X11_isTable ⟨Nat.le_of_ble_eq_true rfl, Nat.le_of_ble_eq_true rfl⟩) (rk_preV X hS hP h0 rfl rfl [.int v1]) rfl rfl hl.1 rfl (lv_room (Nat.le_of_ble_eq_true rfl)) dX11_plain_7 ⟨Nat.zero_le _, Nat.zero_le _⟩) hS (fun _ h => h) (fun r1 s2 H locs h hP hS => ?_)
  refine lv_if_ne (tgt := 15) hx hb dX11_plain_10 (by decide) (fun c1 => ?_) (fun c1 => ?_)
  · have h := h.1 (b2i_t c1)
    refine lv_aload_n hx hb dX11_plain_15 rfl (lv_at hl 0 rfl) ?_
    refine lv_iload_n hx hb dX11_plain_16 rfl (lv_at hl 1 rfl) ?_
    refine rk_callv (va_runV (As := [.int v1]) (rest := []) X.1 (mX11_laysTable l D cy B v0 v1 s2 h0 h) (cwV 1 hts (gW_V (wi_36 _ (List.mem_of_getElem? (i := 7) rfl)) (wi_36 _ (List.mem_of_getElem? (i := 8) rfl)) (wi_36 _ (List.mem_of_getElem? (i := 9) rfl)) (wi_30 _ (List.mem_of_getElem? (i := 9) rfl)) (wi_35 _ (List.mem_of_getElem? (i := 11) rfl))) rfl rfl rfl hd_X11_laysTable ⟨Nat.le_of_ble_eq_true rfl, Nat.le_of_ble_eq_true rfl⟩) (rk_preV X hS hP h0 rfl rfl [.int v1]) rfl rfl hl.1 rfl (lv_room (Nat.le_of_ble_eq_true rfl)) dX11_plain_17 ⟨Nat.zero_le _, Nat.zero_le _⟩) hS (fun _ h => h) (fun s3 H locs h hP hS => ?_)
    refine lv_iconst (v := (0 : Int32)) hx hb dX11_plain_20 (by decide) ?_
    refine lv_istore_n (lv' := [(2, .int (0 : Int32)), (0, .ref (B + v0)), (1, .int v1)]) hx hb dX11_plain_21 rfl hl (by decide) rfl (fun ls hl => ?_)
    obtain ⟨j, h⟩ := h
    exact tX11_plain_22 X j _ _ _ h0 h _ _ _ hP hS (lv_sub hl [1, 0] rfl)
  · have h := h.2 (b2i_f c1)
    refine lv_iconst (v := (-1 : Int32)) hx hb dX11_plain_13 (by decide) ?_
    exact rk_iret X rfl kM_len h hP hS dX11_plain_14

theorem hd_X11_like : yX11_like.cls = RX11 ∧ yX11_like.cls ≠ "java/lang/invoke/MethodHandle" ∧ yX11_like.cls ≠ "java/lang/invoke/VarHandle" ∧ (parseMethodDescriptor yX11_like.desc).map (fun d => d.parameters.length) = some 2 := by decide +kernel
set_option maxRecDepth 100000 in
set_option maxHeartbeats 4000000 in
theorem tX11_like_110 {p : Program} {l : Launch} {e : Env} {s : State} {m : MethodId} {av : Array Value} {below : List Frame} {meth : Method} {c : Code} {D : va_G} {cy : Nat → ClassId} {B : Nat} (X : kC p s m av meth c cX11_like 6 (some .int) WALL RX11 D cy (AW B 26)) {post : Int32 → St → Prop} {R42 : Nat → Int32 → Int32 → Int32 → St → Prop} (hR42 : ∀ (v0 : Nat) (v1 : Int32) (v2 : Int32) (v3 : Int32) (σ : St), kM[v0]? = some 11 → R42 v0 v1 v2 v3 σ → ∀ (H : Heap) (locs : List Loc) (ls : Array Slot), va_P D vwCl (wW cy B kM σ) H → va_S (AW B 26) s.heap H locs → lv_has ls 6 [(0, .ref (B + v0)), (1, .int v1), (2, .int v2), (3, .int v3)] → W p l e (rmD 2) s m av below meth c H locs 0 0 (MQ below (va_Qi post (BW D cy B kM) (AW B 26)) av s 0 0 (AW B 26)) (F0 m 42 ls [])) {R56 : Nat → Int32 → Int32 → Int32 → Int32 → Int32 → St → Prop} (hR56 : ∀ (v0 : Nat) (v1 : Int32) (v2 : Int32) (v3 : Int32) (v4 : Int32) (v5 : Int32) (σ : St), kM[v0]? = some 11 → R56 v0 v1 v2 v3 v4 v5 σ → ∀ (H : Heap) (locs : List Loc) (ls : Array Slot), va_P D vwCl (wW cy B kM σ) H → va_S (AW B 26) s.heap H locs → lv_has ls 6 [(0, .ref (B + v0)), (1, .int v1), (2, .int v2), (3, .int v3), (4, .int v4), (5, .int v5)] → W p l e (rmD 2) s m av below meth c H locs 0 0 (MQ below (va_Qi post (BW D cy B kM) (AW B 26)) av s 0 0 (AW B 26)) (F0 m 56 ls [])) : ∀ (v0 : Nat) (v1 : Int32) (v2 : Int32) (v3 : Int32) (v5 : Int32) (t0 : Int32) (t1 : Int32) (σ : St), kM[v0]? = some 11 → wX11_like_110 post R42 R56 v0 v1 v2 v3 v5 t0 t1 σ → ∀ (H : Heap) (locs : List Loc) (ls : Array Slot), va_P D vwCl (wW cy B kM σ) H → va_S (AW B 26) s.heap H locs → lv_has ls 6 [(0, .ref (B + v0)), (1, .int v1), (2, .int v2), (3, .int v3), (5, .int v5)] → W p l e (rmD 2) s m av below meth c H locs 0 0 (MQ below (va_Qi post (BW D cy B kM) (AW B 26)) av s 0 0 (AW B 26)) (F0 m 110 ls [.int t1, .int t0]) := by
  obtain ⟨⟨hx, hb, hml, hown, hts⟩, hr, hlk, hK, hN, hZ⟩ := id X
  have hD : ∀ σ, va_D (AW B 26) (wW cy B kM σ) := AW_D kM_len
  intro v0 v1 v2 v3 v5 t0 t1 σ h0 h H locs ls hP hS hl
  unfold wX11_like_110 at h
  refine lv_iand hx hb dX11_like_110 ?_
  refine lv_topi (fun x1 ex1 => ?_)
  have h := h x1 ex1
  refine lv_istore (lv' := [(4, .int x1), (0, .ref (B + v0)), (1, .int v1), (2, .int v2), (3, .int v3), (5, .int v5)]) hx hb dX11_like_111 hl (by decide) rfl (fun ls hl => ?_)
  obtain ⟨x2, ex2⟩ : ∃ y : Int32, y = v5 + (1 : Int32) := ⟨_, rfl⟩
  have h := h x2 ex2
  refine lv_iinc (v := x2) (lv' := [(5, .int x2), (4, .int x1), (0, .ref (B + v0)), (1, .int v1), (2, .int v2), (3, .int v3)]) hx hb dX11_like_113 hl (k := 5) rfl (by rw [ex2]; rfl) (by decide) rfl (fun ls hl => ?_)
  refine lv_goto (tgt := 56) hx hb dX11_like_116 (by decide) ?_
  exact hR56 _ _ _ _ _ _ _ h0 h _ _ _ hP hS (lv_sub hl [2, 3, 4, 5, 1, 0] rfl)
set_option maxRecDepth 100000 in
set_option maxHeartbeats 4000000 in
theorem tX11_like_56 {p : Program} {l : Launch} {e : Env} {s : State} {m : MethodId} {av : Array Value} {below : List Frame} {meth : Method} {c : Code} {D : va_G} {cy : Nat → ClassId} {B : Nat} (X : kC p s m av meth c cX11_like 6 (some .int) WALL RX11 D cy (AW B 26)) {post : Int32 → St → Prop} {R42 : Nat → Int32 → Int32 → Int32 → St → Prop} (hR42 : ∀ (v0 : Nat) (v1 : Int32) (v2 : Int32) (v3 : Int32) (σ : St), kM[v0]? = some 11 → R42 v0 v1 v2 v3 σ → ∀ (H : Heap) (locs : List Loc) (ls : Array Slot), va_P D vwCl (wW cy B kM σ) H → va_S (AW B 26) s.heap H locs → lv_has ls 6 [(0, .ref (B + v0)), (1, .int v1), (2, .int v2), (3, .int v3)] → W p l e (rmD 2) s m av below meth c H locs 0 0 (MQ below (va_Qi post (BW D cy B kM) (AW B 26)) av s 0 0 (AW B 26)) (F0 m 42 ls [])) : ∀ (n : Nat) (v0 : Nat) (v1 : Int32) (v2 : Int32) (v3 : Int32) (v4 : Int32) (v5 : Int32) (σ : St), kM[v0]? = some 11 → wX11_like_56 post R42 n v0 v1 v2 v3 v4 v5 σ → ∀ (H : Heap) (locs : List Loc) (ls : Array Slot), va_P D vwCl (wW cy B kM σ) H → va_S (AW B 26) s.heap H locs → lv_has ls 6 [(0, .ref (B + v0)), (1, .int v1), (2, .int v2), (3, .int v3), (4, .int v4), (5, .int v5)] → W p l e (rmD 2) s m av below meth c H locs 0 0 (MQ below (va_Qi post (BW D cy B kM) (AW B 26)) av s 0 0 (AW B 26)) (F0 m 56 ls []) := by
  obtain ⟨⟨hx, hb, hml, hown, hts⟩, hr, hlk, hK, hN, hZ⟩ := id X
  have hD : ∀ σ, va_D (AW B 26) (wW cy B kM σ) := AW_D kM_len
  intro n
  induction n with
  | zero => intro v0 v1 v2 v3 v4 v5 σ h0 h; exact absurd h id
  | succ n ih =>
    intro v0 v1 v2 v3 v4 v5 σ h0 h H locs ls hP hS hl
    rw [wX11_like_56] at h
    refine lv_iload hx hb dX11_like_56 (lv_at hl 5 rfl) ?_
    refine lv_iconst (v := (1 : Int32)) hx hb dX11_like_58 (by decide) ?_
    refine lv_aload_n hx hb dX11_like_59 rfl (lv_at hl 0 rfl) ?_
    refine rk_get X hP (C := RX11) (T := TX11) (N := 44) (ci := 11) wix_11 h0 rfl rfl 20 (by decide) (wi_29 _ (List.mem_of_getElem? (i := 6) rfl)) rfl rfl dX11_like_60 ?_
    refine lv_iload_n hx hb dX11_like_63 rfl (lv_at hl 1 rfl) ?_
    obtain ⟨b1, h⟩ := h
    refine rk_iald X hP (n := 16) (klM_X11_20 h0) (fun _ _ => rfl) b1 dX11_like_64 ?_
    refine lv_ishl hx hb dX11_like_65 ?_
    refine lv_icmp_ge (tgt := 119) hx hb dX11_like_66 (by decide) (fun c1 => ?_) (fun c1 => ?_)
    · have h := h.1 c1
      refine lv_iload hx hb dX11_like_119 (lv_at hl 4 rfl) ?_
      refine lv_if_eq (tgt := 126) hx hb dX11_like_121 (by decide) (fun c2 => ?_) (fun c2 => ?_)
      · have h := h.1 c2
        obtain ⟨x1, ex1⟩ : ∃ y : Int32, y = v3 + (1 : Int32) := ⟨_, rfl⟩
        have h := h x1 ex1
        refine lv_iinc (v := x1) (lv' := [(3, .int x1), (0, .ref (B + v0)), (1, .int v1), (2, .int v2), (4, .int v4), (5, .int v5)]) hx hb dX11_like_126 hl (k := 3) rfl (by rw [ex1]; rfl) (by decide) rfl (fun ls hl => ?_)
        refine lv_goto (tgt := 42) hx hb dX11_like_129 (by decide) ?_
        exact hR42 _ _ _ _ _ h0 h _ _ _ hP hS (lv_sub hl [1, 2, 3, 0] rfl)
      · have h := h.2 c2
        refine lv_iload_n hx hb dX11_like_124 rfl (lv_at hl 3 rfl) ?_
        exact rk_iret X rfl kM_len h hP hS dX11_like_125
    · have h := h.2 c1
      refine lv_iload hx hb dX11_like_69 (lv_at hl 4 rfl) ?_
      refine lv_aload_n hx hb dX11_like_71 rfl (lv_at hl 0 rfl) ?_
      refine rk_get X hP (C := RX11) (T := TX11) (N := 44) (ci := 11) wix_11 h0 rfl rfl 21 (by decide) (wi_29 _ (List.mem_of_getElem? (i := 7) rfl)) rfl rfl dX11_like_72 ?_
      refine lv_bipush (v := (16 : Int32)) hx hb dX11_like_75 (by decide) ?_
      refine lv_iload_n hx hb dX11_like_77 rfl (lv_at hl 1 rfl) ?_
      refine lv_imul hx hb dX11_like_78 ?_
      refine lv_iload hx hb dX11_like_79 (lv_at hl 5 rfl) ?_
      refine lv_iadd hx hb dX11_like_81 ?_
      refine lv_topi (fun x2 ex2 => ?_)
      have h := h x2 ex2
      obtain ⟨b2, h⟩ := h
      refine rk_iald X hP (n := 256) (klM_X11_21 h0) (fun _ _ => rfl) b2 dX11_like_82 ?_
      refine lv_iload_n hx hb dX11_like_83 rfl (lv_at hl 3 rfl) ?_
      refine lv_aload_n hx hb dX11_like_84 rfl (lv_at hl 0 rfl) ?_
      refine rk_get X hP (C := RX11) (T := TX11) (N := 44) (ci := 11) wix_11 h0 rfl rfl 21 (by decide) (wi_29 _ (List.mem_of_getElem? (i := 7) rfl)) rfl rfl dX11_like_85 ?_
      refine lv_bipush (v := (16 : Int32)) hx hb dX11_like_88 (by decide) ?_
      refine lv_iload_n hx hb dX11_like_90 rfl (lv_at hl 2 rfl) ?_
      refine lv_imul hx hb dX11_like_91 ?_
      refine lv_iload hx hb dX11_like_92 (lv_at hl 5 rfl) ?_
      refine lv_iadd hx hb dX11_like_94 ?_
      refine lv_topi (fun x3 ex3 => ?_)
      have h := h x3 ex3
      obtain ⟨b3, h⟩ := h
      refine rk_iald X hP (n := 256) (klM_X11_21 h0) (fun _ _ => rfl) b3 dX11_like_95 ?_
      refine lv_imul hx hb dX11_like_96 ?_
      refine lv_aload_n hx hb dX11_like_97 rfl (lv_at hl 0 rfl) ?_
      refine rk_calli (va_runV (As := []) (rest := [.int (v3 * (σ.1 (v0 + 10) x3.toNatClampNeg)), .int (σ.1 (v0 + 10) x2.toNatClampNeg), .int v4]) X.1 (mX11_p l D cy B v0 σ h0 h) (cwV 0 hts (gW_V (wi_35 _ (List.mem_of_getElem? (i := 21) rfl)) (wi_35 _ (List.mem_of_getElem? (i := 22) rfl)) (wi_35 _ (List.mem_of_getElem? (i := 23) rfl)) (wi_30 _ (List.mem_of_getElem? (i := 9) rfl)) (wi_35 _ (List.mem_of_getElem? (i := 4) rfl))) rfl rfl rfl hd_X11_p ⟨Nat.le_of_ble_eq_true rfl, Nat.le_of_ble_eq_true rfl⟩) (rk_preV X hS hP h0 rfl rfl []) rfl rfl hl.1 rfl (lv_room (Nat.le_of_ble_eq_true rfl)) dX11_like_98 ⟨Nat.zero_le _, Nat.zero_le _⟩) hS (fun _ h => h) (fun r1 s1 H locs h hP hS => ?_)
      obtain ⟨z1, h⟩ := h
      refine lv_irem hx hb dX11_like_101 z1 ?_
      refine lv_icmp_ne (tgt := 109) hx hb dX11_like_102 (by decide) (fun c3 => ?_) (fun c3 => ?_)
      · have h := h.1 c3
        refine lv_iconst (v := (0 : Int32)) hx hb dX11_like_109 (by decide) ?_
        exact tX11_like_110 X hR42 ih _ _ _ _ _ _ _ _ h0 h _ _ _ hP hS (lv_sub hl [0, 1, 2, 3, 5] rfl)
      · have h := h.2 c3
        refine lv_iconst (v := (1 : Int32)) hx hb dX11_like_105 (by decide) ?_
        refine lv_goto (tgt := 110) hx hb dX11_like_106 (by decide) ?_
        exact tX11_like_110 X hR42 ih _ _ _ _ _ _ _ _ h0 h _ _ _ hP hS (lv_sub hl [0, 1, 2, 3, 5] rfl)
set_option maxRecDepth 100000 in
set_option maxHeartbeats 4000000 in
theorem tX11_like_42 {p : Program} {l : Launch} {e : Env} {s : State} {m : MethodId} {av : Array Value} {below : List Frame} {meth : Method} {c : Code} {D : va_G} {cy : Nat → ClassId} {B : Nat} (X : kC p s m av meth c cX11_like 6 (some .int) WALL RX11 D cy (AW B 26)) {post : Int32 → St → Prop} : ∀ (n : Nat) (v0 : Nat) (v1 : Int32) (v2 : Int32) (v3 : Int32) (σ : St), kM[v0]? = some 11 → wX11_like_42 post n v0 v1 v2 v3 σ → ∀ (H : Heap) (locs : List Loc) (ls : Array Slot), va_P D vwCl (wW cy B kM σ) H → va_S (AW B 26) s.heap H locs → lv_has ls 6 [(0, .ref (B + v0)), (1, .int v1), (2, .int v2), (3, .int v3)] → W p l e (rmD 2) s m av below meth c H locs 0 0 (MQ below (va_Qi post (BW D cy B kM) (AW B 26)) av s 0 0 (AW B 26)) (F0 m 42 ls []) := by
  obtain ⟨⟨hx, hb, hml, hown, hts⟩, hr, hlk, hK, hN, hZ⟩ := id X
  have hD : ∀ σ, va_D (AW B 26) (wW cy B kM σ) := AW_D kM_len
  intro n
  induction n with
  | zero => intro v0 v1 v2 v3 σ h0 h; exact absurd h id
  | succ n ih =>
    intro v0 v1 v2 v3 σ h0 h H locs ls hP hS hl
    rw [wX11_like_42] at h
    refine lv_iload_n hx hb dX11_like_42 rfl (lv_at hl 3 rfl) ?_
    refine lv_aload_n hx hb dX11_like_43 rfl (lv_at hl 0 rfl) ?_
    refine rk_calli (va_runV (As := []) (rest := [.int v3]) X.1 (mX11_p l D cy B v0 σ h0 h) (cwV 0 hts (gW_V (wi_35 _ (List.mem_of_getElem? (i := 21) rfl)) (wi_35 _ (List.mem_of_getElem? (i := 22) rfl)) (wi_35 _ (List.mem_of_getElem? (i := 23) rfl)) (wi_30 _ (List.mem_of_getElem? (i := 9) rfl)) (wi_35 _ (List.mem_of_getElem? (i := 4) rfl))) rfl rfl rfl hd_X11_p ⟨Nat.le_of_ble_eq_true rfl, Nat.le_of_ble_eq_true rfl⟩) (rk_preV X hS hP h0 rfl rfl []) rfl rfl hl.1 rfl (lv_room (Nat.le_of_ble_eq_true rfl)) dX11_like_44 ⟨Nat.zero_le _, Nat.zero_le _⟩) hS (fun _ h => h) (fun r1 s1 H locs h hP hS => ?_)
    refine lv_icmp_ge (tgt := 132) hx hb dX11_like_47 (by decide) (fun c1 => ?_) (fun c1 => ?_)
    · have h := h.1 c1
      refine lv_iconst (v := (0 : Int32)) hx hb dX11_like_132 (by decide) ?_
      exact rk_iret X rfl kM_len h hP hS dX11_like_133
    · have h := h.2 c1
      refine lv_iconst (v := (1 : Int32)) hx hb dX11_like_50 (by decide) ?_
      refine lv_istore (lv' := [(4, .int (1 : Int32)), (0, .ref (B + v0)), (1, .int v1), (2, .int v2), (3, .int v3)]) hx hb dX11_like_51 hl (by decide) rfl (fun ls hl => ?_)
      refine lv_iconst (v := (0 : Int32)) hx hb dX11_like_53 (by decide) ?_
      refine lv_istore (lv' := [(5, .int (0 : Int32)), (4, .int (1 : Int32)), (0, .ref (B + v0)), (1, .int v1), (2, .int v2), (3, .int v3)]) hx hb dX11_like_54 hl (by decide) rfl (fun ls hl => ?_)
      obtain ⟨j, h⟩ := h
      exact tX11_like_56 X ih j _ _ _ _ _ _ _ h0 h _ _ _ hP hS (lv_sub hl [2, 3, 4, 5, 1, 0] rfl)
set_option maxRecDepth 100000 in
set_option maxHeartbeats 4000000 in
theorem mX11_like (l : Launch) (D : va_G) (cy : Nat → ClassId) (B : Nat) (v0 : Nat) (v1 : Int32) (v2 : Int32) (σ : St) (h0 : kM[v0]? = some 11) {post : Int32 → St → Prop} (h : wX11_like v0 v1 v2 σ post) : Met l yX11_like (Cond.code yX11_like cX11_like 6 (some .int) :: WALL) (rmD 2) (PcW D cy B kM σ [.ref (B + v0), .int v1, .int v2]) (va_Qi post (BW D cy B kM) (AW B 26)) 0 0 (AW B 26) := by
  refine Met.ofK (cc := cX11_like) (maxL := 6) (ret := (some .int)) (by decide +kernel) rfl kM_len ?_
  intro p e s m below meth c X hP
  obtain ⟨⟨hx, hb, hml, hown, hts⟩, hr, hlk, hK, hN, hZ⟩ := id X
  have hD : ∀ σ, va_D (AW B 26) (wW cy B kM σ) := AW_D kM_len
  have hS : va_S (AW B 26) s.heap s.heap [] := va_S.rf
  have hl := lv_entry ([.ref (B + v0), .int v1, .int v2]) (n := 6) (Nat.le_of_ble_eq_true rfl)
  rw [lg_entry_eq]
  generalize (lg_sl ([.ref (B + v0), .int v1, .int v2]) ++ List.replicate (6 - (lg_sl ([.ref (B + v0), .int v1, .int v2])).length) Slot.unset).toArray = ls at hl ⊢
  have hl : lv_has ls 6 [(0, .ref (B + v0)), (1, .int v1), (2, .int v2)] := hl
  unfold wX11_like at h
  refine lv_aload_n hx hb dX11_like_0 rfl (lv_at hl 0 rfl) ?_
  refine lv_iconst (v := (0 : Int32)) hx hb dX11_like_1 (by decide) ?_
  refine rk_puti X hP hD hS (C := RX11) (T := TX11) (N := 44) (ci := 11) wix_11 h0 rfl rfl tyX11 tyX11_ok nmX11 0 (by decide) (wi_30 _ (List.mem_of_getElem? (i := 1) rfl)) rfl rfl (by decide +kernel) (Nat.le_of_ble_eq_true rfl) rfl dX11_like_2 (fun H locs hP hS => ?_)
  obtain ⟨s1, es1⟩ : ∃ z : St, z = u1 σ v0 0 (0 : Int32) := ⟨_, rfl⟩
  rw [← es1] at hP
  have h := h s1 es1
  refine lv_aload_n hx hb dX11_like_5 rfl (lv_at hl 0 rfl) ?_
  refine lv_iload_n hx hb dX11_like_6 rfl (lv_at hl 1 rfl) ?_
  refine rk_callz (va_runV (As := [.int v1]) (rest := []) X.1 (mX11_isTable l D cy B v0 v1 s1 h0 h) (cwV 1 hts (gW_V (wi_35 _ (List.mem_of_getElem? (i := 14) rfl)) (wi_35 _ (List.mem_of_getElem? (i := 15) rfl)) (wi_35 _ (List.mem_of_getElem? (i := 16) rfl)) (wi_30 _ (List.mem_of_getElem? (i := 9) rfl)) (wi_35 _ (List.mem_of_getElem? (i := 5) rfl))) rfl rfl rfl hd_X11_isTable ⟨Nat.le_of_ble_eq_true rfl, Nat.le_of_ble_eq_true rfl⟩) (rk_preV X hS hP h0 rfl rfl [.int v1]) rfl rfl hl.1 rfl (lv_room (Nat.le_of_ble_eq_true rfl)) dX11_like_7 ⟨Nat.zero_le _, Nat.zero_le _⟩) hS (fun _ h => h) (fun r1 s2 H locs h hP hS => ?_)
  refine lv_if_eq (tgt := 21) hx hb dX11_like_10 (by decide) (fun c1 => ?_) (fun c1 => ?_)
  · have h := h.1 (b2i_f c1)
    refine lv_iconst (v := (-1 : Int32)) hx hb dX11_like_21 (by decide) ?_
    exact rk_iret X rfl kM_len h hP hS dX11_like_22
  · have h := h.2 (b2i_t c1)
    refine lv_aload_n hx hb dX11_like_13 rfl (lv_at hl 0 rfl) ?_
    refine lv_iload_n hx hb dX11_like_14 rfl (lv_at hl 2 rfl) ?_
    refine rk_callz (va_runV (As := [.int v2]) (rest := []) X.1 (mX11_isTable l D cy B v0 v2 s2 h0 h) (cwV 1 hts (gW_V (wi_35 _ (List.mem_of_getElem? (i := 14) rfl)) (wi_35 _ (List.mem_of_getElem? (i := 15) rfl)) (wi_35 _ (List.mem_of_getElem? (i := 16) rfl)) (wi_30 _ (List.mem_of_getElem? (i := 9) rfl)) (wi_35 _ (List.mem_of_getElem? (i := 5) rfl))) rfl rfl rfl hd_X11_isTable ⟨Nat.le_of_ble_eq_true rfl, Nat.le_of_ble_eq_true rfl⟩) (rk_preV X hS hP h0 rfl rfl [.int v2]) rfl rfl hl.1 rfl (lv_room (Nat.le_of_ble_eq_true rfl)) dX11_like_15 ⟨Nat.zero_le _, Nat.zero_le _⟩) hS (fun _ h => h) (fun r2 s3 H locs h hP hS => ?_)
    refine lv_if_ne (tgt := 23) hx hb dX11_like_18 (by decide) (fun c2 => ?_) (fun c2 => ?_)
    · have h := h.1 (b2i_t c2)
      refine lv_aload_n hx hb dX11_like_23 rfl (lv_at hl 0 rfl) ?_
      refine rk_get X hP (C := RX11) (T := TX11) (N := 44) (ci := 11) wix_11 h0 rfl rfl 20 (by decide) (wi_29 _ (List.mem_of_getElem? (i := 6) rfl)) rfl rfl dX11_like_24 ?_
      refine lv_iload_n hx hb dX11_like_27 rfl (lv_at hl 1 rfl) ?_
      obtain ⟨b1, h⟩ := h
      refine rk_iald X hP (n := 16) (klM_X11_20 h0) (fun _ _ => rfl) b1 dX11_like_28 ?_
      refine lv_aload_n hx hb dX11_like_29 rfl (lv_at hl 0 rfl) ?_
      refine rk_get X hP (C := RX11) (T := TX11) (N := 44) (ci := 11) wix_11 h0 rfl rfl 20 (by decide) (wi_29 _ (List.mem_of_getElem? (i := 6) rfl)) rfl rfl dX11_like_30 ?_
      refine lv_iload_n hx hb dX11_like_33 rfl (lv_at hl 2 rfl) ?_
      obtain ⟨b2, h⟩ := h
      refine rk_iald X hP (n := 16) (klM_X11_20 h0) (fun _ _ => rfl) b2 dX11_like_34 ?_
      refine lv_icmp_eq (tgt := 40) hx hb dX11_like_35 (by decide) (fun c3 => ?_) (fun c3 => ?_)
      · have h := h.1 c3
        refine lv_iconst (v := (1 : Int32)) hx hb dX11_like_40 (by decide) ?_
        refine lv_istore_n (lv' := [(3, .int (1 : Int32)), (0, .ref (B + v0)), (1, .int v1), (2, .int v2)]) hx hb dX11_like_41 rfl hl (by decide) rfl (fun ls hl => ?_)
        obtain ⟨j, h⟩ := h
        exact tX11_like_42 X j _ _ _ _ _ h0 h _ _ _ hP hS (lv_sub hl [1, 2, 3, 0] rfl)
      · have h := h.2 c3
        refine lv_iconst (v := (0 : Int32)) hx hb dX11_like_38 (by decide) ?_
        exact rk_iret X rfl kM_len h hP hS dX11_like_39
    · have h := h.2 (b2i_f c2)
      refine lv_iconst (v := (-1 : Int32)) hx hb dX11_like_21 (by decide) ?_
      exact rk_iret X rfl kM_len h hP hS dX11_like_22

theorem hd_X11_inverse : yX11_inverse.cls = RX11 ∧ yX11_inverse.cls ≠ "java/lang/invoke/MethodHandle" ∧ yX11_inverse.cls ≠ "java/lang/invoke/VarHandle" ∧ (parseMethodDescriptor yX11_inverse.desc).map (fun d => d.parameters.length) = some 1 := by decide +kernel
set_option maxRecDepth 100000 in
set_option maxHeartbeats 4000000 in
theorem tX11_inverse_2 {p : Program} {l : Launch} {e : Env} {s : State} {m : MethodId} {av : Array Value} {below : List Frame} {meth : Method} {c : Code} {D : va_G} {cy : Nat → ClassId} {B : Nat} (X : kC p s m av meth c cX11_inverse 3 (some .int) WALL RX11 D cy (AW B 26)) {post : Int32 → St → Prop} : ∀ (n : Nat) (v0 : Nat) (v1 : Int32) (v2 : Int32) (σ : St), kM[v0]? = some 11 → wX11_inverse_2 post n v0 v1 v2 σ → ∀ (H : Heap) (locs : List Loc) (ls : Array Slot), va_P D vwCl (wW cy B kM σ) H → va_S (AW B 26) s.heap H locs → lv_has ls 3 [(0, .ref (B + v0)), (1, .int v1), (2, .int v2)] → W p l e (rmD 1) s m av below meth c H locs 0 0 (MQ below (va_Qi post (BW D cy B kM) (AW B 26)) av s 0 0 (AW B 26)) (F0 m 2 ls []) := by
  obtain ⟨⟨hx, hb, hml, hown, hts⟩, hr, hlk, hK, hN, hZ⟩ := id X
  have hD : ∀ σ, va_D (AW B 26) (wW cy B kM σ) := AW_D kM_len
  intro n
  induction n with
  | zero => intro v0 v1 v2 σ h0 h; exact absurd h id
  | succ n ih =>
    intro v0 v1 v2 σ h0 h H locs ls hP hS hl
    rw [wX11_inverse_2] at h
    refine lv_iload_n hx hb dX11_inverse_2 rfl (lv_at hl 1 rfl) ?_
    refine lv_iload_n hx hb dX11_inverse_3 rfl (lv_at hl 2 rfl) ?_
    refine lv_imul hx hb dX11_inverse_4 ?_
    refine lv_aload_n hx hb dX11_inverse_5 rfl (lv_at hl 0 rfl) ?_
    refine rk_calli (va_runV (As := []) (rest := [.int (v1 * v2)]) X.1 (mX11_p l D cy B v0 σ h0 h) (cwV 0 hts (gW_V (wi_35 _ (List.mem_of_getElem? (i := 21) rfl)) (wi_35 _ (List.mem_of_getElem? (i := 22) rfl)) (wi_35 _ (List.mem_of_getElem? (i := 23) rfl)) (wi_30 _ (List.mem_of_getElem? (i := 9) rfl)) (wi_35 _ (List.mem_of_getElem? (i := 4) rfl))) rfl rfl rfl hd_X11_p ⟨Nat.le_of_ble_eq_true rfl, Nat.le_of_ble_eq_true rfl⟩) (rk_preV X hS hP h0 rfl rfl []) rfl rfl hl.1 rfl (lv_room (Nat.le_of_ble_eq_true rfl)) dX11_inverse_6 ⟨Nat.zero_le _, Nat.zero_le _⟩) hS (fun _ h => h) (fun r1 s1 H locs h hP hS => ?_)
    obtain ⟨z1, h⟩ := h
    refine lv_irem hx hb dX11_inverse_9 z1 ?_
    refine lv_iconst (v := (1 : Int32)) hx hb dX11_inverse_10 (by decide) ?_
    refine lv_icmp_eq (tgt := 20) hx hb dX11_inverse_11 (by decide) (fun c1 => ?_) (fun c1 => ?_)
    · have h := h.1 c1
      refine lv_iload_n hx hb dX11_inverse_20 rfl (lv_at hl 2 rfl) ?_
      exact rk_iret X rfl kM_len h hP hS dX11_inverse_21
    · have h := h.2 c1
      obtain ⟨x1, ex1⟩ : ∃ y : Int32, y = v2 + (1 : Int32) := ⟨_, rfl⟩
      have h := h x1 ex1
      refine lv_iinc (v := x1) (lv' := [(2, .int x1), (0, .ref (B + v0)), (1, .int v1)]) hx hb dX11_inverse_14 hl (k := 2) rfl (by rw [ex1]; rfl) (by decide) rfl (fun ls hl => ?_)
      refine lv_goto (tgt := 2) hx hb dX11_inverse_17 (by decide) ?_
      exact ih _ _ _ _ h0 h _ _ _ hP hS (lv_sub hl [1, 2, 0] rfl)
set_option maxRecDepth 100000 in
set_option maxHeartbeats 4000000 in
theorem mX11_inverse (l : Launch) (D : va_G) (cy : Nat → ClassId) (B : Nat) (v0 : Nat) (v1 : Int32) (σ : St) (h0 : kM[v0]? = some 11) {post : Int32 → St → Prop} (h : wX11_inverse v0 v1 σ post) : Met l yX11_inverse (Cond.code yX11_inverse cX11_inverse 3 (some .int) :: WALL) (rmD 1) (PcW D cy B kM σ [.ref (B + v0), .int v1]) (va_Qi post (BW D cy B kM) (AW B 26)) 0 0 (AW B 26) := by
  refine Met.ofK (cc := cX11_inverse) (maxL := 3) (ret := (some .int)) (by decide +kernel) rfl kM_len ?_
  intro p e s m below meth c X hP
  obtain ⟨⟨hx, hb, hml, hown, hts⟩, hr, hlk, hK, hN, hZ⟩ := id X
  have hD : ∀ σ, va_D (AW B 26) (wW cy B kM σ) := AW_D kM_len
  have hS : va_S (AW B 26) s.heap s.heap [] := va_S.rf
  have hl := lv_entry ([.ref (B + v0), .int v1]) (n := 3) (Nat.le_of_ble_eq_true rfl)
  rw [lg_entry_eq]
  generalize (lg_sl ([.ref (B + v0), .int v1]) ++ List.replicate (3 - (lg_sl ([.ref (B + v0), .int v1])).length) Slot.unset).toArray = ls at hl ⊢
  have hl : lv_has ls 3 [(0, .ref (B + v0)), (1, .int v1)] := hl
  unfold wX11_inverse at h
  refine lv_iconst (v := (1 : Int32)) hx hb dX11_inverse_0 (by decide) ?_
  refine lv_istore_n (lv' := [(2, .int (1 : Int32)), (0, .ref (B + v0)), (1, .int v1)]) hx hb dX11_inverse_1 rfl hl (by decide) rfl (fun ls hl => ?_)
  obtain ⟨j, h⟩ := h
  exact tX11_inverse_2 X j _ _ _ _ h0 h _ _ _ hP hS (lv_sub hl [1, 2, 0] rfl)

theorem hd_X11_spread : yX11_spread.cls ≠ "java/lang/invoke/MethodHandle" ∧ yX11_spread.cls ≠ "java/lang/invoke/VarHandle" ∧ (parseMethodDescriptor yX11_spread.desc).map (fun d => d.parameters.length) = some 3 := by decide +kernel
set_option maxRecDepth 100000 in
set_option maxHeartbeats 4000000 in
theorem tX11_spread_8 {p : Program} {l : Launch} {e : Env} {s : State} {m : MethodId} {av : Array Value} {below : List Frame} {meth : Method} {c : Code} {D : va_G} {cy : Nat → ClassId} {B : Nat} (X : kC p s m av meth c cX11_spread 6 (some .int) WALL RX11 D cy (AW B 26)) {post : Int32 → St → Prop} : ∀ (n : Nat) (v0 : Int32) (v1 : Int32) (v2 : Int32) (v3 : Int32) (v4 : Int32) (v5 : Int32) (σ : St), wX11_spread_8 post n v0 v1 v2 v3 v4 v5 σ → ∀ (H : Heap) (locs : List Loc) (ls : Array Slot), va_P D vwCl (wW cy B kM σ) H → va_S (AW B 26) s.heap H locs → lv_has ls 6 [(0, .int v0), (1, .int v1), (2, .int v2), (3, .int v3), (4, .int v4), (5, .int v5)] → W p l e (rmD 0) s m av below meth c H locs 0 0 (MQ below (va_Qi post (BW D cy B kM) (AW B 26)) av s 0 0 (AW B 26)) (F0 m 8 ls []) := by
  obtain ⟨⟨hx, hb, hml, hown, hts⟩, hr, hlk, hK, hN, hZ⟩ := id X
  have hD : ∀ σ, va_D (AW B 26) (wW cy B kM σ) := AW_D kM_len
  intro n
  induction n with
  | zero => intro v0 v1 v2 v3 v4 v5 σ h; exact absurd h id
  | succ n ih =>
    intro v0 v1 v2 v3 v4 v5 σ h H locs ls hP hS hl
    rw [wX11_spread_8] at h
    refine lv_iload hx hb dX11_spread_8 (lv_at hl 5 rfl) ?_
    refine lv_iload_n hx hb dX11_spread_10 rfl (lv_at hl 2 rfl) ?_
    refine lv_icmp_ge (tgt := 48) hx hb dX11_spread_11 (by decide) (fun c1 => ?_) (fun c1 => ?_)
    · have h := h.1 c1
      refine lv_iload hx hb dX11_spread_48 (lv_at hl 4 rfl) ?_
      exact rk_iret X rfl kM_len h hP hS dX11_spread_50
    · have h := h.2 c1
      refine lv_iload_n hx hb dX11_spread_14 rfl (lv_at hl 1 rfl) ?_
      refine lv_iload hx hb dX11_spread_15 (lv_at hl 5 rfl) ?_
      refine lv_ishr hx hb dX11_spread_17 ?_
      refine lv_iconst (v := (1 : Int32)) hx hb dX11_spread_18 (by decide) ?_
      refine lv_iand hx hb dX11_spread_19 ?_
      refine lv_if_ne (tgt := 26) hx hb dX11_spread_20 (by decide) (fun c2 => ?_) (fun c2 => ?_)
      · have h := h.1 c2
        refine lv_iload hx hb dX11_spread_26 (lv_at hl 4 rfl) ?_
        refine lv_iload_n hx hb dX11_spread_28 rfl (lv_at hl 0 rfl) ?_
        refine lv_iload_n hx hb dX11_spread_29 rfl (lv_at hl 3 rfl) ?_
        refine lv_ishr hx hb dX11_spread_30 ?_
        refine lv_iconst (v := (1 : Int32)) hx hb dX11_spread_31 (by decide) ?_
        refine lv_iand hx hb dX11_spread_32 ?_
        refine lv_iload hx hb dX11_spread_33 (lv_at hl 5 rfl) ?_
        refine lv_ishl hx hb dX11_spread_35 ?_
        refine lv_ior hx hb dX11_spread_36 ?_
        refine lv_topi (fun x1 ex1 => ?_)
        have h := h x1 ex1
        refine lv_istore (lv' := [(4, .int x1), (0, .int v0), (1, .int v1), (2, .int v2), (3, .int v3), (5, .int v5)]) hx hb dX11_spread_37 hl (by decide) rfl (fun ls hl => ?_)
        obtain ⟨x2, ex2⟩ : ∃ y : Int32, y = v3 + (1 : Int32) := ⟨_, rfl⟩
        have h := h x2 ex2
        refine lv_iinc (v := x2) (lv' := [(3, .int x2), (4, .int x1), (0, .int v0), (1, .int v1), (2, .int v2), (5, .int v5)]) hx hb dX11_spread_39 hl (k := 4) rfl (by rw [ex2]; rfl) (by decide) rfl (fun ls hl => ?_)
        obtain ⟨x3, ex3⟩ : ∃ y : Int32, y = v5 + (1 : Int32) := ⟨_, rfl⟩
        have h := h x3 ex3
        refine lv_iinc (v := x3) (lv' := [(5, .int x3), (3, .int x2), (4, .int x1), (0, .int v0), (1, .int v1), (2, .int v2)]) hx hb dX11_spread_42 hl (k := 5) rfl (by rw [ex3]; rfl) (by decide) rfl (fun ls hl => ?_)
        refine lv_goto (tgt := 8) hx hb dX11_spread_45 (by decide) ?_
        exact ih _ _ _ _ _ _ _ h _ _ _ hP hS (lv_sub hl [3, 4, 5, 1, 2, 0] rfl)
      · have h := h.2 c2
        refine lv_goto (tgt := 42) hx hb dX11_spread_23 (by decide) ?_
        obtain ⟨x4, ex4⟩ : ∃ y : Int32, y = v5 + (1 : Int32) := ⟨_, rfl⟩
        have h := h x4 ex4
        refine lv_iinc (v := x4) (lv' := [(5, .int x4), (0, .int v0), (1, .int v1), (2, .int v2), (3, .int v3), (4, .int v4)]) hx hb dX11_spread_42 hl (k := 5) rfl (by rw [ex4]; rfl) (by decide) rfl (fun ls hl => ?_)
        refine lv_goto (tgt := 8) hx hb dX11_spread_45 (by decide) ?_
        exact ih _ _ _ _ _ _ _ h _ _ _ hP hS (lv_sub hl [1, 2, 3, 4, 5, 0] rfl)
set_option maxRecDepth 100000 in
set_option maxHeartbeats 4000000 in
theorem mX11_spread (l : Launch) (D : va_G) (cy : Nat → ClassId) (B : Nat) (v0 : Int32) (v1 : Int32) (v2 : Int32) (σ : St) {post : Int32 → St → Prop} (h : wX11_spread v0 v1 v2 σ post) : Met l yX11_spread (Cond.code yX11_spread cX11_spread 6 (some .int) :: WALL) (rmD 0) (PcW D cy B kM σ [.int v0, .int v1, .int v2]) (va_Qi post (BW D cy B kM) (AW B 26)) 0 0 (AW B 26) := by
  refine Met.ofK (cc := cX11_spread) (maxL := 6) (ret := (some .int)) (by decide +kernel) rfl kM_len ?_
  intro p e s m below meth c X hP
  obtain ⟨⟨hx, hb, hml, hown, hts⟩, hr, hlk, hK, hN, hZ⟩ := id X
  have hD : ∀ σ, va_D (AW B 26) (wW cy B kM σ) := AW_D kM_len
  have hS : va_S (AW B 26) s.heap s.heap [] := va_S.rf
  have hl := lv_entry ([.int v0, .int v1, .int v2]) (n := 6) (Nat.le_of_ble_eq_true rfl)
  rw [lg_entry_eq]
  generalize (lg_sl ([.int v0, .int v1, .int v2]) ++ List.replicate (6 - (lg_sl ([.int v0, .int v1, .int v2])).length) Slot.unset).toArray = ls at hl ⊢
  have hl : lv_has ls 6 [(0, .int v0), (1, .int v1), (2, .int v2)] := hl
  unfold wX11_spread at h
  refine lv_iconst (v := (0 : Int32)) hx hb dX11_spread_0 (by decide) ?_
  refine lv_istore_n (lv' := [(3, .int (0 : Int32)), (0, .int v0), (1, .int v1), (2, .int v2)]) hx hb dX11_spread_1 rfl hl (by decide) rfl (fun ls hl => ?_)
  refine lv_iconst (v := (0 : Int32)) hx hb dX11_spread_2 (by decide) ?_
  refine lv_istore (lv' := [(4, .int (0 : Int32)), (3, .int (0 : Int32)), (0, .int v0), (1, .int v1), (2, .int v2)]) hx hb dX11_spread_3 hl (by decide) rfl (fun ls hl => ?_)
  refine lv_iconst (v := (0 : Int32)) hx hb dX11_spread_5 (by decide) ?_
  refine lv_istore (lv' := [(5, .int (0 : Int32)), (4, .int (0 : Int32)), (3, .int (0 : Int32)), (0, .int v0), (1, .int v1), (2, .int v2)]) hx hb dX11_spread_6 hl (by decide) rfl (fun ls hl => ?_)
  obtain ⟨j, h⟩ := h
  exact tX11_spread_8 X j _ _ _ _ _ _ _ h _ _ _ hP hS (lv_sub hl [3, 4, 5, 2, 1, 0] rfl)

theorem hd_X11_clears : yX11_clears.cls = RX11 ∧ yX11_clears.cls ≠ "java/lang/invoke/MethodHandle" ∧ yX11_clears.cls ≠ "java/lang/invoke/VarHandle" ∧ (parseMethodDescriptor yX11_clears.desc).map (fun d => d.parameters.length) = some 3 := by decide +kernel
set_option maxRecDepth 100000 in
set_option maxHeartbeats 4000000 in
theorem tX11_clears_16 {p : Program} {l : Launch} {e : Env} {s : State} {m : MethodId} {av : Array Value} {below : List Frame} {meth : Method} {c : Code} {D : va_G} {cy : Nat → ClassId} {B : Nat} (X : kC p s m av meth c cX11_clears 6 none WALL RX11 D cy (AW B 26)) {post : St → Prop} : ∀ (n : Nat) (v0 : Nat) (v1 : Int32) (v2 : Int32) (v4 : Int32) (v5 : Int32) (σ : St), kM[v0]? = some 11 → wX11_clears_16 post n v0 v1 v2 v4 v5 σ → ∀ (H : Heap) (locs : List Loc) (ls : Array Slot), va_P D vwCl (wW cy B kM σ) H → va_S (AW B 26) s.heap H locs → lv_has ls 6 [(0, .ref (B + v0)), (1, .int v1), (2, .int v2), (4, .int v4), (5, .int v5)] → W p l e (rmD 1) s m av below meth c H locs 0 0 (MQ below (va_Qv post (BW D cy B kM) (AW B 26)) av s 0 0 (AW B 26)) (F0 m 16 ls []) := by
  obtain ⟨⟨hx, hb, hml, hown, hts⟩, hr, hlk, hK, hN, hZ⟩ := id X
  have hD : ∀ σ, va_D (AW B 26) (wW cy B kM σ) := AW_D kM_len
  intro n
  induction n with
  | zero => intro v0 v1 v2 v4 v5 σ h0 h; exact absurd h id
  | succ n ih =>
    intro v0 v1 v2 v4 v5 σ h0 h H locs ls hP hS hl
    rw [wX11_clears_16] at h
    refine lv_iload hx hb dX11_clears_16 (lv_at hl 4 rfl) ?_
    refine lv_bipush (v := (16 : Int32)) hx hb dX11_clears_18 (by decide) ?_
    refine lv_icmp_ge (tgt := 77) hx hb dX11_clears_20 (by decide) (fun c1 => ?_) (fun c1 => ?_)
    · have h := h.1 c1
      exact rk_vret X kM_len h hP hS dX11_clears_77
    · have h := h.2 c1
      refine lv_aload_n hx hb dX11_clears_23 rfl (lv_at hl 0 rfl) ?_
      refine rk_get X hP (C := RX11) (T := TX11) (N := 44) (ci := 11) wix_11 h0 rfl rfl 37 (by decide) (wi_29 _ (List.mem_of_getElem? (i := 18) rfl)) rfl rfl dX11_clears_24 ?_
      refine lv_bipush (v := (16 : Int32)) hx hb dX11_clears_27 (by decide) ?_
      refine lv_iload_n hx hb dX11_clears_29 rfl (lv_at hl 2 rfl) ?_
      refine lv_imul hx hb dX11_clears_30 ?_
      refine lv_iload hx hb dX11_clears_31 (lv_at hl 4 rfl) ?_
      refine lv_iadd hx hb dX11_clears_33 ?_
      refine lv_aload_n hx hb dX11_clears_34 rfl (lv_at hl 0 rfl) ?_
      refine rk_get X hP (C := RX11) (T := TX11) (N := 44) (ci := 11) wix_11 h0 rfl rfl 37 (by decide) (wi_29 _ (List.mem_of_getElem? (i := 18) rfl)) rfl rfl dX11_clears_35 ?_
      refine lv_bipush (v := (16 : Int32)) hx hb dX11_clears_38 (by decide) ?_
      refine lv_iload_n hx hb dX11_clears_40 rfl (lv_at hl 2 rfl) ?_
      refine lv_imul hx hb dX11_clears_41 ?_
      refine lv_iload hx hb dX11_clears_42 (lv_at hl 4 rfl) ?_
      refine lv_iadd hx hb dX11_clears_44 ?_
      refine lv_topi (fun x1 ex1 => ?_)
      have h := h x1 ex1
      obtain ⟨b1, h⟩ := h
      refine rk_iald X hP (n := 256) (klM_X11_37 h0) (fun _ _ => rfl) b1 dX11_clears_45 ?_
      refine lv_iload hx hb dX11_clears_46 (lv_at hl 3 rfl) ?_
      refine lv_aload_n hx hb dX11_clears_48 rfl (lv_at hl 0 rfl) ?_
      refine rk_get X hP (C := RX11) (T := TX11) (N := 44) (ci := 11) wix_11 h0 rfl rfl 37 (by decide) (wi_29 _ (List.mem_of_getElem? (i := 18) rfl)) rfl rfl dX11_clears_49 ?_
      refine lv_bipush (v := (16 : Int32)) hx hb dX11_clears_52 (by decide) ?_
      refine lv_iload_n hx hb dX11_clears_54 rfl (lv_at hl 1 rfl) ?_
      refine lv_imul hx hb dX11_clears_55 ?_
      refine lv_iload hx hb dX11_clears_56 (lv_at hl 4 rfl) ?_
      refine lv_iadd hx hb dX11_clears_58 ?_
      refine lv_topi (fun x2 ex2 => ?_)
      have h := h x2 ex2
      obtain ⟨b2, h⟩ := h
      refine rk_iald X hP (n := 256) (klM_X11_37 h0) (fun _ _ => rfl) b2 dX11_clears_59 ?_
      refine lv_imul hx hb dX11_clears_60 ?_
      refine lv_isub hx hb dX11_clears_61 ?_
      refine lv_i2l hx hb dX11_clears_62 rfl ?_
      refine lv_aload_n hx hb dX11_clears_63 rfl (lv_at hl 0 rfl) ?_
      refine rk_calli (va_runV (As := []) (rest := [.long (((σ.1 (v0 + 21) x1.toNatClampNeg) - (v4 * (σ.1 (v0 + 21) x2.toNatClampNeg))).toInt64), .int (((16 : Int32) * v2) + v5), .ref (B + (v0 + 21))]) X.1 (mX11_p l D cy B v0 σ h0 h) (cwV 0 hts (gW_V (wi_35 _ (List.mem_of_getElem? (i := 21) rfl)) (wi_35 _ (List.mem_of_getElem? (i := 22) rfl)) (wi_35 _ (List.mem_of_getElem? (i := 23) rfl)) (wi_30 _ (List.mem_of_getElem? (i := 9) rfl)) (wi_35 _ (List.mem_of_getElem? (i := 4) rfl))) rfl rfl rfl hd_X11_p ⟨Nat.le_of_ble_eq_true rfl, Nat.le_of_ble_eq_true rfl⟩) (rk_preV X hS hP h0 rfl rfl []) rfl rfl hl.1 rfl (lv_room (Nat.le_of_ble_eq_true rfl)) dX11_clears_64 ⟨Nat.zero_le _, Nat.zero_le _⟩) hS (fun _ h => h) (fun r1 s1 H locs h hP hS => ?_)
      refine rk_calli (va_runS (As := [.long (((σ.1 (v0 + 21) x1.toNatClampNeg) - (v4 * (σ.1 (v0 + 21) x2.toNatClampNeg))).toInt64), .int r1]) (rest := [.int (((16 : Int32) * v2) + v5), .ref (B + (v0 + 21))]) X.1 (mX11_modulo l D cy B (((σ.1 (v0 + 21) x1.toNatClampNeg) - (v4 * (σ.1 (v0 + 21) x2.toNatClampNeg))).toInt64) r1 s1 h) (va_cwS 2 hts (gW_S (wi_33 _ (List.mem_of_getElem? (i := 8) rfl)) (wi_33 _ (List.mem_of_getElem? (i := 9) rfl)) (wi_30 _ (List.mem_of_getElem? (i := 9) rfl)) (wi_33 _ (List.mem_of_getElem? (i := 7) rfl))) rfl rfl rfl hd_X11_modulo ⟨Nat.le_of_ble_eq_true rfl, Nat.le_of_ble_eq_true rfl⟩) (rk_preS X hS hP [.long (((σ.1 (v0 + 21) x1.toNatClampNeg) - (v4 * (σ.1 (v0 + 21) x2.toNatClampNeg))).toInt64), .int r1]) rfl rfl hl.1 rfl (lv_room (Nat.le_of_ble_eq_true rfl)) dX11_clears_67 ⟨Nat.zero_le _, Nat.zero_le _⟩) hS (fun _ h => h) (fun r2 s2 H locs h hP hS => ?_)
      obtain ⟨b3, h⟩ := h
      refine rk_iast X hP hD hS (n := 256) (klM_X11_37 h0) (fun _ _ => rfl) b3 dX11_clears_70 (fun H locs hP hS => ?_)
      obtain ⟨s3, es3⟩ : ∃ z : St, z = u1 s2 (v0 + 21) (((16 : Int32) * v2) + v5).toNatClampNeg r2 := ⟨_, rfl⟩
      rw [← es3] at hP
      have h := h s3 es3
      obtain ⟨x3, ex3⟩ : ∃ y : Int32, y = v5 + (1 : Int32) := ⟨_, rfl⟩
      have h := h x3 ex3
      refine lv_iinc (v := x3) (lv' := [(5, .int x3), (0, .ref (B + v0)), (1, .int v1), (2, .int v2), (4, .int v4)]) hx hb dX11_clears_71 hl (k := 4) rfl (by rw [ex3]; rfl) (by decide) rfl (fun ls hl => ?_)
      refine lv_goto (tgt := 16) hx hb dX11_clears_74 (by decide) ?_
      exact ih _ _ _ _ _ _ h0 h _ _ _ hP hS (lv_sub hl [1, 2, 3, 4, 0] rfl)
set_option maxRecDepth 100000 in
set_option maxHeartbeats 4000000 in
theorem mX11_clears (l : Launch) (D : va_G) (cy : Nat → ClassId) (B : Nat) (v0 : Nat) (v1 : Int32) (v2 : Int32) (v3 : Int32) (σ : St) (h0 : kM[v0]? = some 11) {post : St → Prop} (h : wX11_clears v0 v1 v2 v3 σ post) : Met l yX11_clears (Cond.code yX11_clears cX11_clears 6 none :: WALL) (rmD 1) (PcW D cy B kM σ [.ref (B + v0), .int v1, .int v2, .int v3]) (va_Qv post (BW D cy B kM) (AW B 26)) 0 0 (AW B 26) := by
  refine Met.ofK (cc := cX11_clears) (maxL := 6) (ret := none) (by decide +kernel) rfl kM_len ?_
  intro p e s m below meth c X hP
  obtain ⟨⟨hx, hb, hml, hown, hts⟩, hr, hlk, hK, hN, hZ⟩ := id X
  have hD : ∀ σ, va_D (AW B 26) (wW cy B kM σ) := AW_D kM_len
  have hS : va_S (AW B 26) s.heap s.heap [] := va_S.rf
  have hl := lv_entry ([.ref (B + v0), .int v1, .int v2, .int v3]) (n := 6) (Nat.le_of_ble_eq_true rfl)
  rw [lg_entry_eq]
  generalize (lg_sl ([.ref (B + v0), .int v1, .int v2, .int v3]) ++ List.replicate (6 - (lg_sl ([.ref (B + v0), .int v1, .int v2, .int v3])).length) Slot.unset).toArray = ls at hl ⊢
  have hl : lv_has ls 6 [(0, .ref (B + v0)), (1, .int v1), (2, .int v2), (3, .int v3)] := hl
  unfold wX11_clears at h
  refine lv_aload_n hx hb dX11_clears_0 rfl (lv_at hl 0 rfl) ?_
  refine rk_get X hP (C := RX11) (T := TX11) (N := 44) (ci := 11) wix_11 h0 rfl rfl 37 (by decide) (wi_29 _ (List.mem_of_getElem? (i := 18) rfl)) rfl rfl dX11_clears_1 ?_
  refine lv_bipush (v := (16 : Int32)) hx hb dX11_clears_4 (by decide) ?_
  refine lv_iload_n hx hb dX11_clears_6 rfl (lv_at hl 2 rfl) ?_
  refine lv_imul hx hb dX11_clears_7 ?_
  refine lv_iload_n hx hb dX11_clears_8 rfl (lv_at hl 3 rfl) ?_
  refine lv_iadd hx hb dX11_clears_9 ?_
  refine lv_topi (fun x1 ex1 => ?_)
  have h := h x1 ex1
  obtain ⟨b1, h⟩ := h
  refine rk_iald X hP (n := 256) (klM_X11_37 h0) (fun _ _ => rfl) b1 dX11_clears_10 ?_
  refine lv_topi (fun x2 ex2 => ?_)
  have h := h x2 ex2
  refine lv_istore (lv' := [(4, .int x2), (0, .ref (B + v0)), (1, .int v1), (2, .int v2), (3, .int v3)]) hx hb dX11_clears_11 hl (by decide) rfl (fun ls hl => ?_)
  refine lv_iconst (v := (0 : Int32)) hx hb dX11_clears_13 (by decide) ?_
  refine lv_istore (lv' := [(5, .int (0 : Int32)), (4, .int x2), (0, .ref (B + v0)), (1, .int v1), (2, .int v2), (3, .int v3)]) hx hb dX11_clears_14 hl (by decide) rfl (fun ls hl => ?_)
  obtain ⟨j, h⟩ := h
  exact tX11_clears_16 X j _ _ _ _ _ _ h0 h _ _ _ hP hS (lv_sub hl [2, 3, 4, 1, 0] rfl)

theorem hd_X11_ranked : yX11_ranked.cls = RX11 ∧ yX11_ranked.cls ≠ "java/lang/invoke/MethodHandle" ∧ yX11_ranked.cls ≠ "java/lang/invoke/VarHandle" ∧ (parseMethodDescriptor yX11_ranked.desc).map (fun d => d.parameters.length) = some 2 := by decide +kernel
set_option maxRecDepth 100000 in
set_option maxHeartbeats 4000000 in
theorem tX11_ranked_197 {p : Program} {l : Launch} {e : Env} {s : State} {m : MethodId} {av : Array Value} {below : List Frame} {meth : Method} {c : Code} {D : va_G} {cy : Nat → ClassId} {B : Nat} (X : kC p s m av meth c cX11_ranked 8 (some .int) WALL RX11 D cy (AW B 26)) {post : Int32 → St → Prop} {R5 : Nat → Int32 → Int32 → Int32 → Int32 → St → Prop} (hR5 : ∀ (v0 : Nat) (v1 : Int32) (v2 : Int32) (v3 : Int32) (v4 : Int32) (σ : St), kM[v0]? = some 11 → R5 v0 v1 v2 v3 v4 σ → ∀ (H : Heap) (locs : List Loc) (ls : Array Slot), va_P D vwCl (wW cy B kM σ) H → va_S (AW B 26) s.heap H locs → lv_has ls 8 [(0, .ref (B + v0)), (1, .int v1), (2, .int v2), (3, .int v3), (4, .int v4)] → W p l e (rmD 2) s m av below meth c H locs 0 0 (MQ below (va_Qi post (BW D cy B kM) (AW B 26)) av s 0 0 (AW B 26)) (F0 m 5 ls [])) : ∀ (n : Nat) (v0 : Nat) (v1 : Int32) (v2 : Int32) (v3 : Int32) (v4 : Int32) (v7 : Int32) (σ : St), kM[v0]? = some 11 → wX11_ranked_197 post R5 n v0 v1 v2 v3 v4 v7 σ → ∀ (H : Heap) (locs : List Loc) (ls : Array Slot), va_P D vwCl (wW cy B kM σ) H → va_S (AW B 26) s.heap H locs → lv_has ls 8 [(0, .ref (B + v0)), (1, .int v1), (2, .int v2), (3, .int v3), (4, .int v4), (7, .int v7)] → W p l e (rmD 2) s m av below meth c H locs 0 0 (MQ below (va_Qi post (BW D cy B kM) (AW B 26)) av s 0 0 (AW B 26)) (F0 m 197 ls []) := by
  obtain ⟨⟨hx, hb, hml, hown, hts⟩, hr, hlk, hK, hN, hZ⟩ := id X
  have hD : ∀ σ, va_D (AW B 26) (wW cy B kM σ) := AW_D kM_len
  intro n
  induction n with
  | zero => intro v0 v1 v2 v3 v4 v7 σ h0 h; exact absurd h id
  | succ n ih =>
    intro v0 v1 v2 v3 v4 v7 σ h0 h H locs ls hP hS hl
    rw [wX11_ranked_197] at h
    refine lv_iload hx hb dX11_ranked_197 (lv_at hl 5 rfl) ?_
    refine lv_iload_n hx hb dX11_ranked_199 rfl (lv_at hl 1 rfl) ?_
    refine lv_icmp_ge (tgt := 218) hx hb dX11_ranked_200 (by decide) (fun c1 => ?_) (fun c1 => ?_)
    · have h := h.1 c1
      obtain ⟨x1, ex1⟩ : ∃ y : Int32, y = v3 + (1 : Int32) := ⟨_, rfl⟩
      have h := h x1 ex1
      refine lv_iinc (v := x1) (lv' := [(3, .int x1), (0, .ref (B + v0)), (1, .int v1), (2, .int v2), (4, .int v4), (7, .int v7)]) hx hb dX11_ranked_218 hl (k := 3) rfl (by rw [ex1]; rfl) (by decide) rfl (fun ls hl => ?_)
      obtain ⟨x2, ex2⟩ : ∃ y : Int32, y = v4 + (1 : Int32) := ⟨_, rfl⟩
      have h := h x2 ex2
      refine lv_iinc (v := x2) (lv' := [(4, .int x2), (3, .int x1), (0, .ref (B + v0)), (1, .int v1), (2, .int v2), (7, .int v7)]) hx hb dX11_ranked_221 hl (k := 4) rfl (by rw [ex2]; rfl) (by decide) rfl (fun ls hl => ?_)
      refine lv_goto (tgt := 5) hx hb dX11_ranked_224 (by decide) ?_
      exact hR5 _ _ _ _ _ _ h0 h _ _ _ hP hS (lv_sub hl [2, 3, 4, 1, 0] rfl)
    · have h := h.2 c1
      refine lv_aload_n hx hb dX11_ranked_203 rfl (lv_at hl 0 rfl) ?_
      refine lv_iload_n hx hb dX11_ranked_204 rfl (lv_at hl 3 rfl) ?_
      refine lv_iload hx hb dX11_ranked_205 (lv_at hl 5 rfl) ?_
      refine lv_iload hx hb dX11_ranked_207 (lv_at hl 4 rfl) ?_
      refine rk_callv (va_runV (As := [.int v3, .int v7, .int v4]) (rest := []) X.1 (mX11_clears l D cy B v0 v3 v7 v4 σ h0 h) (cwV 3 hts (gW_V (wi_37 _ (List.mem_of_getElem? (i := 1) rfl)) (wi_37 _ (List.mem_of_getElem? (i := 2) rfl)) (wi_37 _ (List.mem_of_getElem? (i := 3) rfl)) (wi_30 _ (List.mem_of_getElem? (i := 9) rfl)) (wi_36 _ (List.mem_of_getElem? (i := 20) rfl))) rfl rfl rfl hd_X11_clears ⟨Nat.le_of_ble_eq_true rfl, Nat.le_of_ble_eq_true rfl⟩) (rk_preV X hS hP h0 rfl rfl [.int v3, .int v7, .int v4]) rfl rfl hl.1 rfl (lv_room (Nat.le_of_ble_eq_true rfl)) dX11_ranked_209 ⟨Nat.zero_le _, Nat.zero_le _⟩) hS (fun _ h => h) (fun s1 H locs h hP hS => ?_)
      obtain ⟨x3, ex3⟩ : ∃ y : Int32, y = v7 + (1 : Int32) := ⟨_, rfl⟩
      have h := h x3 ex3
      refine lv_iinc (v := x3) (lv' := [(7, .int x3), (0, .ref (B + v0)), (1, .int v1), (2, .int v2), (3, .int v3), (4, .int v4)]) hx hb dX11_ranked_212 hl (k := 5) rfl (by rw [ex3]; rfl) (by decide) rfl (fun ls hl => ?_)
      refine lv_goto (tgt := 197) hx hb dX11_ranked_215 (by decide) ?_
      exact ih _ _ _ _ _ _ _ h0 h _ _ _ hP hS (lv_sub hl [1, 2, 3, 4, 5, 0] rfl)
set_option maxRecDepth 100000 in
set_option maxHeartbeats 4000000 in
theorem tX11_ranked_147 {p : Program} {l : Launch} {e : Env} {s : State} {m : MethodId} {av : Array Value} {below : List Frame} {meth : Method} {c : Code} {D : va_G} {cy : Nat → ClassId} {B : Nat} (X : kC p s m av meth c cX11_ranked 8 (some .int) WALL RX11 D cy (AW B 26)) {post : Int32 → St → Prop} {R5 : Nat → Int32 → Int32 → Int32 → Int32 → St → Prop} (hR5 : ∀ (v0 : Nat) (v1 : Int32) (v2 : Int32) (v3 : Int32) (v4 : Int32) (σ : St), kM[v0]? = some 11 → R5 v0 v1 v2 v3 v4 σ → ∀ (H : Heap) (locs : List Loc) (ls : Array Slot), va_P D vwCl (wW cy B kM σ) H → va_S (AW B 26) s.heap H locs → lv_has ls 8 [(0, .ref (B + v0)), (1, .int v1), (2, .int v2), (3, .int v3), (4, .int v4)] → W p l e (rmD 2) s m av below meth c H locs 0 0 (MQ below (va_Qi post (BW D cy B kM) (AW B 26)) av s 0 0 (AW B 26)) (F0 m 5 ls [])) : ∀ (n : Nat) (v0 : Nat) (v1 : Int32) (v2 : Int32) (v3 : Int32) (v4 : Int32) (v6 : Int32) (v7 : Int32) (σ : St), kM[v0]? = some 11 → wX11_ranked_147 post R5 n v0 v1 v2 v3 v4 v6 v7 σ → ∀ (H : Heap) (locs : List Loc) (ls : Array Slot), va_P D vwCl (wW cy B kM σ) H → va_S (AW B 26) s.heap H locs → lv_has ls 8 [(0, .ref (B + v0)), (1, .int v1), (2, .int v2), (3, .int v3), (4, .int v4), (6, .int v6), (7, .int v7)] → W p l e (rmD 2) s m av below meth c H locs 0 0 (MQ below (va_Qi post (BW D cy B kM) (AW B 26)) av s 0 0 (AW B 26)) (F0 m 147 ls []) := by
  obtain ⟨⟨hx, hb, hml, hown, hts⟩, hr, hlk, hK, hN, hZ⟩ := id X
  have hD : ∀ σ, va_D (AW B 26) (wW cy B kM σ) := AW_D kM_len
  intro n
  induction n with
  | zero => intro v0 v1 v2 v3 v4 v6 v7 σ h0 h; exact absurd h id
  | succ n ih =>
    intro v0 v1 v2 v3 v4 v6 v7 σ h0 h H locs ls hP hS hl
    rw [wX11_ranked_147] at h
    refine lv_iload hx hb dX11_ranked_147 (lv_at hl 6 rfl) ?_
    refine lv_bipush (v := (16 : Int32)) hx hb dX11_ranked_149 (by decide) ?_
    refine lv_icmp_ge (tgt := 192) hx hb dX11_ranked_151 (by decide) (fun c1 => ?_) (fun c1 => ?_)
    · have h := h.1 c1
      refine lv_iload_n hx hb dX11_ranked_192 rfl (lv_at hl 3 rfl) ?_
      refine lv_iconst (v := (1 : Int32)) hx hb dX11_ranked_193 (by decide) ?_
      refine lv_iadd hx hb dX11_ranked_194 ?_
      refine lv_topi (fun x1 ex1 => ?_)
      have h := h x1 ex1
      refine lv_istore (lv' := [(7, .int x1), (0, .ref (B + v0)), (1, .int v1), (2, .int v2), (3, .int v3), (4, .int v4), (6, .int v6)]) hx hb dX11_ranked_195 hl (by decide) rfl (fun ls hl => ?_)
      obtain ⟨j, h⟩ := h
      exact tX11_ranked_197 X hR5 j _ _ _ _ _ _ _ h0 h _ _ _ hP hS (lv_sub hl [1, 2, 3, 4, 5, 0] rfl)
    · have h := h.2 c1
      refine lv_aload_n hx hb dX11_ranked_154 rfl (lv_at hl 0 rfl) ?_
      refine rk_get X hP (C := RX11) (T := TX11) (N := 44) (ci := 11) wix_11 h0 rfl rfl 37 (by decide) (wi_29 _ (List.mem_of_getElem? (i := 18) rfl)) rfl rfl dX11_ranked_155 ?_
      refine lv_bipush (v := (16 : Int32)) hx hb dX11_ranked_158 (by decide) ?_
      refine lv_iload_n hx hb dX11_ranked_160 rfl (lv_at hl 3 rfl) ?_
      refine lv_imul hx hb dX11_ranked_161 ?_
      refine lv_iload hx hb dX11_ranked_162 (lv_at hl 6 rfl) ?_
      refine lv_iadd hx hb dX11_ranked_164 ?_
      refine lv_aload_n hx hb dX11_ranked_165 rfl (lv_at hl 0 rfl) ?_
      refine rk_get X hP (C := RX11) (T := TX11) (N := 44) (ci := 11) wix_11 h0 rfl rfl 37 (by decide) (wi_29 _ (List.mem_of_getElem? (i := 18) rfl)) rfl rfl dX11_ranked_166 ?_
      refine lv_bipush (v := (16 : Int32)) hx hb dX11_ranked_169 (by decide) ?_
      refine lv_iload_n hx hb dX11_ranked_171 rfl (lv_at hl 3 rfl) ?_
      refine lv_imul hx hb dX11_ranked_172 ?_
      refine lv_iload hx hb dX11_ranked_173 (lv_at hl 6 rfl) ?_
      refine lv_iadd hx hb dX11_ranked_175 ?_
      refine lv_topi (fun x2 ex2 => ?_)
      have h := h x2 ex2
      obtain ⟨b1, h⟩ := h
      refine rk_iald X hP (n := 256) (klM_X11_37 h0) (fun _ _ => rfl) b1 dX11_ranked_176 ?_
      refine lv_iload hx hb dX11_ranked_177 (lv_at hl 5 rfl) ?_
      refine lv_imul hx hb dX11_ranked_179 ?_
      refine lv_aload_n hx hb dX11_ranked_180 rfl (lv_at hl 0 rfl) ?_
      refine rk_calli (va_runV (As := []) (rest := [.int ((σ.1 (v0 + 21) x2.toNatClampNeg) * v6), .int (((16 : Int32) * v3) + v7), .ref (B + (v0 + 21))]) X.1 (mX11_p l D cy B v0 σ h0 h) (cwV 0 hts (gW_V (wi_35 _ (List.mem_of_getElem? (i := 21) rfl)) (wi_35 _ (List.mem_of_getElem? (i := 22) rfl)) (wi_35 _ (List.mem_of_getElem? (i := 23) rfl)) (wi_30 _ (List.mem_of_getElem? (i := 9) rfl)) (wi_35 _ (List.mem_of_getElem? (i := 4) rfl))) rfl rfl rfl hd_X11_p ⟨Nat.le_of_ble_eq_true rfl, Nat.le_of_ble_eq_true rfl⟩) (rk_preV X hS hP h0 rfl rfl []) rfl rfl hl.1 rfl (lv_room (Nat.le_of_ble_eq_true rfl)) dX11_ranked_181 ⟨Nat.zero_le _, Nat.zero_le _⟩) hS (fun _ h => h) (fun r1 s1 H locs h hP hS => ?_)
      obtain ⟨z1, h⟩ := h
      refine lv_irem hx hb dX11_ranked_184 z1 ?_
      obtain ⟨b2, h⟩ := h
      refine rk_iast X hP hD hS (n := 256) (klM_X11_37 h0) (fun _ _ => rfl) b2 dX11_ranked_185 (fun H locs hP hS => ?_)
      obtain ⟨s2, es2⟩ : ∃ z : St, z = u1 s1 (v0 + 21) (((16 : Int32) * v3) + v7).toNatClampNeg (((σ.1 (v0 + 21) x2.toNatClampNeg) * v6) - ((σ.1 (v0 + 21) x2.toNatClampNeg) * v6) / r1 * r1) := ⟨_, rfl⟩
      rw [← es2] at hP
      have h := h s2 es2
      obtain ⟨x3, ex3⟩ : ∃ y : Int32, y = v7 + (1 : Int32) := ⟨_, rfl⟩
      have h := h x3 ex3
      refine lv_iinc (v := x3) (lv' := [(7, .int x3), (0, .ref (B + v0)), (1, .int v1), (2, .int v2), (3, .int v3), (4, .int v4), (6, .int v6)]) hx hb dX11_ranked_186 hl (k := 6) rfl (by rw [ex3]; rfl) (by decide) rfl (fun ls hl => ?_)
      refine lv_goto (tgt := 147) hx hb dX11_ranked_189 (by decide) ?_
      exact ih _ _ _ _ _ _ _ _ h0 h _ _ _ hP hS (lv_sub hl [1, 2, 3, 4, 5, 6, 0] rfl)
set_option maxRecDepth 100000 in
set_option maxHeartbeats 4000000 in
theorem tX11_ranked_59 {p : Program} {l : Launch} {e : Env} {s : State} {m : MethodId} {av : Array Value} {below : List Frame} {meth : Method} {c : Code} {D : va_G} {cy : Nat → ClassId} {B : Nat} (X : kC p s m av meth c cX11_ranked 8 (some .int) WALL RX11 D cy (AW B 26)) {post : Int32 → St → Prop} {R5 : Nat → Int32 → Int32 → Int32 → Int32 → St → Prop} (hR5 : ∀ (v0 : Nat) (v1 : Int32) (v2 : Int32) (v3 : Int32) (v4 : Int32) (σ : St), kM[v0]? = some 11 → R5 v0 v1 v2 v3 v4 σ → ∀ (H : Heap) (locs : List Loc) (ls : Array Slot), va_P D vwCl (wW cy B kM σ) H → va_S (AW B 26) s.heap H locs → lv_has ls 8 [(0, .ref (B + v0)), (1, .int v1), (2, .int v2), (3, .int v3), (4, .int v4)] → W p l e (rmD 2) s m av below meth c H locs 0 0 (MQ below (va_Qi post (BW D cy B kM) (AW B 26)) av s 0 0 (AW B 26)) (F0 m 5 ls [])) : ∀ (n : Nat) (v0 : Nat) (v1 : Int32) (v2 : Int32) (v3 : Int32) (v4 : Int32) (v5 : Int32) (v6 : Int32) (σ : St), kM[v0]? = some 11 → wX11_ranked_59 post R5 n v0 v1 v2 v3 v4 v5 v6 σ → ∀ (H : Heap) (locs : List Loc) (ls : Array Slot), va_P D vwCl (wW cy B kM σ) H → va_S (AW B 26) s.heap H locs → lv_has ls 8 [(0, .ref (B + v0)), (1, .int v1), (2, .int v2), (3, .int v3), (4, .int v4), (5, .int v5), (6, .int v6)] → W p l e (rmD 2) s m av below meth c H locs 0 0 (MQ below (va_Qi post (BW D cy B kM) (AW B 26)) av s 0 0 (AW B 26)) (F0 m 59 ls []) := by
  obtain ⟨⟨hx, hb, hml, hown, hts⟩, hr, hlk, hK, hN, hZ⟩ := id X
  have hD : ∀ σ, va_D (AW B 26) (wW cy B kM σ) := AW_D kM_len
  intro n
  induction n with
  | zero => intro v0 v1 v2 v3 v4 v5 v6 σ h0 h; exact absurd h id
  | succ n ih =>
    intro v0 v1 v2 v3 v4 v5 v6 σ h0 h H locs ls hP hS hl
    rw [wX11_ranked_59] at h
    refine lv_iload hx hb dX11_ranked_59 (lv_at hl 6 rfl) ?_
    refine lv_bipush (v := (16 : Int32)) hx hb dX11_ranked_61 (by decide) ?_
    refine lv_icmp_ge (tgt := 126) hx hb dX11_ranked_63 (by decide) (fun c1 => ?_) (fun c1 => ?_)
    · have h := h.1 c1
      refine lv_aload_n hx hb dX11_ranked_126 rfl (lv_at hl 0 rfl) ?_
      refine lv_aload_n hx hb dX11_ranked_127 rfl (lv_at hl 0 rfl) ?_
      refine rk_get X hP (C := RX11) (T := TX11) (N := 44) (ci := 11) wix_11 h0 rfl rfl 37 (by decide) (wi_29 _ (List.mem_of_getElem? (i := 18) rfl)) rfl rfl dX11_ranked_128 ?_
      refine lv_bipush (v := (16 : Int32)) hx hb dX11_ranked_131 (by decide) ?_
      refine lv_iload_n hx hb dX11_ranked_133 rfl (lv_at hl 3 rfl) ?_
      refine lv_imul hx hb dX11_ranked_134 ?_
      refine lv_iload hx hb dX11_ranked_135 (lv_at hl 4 rfl) ?_
      refine lv_iadd hx hb dX11_ranked_137 ?_
      refine lv_topi (fun x1 ex1 => ?_)
      have h := h x1 ex1
      obtain ⟨b1, h⟩ := h
      refine rk_iald X hP (n := 256) (klM_X11_37 h0) (fun _ _ => rfl) b1 dX11_ranked_138 ?_
      refine rk_calli (va_runV (As := [.int (σ.1 (v0 + 21) x1.toNatClampNeg)]) (rest := []) X.1 (mX11_inverse l D cy B v0 (σ.1 (v0 + 21) x1.toNatClampNeg) σ h0 h) (cwV 1 hts (gW_V (wi_36 _ (List.mem_of_getElem? (i := 22) rfl)) (wi_36 _ (List.mem_of_getElem? (i := 23) rfl)) (wi_37 _ (List.mem_of_getElem? (i := 0) rfl)) (wi_30 _ (List.mem_of_getElem? (i := 9) rfl)) (wi_36 _ (List.mem_of_getElem? (i := 18) rfl))) rfl rfl rfl hd_X11_inverse ⟨Nat.le_of_ble_eq_true rfl, Nat.le_of_ble_eq_true rfl⟩) (rk_preV X hS hP h0 rfl rfl [.int (σ.1 (v0 + 21) x1.toNatClampNeg)]) rfl rfl hl.1 rfl (lv_room (Nat.le_of_ble_eq_true rfl)) dX11_ranked_139 ⟨Nat.zero_le _, Nat.zero_le _⟩) hS (fun _ h => h) (fun r1 s1 H locs h hP hS => ?_)
      refine lv_istore (lv' := [(6, .int r1), (0, .ref (B + v0)), (1, .int v1), (2, .int v2), (3, .int v3), (4, .int v4), (5, .int v5)]) hx hb dX11_ranked_142 hl (by decide) rfl (fun ls hl => ?_)
      refine lv_iconst (v := (0 : Int32)) hx hb dX11_ranked_144 (by decide) ?_
      refine lv_istore (lv' := [(7, .int (0 : Int32)), (6, .int r1), (0, .ref (B + v0)), (1, .int v1), (2, .int v2), (3, .int v3), (4, .int v4), (5, .int v5)]) hx hb dX11_ranked_145 hl (by decide) rfl (fun ls hl => ?_)
      obtain ⟨j, h⟩ := h
      exact tX11_ranked_147 X hR5 j _ _ _ _ _ _ _ _ h0 h _ _ _ hP hS (lv_sub hl [2, 3, 4, 5, 6, 1, 0] rfl)
    · have h := h.2 c1
      refine lv_aload_n hx hb dX11_ranked_66 rfl (lv_at hl 0 rfl) ?_
      refine rk_get X hP (C := RX11) (T := TX11) (N := 44) (ci := 11) wix_11 h0 rfl rfl 37 (by decide) (wi_29 _ (List.mem_of_getElem? (i := 18) rfl)) rfl rfl dX11_ranked_67 ?_
      refine lv_bipush (v := (16 : Int32)) hx hb dX11_ranked_70 (by decide) ?_
      refine lv_iload hx hb dX11_ranked_72 (lv_at hl 5 rfl) ?_
      refine lv_imul hx hb dX11_ranked_74 ?_
      refine lv_iload hx hb dX11_ranked_75 (lv_at hl 6 rfl) ?_
      refine lv_iadd hx hb dX11_ranked_77 ?_
      refine lv_topi (fun x2 ex2 => ?_)
      have h := h x2 ex2
      obtain ⟨b2, h⟩ := h
      refine rk_iald X hP (n := 256) (klM_X11_37 h0) (fun _ _ => rfl) b2 dX11_ranked_78 ?_
      refine lv_topi (fun x3 ex3 => ?_)
      have h := h x3 ex3
      refine lv_istore (lv' := [(7, .int x3), (0, .ref (B + v0)), (1, .int v1), (2, .int v2), (3, .int v3), (4, .int v4), (5, .int v5), (6, .int v6)]) hx hb dX11_ranked_79 hl (by decide) rfl (fun ls hl => ?_)
      refine lv_aload_n hx hb dX11_ranked_81 rfl (lv_at hl 1 rfl) ?_
      refine rk_get X hP (C := RX11) (T := TX11) (N := 44) (ci := 11) wix_11 h0 rfl rfl 37 (by decide) (wi_29 _ (List.mem_of_getElem? (i := 18) rfl)) rfl rfl dX11_ranked_82 ?_
      refine lv_bipush (v := (16 : Int32)) hx hb dX11_ranked_85 (by decide) ?_
      refine lv_iload hx hb dX11_ranked_87 (lv_at hl 6 rfl) ?_
      refine lv_imul hx hb dX11_ranked_89 ?_
      refine lv_iload hx hb dX11_ranked_90 (lv_at hl 7 rfl) ?_
      refine lv_iadd hx hb dX11_ranked_92 ?_
      refine lv_aload_n hx hb dX11_ranked_93 rfl (lv_at hl 1 rfl) ?_
      refine rk_get X hP (C := RX11) (T := TX11) (N := 44) (ci := 11) wix_11 h0 rfl rfl 37 (by decide) (wi_29 _ (List.mem_of_getElem? (i := 18) rfl)) rfl rfl dX11_ranked_94 ?_
      refine lv_bipush (v := (16 : Int32)) hx hb dX11_ranked_97 (by decide) ?_
      refine lv_iload_n hx hb dX11_ranked_99 rfl (lv_at hl 4 rfl) ?_
      refine lv_imul hx hb dX11_ranked_100 ?_
      refine lv_iload hx hb dX11_ranked_101 (lv_at hl 7 rfl) ?_
      refine lv_iadd hx hb dX11_ranked_103 ?_
      refine lv_topi (fun x4 ex4 => ?_)
      have h := h x4 ex4
      obtain ⟨b3, h⟩ := h
      refine rk_iald X hP (n := 256) (klM_X11_37 h0) (fun _ _ => rfl) b3 dX11_ranked_104 ?_
      obtain ⟨b4, h⟩ := h
      refine rk_iast X hP hD hS (n := 256) (klM_X11_37 h0) (fun _ _ => rfl) b4 dX11_ranked_105 (fun H locs hP hS => ?_)
      obtain ⟨s2, es2⟩ : ∃ z : St, z = u1 σ (v0 + 21) (((16 : Int32) * v5) + v6).toNatClampNeg (σ.1 (v0 + 21) x4.toNatClampNeg) := ⟨_, rfl⟩
      rw [← es2] at hP
      have h := h s2 es2
      refine lv_aload_n hx hb dX11_ranked_106 rfl (lv_at hl 1 rfl) ?_
      refine rk_get X hP (C := RX11) (T := TX11) (N := 44) (ci := 11) wix_11 h0 rfl rfl 37 (by decide) (wi_29 _ (List.mem_of_getElem? (i := 18) rfl)) rfl rfl dX11_ranked_107 ?_
      refine lv_bipush (v := (16 : Int32)) hx hb dX11_ranked_110 (by decide) ?_
      refine lv_iload_n hx hb dX11_ranked_112 rfl (lv_at hl 4 rfl) ?_
      refine lv_imul hx hb dX11_ranked_113 ?_
      refine lv_iload hx hb dX11_ranked_114 (lv_at hl 7 rfl) ?_
      refine lv_iadd hx hb dX11_ranked_116 ?_
      refine lv_iload hx hb dX11_ranked_117 (lv_at hl 0 rfl) ?_
      obtain ⟨b5, h⟩ := h
      refine rk_iast X hP hD hS (n := 256) (klM_X11_37 h0) (fun _ _ => rfl) b5 dX11_ranked_119 (fun H locs hP hS => ?_)
      obtain ⟨s3, es3⟩ : ∃ z : St, z = u1 s2 (v0 + 21) (((16 : Int32) * v3) + v6).toNatClampNeg x3 := ⟨_, rfl⟩
      rw [← es3] at hP
      have h := h s3 es3
      obtain ⟨x5, ex5⟩ : ∃ y : Int32, y = v6 + (1 : Int32) := ⟨_, rfl⟩
      have h := h x5 ex5
      refine lv_iinc (v := x5) (lv' := [(6, .int x5), (7, .int x3), (0, .ref (B + v0)), (1, .int v1), (2, .int v2), (3, .int v3), (4, .int v4), (5, .int v5)]) hx hb dX11_ranked_120 hl (k := 7) rfl (by rw [ex5]; rfl) (by decide) rfl (fun ls hl => ?_)
      refine lv_goto (tgt := 59) hx hb dX11_ranked_123 (by decide) ?_
      exact ih _ _ _ _ _ _ _ _ h0 h _ _ _ hP hS (lv_sub hl [2, 3, 4, 5, 6, 7, 0] rfl)
set_option maxRecDepth 100000 in
set_option maxHeartbeats 4000000 in
theorem tX11_ranked_47 {p : Program} {l : Launch} {e : Env} {s : State} {m : MethodId} {av : Array Value} {below : List Frame} {meth : Method} {c : Code} {D : va_G} {cy : Nat → ClassId} {B : Nat} (X : kC p s m av meth c cX11_ranked 8 (some .int) WALL RX11 D cy (AW B 26)) {post : Int32 → St → Prop} {R5 : Nat → Int32 → Int32 → Int32 → Int32 → St → Prop} (hR5 : ∀ (v0 : Nat) (v1 : Int32) (v2 : Int32) (v3 : Int32) (v4 : Int32) (σ : St), kM[v0]? = some 11 → R5 v0 v1 v2 v3 v4 σ → ∀ (H : Heap) (locs : List Loc) (ls : Array Slot), va_P D vwCl (wW cy B kM σ) H → va_S (AW B 26) s.heap H locs → lv_has ls 8 [(0, .ref (B + v0)), (1, .int v1), (2, .int v2), (3, .int v3), (4, .int v4)] → W p l e (rmD 2) s m av below meth c H locs 0 0 (MQ below (va_Qi post (BW D cy B kM) (AW B 26)) av s 0 0 (AW B 26)) (F0 m 5 ls [])) : ∀ (v0 : Nat) (v1 : Int32) (v2 : Int32) (v3 : Int32) (v4 : Int32) (v5 : Int32) (σ : St), kM[v0]? = some 11 → wX11_ranked_47 post R5 v0 v1 v2 v3 v4 v5 σ → ∀ (H : Heap) (locs : List Loc) (ls : Array Slot), va_P D vwCl (wW cy B kM σ) H → va_S (AW B 26) s.heap H locs → lv_has ls 8 [(0, .ref (B + v0)), (1, .int v1), (2, .int v2), (3, .int v3), (4, .int v4), (5, .int v5)] → W p l e (rmD 2) s m av below meth c H locs 0 0 (MQ below (va_Qi post (BW D cy B kM) (AW B 26)) av s 0 0 (AW B 26)) (F0 m 47 ls []) := by
  obtain ⟨⟨hx, hb, hml, hown, hts⟩, hr, hlk, hK, hN, hZ⟩ := id X
  have hD : ∀ σ, va_D (AW B 26) (wW cy B kM σ) := AW_D kM_len
  intro v0 v1 v2 v3 v4 v5 σ h0 h H locs ls hP hS hl
  unfold wX11_ranked_47 at h
  refine lv_iload hx hb dX11_ranked_47 (lv_at hl 5 rfl) ?_
  refine lv_iload_n hx hb dX11_ranked_49 rfl (lv_at hl 1 rfl) ?_
  refine lv_icmp_ne (tgt := 56) hx hb dX11_ranked_50 (by decide) (fun c1 => ?_) (fun c1 => ?_)
  · have h := h.1 c1
    refine lv_iconst (v := (0 : Int32)) hx hb dX11_ranked_56 (by decide) ?_
    refine lv_istore (lv' := [(6, .int (0 : Int32)), (0, .ref (B + v0)), (1, .int v1), (2, .int v2), (3, .int v3), (4, .int v4), (5, .int v5)]) hx hb dX11_ranked_57 hl (by decide) rfl (fun ls hl => ?_)
    obtain ⟨j, h⟩ := h
    exact tX11_ranked_59 X hR5 j _ _ _ _ _ _ _ _ h0 h _ _ _ hP hS (lv_sub hl [1, 2, 3, 4, 5, 6, 0] rfl)
  · have h := h.2 c1
    refine lv_goto (tgt := 221) hx hb dX11_ranked_53 (by decide) ?_
    obtain ⟨x1, ex1⟩ : ∃ y : Int32, y = v4 + (1 : Int32) := ⟨_, rfl⟩
    have h := h x1 ex1
    refine lv_iinc (v := x1) (lv' := [(4, .int x1), (0, .ref (B + v0)), (1, .int v1), (2, .int v2), (3, .int v3), (5, .int v5)]) hx hb dX11_ranked_221 hl (k := 4) rfl (by rw [ex1]; rfl) (by decide) rfl (fun ls hl => ?_)
    refine lv_goto (tgt := 5) hx hb dX11_ranked_224 (by decide) ?_
    exact hR5 _ _ _ _ _ _ h0 h _ _ _ hP hS (lv_sub hl [1, 2, 3, 4, 0] rfl)
set_option maxRecDepth 100000 in
set_option maxHeartbeats 4000000 in
theorem tX11_ranked_19 {p : Program} {l : Launch} {e : Env} {s : State} {m : MethodId} {av : Array Value} {below : List Frame} {meth : Method} {c : Code} {D : va_G} {cy : Nat → ClassId} {B : Nat} (X : kC p s m av meth c cX11_ranked 8 (some .int) WALL RX11 D cy (AW B 26)) {post : Int32 → St → Prop} {R5 : Nat → Int32 → Int32 → Int32 → Int32 → St → Prop} (hR5 : ∀ (v0 : Nat) (v1 : Int32) (v2 : Int32) (v3 : Int32) (v4 : Int32) (σ : St), kM[v0]? = some 11 → R5 v0 v1 v2 v3 v4 σ → ∀ (H : Heap) (locs : List Loc) (ls : Array Slot), va_P D vwCl (wW cy B kM σ) H → va_S (AW B 26) s.heap H locs → lv_has ls 8 [(0, .ref (B + v0)), (1, .int v1), (2, .int v2), (3, .int v3), (4, .int v4)] → W p l e (rmD 2) s m av below meth c H locs 0 0 (MQ below (va_Qi post (BW D cy B kM) (AW B 26)) av s 0 0 (AW B 26)) (F0 m 5 ls [])) : ∀ (n : Nat) (v0 : Nat) (v1 : Int32) (v2 : Int32) (v3 : Int32) (v4 : Int32) (v5 : Int32) (σ : St), kM[v0]? = some 11 → wX11_ranked_19 post R5 n v0 v1 v2 v3 v4 v5 σ → ∀ (H : Heap) (locs : List Loc) (ls : Array Slot), va_P D vwCl (wW cy B kM σ) H → va_S (AW B 26) s.heap H locs → lv_has ls 8 [(0, .ref (B + v0)), (1, .int v1), (2, .int v2), (3, .int v3), (4, .int v4), (5, .int v5)] → W p l e (rmD 2) s m av below meth c H locs 0 0 (MQ below (va_Qi post (BW D cy B kM) (AW B 26)) av s 0 0 (AW B 26)) (F0 m 19 ls []) := by
  obtain ⟨⟨hx, hb, hml, hown, hts⟩, hr, hlk, hK, hN, hZ⟩ := id X
  have hD : ∀ σ, va_D (AW B 26) (wW cy B kM σ) := AW_D kM_len
  intro n
  induction n with
  | zero => intro v0 v1 v2 v3 v4 v5 σ h0 h; exact absurd h id
  | succ n ih =>
    intro v0 v1 v2 v3 v4 v5 σ h0 h H locs ls hP hS hl
    rw [wX11_ranked_19] at h
    refine lv_iload hx hb dX11_ranked_19 (lv_at hl 5 rfl) ?_
    refine lv_iload_n hx hb dX11_ranked_21 rfl (lv_at hl 1 rfl) ?_
    refine lv_icmp_ge (tgt := 47) hx hb dX11_ranked_22 (by decide) (fun c1 => ?_) (fun c1 => ?_)
    · have h := h.1 c1
      exact tX11_ranked_47 X hR5 _ _ _ _ _ _ _ h0 h _ _ _ hP hS (lv_sub hl [0, 1, 2, 3, 4, 5] rfl)
    · have h := h.2 c1
      refine lv_aload_n hx hb dX11_ranked_25 rfl (lv_at hl 0 rfl) ?_
      refine rk_get X hP (C := RX11) (T := TX11) (N := 44) (ci := 11) wix_11 h0 rfl rfl 37 (by decide) (wi_29 _ (List.mem_of_getElem? (i := 18) rfl)) rfl rfl dX11_ranked_26 ?_
      refine lv_bipush (v := (16 : Int32)) hx hb dX11_ranked_29 (by decide) ?_
      refine lv_iload hx hb dX11_ranked_31 (lv_at hl 5 rfl) ?_
      refine lv_imul hx hb dX11_ranked_33 ?_
      refine lv_iload hx hb dX11_ranked_34 (lv_at hl 4 rfl) ?_
      refine lv_iadd hx hb dX11_ranked_36 ?_
      refine lv_topi (fun x1 ex1 => ?_)
      have h := h x1 ex1
      obtain ⟨b1, h⟩ := h
      refine rk_iald X hP (n := 256) (klM_X11_37 h0) (fun _ _ => rfl) b1 dX11_ranked_37 ?_
      refine lv_if_ne (tgt := 47) hx hb dX11_ranked_38 (by decide) (fun c2 => ?_) (fun c2 => ?_)
      · have h := h.1 c2
        exact tX11_ranked_47 X hR5 _ _ _ _ _ _ _ h0 h _ _ _ hP hS (lv_sub hl [0, 1, 2, 3, 4, 5] rfl)
      · have h := h.2 c2
        obtain ⟨x2, ex2⟩ : ∃ y : Int32, y = v5 + (1 : Int32) := ⟨_, rfl⟩
        have h := h x2 ex2
        refine lv_iinc (v := x2) (lv' := [(5, .int x2), (0, .ref (B + v0)), (1, .int v1), (2, .int v2), (3, .int v3), (4, .int v4)]) hx hb dX11_ranked_41 hl (k := 5) rfl (by rw [ex2]; rfl) (by decide) rfl (fun ls hl => ?_)
        refine lv_goto (tgt := 19) hx hb dX11_ranked_44 (by decide) ?_
        exact ih _ _ _ _ _ _ _ h0 h _ _ _ hP hS (lv_sub hl [1, 2, 3, 4, 5, 0] rfl)
set_option maxRecDepth 100000 in
set_option maxHeartbeats 4000000 in
theorem tX11_ranked_5 {p : Program} {l : Launch} {e : Env} {s : State} {m : MethodId} {av : Array Value} {below : List Frame} {meth : Method} {c : Code} {D : va_G} {cy : Nat → ClassId} {B : Nat} (X : kC p s m av meth c cX11_ranked 8 (some .int) WALL RX11 D cy (AW B 26)) {post : Int32 → St → Prop} : ∀ (n : Nat) (v0 : Nat) (v1 : Int32) (v2 : Int32) (v3 : Int32) (v4 : Int32) (σ : St), kM[v0]? = some 11 → wX11_ranked_5 post n v0 v1 v2 v3 v4 σ → ∀ (H : Heap) (locs : List Loc) (ls : Array Slot), va_P D vwCl (wW cy B kM σ) H → va_S (AW B 26) s.heap H locs → lv_has ls 8 [(0, .ref (B + v0)), (1, .int v1), (2, .int v2), (3, .int v3), (4, .int v4)] → W p l e (rmD 2) s m av below meth c H locs 0 0 (MQ below (va_Qi post (BW D cy B kM) (AW B 26)) av s 0 0 (AW B 26)) (F0 m 5 ls []) := by
  obtain ⟨⟨hx, hb, hml, hown, hts⟩, hr, hlk, hK, hN, hZ⟩ := id X
  have hD : ∀ σ, va_D (AW B 26) (wW cy B kM σ) := AW_D kM_len
  intro n
  induction n with
  | zero => intro v0 v1 v2 v3 v4 σ h0 h; exact absurd h id
  | succ n ih =>
    intro v0 v1 v2 v3 v4 σ h0 h H locs ls hP hS hl
    rw [wX11_ranked_5] at h
    refine lv_iload hx hb dX11_ranked_5 (lv_at hl 4 rfl) ?_
    refine lv_iload_n hx hb dX11_ranked_7 rfl (lv_at hl 2 rfl) ?_
    refine lv_icmp_ge (tgt := 227) hx hb dX11_ranked_8 (by decide) (fun c1 => ?_) (fun c1 => ?_)
    · have h := h.1 c1
      refine lv_iload_n hx hb dX11_ranked_227 rfl (lv_at hl 3 rfl) ?_
      exact rk_iret X rfl kM_len h hP hS dX11_ranked_228
    · have h := h.2 c1
      refine lv_iload_n hx hb dX11_ranked_11 rfl (lv_at hl 3 rfl) ?_
      refine lv_iload_n hx hb dX11_ranked_12 rfl (lv_at hl 1 rfl) ?_
      refine lv_icmp_ge (tgt := 227) hx hb dX11_ranked_13 (by decide) (fun c2 => ?_) (fun c2 => ?_)
      · have h := h.1 c2
        refine lv_iload_n hx hb dX11_ranked_227 rfl (lv_at hl 3 rfl) ?_
        exact rk_iret X rfl kM_len h hP hS dX11_ranked_228
      · have h := h.2 c2
        refine lv_iload_n hx hb dX11_ranked_16 rfl (lv_at hl 3 rfl) ?_
        refine lv_istore (lv' := [(5, .int v3), (0, .ref (B + v0)), (1, .int v1), (2, .int v2), (3, .int v3), (4, .int v4)]) hx hb dX11_ranked_17 hl (by decide) rfl (fun ls hl => ?_)
        obtain ⟨j, h⟩ := h
        exact tX11_ranked_19 X ih j _ _ _ _ _ _ _ h0 h _ _ _ hP hS (lv_sub hl [1, 2, 3, 4, 5, 0] rfl)
set_option maxRecDepth 100000 in
set_option maxHeartbeats 4000000 in
theorem mX11_ranked (l : Launch) (D : va_G) (cy : Nat → ClassId) (B : Nat) (v0 : Nat) (v1 : Int32) (v2 : Int32) (σ : St) (h0 : kM[v0]? = some 11) {post : Int32 → St → Prop} (h : wX11_ranked v0 v1 v2 σ post) : Met l yX11_ranked (Cond.code yX11_ranked cX11_ranked 8 (some .int) :: WALL) (rmD 2) (PcW D cy B kM σ [.ref (B + v0), .int v1, .int v2]) (va_Qi post (BW D cy B kM) (AW B 26)) 0 0 (AW B 26) := by
  refine Met.ofK (cc := cX11_ranked) (maxL := 8) (ret := (some .int)) (by decide +kernel) rfl kM_len ?_
  intro p e s m below meth c X hP
  obtain ⟨⟨hx, hb, hml, hown, hts⟩, hr, hlk, hK, hN, hZ⟩ := id X
  have hD : ∀ σ, va_D (AW B 26) (wW cy B kM σ) := AW_D kM_len
  have hS : va_S (AW B 26) s.heap s.heap [] := va_S.rf
  have hl := lv_entry ([.ref (B + v0), .int v1, .int v2]) (n := 8) (Nat.le_of_ble_eq_true rfl)
  rw [lg_entry_eq]
  generalize (lg_sl ([.ref (B + v0), .int v1, .int v2]) ++ List.replicate (8 - (lg_sl ([.ref (B + v0), .int v1, .int v2])).length) Slot.unset).toArray = ls at hl ⊢
  have hl : lv_has ls 8 [(0, .ref (B + v0)), (1, .int v1), (2, .int v2)] := hl
  unfold wX11_ranked at h
  refine lv_iconst (v := (0 : Int32)) hx hb dX11_ranked_0 (by decide) ?_
  refine lv_istore_n (lv' := [(3, .int (0 : Int32)), (0, .ref (B + v0)), (1, .int v1), (2, .int v2)]) hx hb dX11_ranked_1 rfl hl (by decide) rfl (fun ls hl => ?_)
  refine lv_iconst (v := (0 : Int32)) hx hb dX11_ranked_2 (by decide) ?_
  refine lv_istore (lv' := [(4, .int (0 : Int32)), (3, .int (0 : Int32)), (0, .ref (B + v0)), (1, .int v1), (2, .int v2)]) hx hb dX11_ranked_3 hl (by decide) rfl (fun ls hl => ?_)
  obtain ⟨j, h⟩ := h
  exact tX11_ranked_5 X j _ _ _ _ _ _ h0 h _ _ _ hP hS (lv_sub hl [2, 3, 4, 1, 0] rfl)

theorem hd_X11_rank : yX11_rank.cls = RX11 ∧ yX11_rank.cls ≠ "java/lang/invoke/MethodHandle" ∧ yX11_rank.cls ≠ "java/lang/invoke/VarHandle" ∧ (parseMethodDescriptor yX11_rank.desc).map (fun d => d.parameters.length) = some 2 := by decide +kernel
set_option maxRecDepth 100000 in
set_option maxHeartbeats 4000000 in
theorem tX11_rank_98 {p : Program} {l : Launch} {e : Env} {s : State} {m : MethodId} {av : Array Value} {below : List Frame} {meth : Method} {c : Code} {D : va_G} {cy : Nat → ClassId} {B : Nat} (X : kC p s m av meth c cX11_rank 8 (some .int) WALL RX11 D cy (AW B 26)) {post : Int32 → St → Prop} {R88 : Nat → Int32 → Int32 → Int32 → Int32 → Int32 → Int32 → St → Prop} (hR88 : ∀ (v0 : Nat) (v1 : Int32) (v2 : Int32) (v3 : Int32) (v4 : Int32) (v5 : Int32) (v6 : Int32) (σ : St), kM[v0]? = some 11 → R88 v0 v1 v2 v3 v4 v5 v6 σ → ∀ (H : Heap) (locs : List Loc) (ls : Array Slot), va_P D vwCl (wW cy B kM σ) H → va_S (AW B 26) s.heap H locs → lv_has ls 8 [(0, .ref (B + v0)), (1, .int v1), (2, .int v2), (3, .int v3), (4, .int v4), (5, .int v5), (6, .int v6)] → W p l e (rmD 3) s m av below meth c H locs 0 0 (MQ below (va_Qi post (BW D cy B kM) (AW B 26)) av s 0 0 (AW B 26)) (F0 m 88 ls [])) : ∀ (n : Nat) (v0 : Nat) (v1 : Int32) (v2 : Int32) (v3 : Int32) (v4 : Int32) (v5 : Int32) (v6 : Int32) (v7 : Int32) (σ : St), kM[v0]? = some 11 → wX11_rank_98 post R88 n v0 v1 v2 v3 v4 v5 v6 v7 σ → ∀ (H : Heap) (locs : List Loc) (ls : Array Slot), va_P D vwCl (wW cy B kM σ) H → va_S (AW B 26) s.heap H locs → lv_has ls 8 [(0, .ref (B + v0)), (1, .int v1), (2, .int v2), (3, .int v3), (4, .int v4), (5, .int v5), (6, .int v6), (7, .int v7)] → W p l e (rmD 3) s m av below meth c H locs 0 0 (MQ below (va_Qi post (BW D cy B kM) (AW B 26)) av s 0 0 (AW B 26)) (F0 m 98 ls []) := by
  obtain ⟨⟨hx, hb, hml, hown, hts⟩, hr, hlk, hK, hN, hZ⟩ := id X
  have hD : ∀ σ, va_D (AW B 26) (wW cy B kM σ) := AW_D kM_len
  intro n
  induction n with
  | zero => intro v0 v1 v2 v3 v4 v5 v6 v7 σ h0 h; exact absurd h id
  | succ n ih =>
    intro v0 v1 v2 v3 v4 v5 v6 v7 σ h0 h H locs ls hP hS hl
    rw [wX11_rank_98] at h
    refine lv_iload hx hb dX11_rank_98 (lv_at hl 7 rfl) ?_
    refine lv_iload hx hb dX11_rank_100 (lv_at hl 5 rfl) ?_
    refine lv_icmp_ge (tgt := 157) hx hb dX11_rank_102 (by decide) (fun c1 => ?_) (fun c1 => ?_)
    · have h := h.1 c1
      obtain ⟨x1, ex1⟩ : ∃ y : Int32, y = v6 + (1 : Int32) := ⟨_, rfl⟩
      have h := h x1 ex1
      refine lv_iinc (v := x1) (lv' := [(6, .int x1), (0, .ref (B + v0)), (1, .int v1), (2, .int v2), (3, .int v3), (4, .int v4), (5, .int v5), (7, .int v7)]) hx hb dX11_rank_157 hl (k := 6) rfl (by rw [ex1]; rfl) (by decide) rfl (fun ls hl => ?_)
      refine lv_goto (tgt := 88) hx hb dX11_rank_160 (by decide) ?_
      exact hR88 _ _ _ _ _ _ _ _ h0 h _ _ _ hP hS (lv_sub hl [1, 2, 3, 4, 5, 6, 0] rfl)
    · have h := h.2 c1
      refine lv_aload_n hx hb dX11_rank_105 rfl (lv_at hl 0 rfl) ?_
      refine rk_get X hP (C := RX11) (T := TX11) (N := 44) (ci := 11) wix_11 h0 rfl rfl 37 (by decide) (wi_29 _ (List.mem_of_getElem? (i := 18) rfl)) rfl rfl dX11_rank_106 ?_
      refine lv_bipush (v := (16 : Int32)) hx hb dX11_rank_109 (by decide) ?_
      refine lv_iload hx hb dX11_rank_111 (lv_at hl 6 rfl) ?_
      refine lv_imul hx hb dX11_rank_113 ?_
      refine lv_iload hx hb dX11_rank_114 (lv_at hl 7 rfl) ?_
      refine lv_iadd hx hb dX11_rank_116 ?_
      refine lv_aload_n hx hb dX11_rank_117 rfl (lv_at hl 0 rfl) ?_
      refine rk_get X hP (C := RX11) (T := TX11) (N := 44) (ci := 11) wix_11 h0 rfl rfl 21 (by decide) (wi_29 _ (List.mem_of_getElem? (i := 7) rfl)) rfl rfl dX11_rank_118 ?_
      refine lv_bipush (v := (16 : Int32)) hx hb dX11_rank_121 (by decide) ?_
      refine lv_iload_n hx hb dX11_rank_123 rfl (lv_at hl 1 rfl) ?_
      refine lv_imul hx hb dX11_rank_124 ?_
      refine lv_iload hx hb dX11_rank_125 (lv_at hl 6 rfl) ?_
      refine lv_iload_n hx hb dX11_rank_127 rfl (lv_at hl 2 rfl) ?_
      refine lv_iload_n hx hb dX11_rank_128 rfl (lv_at hl 3 rfl) ?_
      refine rk_calli (va_runS (As := [.int v6, .int v2, .int v3]) (rest := [.int ((16 : Int32) * v1), .ref (B + (v0 + 10)), .int (((16 : Int32) * v6) + v7), .ref (B + (v0 + 21))]) X.1 (mX11_spread l D cy B v6 v2 v3 σ h) (va_cwS 3 hts (gW_S (wi_37 _ (List.mem_of_getElem? (i := 4) rfl)) (wi_37 _ (List.mem_of_getElem? (i := 5) rfl)) (wi_30 _ (List.mem_of_getElem? (i := 9) rfl)) (wi_36 _ (List.mem_of_getElem? (i := 19) rfl))) rfl rfl rfl hd_X11_spread ⟨Nat.le_of_ble_eq_true rfl, Nat.le_of_ble_eq_true rfl⟩) (rk_preS X hS hP [.int v6, .int v2, .int v3]) rfl rfl hl.1 rfl (lv_room (Nat.le_of_ble_eq_true rfl)) dX11_rank_129 ⟨Nat.zero_le _, Nat.zero_le _⟩) hS (fun _ h => h) (fun r1 s1 H locs h hP hS => ?_)
      refine lv_iload hx hb dX11_rank_132 (lv_at hl 7 rfl) ?_
      refine lv_iconst (v := (1 : Int32)) hx hb dX11_rank_134 (by decide) ?_
      refine lv_iload_n hx hb dX11_rank_135 rfl (lv_at hl 3 rfl) ?_
      refine lv_ishl hx hb dX11_rank_136 ?_
      refine lv_iconst (v := (1 : Int32)) hx hb dX11_rank_137 (by decide) ?_
      refine lv_isub hx hb dX11_rank_138 ?_
      refine lv_iload_n hx hb dX11_rank_139 rfl (lv_at hl 2 rfl) ?_
      refine lv_iconst (v := (-1 : Int32)) hx hb dX11_rank_140 (by decide) ?_
      refine lv_ixor hx hb dX11_rank_141 ?_
      refine lv_iand hx hb dX11_rank_142 ?_
      refine lv_iload_n hx hb dX11_rank_143 rfl (lv_at hl 3 rfl) ?_
      refine rk_calli (va_runS (As := [.int v7, .int ((((1 : Int32) <<< (v3 &&& 31)) - (1 : Int32)) &&& (v2 ^^^ (-1 : Int32))), .int v3]) (rest := [.int r1, .int ((16 : Int32) * v1), .ref (B + (v0 + 10)), .int (((16 : Int32) * v6) + v7), .ref (B + (v0 + 21))]) X.1 (mX11_spread l D cy B v7 ((((1 : Int32) <<< (v3 &&& 31)) - (1 : Int32)) &&& (v2 ^^^ (-1 : Int32))) v3 s1 h) (va_cwS 3 hts (gW_S (wi_37 _ (List.mem_of_getElem? (i := 4) rfl)) (wi_37 _ (List.mem_of_getElem? (i := 5) rfl)) (wi_30 _ (List.mem_of_getElem? (i := 9) rfl)) (wi_36 _ (List.mem_of_getElem? (i := 19) rfl))) rfl rfl rfl hd_X11_spread ⟨Nat.le_of_ble_eq_true rfl, Nat.le_of_ble_eq_true rfl⟩) (rk_preS X hS hP [.int v7, .int ((((1 : Int32) <<< (v3 &&& 31)) - (1 : Int32)) &&& (v2 ^^^ (-1 : Int32))), .int v3]) rfl rfl hl.1 rfl (lv_room (Nat.le_of_ble_eq_true rfl)) dX11_rank_144 ⟨Nat.zero_le _, Nat.zero_le _⟩) hS (fun _ h => h) (fun r2 s2 H locs h hP hS => ?_)
      refine lv_ior hx hb dX11_rank_147 ?_
      refine lv_iadd hx hb dX11_rank_148 ?_
      refine lv_topi (fun x2 ex2 => ?_)
      have h := h x2 ex2
      obtain ⟨b1, h⟩ := h
      refine rk_iald X hP (n := 256) (klM_X11_21 h0) (fun _ _ => rfl) b1 dX11_rank_149 ?_
      obtain ⟨b2, h⟩ := h
      refine rk_iast X hP hD hS (n := 256) (klM_X11_37 h0) (fun _ _ => rfl) b2 dX11_rank_150 (fun H locs hP hS => ?_)
      obtain ⟨s3, es3⟩ : ∃ z : St, z = u1 s2 (v0 + 21) (((16 : Int32) * v6) + v7).toNatClampNeg (s2.1 (v0 + 10) x2.toNatClampNeg) := ⟨_, rfl⟩
      rw [← es3] at hP
      have h := h s3 es3
      obtain ⟨x3, ex3⟩ : ∃ y : Int32, y = v7 + (1 : Int32) := ⟨_, rfl⟩
      have h := h x3 ex3
      refine lv_iinc (v := x3) (lv' := [(7, .int x3), (0, .ref (B + v0)), (1, .int v1), (2, .int v2), (3, .int v3), (4, .int v4), (5, .int v5), (6, .int v6)]) hx hb dX11_rank_151 hl (k := 7) rfl (by rw [ex3]; rfl) (by decide) rfl (fun ls hl => ?_)
      refine lv_goto (tgt := 98) hx hb dX11_rank_154 (by decide) ?_
      exact ih _ _ _ _ _ _ _ _ _ h0 h _ _ _ hP hS (lv_sub hl [1, 2, 3, 4, 5, 6, 7, 0] rfl)
set_option maxRecDepth 100000 in
set_option maxHeartbeats 4000000 in
theorem tX11_rank_88 {p : Program} {l : Launch} {e : Env} {s : State} {m : MethodId} {av : Array Value} {below : List Frame} {meth : Method} {c : Code} {D : va_G} {cy : Nat → ClassId} {B : Nat} (X : kC p s m av meth c cX11_rank 8 (some .int) WALL RX11 D cy (AW B 26)) {post : Int32 → St → Prop} : ∀ (n : Nat) (v0 : Nat) (v1 : Int32) (v2 : Int32) (v3 : Int32) (v4 : Int32) (v5 : Int32) (v6 : Int32) (σ : St), kM[v0]? = some 11 → wX11_rank_88 post n v0 v1 v2 v3 v4 v5 v6 σ → ∀ (H : Heap) (locs : List Loc) (ls : Array Slot), va_P D vwCl (wW cy B kM σ) H → va_S (AW B 26) s.heap H locs → lv_has ls 8 [(0, .ref (B + v0)), (1, .int v1), (2, .int v2), (3, .int v3), (4, .int v4), (5, .int v5), (6, .int v6)] → W p l e (rmD 3) s m av below meth c H locs 0 0 (MQ below (va_Qi post (BW D cy B kM) (AW B 26)) av s 0 0 (AW B 26)) (F0 m 88 ls []) := by
  obtain ⟨⟨hx, hb, hml, hown, hts⟩, hr, hlk, hK, hN, hZ⟩ := id X
  have hD : ∀ σ, va_D (AW B 26) (wW cy B kM σ) := AW_D kM_len
  intro n
  induction n with
  | zero => intro v0 v1 v2 v3 v4 v5 v6 σ h0 h; exact absurd h id
  | succ n ih =>
    intro v0 v1 v2 v3 v4 v5 v6 σ h0 h H locs ls hP hS hl
    rw [wX11_rank_88] at h
    refine lv_iload hx hb dX11_rank_88 (lv_at hl 6 rfl) ?_
    refine lv_iload hx hb dX11_rank_90 (lv_at hl 4 rfl) ?_
    refine lv_icmp_ge (tgt := 163) hx hb dX11_rank_92 (by decide) (fun c1 => ?_) (fun c1 => ?_)
    · have h := h.1 c1
      refine lv_aload_n hx hb dX11_rank_163 rfl (lv_at hl 0 rfl) ?_
      refine lv_iload hx hb dX11_rank_164 (lv_at hl 4 rfl) ?_
      refine lv_iload hx hb dX11_rank_166 (lv_at hl 5 rfl) ?_
      refine rk_calli (va_runV (As := [.int v4, .int v5]) (rest := []) X.1 (mX11_ranked l D cy B v0 v4 v5 σ h0 h) (cwV 2 hts (gW_V (wi_37 _ (List.mem_of_getElem? (i := 6) rfl)) (wi_37 _ (List.mem_of_getElem? (i := 7) rfl)) (wi_37 _ (List.mem_of_getElem? (i := 8) rfl)) (wi_30 _ (List.mem_of_getElem? (i := 9) rfl)) (wi_36 _ (List.mem_of_getElem? (i := 21) rfl))) rfl rfl rfl hd_X11_ranked ⟨Nat.le_of_ble_eq_true rfl, Nat.le_of_ble_eq_true rfl⟩) (rk_preV X hS hP h0 rfl rfl [.int v4, .int v5]) rfl rfl hl.1 rfl (lv_room (Nat.le_of_ble_eq_true rfl)) dX11_rank_168 ⟨Nat.zero_le _, Nat.zero_le _⟩) hS (fun _ h => h) (fun r1 s1 H locs h hP hS => ?_)
      exact rk_iret X rfl kM_len h hP hS dX11_rank_171
    · have h := h.2 c1
      refine lv_iconst (v := (0 : Int32)) hx hb dX11_rank_95 (by decide) ?_
      refine lv_istore (lv' := [(7, .int (0 : Int32)), (0, .ref (B + v0)), (1, .int v1), (2, .int v2), (3, .int v3), (4, .int v4), (5, .int v5), (6, .int v6)]) hx hb dX11_rank_96 hl (by decide) rfl (fun ls hl => ?_)
      obtain ⟨j, h⟩ := h
      exact tX11_rank_98 X ih j _ _ _ _ _ _ _ _ _ h0 h _ _ _ hP hS (lv_sub hl [1, 2, 3, 4, 5, 6, 7, 0] rfl)
set_option maxRecDepth 100000 in
set_option maxHeartbeats 4000000 in
theorem tX11_rank_63 {p : Program} {l : Launch} {e : Env} {s : State} {m : MethodId} {av : Array Value} {below : List Frame} {meth : Method} {c : Code} {D : va_G} {cy : Nat → ClassId} {B : Nat} (X : kC p s m av meth c cX11_rank 8 (some .int) WALL RX11 D cy (AW B 26)) {post : Int32 → St → Prop} : ∀ (n : Nat) (v0 : Nat) (v1 : Int32) (v2 : Int32) (v3 : Int32) (v4 : Int32) (v5 : Int32) (v6 : Int32) (σ : St), kM[v0]? = some 11 → wX11_rank_63 post n v0 v1 v2 v3 v4 v5 v6 σ → ∀ (H : Heap) (locs : List Loc) (ls : Array Slot), va_P D vwCl (wW cy B kM σ) H → va_S (AW B 26) s.heap H locs → lv_has ls 8 [(0, .ref (B + v0)), (1, .int v1), (2, .int v2), (3, .int v3), (4, .int v4), (5, .int v5), (6, .int v6)] → W p l e (rmD 3) s m av below meth c H locs 0 0 (MQ below (va_Qi post (BW D cy B kM) (AW B 26)) av s 0 0 (AW B 26)) (F0 m 63 ls []) := by
  obtain ⟨⟨hx, hb, hml, hown, hts⟩, hr, hlk, hK, hN, hZ⟩ := id X
  have hD : ∀ σ, va_D (AW B 26) (wW cy B kM σ) := AW_D kM_len
  intro n
  induction n with
  | zero => intro v0 v1 v2 v3 v4 v5 v6 σ h0 h; exact absurd h id
  | succ n ih =>
    intro v0 v1 v2 v3 v4 v5 v6 σ h0 h H locs ls hP hS hl
    rw [wX11_rank_63] at h
    refine lv_iload hx hb dX11_rank_63 (lv_at hl 6 rfl) ?_
    refine lv_sipush (v := (256 : Int32)) hx hb dX11_rank_65 (by decide) ?_
    refine lv_icmp_ge (tgt := 85) hx hb dX11_rank_68 (by decide) (fun c1 => ?_) (fun c1 => ?_)
    · have h := h.1 c1
      refine lv_iconst (v := (0 : Int32)) hx hb dX11_rank_85 (by decide) ?_
      refine lv_istore (lv' := [(6, .int (0 : Int32)), (0, .ref (B + v0)), (1, .int v1), (2, .int v2), (3, .int v3), (4, .int v4), (5, .int v5)]) hx hb dX11_rank_86 hl (by decide) rfl (fun ls hl => ?_)
      obtain ⟨j, h⟩ := h
      exact tX11_rank_88 X j _ _ _ _ _ _ _ _ h0 h _ _ _ hP hS (lv_sub hl [1, 2, 3, 4, 5, 6, 0] rfl)
    · have h := h.2 c1
      refine lv_aload_n hx hb dX11_rank_71 rfl (lv_at hl 0 rfl) ?_
      refine rk_get X hP (C := RX11) (T := TX11) (N := 44) (ci := 11) wix_11 h0 rfl rfl 37 (by decide) (wi_29 _ (List.mem_of_getElem? (i := 18) rfl)) rfl rfl dX11_rank_72 ?_
      refine lv_iload hx hb dX11_rank_75 (lv_at hl 6 rfl) ?_
      refine lv_iconst (v := (0 : Int32)) hx hb dX11_rank_77 (by decide) ?_
      obtain ⟨b1, h⟩ := h
      refine rk_iast X hP hD hS (n := 256) (klM_X11_37 h0) (fun _ _ => rfl) b1 dX11_rank_78 (fun H locs hP hS => ?_)
      obtain ⟨s1, es1⟩ : ∃ z : St, z = u1 σ (v0 + 21) v6.toNatClampNeg (0 : Int32) := ⟨_, rfl⟩
      rw [← es1] at hP
      have h := h s1 es1
      obtain ⟨x1, ex1⟩ : ∃ y : Int32, y = v6 + (1 : Int32) := ⟨_, rfl⟩
      have h := h x1 ex1
      refine lv_iinc (v := x1) (lv' := [(6, .int x1), (0, .ref (B + v0)), (1, .int v1), (2, .int v2), (3, .int v3), (4, .int v4), (5, .int v5)]) hx hb dX11_rank_79 hl (k := 6) rfl (by rw [ex1]; rfl) (by decide) rfl (fun ls hl => ?_)
      refine lv_goto (tgt := 63) hx hb dX11_rank_82 (by decide) ?_
      exact ih _ _ _ _ _ _ _ _ h0 h _ _ _ hP hS (lv_sub hl [1, 2, 3, 4, 5, 6, 0] rfl)
set_option maxRecDepth 100000 in
set_option maxHeartbeats 4000000 in
theorem mX11_rank (l : Launch) (D : va_G) (cy : Nat → ClassId) (B : Nat) (v0 : Nat) (v1 : Int32) (v2 : Int32) (σ : St) (h0 : kM[v0]? = some 11) {post : Int32 → St → Prop} (h : wX11_rank v0 v1 v2 σ post) : Met l yX11_rank (Cond.code yX11_rank cX11_rank 8 (some .int) :: WALL) (rmD 3) (PcW D cy B kM σ [.ref (B + v0), .int v1, .int v2]) (va_Qi post (BW D cy B kM) (AW B 26)) 0 0 (AW B 26) := by
  refine Met.ofK (cc := cX11_rank) (maxL := 8) (ret := (some .int)) (by decide +kernel) rfl kM_len ?_
  intro p e s m below meth c X hP
  obtain ⟨⟨hx, hb, hml, hown, hts⟩, hr, hlk, hK, hN, hZ⟩ := id X
  have hD : ∀ σ, va_D (AW B 26) (wW cy B kM σ) := AW_D kM_len
  have hS : va_S (AW B 26) s.heap s.heap [] := va_S.rf
  have hl := lv_entry ([.ref (B + v0), .int v1, .int v2]) (n := 8) (Nat.le_of_ble_eq_true rfl)
  rw [lg_entry_eq]
  generalize (lg_sl ([.ref (B + v0), .int v1, .int v2]) ++ List.replicate (8 - (lg_sl ([.ref (B + v0), .int v1, .int v2])).length) Slot.unset).toArray = ls at hl ⊢
  have hl : lv_has ls 8 [(0, .ref (B + v0)), (1, .int v1), (2, .int v2)] := hl
  unfold wX11_rank at h
  refine lv_aload_n hx hb dX11_rank_0 rfl (lv_at hl 0 rfl) ?_
  refine lv_iconst (v := (0 : Int32)) hx hb dX11_rank_1 (by decide) ?_
  refine rk_puti X hP hD hS (C := RX11) (T := TX11) (N := 44) (ci := 11) wix_11 h0 rfl rfl tyX11 tyX11_ok nmX11 0 (by decide) (wi_30 _ (List.mem_of_getElem? (i := 1) rfl)) rfl rfl (by decide +kernel) (Nat.le_of_ble_eq_true rfl) rfl dX11_rank_2 (fun H locs hP hS => ?_)
  obtain ⟨s1, es1⟩ : ∃ z : St, z = u1 σ v0 0 (0 : Int32) := ⟨_, rfl⟩
  rw [← es1] at hP
  have h := h s1 es1
  refine lv_aload_n hx hb dX11_rank_5 rfl (lv_at hl 0 rfl) ?_
  refine lv_iload_n hx hb dX11_rank_6 rfl (lv_at hl 1 rfl) ?_
  refine rk_callz (va_runV (As := [.int v1]) (rest := []) X.1 (mX11_isTable l D cy B v0 v1 s1 h0 h) (cwV 1 hts (gW_V (wi_35 _ (List.mem_of_getElem? (i := 14) rfl)) (wi_35 _ (List.mem_of_getElem? (i := 15) rfl)) (wi_35 _ (List.mem_of_getElem? (i := 16) rfl)) (wi_30 _ (List.mem_of_getElem? (i := 9) rfl)) (wi_35 _ (List.mem_of_getElem? (i := 5) rfl))) rfl rfl rfl hd_X11_isTable ⟨Nat.le_of_ble_eq_true rfl, Nat.le_of_ble_eq_true rfl⟩) (rk_preV X hS hP h0 rfl rfl [.int v1]) rfl rfl hl.1 rfl (lv_room (Nat.le_of_ble_eq_true rfl)) dX11_rank_7 ⟨Nat.zero_le _, Nat.zero_le _⟩) hS (fun _ h => h) (fun r1 s2 H locs h hP hS => ?_)
  refine lv_if_eq (tgt := 33) hx hb dX11_rank_10 (by decide) (fun c1 => ?_) (fun c1 => ?_)
  · have h := h.1 (b2i_f c1)
    refine lv_iconst (v := (-1 : Int32)) hx hb dX11_rank_33 (by decide) ?_
    exact rk_iret X rfl kM_len h hP hS dX11_rank_34
  · have h := h.2 (b2i_t c1)
    refine lv_iload_n hx hb dX11_rank_13 rfl (lv_at hl 2 rfl) ?_
    refine lv_i2l hx hb dX11_rank_14 rfl ?_
    refine lv_lconst (v := (0 : Int64)) hx hb dX11_rank_15 (by decide) ?_
    refine lv_iconst (v := (1 : Int32)) hx hb dX11_rank_16 (by decide) ?_
    refine lv_aload_n hx hb dX11_rank_17 rfl (lv_at hl 0 rfl) ?_
    refine rk_get X hP (C := RX11) (T := TX11) (N := 44) (ci := 11) wix_11 h0 rfl rfl 20 (by decide) (wi_29 _ (List.mem_of_getElem? (i := 6) rfl)) rfl rfl dX11_rank_18 ?_
    refine lv_iload_n hx hb dX11_rank_21 rfl (lv_at hl 1 rfl) ?_
    obtain ⟨b1, h⟩ := h
    refine rk_iald X hP (n := 16) (klM_X11_20 h0) (fun _ _ => rfl) b1 dX11_rank_22 ?_
    refine lv_ishl hx hb dX11_rank_23 ?_
    refine lv_iconst (v := (1 : Int32)) hx hb dX11_rank_24 (by decide) ?_
    refine lv_isub hx hb dX11_rank_25 ?_
    refine lv_i2l hx hb dX11_rank_26 rfl ?_
    refine rk_callz (va_runS (As := [.long (v2.toInt64), .long (0 : Int64), .long ((((1 : Int32) <<< ((s2.1 (v0 + 9) v1.toNatClampNeg) &&& 31)) - (1 : Int32)).toInt64)]) (rest := []) X.1 (mX11_within l D cy B (v2.toInt64) (0 : Int64) ((((1 : Int32) <<< ((s2.1 (v0 + 9) v1.toNatClampNeg) &&& 31)) - (1 : Int32)).toInt64) s2 h) (va_cwS 3 hts (gW_S (wi_31 _ (List.mem_of_getElem? (i := 2) rfl)) (wi_31 _ (List.mem_of_getElem? (i := 3) rfl)) (wi_30 _ (List.mem_of_getElem? (i := 9) rfl)) (wi_30 _ (List.mem_of_getElem? (i := 2) rfl))) rfl rfl rfl hd_X11_within ⟨Nat.le_of_ble_eq_true rfl, Nat.le_of_ble_eq_true rfl⟩) (rk_preS X hS hP [.long (v2.toInt64), .long (0 : Int64), .long ((((1 : Int32) <<< ((s2.1 (v0 + 9) v1.toNatClampNeg) &&& 31)) - (1 : Int32)).toInt64)]) rfl rfl hl.1 rfl (lv_room (Nat.le_of_ble_eq_true rfl)) dX11_rank_27 ⟨Nat.zero_le _, Nat.zero_le _⟩) hS (fun _ h => h) (fun r2 s3 H locs h hP hS => ?_)
    refine lv_if_ne (tgt := 35) hx hb dX11_rank_30 (by decide) (fun c2 => ?_) (fun c2 => ?_)
    · have h := h.1 (b2i_t c2)
      refine lv_aload_n hx hb dX11_rank_35 rfl (lv_at hl 0 rfl) ?_
      refine rk_get X hP (C := RX11) (T := TX11) (N := 44) (ci := 11) wix_11 h0 rfl rfl 20 (by decide) (wi_29 _ (List.mem_of_getElem? (i := 6) rfl)) rfl rfl dX11_rank_36 ?_
      refine lv_iload_n hx hb dX11_rank_39 rfl (lv_at hl 1 rfl) ?_
      obtain ⟨b2, h⟩ := h
      refine rk_iald X hP (n := 16) (klM_X11_20 h0) (fun _ _ => rfl) b2 dX11_rank_40 ?_
      refine lv_topi (fun x1 ex1 => ?_)
      have h := h x1 ex1
      refine lv_istore_n (lv' := [(3, .int x1), (0, .ref (B + v0)), (1, .int v1), (2, .int v2)]) hx hb dX11_rank_41 rfl hl (by decide) rfl (fun ls hl => ?_)
      refine lv_iconst (v := (1 : Int32)) hx hb dX11_rank_42 (by decide) ?_
      refine lv_iload_n hx hb dX11_rank_43 rfl (lv_at hl 3 rfl) ?_
      refine rk_calli (va_runS (As := [.int v2]) (rest := [.int (1 : Int32)]) X.1 (mX11_bits l D cy B v2 s3 h) (va_cwS 1 hts (gW_S (wi_35 _ (List.mem_of_getElem? (i := 18) rfl)) (wi_35 _ (List.mem_of_getElem? (i := 19) rfl)) (wi_30 _ (List.mem_of_getElem? (i := 9) rfl)) (wi_35 _ (List.mem_of_getElem? (i := 10) rfl))) rfl rfl rfl hd_X11_bits ⟨Nat.le_of_ble_eq_true rfl, Nat.le_of_ble_eq_true rfl⟩) (rk_preS X hS hP [.int v2]) rfl rfl hl.1 rfl (lv_room (Nat.le_of_ble_eq_true rfl)) dX11_rank_44 ⟨Nat.zero_le _, Nat.zero_le _⟩) hS (fun _ h => h) (fun r3 s4 H locs h hP hS => ?_)
      refine lv_ishl hx hb dX11_rank_47 ?_
      refine lv_topi (fun x2 ex2 => ?_)
      have h := h x2 ex2
      refine lv_istore (lv' := [(4, .int x2), (3, .int x1), (0, .ref (B + v0)), (1, .int v1), (2, .int v2)]) hx hb dX11_rank_48 hl (by decide) rfl (fun ls hl => ?_)
      refine lv_iconst (v := (1 : Int32)) hx hb dX11_rank_50 (by decide) ?_
      refine lv_iload_n hx hb dX11_rank_51 rfl (lv_at hl 1 rfl) ?_
      refine lv_iload_n hx hb dX11_rank_52 rfl (lv_at hl 4 rfl) ?_
      refine rk_calli (va_runS (As := [.int v2]) (rest := [.int x1, .int (1 : Int32)]) X.1 (mX11_bits l D cy B v2 s4 h) (va_cwS 1 hts (gW_S (wi_35 _ (List.mem_of_getElem? (i := 18) rfl)) (wi_35 _ (List.mem_of_getElem? (i := 19) rfl)) (wi_30 _ (List.mem_of_getElem? (i := 9) rfl)) (wi_35 _ (List.mem_of_getElem? (i := 10) rfl))) rfl rfl rfl hd_X11_bits ⟨Nat.le_of_ble_eq_true rfl, Nat.le_of_ble_eq_true rfl⟩) (rk_preS X hS hP [.int v2]) rfl rfl hl.1 rfl (lv_room (Nat.le_of_ble_eq_true rfl)) dX11_rank_53 ⟨Nat.zero_le _, Nat.zero_le _⟩) hS (fun _ h => h) (fun r4 s5 H locs h hP hS => ?_)
      refine lv_isub hx hb dX11_rank_56 ?_
      refine lv_ishl hx hb dX11_rank_57 ?_
      refine lv_topi (fun x3 ex3 => ?_)
      have h := h x3 ex3
      refine lv_istore (lv' := [(5, .int x3), (4, .int x2), (3, .int x1), (0, .ref (B + v0)), (1, .int v1), (2, .int v2)]) hx hb dX11_rank_58 hl (by decide) rfl (fun ls hl => ?_)
      refine lv_iconst (v := (0 : Int32)) hx hb dX11_rank_60 (by decide) ?_
      refine lv_istore (lv' := [(6, .int (0 : Int32)), (5, .int x3), (4, .int x2), (3, .int x1), (0, .ref (B + v0)), (1, .int v1), (2, .int v2)]) hx hb dX11_rank_61 hl (by decide) rfl (fun ls hl => ?_)
      obtain ⟨j, h⟩ := h
      exact tX11_rank_63 X j _ _ _ _ _ _ _ _ h0 h _ _ _ hP hS (lv_sub hl [4, 5, 6, 3, 2, 1, 0] rfl)
    · have h := h.2 (b2i_f c2)
      refine lv_iconst (v := (-1 : Int32)) hx hb dX11_rank_33 (by decide) ?_
      exact rk_iret X rfl kM_len h hP hS dX11_rank_34

theorem hd_X11_det : yX11_det.cls = RX11 ∧ yX11_det.cls ≠ "java/lang/invoke/MethodHandle" ∧ yX11_det.cls ≠ "java/lang/invoke/VarHandle" ∧ (parseMethodDescriptor yX11_det.desc).map (fun d => d.parameters.length) = some 1 := by decide +kernel
set_option maxRecDepth 100000 in
set_option maxHeartbeats 4000000 in
theorem mX11_det (l : Launch) (D : va_G) (cy : Nat → ClassId) (B : Nat) (v0 : Nat) (v1 : Int32) (σ : St) (h0 : kM[v0]? = some 11) {post : Int32 → St → Prop} (h : wX11_det v0 v1 σ post) : Met l yX11_det (Cond.code yX11_det cX11_det 2 (some .int) :: WALL) (rmD 1) (PcW D cy B kM σ [.ref (B + v0), .int v1]) (va_Qi post (BW D cy B kM) (AW B 26)) 0 0 (AW B 26) := by
  refine Met.ofK (cc := cX11_det) (maxL := 2) (ret := (some .int)) (by decide +kernel) rfl kM_len ?_
  intro p e s m below meth c X hP
  obtain ⟨⟨hx, hb, hml, hown, hts⟩, hr, hlk, hK, hN, hZ⟩ := id X
  have hD : ∀ σ, va_D (AW B 26) (wW cy B kM σ) := AW_D kM_len
  have hS : va_S (AW B 26) s.heap s.heap [] := va_S.rf
  have hl := lv_entry ([.ref (B + v0), .int v1]) (n := 2) (Nat.le_of_ble_eq_true rfl)
  rw [lg_entry_eq]
  generalize (lg_sl ([.ref (B + v0), .int v1]) ++ List.replicate (2 - (lg_sl ([.ref (B + v0), .int v1])).length) Slot.unset).toArray = ls at hl ⊢
  have hl : lv_has ls 2 [(0, .ref (B + v0)), (1, .int v1)] := hl
  unfold wX11_det at h
  refine lv_aload_n hx hb dX11_det_0 rfl (lv_at hl 0 rfl) ?_
  refine rk_get X hP (C := RX11) (T := TX11) (N := 44) (ci := 11) wix_11 h0 rfl rfl 22 (by decide) (wi_29 _ (List.mem_of_getElem? (i := 8) rfl)) rfl rfl dX11_det_1 ?_
  refine lv_iconst (v := (4 : Int32)) hx hb dX11_det_4 (by decide) ?_
  refine lv_iload_n hx hb dX11_det_5 rfl (lv_at hl 1 rfl) ?_
  refine lv_imul hx hb dX11_det_6 ?_
  refine lv_topi (fun x1 ex1 => ?_)
  have h := h x1 ex1
  obtain ⟨b1, h⟩ := h
  refine rk_iald X hP (n := 40) (klM_X11_22 h0) (fun _ _ => rfl) b1 dX11_det_7 ?_
  refine lv_aload_n hx hb dX11_det_8 rfl (lv_at hl 0 rfl) ?_
  refine rk_get X hP (C := RX11) (T := TX11) (N := 44) (ci := 11) wix_11 h0 rfl rfl 22 (by decide) (wi_29 _ (List.mem_of_getElem? (i := 8) rfl)) rfl rfl dX11_det_9 ?_
  refine lv_iconst (v := (4 : Int32)) hx hb dX11_det_12 (by decide) ?_
  refine lv_iload_n hx hb dX11_det_13 rfl (lv_at hl 1 rfl) ?_
  refine lv_imul hx hb dX11_det_14 ?_
  refine lv_iconst (v := (3 : Int32)) hx hb dX11_det_15 (by decide) ?_
  refine lv_iadd hx hb dX11_det_16 ?_
  refine lv_topi (fun x2 ex2 => ?_)
  have h := h x2 ex2
  obtain ⟨b2, h⟩ := h
  refine rk_iald X hP (n := 40) (klM_X11_22 h0) (fun _ _ => rfl) b2 dX11_det_17 ?_
  refine lv_imul hx hb dX11_det_18 ?_
  refine lv_aload_n hx hb dX11_det_19 rfl (lv_at hl 0 rfl) ?_
  refine rk_get X hP (C := RX11) (T := TX11) (N := 44) (ci := 11) wix_11 h0 rfl rfl 22 (by decide) (wi_29 _ (List.mem_of_getElem? (i := 8) rfl)) rfl rfl dX11_det_20 ?_
  refine lv_iconst (v := (4 : Int32)) hx hb dX11_det_23 (by decide) ?_
  refine lv_iload_n hx hb dX11_det_24 rfl (lv_at hl 1 rfl) ?_
  refine lv_imul hx hb dX11_det_25 ?_
  refine lv_iconst (v := (1 : Int32)) hx hb dX11_det_26 (by decide) ?_
  refine lv_iadd hx hb dX11_det_27 ?_
  refine lv_topi (fun x3 ex3 => ?_)
  have h := h x3 ex3
  obtain ⟨b3, h⟩ := h
  refine rk_iald X hP (n := 40) (klM_X11_22 h0) (fun _ _ => rfl) b3 dX11_det_28 ?_
  refine lv_aload_n hx hb dX11_det_29 rfl (lv_at hl 0 rfl) ?_
  refine rk_get X hP (C := RX11) (T := TX11) (N := 44) (ci := 11) wix_11 h0 rfl rfl 22 (by decide) (wi_29 _ (List.mem_of_getElem? (i := 8) rfl)) rfl rfl dX11_det_30 ?_
  refine lv_iconst (v := (4 : Int32)) hx hb dX11_det_33 (by decide) ?_
  refine lv_iload_n hx hb dX11_det_34 rfl (lv_at hl 1 rfl) ?_
  refine lv_imul hx hb dX11_det_35 ?_
  refine lv_iconst (v := (2 : Int32)) hx hb dX11_det_36 (by decide) ?_
  refine lv_iadd hx hb dX11_det_37 ?_
  refine lv_topi (fun x4 ex4 => ?_)
  have h := h x4 ex4
  obtain ⟨b4, h⟩ := h
  refine rk_iald X hP (n := 40) (klM_X11_22 h0) (fun _ _ => rfl) b4 dX11_det_38 ?_
  refine lv_imul hx hb dX11_det_39 ?_
  refine lv_isub hx hb dX11_det_40 ?_
  refine lv_i2l hx hb dX11_det_41 rfl ?_
  refine lv_aload_n hx hb dX11_det_42 rfl (lv_at hl 0 rfl) ?_
  refine rk_calli (va_runV (As := []) (rest := [.long ((((σ.1 (v0 + 11) x1.toNatClampNeg) * (σ.1 (v0 + 11) x2.toNatClampNeg)) - ((σ.1 (v0 + 11) x3.toNatClampNeg) * (σ.1 (v0 + 11) x4.toNatClampNeg))).toInt64)]) X.1 (mX11_p l D cy B v0 σ h0 h) (cwV 0 hts (gW_V (wi_35 _ (List.mem_of_getElem? (i := 21) rfl)) (wi_35 _ (List.mem_of_getElem? (i := 22) rfl)) (wi_35 _ (List.mem_of_getElem? (i := 23) rfl)) (wi_30 _ (List.mem_of_getElem? (i := 9) rfl)) (wi_35 _ (List.mem_of_getElem? (i := 4) rfl))) rfl rfl rfl hd_X11_p ⟨Nat.le_of_ble_eq_true rfl, Nat.le_of_ble_eq_true rfl⟩) (rk_preV X hS hP h0 rfl rfl []) rfl rfl hl.1 rfl (lv_room (Nat.le_of_ble_eq_true rfl)) dX11_det_43 ⟨Nat.zero_le _, Nat.zero_le _⟩) hS (fun _ h => h) (fun r1 s1 H locs h hP hS => ?_)
  refine rk_calli (va_runS (As := [.long ((((σ.1 (v0 + 11) x1.toNatClampNeg) * (σ.1 (v0 + 11) x2.toNatClampNeg)) - ((σ.1 (v0 + 11) x3.toNatClampNeg) * (σ.1 (v0 + 11) x4.toNatClampNeg))).toInt64), .int r1]) (rest := []) X.1 (mX11_modulo l D cy B ((((σ.1 (v0 + 11) x1.toNatClampNeg) * (σ.1 (v0 + 11) x2.toNatClampNeg)) - ((σ.1 (v0 + 11) x3.toNatClampNeg) * (σ.1 (v0 + 11) x4.toNatClampNeg))).toInt64) r1 s1 h) (va_cwS 2 hts (gW_S (wi_33 _ (List.mem_of_getElem? (i := 8) rfl)) (wi_33 _ (List.mem_of_getElem? (i := 9) rfl)) (wi_30 _ (List.mem_of_getElem? (i := 9) rfl)) (wi_33 _ (List.mem_of_getElem? (i := 7) rfl))) rfl rfl rfl hd_X11_modulo ⟨Nat.le_of_ble_eq_true rfl, Nat.le_of_ble_eq_true rfl⟩) (rk_preS X hS hP [.long ((((σ.1 (v0 + 11) x1.toNatClampNeg) * (σ.1 (v0 + 11) x2.toNatClampNeg)) - ((σ.1 (v0 + 11) x3.toNatClampNeg) * (σ.1 (v0 + 11) x4.toNatClampNeg))).toInt64), .int r1]) rfl rfl hl.1 rfl (lv_room (Nat.le_of_ble_eq_true rfl)) dX11_det_46 ⟨Nat.zero_le _, Nat.zero_le _⟩) hS (fun _ h => h) (fun r2 s2 H locs h hP hS => ?_)
  exact rk_iret X rfl kM_len h hP hS dX11_det_49

theorem hd_X11_base : yX11_base.cls = RX11 ∧ yX11_base.cls ≠ "java/lang/invoke/MethodHandle" ∧ yX11_base.cls ≠ "java/lang/invoke/VarHandle" ∧ (parseMethodDescriptor yX11_base.desc).map (fun d => d.parameters.length) = some 2 := by decide +kernel
set_option maxRecDepth 100000 in
set_option maxHeartbeats 4000000 in
theorem tX11_base_26 {p : Program} {l : Launch} {e : Env} {s : State} {m : MethodId} {av : Array Value} {below : List Frame} {meth : Method} {c : Code} {D : va_G} {cy : Nat → ClassId} {B : Nat} (X : kC p s m av meth c cX11_base 3 (some .int) WALL RX11 D cy (AW B 26)) {post : Int32 → St → Prop} : ∀ (v0 : Nat) (v1 : Int32) (v2 : Int32) (t0 : Nat) (t1 : Int32) (σ : St), kM[v0]? = some 11 → kM[t0]? = some 11 → wX11_base_26 post v0 v1 v2 t0 t1 σ → ∀ (H : Heap) (locs : List Loc) (ls : Array Slot), va_P D vwCl (wW cy B kM σ) H → va_S (AW B 26) s.heap H locs → lv_has ls 3 [(0, .ref (B + v0)), (1, .int v1), (2, .int v2)] → W p l e (rmD 2) s m av below meth c H locs 0 0 (MQ below (va_Qi post (BW D cy B kM) (AW B 26)) av s 0 0 (AW B 26)) (F0 m 26 ls [.int t1, .ref (B + t0)]) := by
  obtain ⟨⟨hx, hb, hml, hown, hts⟩, hr, hlk, hK, hN, hZ⟩ := id X
  have hD : ∀ σ, va_D (AW B 26) (wW cy B kM σ) := AW_D kM_len
  intro v0 v1 v2 t0 t1 σ h0 g0 h H locs ls hP hS hl
  unfold wX11_base_26 at h
  refine rk_puti X hP hD hS (C := RX11) (T := TX11) (N := 44) (ci := 11) wix_11 g0 rfl rfl tyX11 tyX11_ok nmX11 0 (by decide) (wi_30 _ (List.mem_of_getElem? (i := 1) rfl)) rfl rfl (by decide +kernel) (Nat.le_of_ble_eq_true rfl) rfl dX11_base_26 (fun H locs hP hS => ?_)
  obtain ⟨s1, es1⟩ : ∃ z : St, z = u1 σ t0 0 t1 := ⟨_, rfl⟩
  rw [← es1] at hP
  have h := h s1 es1
  refine lv_aload_n hx hb dX11_base_29 rfl (lv_at hl 0 rfl) ?_
  refine rk_get X hP (C := RX11) (T := TX11) (N := 44) (ci := 11) wix_11 h0 rfl rfl 0 (by decide) (wi_30 _ (List.mem_of_getElem? (i := 1) rfl)) rfl rfl dX11_base_30 ?_
  refine lv_iconst (v := (1 : Int32)) hx hb dX11_base_33 (by decide) ?_
  refine lv_icmp_ne (tgt := 39) hx hb dX11_base_34 (by decide) (fun c1 => ?_) (fun c1 => ?_)
  · have h := h.1 c1
    refine lv_iload_n hx hb dX11_base_39 rfl (lv_at hl 2 rfl) ?_
    refine lv_iconst (v := (4 : Int32)) hx hb dX11_base_40 (by decide) ?_
    refine lv_icmp_ge (tgt := 57) hx hb dX11_base_41 (by decide) (fun c2 => ?_) (fun c2 => ?_)
    · have h := h.1 c2
      refine lv_aload_n hx hb dX11_base_57 rfl (lv_at hl 0 rfl) ?_
      refine lv_iload_n hx hb dX11_base_58 rfl (lv_at hl 1 rfl) ?_
      refine rk_calli (va_runV (As := [.int v1]) (rest := []) X.1 (mX11_det l D cy B v0 v1 s1 h0 h) (cwV 1 hts (gW_V (wi_37 _ (List.mem_of_getElem? (i := 16) rfl)) (wi_37 _ (List.mem_of_getElem? (i := 17) rfl)) (wi_37 _ (List.mem_of_getElem? (i := 18) rfl)) (wi_30 _ (List.mem_of_getElem? (i := 9) rfl)) (wi_37 _ (List.mem_of_getElem? (i := 10) rfl))) rfl rfl rfl hd_X11_det ⟨Nat.le_of_ble_eq_true rfl, Nat.le_of_ble_eq_true rfl⟩) (rk_preV X hS hP h0 rfl rfl [.int v1]) rfl rfl hl.1 rfl (lv_room (Nat.le_of_ble_eq_true rfl)) dX11_base_59 ⟨Nat.zero_le _, Nat.zero_le _⟩) hS (fun _ h => h) (fun r1 s2 H locs h hP hS => ?_)
      exact rk_iret X rfl kM_len h hP hS dX11_base_62
    · have h := h.2 c2
      refine lv_aload_n hx hb dX11_base_44 rfl (lv_at hl 0 rfl) ?_
      refine rk_get X hP (C := RX11) (T := TX11) (N := 44) (ci := 11) wix_11 h0 rfl rfl 22 (by decide) (wi_29 _ (List.mem_of_getElem? (i := 8) rfl)) rfl rfl dX11_base_45 ?_
      refine lv_iconst (v := (4 : Int32)) hx hb dX11_base_48 (by decide) ?_
      refine lv_iload_n hx hb dX11_base_49 rfl (lv_at hl 1 rfl) ?_
      refine lv_imul hx hb dX11_base_50 ?_
      refine lv_iload_n hx hb dX11_base_51 rfl (lv_at hl 2 rfl) ?_
      refine lv_iadd hx hb dX11_base_52 ?_
      refine lv_topi (fun x1 ex1 => ?_)
      have h := h x1 ex1
      obtain ⟨b1, h⟩ := h
      refine rk_iald X hP (n := 40) (klM_X11_22 h0) (fun _ _ => rfl) b1 dX11_base_53 ?_
      refine lv_goto (tgt := 62) hx hb dX11_base_54 (by decide) ?_
      exact rk_iret X rfl kM_len h hP hS dX11_base_62
  · have h := h.2 c1
    refine lv_iconst (v := (0 : Int32)) hx hb dX11_base_37 (by decide) ?_
    exact rk_iret X rfl kM_len h hP hS dX11_base_38
set_option maxRecDepth 100000 in
set_option maxHeartbeats 4000000 in
theorem tX11_base_25 {p : Program} {l : Launch} {e : Env} {s : State} {m : MethodId} {av : Array Value} {below : List Frame} {meth : Method} {c : Code} {D : va_G} {cy : Nat → ClassId} {B : Nat} (X : kC p s m av meth c cX11_base 3 (some .int) WALL RX11 D cy (AW B 26)) {post : Int32 → St → Prop} : ∀ (v0 : Nat) (v1 : Int32) (v2 : Int32) (t0 : Nat) (σ : St), kM[v0]? = some 11 → kM[t0]? = some 11 → wX11_base_25 post v0 v1 v2 t0 σ → ∀ (H : Heap) (locs : List Loc) (ls : Array Slot), va_P D vwCl (wW cy B kM σ) H → va_S (AW B 26) s.heap H locs → lv_has ls 3 [(0, .ref (B + v0)), (1, .int v1), (2, .int v2)] → W p l e (rmD 2) s m av below meth c H locs 0 0 (MQ below (va_Qi post (BW D cy B kM) (AW B 26)) av s 0 0 (AW B 26)) (F0 m 25 ls [.ref (B + t0)]) := by
  obtain ⟨⟨hx, hb, hml, hown, hts⟩, hr, hlk, hK, hN, hZ⟩ := id X
  have hD : ∀ σ, va_D (AW B 26) (wW cy B kM σ) := AW_D kM_len
  intro v0 v1 v2 t0 σ h0 g0 h H locs ls hP hS hl
  unfold wX11_base_25 at h
  refine lv_iconst (v := (1 : Int32)) hx hb dX11_base_25 (by decide) ?_
  exact tX11_base_26 X _ _ _ _ _ _ h0 g0 h _ _ _ hP hS (lv_sub hl [0, 1, 2] rfl)
set_option maxRecDepth 100000 in
set_option maxHeartbeats 4000000 in
theorem mX11_base (l : Launch) (D : va_G) (cy : Nat → ClassId) (B : Nat) (v0 : Nat) (v1 : Int32) (v2 : Int32) (σ : St) (h0 : kM[v0]? = some 11) {post : Int32 → St → Prop} (h : wX11_base v0 v1 v2 σ post) : Met l yX11_base (Cond.code yX11_base cX11_base 3 (some .int) :: WALL) (rmD 2) (PcW D cy B kM σ [.ref (B + v0), .int v1, .int v2]) (va_Qi post (BW D cy B kM) (AW B 26)) 0 0 (AW B 26) := by
  refine Met.ofK (cc := cX11_base) (maxL := 3) (ret := (some .int)) (by decide +kernel) rfl kM_len ?_
  intro p e s m below meth c X hP
  obtain ⟨⟨hx, hb, hml, hown, hts⟩, hr, hlk, hK, hN, hZ⟩ := id X
  have hD : ∀ σ, va_D (AW B 26) (wW cy B kM σ) := AW_D kM_len
  have hS : va_S (AW B 26) s.heap s.heap [] := va_S.rf
  have hl := lv_entry ([.ref (B + v0), .int v1, .int v2]) (n := 3) (Nat.le_of_ble_eq_true rfl)
  rw [lg_entry_eq]
  generalize (lg_sl ([.ref (B + v0), .int v1, .int v2]) ++ List.replicate (3 - (lg_sl ([.ref (B + v0), .int v1, .int v2])).length) Slot.unset).toArray = ls at hl ⊢
  have hl : lv_has ls 3 [(0, .ref (B + v0)), (1, .int v1), (2, .int v2)] := hl
  unfold wX11_base at h
  refine lv_aload_n hx hb dX11_base_0 rfl (lv_at hl 0 rfl) ?_
  refine lv_aload_n hx hb dX11_base_1 rfl (lv_at hl 0 rfl) ?_
  refine lv_iload_n hx hb dX11_base_2 rfl (lv_at hl 1 rfl) ?_
  refine rk_callz (va_runV (As := [.int v1]) (rest := [.ref (B + v0)]) X.1 (mX11_isBase l D cy B v0 v1 σ h0 h) (cwV 1 hts (gW_V (wi_37 _ (List.mem_of_getElem? (i := 13) rfl)) (wi_37 _ (List.mem_of_getElem? (i := 14) rfl)) (wi_37 _ (List.mem_of_getElem? (i := 15) rfl)) (wi_30 _ (List.mem_of_getElem? (i := 9) rfl)) (wi_35 _ (List.mem_of_getElem? (i := 6) rfl))) rfl rfl rfl hd_X11_isBase ⟨Nat.le_of_ble_eq_true rfl, Nat.le_of_ble_eq_true rfl⟩) (rk_preV X hS hP h0 rfl rfl [.int v1]) rfl rfl hl.1 rfl (lv_room (Nat.le_of_ble_eq_true rfl)) dX11_base_3 ⟨Nat.zero_le _, Nat.zero_le _⟩) hS (fun _ h => h) (fun r1 s1 H locs h hP hS => ?_)
  refine lv_if_eq (tgt := 25) hx hb dX11_base_6 (by decide) (fun c1 => ?_) (fun c1 => ?_)
  · have h := h.1 (b2i_f c1)
    exact tX11_base_25 X _ _ _ _ _ h0 h0 h _ _ _ hP hS (lv_sub hl [0, 1, 2] rfl)
  · have h := h.2 (b2i_t c1)
    refine lv_iload_n hx hb dX11_base_9 rfl (lv_at hl 2 rfl) ?_
    refine lv_i2l hx hb dX11_base_10 rfl ?_
    refine lv_lconst (v := (0 : Int64)) hx hb dX11_base_11 (by decide) ?_
    refine lv_ldc2 (v := (4 : Int64)) hx hb hown (hts (.constantLong RX11 300 (4 : Int64)) (wi_37 _ (List.mem_of_getElem? (i := 12) rfl))) dX11_base_12 ?_
    refine rk_callz (va_runS (As := [.long (v2.toInt64), .long (0 : Int64), .long (4 : Int64)]) (rest := [.ref (B + v0)]) X.1 (mX11_within l D cy B (v2.toInt64) (0 : Int64) (4 : Int64) s1 h) (va_cwS 3 hts (gW_S (wi_31 _ (List.mem_of_getElem? (i := 2) rfl)) (wi_31 _ (List.mem_of_getElem? (i := 3) rfl)) (wi_30 _ (List.mem_of_getElem? (i := 9) rfl)) (wi_30 _ (List.mem_of_getElem? (i := 2) rfl))) rfl rfl rfl hd_X11_within ⟨Nat.le_of_ble_eq_true rfl, Nat.le_of_ble_eq_true rfl⟩) (rk_preS X hS hP [.long (v2.toInt64), .long (0 : Int64), .long (4 : Int64)]) rfl rfl hl.1 rfl (lv_room (Nat.le_of_ble_eq_true rfl)) dX11_base_15 ⟨Nat.zero_le _, Nat.zero_le _⟩) hS (fun _ h => h) (fun r2 s2 H locs h hP hS => ?_)
    refine lv_if_eq (tgt := 25) hx hb dX11_base_18 (by decide) (fun c2 => ?_) (fun c2 => ?_)
    · have h := h.1 (b2i_f c2)
      exact tX11_base_25 X _ _ _ _ _ h0 h0 h _ _ _ hP hS (lv_sub hl [0, 1, 2] rfl)
    · have h := h.2 (b2i_t c2)
      refine lv_iconst (v := (0 : Int32)) hx hb dX11_base_21 (by decide) ?_
      refine lv_goto (tgt := 26) hx hb dX11_base_22 (by decide) ?_
      exact tX11_base_26 X _ _ _ _ _ _ h0 h0 h _ _ _ hP hS (lv_sub hl [0, 1, 2] rfl)

theorem hd_X11_changes : yX11_changes.cls = RX11 ∧ yX11_changes.cls ≠ "java/lang/invoke/MethodHandle" ∧ yX11_changes.cls ≠ "java/lang/invoke/VarHandle" ∧ (parseMethodDescriptor yX11_changes.desc).map (fun d => d.parameters.length) = some 8 := by decide +kernel
set_option maxRecDepth 100000 in
set_option maxHeartbeats 4000000 in
theorem tX11_changes_3 {p : Program} {l : Launch} {e : Env} {s : State} {m : MethodId} {av : Array Value} {below : List Frame} {meth : Method} {c : Code} {D : va_G} {cy : Nat → ClassId} {B : Nat} (X : kC p s m av meth c cX11_changes 12 none WALL RX11 D cy (AW B 26)) {post : St → Prop} {ln : Nat} (hln : ln < 10000) : ∀ (n : Nat) (v0 : Nat) (v1 : Nat) (v2 : Int32) (v3 : Int32) (v4 : Int32) (v5 : Int32) (v6 : Int32) (v7 : Int32) (v8 : Int32) (v9 : Int32) (σ : St), kM[v0]? = some 11 → kM[v1]? = some (10000 + ln) → wX11_changes_3 ln post n v0 v1 v2 v3 v4 v5 v6 v7 v8 v9 σ → ∀ (H : Heap) (locs : List Loc) (ls : Array Slot), va_P D vwCl (wW cy B kM σ) H → va_S (AW B 26) s.heap H locs → lv_has ls 12 [(0, .ref (B + v0)), (1, .ref (B + v1)), (2, .int v2), (3, .int v3), (4, .int v4), (5, .int v5), (6, .int v6), (7, .int v7), (8, .int v8), (9, .int v9)] → W p l e (rmD 1) s m av below meth c H locs 0 0 (MQ below (va_Qv post (BW D cy B kM) (AW B 26)) av s 0 0 (AW B 26)) (F0 m 3 ls []) := by
  obtain ⟨⟨hx, hb, hml, hown, hts⟩, hr, hlk, hK, hN, hZ⟩ := id X
  have hD : ∀ σ, va_D (AW B 26) (wW cy B kM σ) := AW_D kM_len
  intro n
  induction n with
  | zero => intro v0 v1 v2 v3 v4 v5 v6 v7 v8 v9 σ h0 h1 h; exact absurd h id
  | succ n ih =>
    intro v0 v1 v2 v3 v4 v5 v6 v7 v8 v9 σ h0 h1 h H locs ls hP hS hl
    rw [wX11_changes_3] at h
    refine lv_iload hx hb dX11_changes_3 (lv_at hl 9 rfl) ?_
    refine lv_iconst (v := (1 : Int32)) hx hb dX11_changes_5 (by decide) ?_
    refine lv_iload_n hx hb dX11_changes_6 rfl (lv_at hl 3 rfl) ?_
    refine lv_ishl hx hb dX11_changes_7 ?_
    refine lv_icmp_ge (tgt := 107) hx hb dX11_changes_8 (by decide) (fun c1 => ?_) (fun c1 => ?_)
    · have h := h.1 c1
      exact rk_vret X kM_len h hP hS dX11_changes_107
    · have h := h.2 c1
      refine lv_iload hx hb dX11_changes_11 (lv_at hl 9 rfl) ?_
      refine lv_iload hx hb dX11_changes_13 (lv_at hl 4 rfl) ?_
      refine lv_ishr hx hb dX11_changes_15 ?_
      refine lv_iconst (v := (1 : Int32)) hx hb dX11_changes_16 (by decide) ?_
      refine lv_iand hx hb dX11_changes_17 ?_
      refine lv_iconst (v := (1 : Int32)) hx hb dX11_changes_18 (by decide) ?_
      refine lv_icmp_ne (tgt := 25) hx hb dX11_changes_19 (by decide) (fun c2 => ?_) (fun c2 => ?_)
      · have h := h.1 c2
        refine lv_aload_n hx hb dX11_changes_25 rfl (lv_at hl 1 rfl) ?_
        refine lv_iload_n hx hb dX11_changes_26 rfl (lv_at hl 2 rfl) ?_
        refine lv_iload hx hb dX11_changes_27 (lv_at hl 9 rfl) ?_
        refine lv_iadd hx hb dX11_changes_29 ?_
        refine lv_topi (fun x1 ex1 => ?_)
        have h := h x1 ex1
        obtain ⟨b1, h⟩ := h
        refine rk_iald X hP (n := ln) h1 (fun _ _ => eW_I _ _ _ _ _ _ hln) b1 dX11_changes_30 ?_
        refine lv_topi (fun x2 ex2 => ?_)
        have h := h x2 ex2
        refine lv_istore (lv' := [(10, .int x2), (0, .ref (B + v0)), (1, .ref (B + v1)), (2, .int v2), (3, .int v3), (4, .int v4), (5, .int v5), (6, .int v6), (7, .int v7), (8, .int v8), (9, .int v9)]) hx hb dX11_changes_31 hl (by decide) rfl (fun ls hl => ?_)
        refine lv_aload_n hx hb dX11_changes_33 rfl (lv_at hl 2 rfl) ?_
        refine lv_iload_n hx hb dX11_changes_34 rfl (lv_at hl 3 rfl) ?_
        refine lv_iload hx hb dX11_changes_35 (lv_at hl 10 rfl) ?_
        refine lv_iconst (v := (1 : Int32)) hx hb dX11_changes_37 (by decide) ?_
        refine lv_iload hx hb dX11_changes_38 (lv_at hl 5 rfl) ?_
        refine lv_ishl hx hb dX11_changes_40 ?_
        refine lv_ior hx hb dX11_changes_41 ?_
        refine lv_iadd hx hb dX11_changes_42 ?_
        refine lv_topi (fun x3 ex3 => ?_)
        have h := h x3 ex3
        obtain ⟨b2, h⟩ := h
        refine rk_iald X hP (n := ln) h1 (fun _ _ => eW_I _ _ _ _ _ _ hln) b2 dX11_changes_43 ?_
        refine lv_topi (fun x4 ex4 => ?_)
        have h := h x4 ex4
        refine lv_istore (lv' := [(11, .int x4), (10, .int x2), (0, .ref (B + v0)), (1, .ref (B + v1)), (2, .int v2), (3, .int v3), (4, .int v4), (5, .int v5), (6, .int v6), (7, .int v7), (8, .int v8), (9, .int v9)]) hx hb dX11_changes_44 hl (by decide) rfl (fun ls hl => ?_)
        refine lv_aload_n hx hb dX11_changes_46 rfl (lv_at hl 3 rfl) ?_
        refine lv_iload_n hx hb dX11_changes_47 rfl (lv_at hl 4 rfl) ?_
        refine lv_iload hx hb dX11_changes_48 (lv_at hl 11 rfl) ?_
        refine lv_iadd hx hb dX11_changes_50 ?_
        refine lv_iload hx hb dX11_changes_51 (lv_at hl 7 rfl) ?_
        refine lv_iload hx hb dX11_changes_53 (lv_at hl 1 rfl) ?_
        refine lv_imul hx hb dX11_changes_55 ?_
        refine lv_iload hx hb dX11_changes_56 (lv_at hl 8 rfl) ?_
        refine lv_iload hx hb dX11_changes_58 (lv_at hl 0 rfl) ?_
        refine lv_imul hx hb dX11_changes_60 ?_
        refine lv_iadd hx hb dX11_changes_61 ?_
        refine lv_i2l hx hb dX11_changes_62 rfl ?_
        refine lv_aload_n hx hb dX11_changes_63 rfl (lv_at hl 2 rfl) ?_
        refine rk_calli (va_runV (As := []) (rest := [.long (((v5 * x2) + (v6 * x4)).toInt64), .int (v2 + v9), .ref (B + v1)]) X.1 (mX11_p l D cy B v0 σ h0 h) (cwV 0 hts (gW_V (wi_35 _ (List.mem_of_getElem? (i := 21) rfl)) (wi_35 _ (List.mem_of_getElem? (i := 22) rfl)) (wi_35 _ (List.mem_of_getElem? (i := 23) rfl)) (wi_30 _ (List.mem_of_getElem? (i := 9) rfl)) (wi_35 _ (List.mem_of_getElem? (i := 4) rfl))) rfl rfl rfl hd_X11_p ⟨Nat.le_of_ble_eq_true rfl, Nat.le_of_ble_eq_true rfl⟩) (rk_preV X hS hP h0 rfl rfl []) rfl rfl hl.1 rfl (lv_room (Nat.le_of_ble_eq_true rfl)) dX11_changes_64 ⟨Nat.zero_le _, Nat.zero_le _⟩) hS (fun _ h => h) (fun r1 s1 H locs h hP hS => ?_)
        refine rk_calli (va_runS (As := [.long (((v5 * x2) + (v6 * x4)).toInt64), .int r1]) (rest := [.int (v2 + v9), .ref (B + v1)]) X.1 (mX11_modulo l D cy B (((v5 * x2) + (v6 * x4)).toInt64) r1 s1 h) (va_cwS 2 hts (gW_S (wi_33 _ (List.mem_of_getElem? (i := 8) rfl)) (wi_33 _ (List.mem_of_getElem? (i := 9) rfl)) (wi_30 _ (List.mem_of_getElem? (i := 9) rfl)) (wi_33 _ (List.mem_of_getElem? (i := 7) rfl))) rfl rfl rfl hd_X11_modulo ⟨Nat.le_of_ble_eq_true rfl, Nat.le_of_ble_eq_true rfl⟩) (rk_preS X hS hP [.long (((v5 * x2) + (v6 * x4)).toInt64), .int r1]) rfl rfl hl.1 rfl (lv_room (Nat.le_of_ble_eq_true rfl)) dX11_changes_67 ⟨Nat.zero_le _, Nat.zero_le _⟩) hS (fun _ h => h) (fun r2 s2 H locs h hP hS => ?_)
        obtain ⟨b3, h⟩ := h
        refine rk_iast X hP hD hS (n := ln) h1 (fun _ _ => eW_I _ _ _ _ _ _ hln) b3 dX11_changes_70 (fun H locs hP hS => ?_)
        obtain ⟨s3, es3⟩ : ∃ z : St, z = u1 s2 v1 (v2 + v9).toNatClampNeg r2 := ⟨_, rfl⟩
        rw [← es3] at hP
        have h := h s3 es3
        refine lv_aload_n hx hb dX11_changes_71 rfl (lv_at hl 3 rfl) ?_
        refine lv_iload_n hx hb dX11_changes_72 rfl (lv_at hl 4 rfl) ?_
        refine lv_iload hx hb dX11_changes_73 (lv_at hl 11 rfl) ?_
        refine lv_iconst (v := (1 : Int32)) hx hb dX11_changes_75 (by decide) ?_
        refine lv_iload hx hb dX11_changes_76 (lv_at hl 6 rfl) ?_
        refine lv_ishl hx hb dX11_changes_78 ?_
        refine lv_ior hx hb dX11_changes_79 ?_
        refine lv_iadd hx hb dX11_changes_80 ?_
        refine lv_iload hx hb dX11_changes_81 (lv_at hl 9 rfl) ?_
        refine lv_iload hx hb dX11_changes_83 (lv_at hl 1 rfl) ?_
        refine lv_imul hx hb dX11_changes_85 ?_
        refine lv_iload hx hb dX11_changes_86 (lv_at hl 10 rfl) ?_
        refine lv_iload hx hb dX11_changes_88 (lv_at hl 0 rfl) ?_
        refine lv_imul hx hb dX11_changes_90 ?_
        refine lv_iadd hx hb dX11_changes_91 ?_
        refine lv_i2l hx hb dX11_changes_92 rfl ?_
        refine lv_aload_n hx hb dX11_changes_93 rfl (lv_at hl 2 rfl) ?_
        refine rk_calli (va_runV (As := []) (rest := [.long (((v7 * x2) + (v8 * x4)).toInt64), .int (v2 + (v9 ||| ((1 : Int32) <<< (v4 &&& 31)))), .ref (B + v1)]) X.1 (mX11_p l D cy B v0 s3 h0 h) (cwV 0 hts (gW_V (wi_35 _ (List.mem_of_getElem? (i := 21) rfl)) (wi_35 _ (List.mem_of_getElem? (i := 22) rfl)) (wi_35 _ (List.mem_of_getElem? (i := 23) rfl)) (wi_30 _ (List.mem_of_getElem? (i := 9) rfl)) (wi_35 _ (List.mem_of_getElem? (i := 4) rfl))) rfl rfl rfl hd_X11_p ⟨Nat.le_of_ble_eq_true rfl, Nat.le_of_ble_eq_true rfl⟩) (rk_preV X hS hP h0 rfl rfl []) rfl rfl hl.1 rfl (lv_room (Nat.le_of_ble_eq_true rfl)) dX11_changes_94 ⟨Nat.zero_le _, Nat.zero_le _⟩) hS (fun _ h => h) (fun r3 s4 H locs h hP hS => ?_)
        refine rk_calli (va_runS (As := [.long (((v7 * x2) + (v8 * x4)).toInt64), .int r3]) (rest := [.int (v2 + (v9 ||| ((1 : Int32) <<< (v4 &&& 31)))), .ref (B + v1)]) X.1 (mX11_modulo l D cy B (((v7 * x2) + (v8 * x4)).toInt64) r3 s4 h) (va_cwS 2 hts (gW_S (wi_33 _ (List.mem_of_getElem? (i := 8) rfl)) (wi_33 _ (List.mem_of_getElem? (i := 9) rfl)) (wi_30 _ (List.mem_of_getElem? (i := 9) rfl)) (wi_33 _ (List.mem_of_getElem? (i := 7) rfl))) rfl rfl rfl hd_X11_modulo ⟨Nat.le_of_ble_eq_true rfl, Nat.le_of_ble_eq_true rfl⟩) (rk_preS X hS hP [.long (((v7 * x2) + (v8 * x4)).toInt64), .int r3]) rfl rfl hl.1 rfl (lv_room (Nat.le_of_ble_eq_true rfl)) dX11_changes_97 ⟨Nat.zero_le _, Nat.zero_le _⟩) hS (fun _ h => h) (fun r4 s5 H locs h hP hS => ?_)
        obtain ⟨b4, h⟩ := h
        refine rk_iast X hP hD hS (n := ln) h1 (fun _ _ => eW_I _ _ _ _ _ _ hln) b4 dX11_changes_100 (fun H locs hP hS => ?_)
        obtain ⟨s6, es6⟩ : ∃ z : St, z = u1 s5 v1 (v2 + (v9 ||| ((1 : Int32) <<< (v4 &&& 31)))).toNatClampNeg r4 := ⟨_, rfl⟩
        rw [← es6] at hP
        have h := h s6 es6
        obtain ⟨x5, ex5⟩ : ∃ y : Int32, y = v9 + (1 : Int32) := ⟨_, rfl⟩
        have h := h x5 ex5
        refine lv_iinc (v := x5) (lv' := [(9, .int x5), (11, .int x4), (10, .int x2), (0, .ref (B + v0)), (1, .ref (B + v1)), (2, .int v2), (3, .int v3), (4, .int v4), (5, .int v5), (6, .int v6), (7, .int v7), (8, .int v8)]) hx hb dX11_changes_101 hl (k := 11) rfl (by rw [ex5]; rfl) (by decide) rfl (fun ls hl => ?_)
        refine lv_goto (tgt := 3) hx hb dX11_changes_104 (by decide) ?_
        exact ih _ _ _ _ _ _ _ _ _ _ _ h0 h1 h _ _ _ hP hS (lv_sub hl [3, 4, 5, 6, 7, 8, 9, 10, 11, 0] rfl)
      · have h := h.2 c2
        refine lv_goto (tgt := 101) hx hb dX11_changes_22 (by decide) ?_
        obtain ⟨x6, ex6⟩ : ∃ y : Int32, y = v9 + (1 : Int32) := ⟨_, rfl⟩
        have h := h x6 ex6
        refine lv_iinc (v := x6) (lv' := [(9, .int x6), (0, .ref (B + v0)), (1, .ref (B + v1)), (2, .int v2), (3, .int v3), (4, .int v4), (5, .int v5), (6, .int v6), (7, .int v7), (8, .int v8)]) hx hb dX11_changes_101 hl (k := 9) rfl (by rw [ex6]; rfl) (by decide) rfl (fun ls hl => ?_)
        refine lv_goto (tgt := 3) hx hb dX11_changes_104 (by decide) ?_
        exact ih _ _ _ _ _ _ _ _ _ _ _ h0 h1 h _ _ _ hP hS (lv_sub hl [1, 2, 3, 4, 5, 6, 7, 8, 9, 0] rfl)
set_option maxRecDepth 100000 in
set_option maxHeartbeats 4000000 in
theorem mX11_changes (l : Launch) (D : va_G) (cy : Nat → ClassId) (B : Nat) (ln : Nat) (hln : ln < 10000) (v0 : Nat) (v1 : Nat) (v2 : Int32) (v3 : Int32) (v4 : Int32) (v5 : Int32) (v6 : Int32) (v7 : Int32) (v8 : Int32) (σ : St) (h0 : kM[v0]? = some 11) (h1 : kM[v1]? = some (10000 + ln)) {post : St → Prop} (h : wX11_changes ln v0 v1 v2 v3 v4 v5 v6 v7 v8 σ post) : Met l yX11_changes (Cond.code yX11_changes cX11_changes 12 none :: WALL) (rmD 1) (PcW D cy B kM σ [.ref (B + v0), .ref (B + v1), .int v2, .int v3, .int v4, .int v5, .int v6, .int v7, .int v8]) (va_Qv post (BW D cy B kM) (AW B 26)) 0 0 (AW B 26) := by
  refine Met.ofK (cc := cX11_changes) (maxL := 12) (ret := none) (by decide +kernel) rfl kM_len ?_
  intro p e s m below meth c X hP
  obtain ⟨⟨hx, hb, hml, hown, hts⟩, hr, hlk, hK, hN, hZ⟩ := id X
  have hD : ∀ σ, va_D (AW B 26) (wW cy B kM σ) := AW_D kM_len
  have hS : va_S (AW B 26) s.heap s.heap [] := va_S.rf
  have hl := lv_entry ([.ref (B + v0), .ref (B + v1), .int v2, .int v3, .int v4, .int v5, .int v6, .int v7, .int v8]) (n := 12) (Nat.le_of_ble_eq_true rfl)
  rw [lg_entry_eq]
  generalize (lg_sl ([.ref (B + v0), .ref (B + v1), .int v2, .int v3, .int v4, .int v5, .int v6, .int v7, .int v8]) ++ List.replicate (12 - (lg_sl ([.ref (B + v0), .ref (B + v1), .int v2, .int v3, .int v4, .int v5, .int v6, .int v7, .int v8])).length) Slot.unset).toArray = ls at hl ⊢
  have hl : lv_has ls 12 [(0, .ref (B + v0)), (1, .ref (B + v1)), (2, .int v2), (3, .int v3), (4, .int v4), (5, .int v5), (6, .int v6), (7, .int v7), (8, .int v8)] := hl
  unfold wX11_changes at h
  refine lv_iconst (v := (0 : Int32)) hx hb dX11_changes_0 (by decide) ?_
  refine lv_istore (lv' := [(9, .int (0 : Int32)), (0, .ref (B + v0)), (1, .ref (B + v1)), (2, .int v2), (3, .int v3), (4, .int v4), (5, .int v5), (6, .int v6), (7, .int v7), (8, .int v8)]) hx hb dX11_changes_1 hl (by decide) rfl (fun ls hl => ?_)
  obtain ⟨j, h⟩ := h
  exact tX11_changes_3 X hln j _ _ _ _ _ _ _ _ _ _ _ h0 h1 h _ _ _ hP hS (lv_sub hl [1, 2, 3, 4, 5, 6, 7, 8, 9, 0] rfl)
