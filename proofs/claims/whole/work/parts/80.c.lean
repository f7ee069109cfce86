theorem hd_X5_legsOut : yX5_legsOut.cls ≠ "java/lang/invoke/MethodHandle" ∧ yX5_legsOut.cls ≠ "java/lang/invoke/VarHandle" ∧ (parseMethodDescriptor yX5_legsOut.desc).map (fun d => d.parameters.length) = some 2 := by decide +kernel
set_option maxRecDepth 100000 in
set_option maxHeartbeats 4000000 in
theorem tX5_legsOut_68 {p : Program} {l : Launch} {e : Env} {s : State} {m : MethodId} {av : Array Value} {below : List Frame} {meth : Method} {c : Code} {D : va_G} {cy : Nat → ClassId} {B : Nat} (X : kC p s m av meth c cX5_legsOut 4 (some .int) WALL RX5 D cy (AW B 346)) {post : Int32 → St → Prop} {R45 : Nat → Int32 → Int32 → Int32 → St → Prop} (hR45 : ∀ (v0 : Nat) (v1 : Int32) (v2 : Int32) (v3 : Int32) (σ : St), kX[v0]? = some 4 → R45 v0 v1 v2 v3 σ → ∀ (H : Heap) (locs : List Loc) (ls : Array Slot), va_P D vwCl (wW cy B kX σ) H → va_S (AW B 346) s.heap H locs → lv_has ls 4 [(0, .ref (B + v0)), (1, .int v1), (2, .int v2), (3, .int v3)] → W p l e (rmD 1) s m av below meth c H locs 0 0 (MQ below (va_Qi post (BW D cy B kX) (AW B 346)) av s 0 0 (AW B 346)) (F0 m 45 ls [])) : ∀ (v0 : Nat) (v1 : Int32) (v3 : Int32) (t0 : Int32) (t1 : Int32) (σ : St), kX[v0]? = some 4 → wX5_legsOut_68 post R45 v0 v1 v3 t0 t1 σ → ∀ (H : Heap) (locs : List Loc) (ls : Array Slot), va_P D vwCl (wW cy B kX σ) H → va_S (AW B 346) s.heap H locs → lv_has ls 4 [(0, .ref (B + v0)), (1, .int v1), (3, .int v3)] → W p l e (rmD 1) s m av below meth c H locs 0 0 (MQ below (va_Qi post (BW D cy B kX) (AW B 346)) av s 0 0 (AW B 346)) (F0 m 68 ls [.int t1, .int t0]) := by
  obtain ⟨⟨hx, hb, hml, hown, hts⟩, hr, hlk, hK, hN, hZ⟩ := id X
  have hD : ∀ σ, va_D (AW B 346) (wW cy B kX σ) := AW_D kX_len
  intro v0 v1 v3 t0 t1 σ h0 h H locs ls hP hS hl
  unfold wX5_legsOut_68 at h
  refine lv_isub hx hb dX5_legsOut_68 ?_
  refine lv_topi (fun x1 ex1 => ?_)
  have h := h x1 ex1
  refine lv_istore_n (lv' := [(2, .int x1), (0, .ref (B + v0)), (1, .int v1), (3, .int v3)]) hx hb dX5_legsOut_69 rfl hl (by decide) rfl (fun ls hl => ?_)
  obtain ⟨x2, ex2⟩ : ∃ y : Int32, y = v3 + (1 : Int32) := ⟨_, rfl⟩
  have h := h x2 ex2
  refine lv_iinc (v := x2) (lv' := [(3, .int x2), (2, .int x1), (0, .ref (B + v0)), (1, .int v1)]) hx hb dX5_legsOut_70 hl (k := 3) rfl (by rw [ex2]; rfl) (by decide) rfl (fun ls hl => ?_)
  refine lv_goto (tgt := 45) hx hb dX5_legsOut_73 (by decide) ?_
  exact hR45 _ _ _ _ _ h0 h _ _ _ hP hS (lv_sub hl [2, 3, 1, 0] rfl)
set_option maxRecDepth 100000 in
set_option maxHeartbeats 4000000 in
theorem tX5_legsOut_45 {p : Program} {l : Launch} {e : Env} {s : State} {m : MethodId} {av : Array Value} {below : List Frame} {meth : Method} {c : Code} {D : va_G} {cy : Nat → ClassId} {B : Nat} (X : kC p s m av meth c cX5_legsOut 4 (some .int) WALL RX5 D cy (AW B 346)) {post : Int32 → St → Prop} : ∀ (n : Nat) (v0 : Nat) (v1 : Int32) (v2 : Int32) (v3 : Int32) (σ : St), kX[v0]? = some 4 → wX5_legsOut_45 post n v0 v1 v2 v3 σ → ∀ (H : Heap) (locs : List Loc) (ls : Array Slot), va_P D vwCl (wW cy B kX σ) H → va_S (AW B 346) s.heap H locs → lv_has ls 4 [(0, .ref (B + v0)), (1, .int v1), (2, .int v2), (3, .int v3)] → W p l e (rmD 1) s m av below meth c H locs 0 0 (MQ below (va_Qi post (BW D cy B kX) (AW B 346)) av s 0 0 (AW B 346)) (F0 m 45 ls []) := by
  obtain ⟨⟨hx, hb, hml, hown, hts⟩, hr, hlk, hK, hN, hZ⟩ := id X
  have hD : ∀ σ, va_D (AW B 346) (wW cy B kX σ) := AW_D kX_len
  intro n
  induction n with
  | zero => intro v0 v1 v2 v3 σ h0 h; exact absurd h id
  | succ n ih =>
    intro v0 v1 v2 v3 σ h0 h H locs ls hP hS hl
    rw [wX5_legsOut_45] at h
    refine lv_iload_n hx hb dX5_legsOut_45 rfl (lv_at hl 3 rfl) ?_
    refine lv_aload_n hx hb dX5_legsOut_46 rfl (lv_at hl 0 rfl) ?_
    refine rk_get X hP (C := RX4) (T := TX4) (N := 4) (ci := 4) wix_4 h0 rfl rfl 1 (by decide) (wi_6 _ (List.mem_of_getElem? (i := 6) rfl)) rfl rfl dX5_legsOut_47 ?_
    refine lv_icmp_ge (tgt := 76) hx hb dX5_legsOut_50 (by decide) (fun c1 => ?_) (fun c1 => ?_)
    · have h := h.1 c1
      refine lv_iload_n hx hb dX5_legsOut_76 rfl (lv_at hl 2 rfl) ?_
      exact rk_iret X rfl kX_len h hP hS dX5_legsOut_77
    · have h := h.2 c1
      refine lv_iload_n hx hb dX5_legsOut_53 rfl (lv_at hl 2 rfl) ?_
      refine lv_aload_n hx hb dX5_legsOut_54 rfl (lv_at hl 0 rfl) ?_
      refine lv_iload_n hx hb dX5_legsOut_55 rfl (lv_at hl 3 rfl) ?_
      refine lv_iload_n hx hb dX5_legsOut_56 rfl (lv_at hl 1 rfl) ?_
      refine rk_callz (va_runV (As := [.int v3, .int v1]) (rest := [.int v2]) X.1 (mX4_isBetween l D cy B v0 v3 v1 σ h0 h) (cwV 2 hts (gW_V (wi_6 _ (List.mem_of_getElem? (i := 7) rfl)) (wi_6 _ (List.mem_of_getElem? (i := 8) rfl)) (wi_6 _ (List.mem_of_getElem? (i := 9) rfl)) (wi_0 _ (List.mem_of_getElem? (i := 23) rfl)) (wi_5 _ (List.mem_of_getElem? (i := 19) rfl))) rfl rfl rfl hd_X4_isBetween ⟨Nat.le_of_ble_eq_true rfl, Nat.le_of_ble_eq_true rfl⟩) (rk_preV X hS hP h0 rfl rfl [.int v3, .int v1]) rfl rfl hl.1 rfl (lv_room (Nat.le_of_ble_eq_true rfl)) dX5_legsOut_57 ⟨Nat.zero_le _, Nat.zero_le _⟩) hS (fun _ h => h) (fun r1 s1 H locs h hP hS => ?_)
      refine lv_if_eq (tgt := 67) hx hb dX5_legsOut_60 (by decide) (fun c2 => ?_) (fun c2 => ?_)
      · have h := h.1 (b2i_f c2)
        refine lv_iconst (v := (0 : Int32)) hx hb dX5_legsOut_67 (by decide) ?_
        exact tX5_legsOut_68 X ih _ _ _ _ _ _ h0 h _ _ _ hP hS (lv_sub hl [0, 1, 3] rfl)
      · have h := h.2 (b2i_t c2)
        refine lv_iconst (v := (2 : Int32)) hx hb dX5_legsOut_63 (by decide) ?_
        refine lv_goto (tgt := 68) hx hb dX5_legsOut_64 (by decide) ?_
        exact tX5_legsOut_68 X ih _ _ _ _ _ _ h0 h _ _ _ hP hS (lv_sub hl [0, 1, 3] rfl)
set_option maxRecDepth 100000 in
set_option maxHeartbeats 4000000 in
theorem tX5_legsOut_35 {p : Program} {l : Launch} {e : Env} {s : State} {m : MethodId} {av : Array Value} {below : List Frame} {meth : Method} {c : Code} {D : va_G} {cy : Nat → ClassId} {B : Nat} (X : kC p s m av meth c cX5_legsOut 4 (some .int) WALL RX5 D cy (AW B 346)) {post : Int32 → St → Prop} {R4 : Nat → Int32 → Int32 → Int32 → St → Prop} (hR4 : ∀ (v0 : Nat) (v1 : Int32) (v2 : Int32) (v3 : Int32) (σ : St), kX[v0]? = some 4 → R4 v0 v1 v2 v3 σ → ∀ (H : Heap) (locs : List Loc) (ls : Array Slot), va_P D vwCl (wW cy B kX σ) H → va_S (AW B 346) s.heap H locs → lv_has ls 4 [(0, .ref (B + v0)), (1, .int v1), (2, .int v2), (3, .int v3)] → W p l e (rmD 1) s m av below meth c H locs 0 0 (MQ below (va_Qi post (BW D cy B kX) (AW B 346)) av s 0 0 (AW B 346)) (F0 m 4 ls [])) : ∀ (v0 : Nat) (v1 : Int32) (v3 : Int32) (t0 : Int32) (t1 : Int32) (σ : St), kX[v0]? = some 4 → wX5_legsOut_35 post R4 v0 v1 v3 t0 t1 σ → ∀ (H : Heap) (locs : List Loc) (ls : Array Slot), va_P D vwCl (wW cy B kX σ) H → va_S (AW B 346) s.heap H locs → lv_has ls 4 [(0, .ref (B + v0)), (1, .int v1), (3, .int v3)] → W p l e (rmD 1) s m av below meth c H locs 0 0 (MQ below (va_Qi post (BW D cy B kX) (AW B 346)) av s 0 0 (AW B 346)) (F0 m 35 ls [.int t1, .int t0]) := by
  obtain ⟨⟨hx, hb, hml, hown, hts⟩, hr, hlk, hK, hN, hZ⟩ := id X
  have hD : ∀ σ, va_D (AW B 346) (wW cy B kX σ) := AW_D kX_len
  intro v0 v1 v3 t0 t1 σ h0 h H locs ls hP hS hl
  unfold wX5_legsOut_35 at h
  refine lv_iadd hx hb dX5_legsOut_35 ?_
  refine lv_topi (fun x1 ex1 => ?_)
  have h := h x1 ex1
  refine lv_istore_n (lv' := [(2, .int x1), (0, .ref (B + v0)), (1, .int v1), (3, .int v3)]) hx hb dX5_legsOut_36 rfl hl (by decide) rfl (fun ls hl => ?_)
  obtain ⟨x2, ex2⟩ : ∃ y : Int32, y = v3 + (1 : Int32) := ⟨_, rfl⟩
  have h := h x2 ex2
  refine lv_iinc (v := x2) (lv' := [(3, .int x2), (2, .int x1), (0, .ref (B + v0)), (1, .int v1)]) hx hb dX5_legsOut_37 hl (k := 3) rfl (by rw [ex2]; rfl) (by decide) rfl (fun ls hl => ?_)
  refine lv_goto (tgt := 4) hx hb dX5_legsOut_40 (by decide) ?_
  exact hR4 _ _ _ _ _ h0 h _ _ _ hP hS (lv_sub hl [2, 3, 1, 0] rfl)
set_option maxRecDepth 100000 in
set_option maxHeartbeats 4000000 in
theorem tX5_legsOut_4 {p : Program} {l : Launch} {e : Env} {s : State} {m : MethodId} {av : Array Value} {below : List Frame} {meth : Method} {c : Code} {D : va_G} {cy : Nat → ClassId} {B : Nat} (X : kC p s m av meth c cX5_legsOut 4 (some .int) WALL RX5 D cy (AW B 346)) {post : Int32 → St → Prop} : ∀ (n : Nat) (v0 : Nat) (v1 : Int32) (v2 : Int32) (v3 : Int32) (σ : St), kX[v0]? = some 4 → wX5_legsOut_4 post n v0 v1 v2 v3 σ → ∀ (H : Heap) (locs : List Loc) (ls : Array Slot), va_P D vwCl (wW cy B kX σ) H → va_S (AW B 346) s.heap H locs → lv_has ls 4 [(0, .ref (B + v0)), (1, .int v1), (2, .int v2), (3, .int v3)] → W p l e (rmD 1) s m av below meth c H locs 0 0 (MQ below (va_Qi post (BW D cy B kX) (AW B 346)) av s 0 0 (AW B 346)) (F0 m 4 ls []) := by
  obtain ⟨⟨hx, hb, hml, hown, hts⟩, hr, hlk, hK, hN, hZ⟩ := id X
  have hD : ∀ σ, va_D (AW B 346) (wW cy B kX σ) := AW_D kX_len
  intro n
  induction n with
  | zero => intro v0 v1 v2 v3 σ h0 h; exact absurd h id
  | succ n ih =>
    intro v0 v1 v2 v3 σ h0 h H locs ls hP hS hl
    rw [wX5_legsOut_4] at h
    refine lv_iload_n hx hb dX5_legsOut_4 rfl (lv_at hl 3 rfl) ?_
    refine lv_aload_n hx hb dX5_legsOut_5 rfl (lv_at hl 0 rfl) ?_
    refine rk_get X hP (C := RX4) (T := TX4) (N := 4) (ci := 4) wix_4 h0 rfl rfl 0 (by decide) (wi_6 _ (List.mem_of_getElem? (i := 3) rfl)) rfl rfl dX5_legsOut_6 ?_
    refine lv_icmp_ge (tgt := 43) hx hb dX5_legsOut_9 (by decide) (fun c1 => ?_) (fun c1 => ?_)
    · have h := h.1 c1
      refine lv_iconst (v := (0 : Int32)) hx hb dX5_legsOut_43 (by decide) ?_
      refine lv_istore_n (lv' := [(3, .int (0 : Int32)), (0, .ref (B + v0)), (1, .int v1), (2, .int v2)]) hx hb dX5_legsOut_44 rfl hl (by decide) rfl (fun ls hl => ?_)
      obtain ⟨j, h⟩ := h
      exact tX5_legsOut_45 X j _ _ _ _ _ h0 h _ _ _ hP hS (lv_sub hl [1, 2, 3, 0] rfl)
    · have h := h.2 c1
      refine lv_iload_n hx hb dX5_legsOut_12 rfl (lv_at hl 2 rfl) ?_
      refine lv_iload_n hx hb dX5_legsOut_13 rfl (lv_at hl 1 rfl) ?_
      refine lv_iload_n hx hb dX5_legsOut_14 rfl (lv_at hl 3 rfl) ?_
      refine lv_ishr hx hb dX5_legsOut_15 ?_
      refine lv_iconst (v := (1 : Int32)) hx hb dX5_legsOut_16 (by decide) ?_
      refine lv_iand hx hb dX5_legsOut_17 ?_
      refine lv_iconst (v := (1 : Int32)) hx hb dX5_legsOut_18 (by decide) ?_
      refine lv_icmp_ne (tgt := 34) hx hb dX5_legsOut_19 (by decide) (fun c2 => ?_) (fun c2 => ?_)
      · have h := h.1 c2
        refine lv_iconst (v := (0 : Int32)) hx hb dX5_legsOut_34 (by decide) ?_
        exact tX5_legsOut_35 X ih _ _ _ _ _ _ h0 h _ _ _ hP hS (lv_sub hl [0, 1, 3] rfl)
      · have h := h.2 c2
        refine lv_aload_n hx hb dX5_legsOut_22 rfl (lv_at hl 0 rfl) ?_
        refine rk_get X hP (C := RX4) (T := TX4) (N := 4) (ci := 4) wix_4 h0 rfl rfl 2 (by decide) (wi_6 _ (List.mem_of_getElem? (i := 4) rfl)) rfl rfl dX5_legsOut_23 ?_
        refine lv_iload_n hx hb dX5_legsOut_26 rfl (lv_at hl 3 rfl) ?_
        obtain ⟨b1, h⟩ := h
        refine rk_aald X hP (C := RX7) (n := 6) (t0 := 6) (d := 2) (r := 2) (klX_X4_2 h0) (fun _ _ => rfl) rfl b1 dX5_legsOut_27 ?_
        refine rk_get X hP (C := RX7) (T := TX7) (N := 2) (ci := 7) wix_7 (klX_14 (klX_X4_2 h0) (vp_lt b1)) rfl rfl 0 (by decide) (wi_6 _ (List.mem_of_getElem? (i := 5) rfl)) rfl rfl dX5_legsOut_28 ?_
        refine lv_goto (tgt := 35) hx hb dX5_legsOut_31 (by decide) ?_
        exact tX5_legsOut_35 X ih _ _ _ _ _ _ h0 h _ _ _ hP hS (lv_sub hl [0, 1, 3] rfl)
set_option maxRecDepth 100000 in
set_option maxHeartbeats 4000000 in
theorem mX5_legsOut (l : Launch) (D : va_G) (cy : Nat → ClassId) (B : Nat) (v0 : Nat) (v1 : Int32) (σ : St) (h0 : kX[v0]? = some 4) {post : Int32 → St → Prop} (h : wX5_legsOut v0 v1 σ post) : Met l yX5_legsOut (Cond.code yX5_legsOut cX5_legsOut 4 (some .int) :: WALL) (rmD 1) (PcW D cy B kX σ [.ref (B + v0), .int v1]) (va_Qi post (BW D cy B kX) (AW B 346)) 0 0 (AW B 346) := by
  refine Met.ofK (cc := cX5_legsOut) (maxL := 4) (ret := (some .int)) (by decide +kernel) rfl kX_len ?_
  intro p e s m below meth c X hP
  obtain ⟨⟨hx, hb, hml, hown, hts⟩, hr, hlk, hK, hN, hZ⟩ := id X
  have hD : ∀ σ, va_D (AW B 346) (wW cy B kX σ) := AW_D kX_len
  have hS : va_S (AW B 346) s.heap s.heap [] := va_S.rf
  have hl := lv_entry ([.ref (B + v0), .int v1]) (n := 4) (Nat.le_of_ble_eq_true rfl)
  rw [lg_entry_eq]
  generalize (lg_sl ([.ref (B + v0), .int v1]) ++ List.replicate (4 - (lg_sl ([.ref (B + v0), .int v1])).length) Slot.unset).toArray = ls at hl ⊢
  have hl : lv_has ls 4 [(0, .ref (B + v0)), (1, .int v1)] := hl
  unfold wX5_legsOut at h
  refine lv_iconst (v := (0 : Int32)) hx hb dX5_legsOut_0 (by decide) ?_
  refine lv_istore_n (lv' := [(2, .int (0 : Int32)), (0, .ref (B + v0)), (1, .int v1)]) hx hb dX5_legsOut_1 rfl hl (by decide) rfl (fun ls hl => ?_)
  refine lv_iconst (v := (0 : Int32)) hx hb dX5_legsOut_2 (by decide) ?_
  refine lv_istore_n (lv' := [(3, .int (0 : Int32)), (2, .int (0 : Int32)), (0, .ref (B + v0)), (1, .int v1)]) hx hb dX5_legsOut_3 rfl hl (by decide) rfl (fun ls hl => ?_)
  obtain ⟨j, h⟩ := h
  exact tX5_legsOut_4 X j _ _ _ _ _ h0 h _ _ _ hP hS (lv_sub hl [2, 3, 1, 0] rfl)

theorem hd_X5_leastBehind : yX5_leastBehind.cls = RX5 ∧ yX5_leastBehind.cls ≠ "java/lang/invoke/MethodHandle" ∧ yX5_leastBehind.cls ≠ "java/lang/invoke/VarHandle" ∧ (parseMethodDescriptor yX5_leastBehind.desc).map (fun d => d.parameters.length) = some 2 := by decide +kernel
set_option maxRecDepth 100000 in
set_option maxHeartbeats 4000000 in
theorem tX5_leastBehind_16 {p : Program} {l : Launch} {e : Env} {s : State} {m : MethodId} {av : Array Value} {below : List Frame} {meth : Method} {c : Code} {D : va_G} {cy : Nat → ClassId} {B : Nat} (X : kC p s m av meth c cX5_leastBehind 5 (some .int) WALL RX5 D cy (AW B 346)) {post : Int32 → St → Prop} : ∀ (n : Nat) (v0 : Nat) (v1 : Nat) (v2 : Int32) (v3 : Int32) (v4 : Int32) (σ : St), kX[v0]? = some 5 → kX[v1]? = some 4 → wX5_leastBehind_16 post n v0 v1 v2 v3 v4 σ → ∀ (H : Heap) (locs : List Loc) (ls : Array Slot), va_P D vwCl (wW cy B kX σ) H → va_S (AW B 346) s.heap H locs → lv_has ls 5 [(0, .ref (B + v0)), (1, .ref (B + v1)), (2, .int v2), (3, .int v3), (4, .int v4)] → W p l e (rmD 1) s m av below meth c H locs 0 0 (MQ below (va_Qi post (BW D cy B kX) (AW B 346)) av s 0 0 (AW B 346)) (F0 m 16 ls []) := by
  obtain ⟨⟨hx, hb, hml, hown, hts⟩, hr, hlk, hK, hN, hZ⟩ := id X
  have hD : ∀ σ, va_D (AW B 346) (wW cy B kX σ) := AW_D kX_len
  intro n
  induction n with
  | zero => intro v0 v1 v2 v3 v4 σ h0 h1 h; exact absurd h id
  | succ n ih =>
    intro v0 v1 v2 v3 v4 σ h0 h1 h H locs ls hP hS hl
    rw [wX5_leastBehind_16] at h
    refine lv_iload hx hb dX5_leastBehind_16 (lv_at hl 4 rfl) ?_
    refine lv_aload_n hx hb dX5_leastBehind_18 rfl (lv_at hl 1 rfl) ?_
    refine rk_get X hP (C := RX4) (T := TX4) (N := 4) (ci := 4) wix_4 h1 rfl rfl 0 (by decide) (wi_6 _ (List.mem_of_getElem? (i := 3) rfl)) rfl rfl dX5_leastBehind_19 ?_
    refine lv_icmp_ge (tgt := 56) hx hb dX5_leastBehind_22 (by decide) (fun c1 => ?_) (fun c1 => ?_)
    · have h := h.1 c1
      refine lv_iload_n hx hb dX5_leastBehind_56 rfl (lv_at hl 3 rfl) ?_
      exact rk_iret X rfl kX_len h hP hS dX5_leastBehind_57
    · have h := h.2 c1
      refine lv_iload_n hx hb dX5_leastBehind_25 rfl (lv_at hl 2 rfl) ?_
      refine lv_iload hx hb dX5_leastBehind_26 (lv_at hl 4 rfl) ?_
      refine lv_ishr hx hb dX5_leastBehind_28 ?_
      refine lv_iconst (v := (1 : Int32)) hx hb dX5_leastBehind_29 (by decide) ?_
      refine lv_iand hx hb dX5_leastBehind_30 ?_
      refine lv_if_ne (tgt := 50) hx hb dX5_leastBehind_31 (by decide) (fun c2 => ?_) (fun c2 => ?_)
      · have h := h.1 c2
        obtain ⟨x1, ex1⟩ : ∃ y : Int32, y = v4 + (1 : Int32) := ⟨_, rfl⟩
        have h := h x1 ex1
        refine lv_iinc (v := x1) (lv' := [(4, .int x1), (0, .ref (B + v0)), (1, .ref (B + v1)), (2, .int v2), (3, .int v3)]) hx hb dX5_leastBehind_50 hl (k := 4) rfl (by rw [ex1]; rfl) (by decide) rfl (fun ls hl => ?_)
        refine lv_goto (tgt := 16) hx hb dX5_leastBehind_53 (by decide) ?_
        exact ih _ _ _ _ _ _ h0 h1 h _ _ _ hP hS (lv_sub hl [1, 2, 3, 4, 0] rfl)
      · have h := h.2 c2
        refine lv_iload_n hx hb dX5_leastBehind_34 rfl (lv_at hl 3 rfl) ?_
        refine lv_aload_n hx hb dX5_leastBehind_35 rfl (lv_at hl 0 rfl) ?_
        refine rk_get X hP (C := RX5) (T := TX5) (N := 1) (ci := 5) wix_5 h0 rfl rfl 0 (by decide) (wi_6 _ (List.mem_of_getElem? (i := 1) rfl)) rfl rfl dX5_leastBehind_36 ?_
        refine lv_iload_n hx hb dX5_leastBehind_39 rfl (lv_at hl 2 rfl) ?_
        refine lv_iconst (v := (1 : Int32)) hx hb dX5_leastBehind_40 (by decide) ?_
        refine lv_iload hx hb dX5_leastBehind_41 (lv_at hl 4 rfl) ?_
        refine lv_ishl hx hb dX5_leastBehind_43 ?_
        refine lv_ior hx hb dX5_leastBehind_44 ?_
        refine lv_topi (fun x2 ex2 => ?_)
        have h := h x2 ex2
        obtain ⟨b1, h⟩ := h
        refine rk_iald X hP (n := 64) (klX_X5_0 h0) (fun _ _ => rfl) b1 dX5_leastBehind_45 ?_
        refine va_mmin hx hb (hml.trans hl.1.symm) hown (hts _ (wi_6 _ (List.mem_of_getElem? (i := 11) rfl))) (hts _ (wi_6 _ (List.mem_of_getElem? (i := 12) rfl))) (hts _ (wi_6 _ (List.mem_of_getElem? (i := 13) rfl))) (hts _ (wi_6 _ (List.mem_of_getElem? (i := 14) rfl))) (Nat.le_of_ble_eq_true rfl) (Nat.le_of_ble_eq_true rfl) (Nat.zero_le _) (Nat.zero_le _) dX5_leastBehind_46 ?_
        refine lv_topi (fun x3 ex3 => ?_)
        have h := h x3 ex3
        refine lv_istore_n (lv' := [(3, .int x3), (0, .ref (B + v0)), (1, .ref (B + v1)), (2, .int v2), (4, .int v4)]) hx hb dX5_leastBehind_49 rfl hl (by decide) rfl (fun ls hl => ?_)
        obtain ⟨x4, ex4⟩ : ∃ y : Int32, y = v4 + (1 : Int32) := ⟨_, rfl⟩
        have h := h x4 ex4
        refine lv_iinc (v := x4) (lv' := [(4, .int x4), (3, .int x3), (0, .ref (B + v0)), (1, .ref (B + v1)), (2, .int v2)]) hx hb dX5_leastBehind_50 hl (k := 4) rfl (by rw [ex4]; rfl) (by decide) rfl (fun ls hl => ?_)
        refine lv_goto (tgt := 16) hx hb dX5_leastBehind_53 (by decide) ?_
        exact ih _ _ _ _ _ _ h0 h1 h _ _ _ hP hS (lv_sub hl [2, 3, 4, 1, 0] rfl)
set_option maxRecDepth 100000 in
set_option maxHeartbeats 4000000 in
theorem mX5_leastBehind (l : Launch) (D : va_G) (cy : Nat → ClassId) (B : Nat) (v0 : Nat) (v1 : Nat) (v2 : Int32) (σ : St) (h0 : kX[v0]? = some 5) (h1 : kX[v1]? = some 4) {post : Int32 → St → Prop} (h : wX5_leastBehind v0 v1 v2 σ post) : Met l yX5_leastBehind (Cond.code yX5_leastBehind cX5_leastBehind 5 (some .int) :: WALL) (rmD 1) (PcW D cy B kX σ [.ref (B + v0), .ref (B + v1), .int v2]) (va_Qi post (BW D cy B kX) (AW B 346)) 0 0 (AW B 346) := by
  refine Met.ofK (cc := cX5_leastBehind) (maxL := 5) (ret := (some .int)) (by decide +kernel) rfl kX_len ?_
  intro p e s m below meth c X hP
  obtain ⟨⟨hx, hb, hml, hown, hts⟩, hr, hlk, hK, hN, hZ⟩ := id X
  have hD : ∀ σ, va_D (AW B 346) (wW cy B kX σ) := AW_D kX_len
  have hS : va_S (AW B 346) s.heap s.heap [] := va_S.rf
  have hl := lv_entry ([.ref (B + v0), .ref (B + v1), .int v2]) (n := 5) (Nat.le_of_ble_eq_true rfl)
  rw [lg_entry_eq]
  generalize (lg_sl ([.ref (B + v0), .ref (B + v1), .int v2]) ++ List.replicate (5 - (lg_sl ([.ref (B + v0), .ref (B + v1), .int v2])).length) Slot.unset).toArray = ls at hl ⊢
  have hl : lv_has ls 5 [(0, .ref (B + v0)), (1, .ref (B + v1)), (2, .int v2)] := hl
  unfold wX5_leastBehind at h
  refine lv_iload_n hx hb dX5_leastBehind_0 rfl (lv_at hl 2 rfl) ?_
  refine lv_aload_n hx hb dX5_leastBehind_1 rfl (lv_at hl 1 rfl) ?_
  refine rk_calli (va_runV (As := []) (rest := [.int v2]) X.1 (mX4_allNodes l D cy B v1 σ h1 h) (cwV 0 hts (gW_V (wi_6 _ (List.mem_of_getElem? (i := 15) rfl)) (wi_6 _ (List.mem_of_getElem? (i := 16) rfl)) (wi_6 _ (List.mem_of_getElem? (i := 17) rfl)) (wi_0 _ (List.mem_of_getElem? (i := 23) rfl)) (wi_5 _ (List.mem_of_getElem? (i := 6) rfl))) rfl rfl rfl hd_X4_allNodes ⟨Nat.le_of_ble_eq_true rfl, Nat.le_of_ble_eq_true rfl⟩) (rk_preV X hS hP h1 rfl rfl []) rfl rfl hl.1 rfl (lv_room (Nat.le_of_ble_eq_true rfl)) dX5_leastBehind_2 ⟨Nat.zero_le _, Nat.zero_le _⟩) hS (fun _ h => h) (fun r1 s1 H locs h hP hS => ?_)
  refine lv_icmp_ne (tgt := 10) hx hb dX5_leastBehind_5 (by decide) (fun c1 => ?_) (fun c1 => ?_)
  · have h := h.1 c1
    refine lv_bipush (v := (24 : Int32)) hx hb dX5_leastBehind_10 (by decide) ?_
    refine lv_istore_n (lv' := [(3, .int (24 : Int32)), (0, .ref (B + v0)), (1, .ref (B + v1)), (2, .int v2)]) hx hb dX5_leastBehind_12 rfl hl (by decide) rfl (fun ls hl => ?_)
    refine lv_iconst (v := (0 : Int32)) hx hb dX5_leastBehind_13 (by decide) ?_
    refine lv_istore (lv' := [(4, .int (0 : Int32)), (3, .int (24 : Int32)), (0, .ref (B + v0)), (1, .ref (B + v1)), (2, .int v2)]) hx hb dX5_leastBehind_14 hl (by decide) rfl (fun ls hl => ?_)
    obtain ⟨j, h⟩ := h
    exact tX5_leastBehind_16 X j _ _ _ _ _ _ h0 h1 h _ _ _ hP hS (lv_sub hl [2, 3, 4, 1, 0] rfl)
  · have h := h.2 c1
    refine lv_iconst (v := (0 : Int32)) hx hb dX5_leastBehind_8 (by decide) ?_
    exact rk_iret X rfl kX_len h hP hS dX5_leastBehind_9

theorem hd_X5_weigh : yX5_weigh.cls = RX5 ∧ yX5_weigh.cls ≠ "java/lang/invoke/MethodHandle" ∧ yX5_weigh.cls ≠ "java/lang/invoke/VarHandle" ∧ (parseMethodDescriptor yX5_weigh.desc).map (fun d => d.parameters.length) = some 1 := by decide +kernel
set_option maxRecDepth 100000 in
set_option maxHeartbeats 4000000 in
theorem tX5_weigh_5 {p : Program} {l : Launch} {e : Env} {s : State} {m : MethodId} {av : Array Value} {below : List Frame} {meth : Method} {c : Code} {D : va_G} {cy : Nat → ClassId} {B : Nat} (X : kC p s m av meth c cX5_weigh 3 none WALL RX5 D cy (AW B 346)) {post : St → Prop} : ∀ (n : Nat) (v0 : Nat) (v1 : Nat) (v2 : Int32) (σ : St), kX[v0]? = some 5 → kX[v1]? = some 4 → wX5_weigh_5 post n v0 v1 v2 σ → ∀ (H : Heap) (locs : List Loc) (ls : Array Slot), va_P D vwCl (wW cy B kX σ) H → va_S (AW B 346) s.heap H locs → lv_has ls 3 [(0, .ref (B + v0)), (1, .ref (B + v1)), (2, .int v2)] → W p l e (rmD 2) s m av below meth c H locs 0 0 (MQ below (va_Qv post (BW D cy B kX) (AW B 346)) av s 0 0 (AW B 346)) (F0 m 5 ls []) := by
  obtain ⟨⟨hx, hb, hml, hown, hts⟩, hr, hlk, hK, hN, hZ⟩ := id X
  have hD : ∀ σ, va_D (AW B 346) (wW cy B kX σ) := AW_D kX_len
  intro n
  induction n with
  | zero => intro v0 v1 v2 σ h0 h1 h; exact absurd h id
  | succ n ih =>
    intro v0 v1 v2 σ h0 h1 h H locs ls hP hS hl
    rw [wX5_weigh_5] at h
    refine lv_iload_n hx hb dX5_weigh_5 rfl (lv_at hl 2 rfl) ?_
    refine lv_if_lt (tgt := 35) hx hb dX5_weigh_6 (by decide) (fun c1 => ?_) (fun c1 => ?_)
    · have h := h.1 c1
      exact rk_vret X kX_len h hP hS dX5_weigh_35
    · have h := h.2 c1
      refine lv_aload_n hx hb dX5_weigh_9 rfl (lv_at hl 0 rfl) ?_
      refine rk_get X hP (C := RX5) (T := TX5) (N := 1) (ci := 5) wix_5 h0 rfl rfl 0 (by decide) (wi_6 _ (List.mem_of_getElem? (i := 1) rfl)) rfl rfl dX5_weigh_10 ?_
      refine lv_iload_n hx hb dX5_weigh_13 rfl (lv_at hl 2 rfl) ?_
      refine lv_aload_n hx hb dX5_weigh_14 rfl (lv_at hl 1 rfl) ?_
      refine lv_iload_n hx hb dX5_weigh_15 rfl (lv_at hl 2 rfl) ?_
      refine rk_calli (va_runS (As := [.ref (B + v1), .int v2]) (rest := [.int v2, .ref (B + (v0 + 1))]) X.1 (mX5_legsOut l D cy B v1 v2 σ h1 h) (va_cwS 2 hts (gW_S (wi_6 _ (List.mem_of_getElem? (i := 21) rfl)) (wi_6 _ (List.mem_of_getElem? (i := 22) rfl)) (wi_6 _ (List.mem_of_getElem? (i := 23) rfl)) (wi_6 _ (List.mem_of_getElem? (i := 2) rfl))) rfl rfl rfl hd_X5_legsOut ⟨Nat.le_of_ble_eq_true rfl, Nat.le_of_ble_eq_true rfl⟩) (rk_preS X hS hP [.ref (B + v1), .int v2]) rfl rfl hl.1 rfl (lv_room (Nat.le_of_ble_eq_true rfl)) dX5_weigh_16 ⟨Nat.zero_le _, Nat.zero_le _⟩) hS (fun _ h => h) (fun r1 s1 H locs h hP hS => ?_)
      refine lv_aload_n hx hb dX5_weigh_19 rfl (lv_at hl 0 rfl) ?_
      refine lv_aload_n hx hb dX5_weigh_20 rfl (lv_at hl 1 rfl) ?_
      refine lv_iload_n hx hb dX5_weigh_21 rfl (lv_at hl 2 rfl) ?_
      refine rk_calli (va_runV (As := [.ref (B + v1), .int v2]) (rest := [.int r1, .int v2, .ref (B + (v0 + 1))]) X.1 (mX5_leastBehind l D cy B v0 v1 v2 s1 h0 h1 h) (cwV 2 hts (gW_V (wi_7 _ (List.mem_of_getElem? (i := 0) rfl)) (wi_7 _ (List.mem_of_getElem? (i := 1) rfl)) (wi_7 _ (List.mem_of_getElem? (i := 2) rfl)) (wi_6 _ (List.mem_of_getElem? (i := 23) rfl)) (wi_6 _ (List.mem_of_getElem? (i := 10) rfl))) rfl rfl rfl hd_X5_leastBehind ⟨Nat.le_of_ble_eq_true rfl, Nat.le_of_ble_eq_true rfl⟩) (rk_preV X hS hP h0 rfl rfl [.ref (B + v1), .int v2]) rfl rfl hl.1 rfl (lv_room (Nat.le_of_ble_eq_true rfl)) dX5_weigh_22 ⟨Nat.zero_le _, Nat.zero_le _⟩) hS (fun _ h => h) (fun r2 s2 H locs h hP hS => ?_)
      refine va_mmax hx hb (hml.trans hl.1.symm) hown (hts _ (wi_6 _ (List.mem_of_getElem? (i := 18) rfl))) (hts _ (wi_6 _ (List.mem_of_getElem? (i := 19) rfl))) (hts _ (wi_6 _ (List.mem_of_getElem? (i := 13) rfl))) (hts _ (wi_6 _ (List.mem_of_getElem? (i := 20) rfl))) (Nat.le_of_ble_eq_true rfl) (Nat.le_of_ble_eq_true rfl) (Nat.zero_le _) (Nat.zero_le _) dX5_weigh_25 ?_
      obtain ⟨b1, h⟩ := h
      refine rk_iast X hP hD hS (n := 64) (klX_X5_0 h0) (fun _ _ => rfl) b1 dX5_weigh_28 (fun H locs hP hS => ?_)
      obtain ⟨s3, es3⟩ : ∃ z : St, z = u1 s2 (v0 + 1) v2.toNatClampNeg (if r1 < r2 then r2 else r1) := ⟨_, rfl⟩
      rw [← es3] at hP
      have h := h s3 es3
      obtain ⟨x1, ex1⟩ : ∃ y : Int32, y = v2 + (-1 : Int32) := ⟨_, rfl⟩
      have h := h x1 ex1
      refine lv_iinc (v := x1) (lv' := [(2, .int x1), (0, .ref (B + v0)), (1, .ref (B + v1))]) hx hb dX5_weigh_29 hl (k := 2) rfl (by rw [ex1]; rfl) (by decide) rfl (fun ls hl => ?_)
      refine lv_goto (tgt := 5) hx hb dX5_weigh_32 (by decide) ?_
      exact ih _ _ _ _ h0 h1 h _ _ _ hP hS (lv_sub hl [1, 2, 0] rfl)
set_option maxRecDepth 100000 in
set_option maxHeartbeats 4000000 in
theorem mX5_weigh (l : Launch) (D : va_G) (cy : Nat → ClassId) (B : Nat) (v0 : Nat) (v1 : Nat) (σ : St) (h0 : kX[v0]? = some 5) (h1 : kX[v1]? = some 4) {post : St → Prop} (h : wX5_weigh v0 v1 σ post) : Met l yX5_weigh (Cond.code yX5_weigh cX5_weigh 3 none :: WALL) (rmD 2) (PcW D cy B kX σ [.ref (B + v0), .ref (B + v1)]) (va_Qv post (BW D cy B kX) (AW B 346)) 0 0 (AW B 346) := by
  refine Met.ofK (cc := cX5_weigh) (maxL := 3) (ret := none) (by decide +kernel) rfl kX_len ?_
  intro p e s m below meth c X hP
  obtain ⟨⟨hx, hb, hml, hown, hts⟩, hr, hlk, hK, hN, hZ⟩ := id X
  have hD : ∀ σ, va_D (AW B 346) (wW cy B kX σ) := AW_D kX_len
  have hS : va_S (AW B 346) s.heap s.heap [] := va_S.rf
  have hl := lv_entry ([.ref (B + v0), .ref (B + v1)]) (n := 3) (Nat.le_of_ble_eq_true rfl)
  rw [lg_entry_eq]
  generalize (lg_sl ([.ref (B + v0), .ref (B + v1)]) ++ List.replicate (3 - (lg_sl ([.ref (B + v0), .ref (B + v1)])).length) Slot.unset).toArray = ls at hl ⊢
  have hl : lv_has ls 3 [(0, .ref (B + v0)), (1, .ref (B + v1))] := hl
  unfold wX5_weigh at h
  refine lv_aload_n hx hb dX5_weigh_0 rfl (lv_at hl 1 rfl) ?_
  refine rk_calli (va_runV (As := []) (rest := []) X.1 (mX4_allNodes l D cy B v1 σ h1 h) (cwV 0 hts (gW_V (wi_6 _ (List.mem_of_getElem? (i := 15) rfl)) (wi_6 _ (List.mem_of_getElem? (i := 16) rfl)) (wi_6 _ (List.mem_of_getElem? (i := 17) rfl)) (wi_0 _ (List.mem_of_getElem? (i := 23) rfl)) (wi_5 _ (List.mem_of_getElem? (i := 6) rfl))) rfl rfl rfl hd_X4_allNodes ⟨Nat.le_of_ble_eq_true rfl, Nat.le_of_ble_eq_true rfl⟩) (rk_preV X hS hP h1 rfl rfl []) rfl rfl hl.1 rfl (lv_room (Nat.le_of_ble_eq_true rfl)) dX5_weigh_1 ⟨Nat.zero_le _, Nat.zero_le _⟩) hS (fun _ h => h) (fun r1 s1 H locs h hP hS => ?_)
  refine lv_istore_n (lv' := [(2, .int r1), (0, .ref (B + v0)), (1, .ref (B + v1))]) hx hb dX5_weigh_4 rfl hl (by decide) rfl (fun ls hl => ?_)
  obtain ⟨j, h⟩ := h
  exact tX5_weigh_5 X j _ _ _ _ h0 h1 h _ _ _ hP hS (lv_sub hl [1, 2, 0] rfl)

theorem hd_X5_leastWidth : yX5_leastWidth.cls = RX5 ∧ yX5_leastWidth.cls ≠ "java/lang/invoke/MethodHandle" ∧ yX5_leastWidth.cls ≠ "java/lang/invoke/VarHandle" ∧ (parseMethodDescriptor yX5_leastWidth.desc).map (fun d => d.parameters.length) = some 0 := by decide +kernel
set_option maxRecDepth 100000 in
set_option maxHeartbeats 4000000 in
theorem mX5_leastWidth (l : Launch) (D : va_G) (cy : Nat → ClassId) (B : Nat) (v0 : Nat) (σ : St) (h0 : kX[v0]? = some 5) {post : Int32 → St → Prop} (h : wX5_leastWidth v0 σ post) : Met l yX5_leastWidth (Cond.code yX5_leastWidth cX5_leastWidth 1 (some .int) :: WALL) (rmD 0) (PcW D cy B kX σ [.ref (B + v0)]) (va_Qi post (BW D cy B kX) (AW B 346)) 0 0 (AW B 346) := by
  refine Met.ofK (cc := cX5_leastWidth) (maxL := 1) (ret := (some .int)) (by decide +kernel) rfl kX_len ?_
  intro p e s m below meth c X hP
  obtain ⟨⟨hx, hb, hml, hown, hts⟩, hr, hlk, hK, hN, hZ⟩ := id X
  have hD : ∀ σ, va_D (AW B 346) (wW cy B kX σ) := AW_D kX_len
  have hS : va_S (AW B 346) s.heap s.heap [] := va_S.rf
  have hl := lv_entry ([.ref (B + v0)]) (n := 1) (Nat.le_of_ble_eq_true rfl)
  rw [lg_entry_eq]
  generalize (lg_sl ([.ref (B + v0)]) ++ List.replicate (1 - (lg_sl ([.ref (B + v0)])).length) Slot.unset).toArray = ls at hl ⊢
  have hl : lv_has ls 1 [(0, .ref (B + v0))] := hl
  unfold wX5_leastWidth at h
  refine lv_aload_n hx hb dX5_leastWidth_0 rfl (lv_at hl 0 rfl) ?_
  refine rk_get X hP (C := RX5) (T := TX5) (N := 1) (ci := 5) wix_5 h0 rfl rfl 0 (by decide) (wi_6 _ (List.mem_of_getElem? (i := 1) rfl)) rfl rfl dX5_leastWidth_1 ?_
  refine lv_iconst (v := (0 : Int32)) hx hb dX5_leastWidth_4 (by decide) ?_
  have b1 : vp_in (0 : Int32) 64 := by unfold vp_in; decide
  refine rk_iald X hP (n := 64) (klX_X5_0 h0) (fun _ _ => rfl) b1 dX5_leastWidth_5 ?_
  exact rk_iret X rfl kX_len h hP hS dX5_leastWidth_6

theorem hd_X5_lowestGoodNode : yX5_lowestGoodNode.cls = RX5 ∧ yX5_lowestGoodNode.cls ≠ "java/lang/invoke/MethodHandle" ∧ yX5_lowestGoodNode.cls ≠ "java/lang/invoke/VarHandle" ∧ (parseMethodDescriptor yX5_lowestGoodNode.desc).map (fun d => d.parameters.length) = some 2 := by decide +kernel
set_option maxRecDepth 100000 in
set_option maxHeartbeats 4000000 in
theorem tX5_lowestGoodNode_2 {p : Program} {l : Launch} {e : Env} {s : State} {m : MethodId} {av : Array Value} {below : List Frame} {meth : Method} {c : Code} {D : va_G} {cy : Nat → ClassId} {B : Nat} (X : kC p s m av meth c cX5_lowestGoodNode 4 (some .int) WALL RX5 D cy (AW B 346)) {post : Int32 → St → Prop} : ∀ (n : Nat) (v0 : Nat) (v1 : Nat) (v2 : Int32) (v3 : Int32) (σ : St), kX[v0]? = some 5 → kX[v1]? = some 4 → wX5_lowestGoodNode_2 post n v0 v1 v2 v3 σ → ∀ (H : Heap) (locs : List Loc) (ls : Array Slot), va_P D vwCl (wW cy B kX σ) H → va_S (AW B 346) s.heap H locs → lv_has ls 4 [(0, .ref (B + v0)), (1, .ref (B + v1)), (2, .int v2), (3, .int v3)] → W p l e (rmD 0) s m av below meth c H locs 0 0 (MQ below (va_Qi post (BW D cy B kX) (AW B 346)) av s 0 0 (AW B 346)) (F0 m 2 ls []) := by
  obtain ⟨⟨hx, hb, hml, hown, hts⟩, hr, hlk, hK, hN, hZ⟩ := id X
  have hD : ∀ σ, va_D (AW B 346) (wW cy B kX σ) := AW_D kX_len
  intro n
  induction n with
  | zero => intro v0 v1 v2 v3 σ h0 h1 h; exact absurd h id
  | succ n ih =>
    intro v0 v1 v2 v3 σ h0 h1 h H locs ls hP hS hl
    rw [wX5_lowestGoodNode_2] at h
    refine lv_iload_n hx hb dX5_lowestGoodNode_2 rfl (lv_at hl 3 rfl) ?_
    refine lv_aload_n hx hb dX5_lowestGoodNode_3 rfl (lv_at hl 1 rfl) ?_
    refine rk_get X hP (C := RX4) (T := TX4) (N := 4) (ci := 4) wix_4 h1 rfl rfl 0 (by decide) (wi_6 _ (List.mem_of_getElem? (i := 3) rfl)) rfl rfl dX5_lowestGoodNode_4 ?_
    refine lv_icmp_ge (tgt := 45) hx hb dX5_lowestGoodNode_7 (by decide) (fun c1 => ?_) (fun c1 => ?_)
    · have h := h.1 c1
      refine lv_iconst (v := (-1 : Int32)) hx hb dX5_lowestGoodNode_45 (by decide) ?_
      exact rk_iret X rfl kX_len h hP hS dX5_lowestGoodNode_46
    · have h := h.2 c1
      refine lv_iload_n hx hb dX5_lowestGoodNode_10 rfl (lv_at hl 2 rfl) ?_
      refine lv_iload_n hx hb dX5_lowestGoodNode_11 rfl (lv_at hl 3 rfl) ?_
      refine lv_ishr hx hb dX5_lowestGoodNode_12 ?_
      refine lv_iconst (v := (1 : Int32)) hx hb dX5_lowestGoodNode_13 (by decide) ?_
      refine lv_iand hx hb dX5_lowestGoodNode_14 ?_
      refine lv_if_ne (tgt := 39) hx hb dX5_lowestGoodNode_15 (by decide) (fun c2 => ?_) (fun c2 => ?_)
      · have h := h.1 c2
        obtain ⟨x1, ex1⟩ : ∃ y : Int32, y = v3 + (1 : Int32) := ⟨_, rfl⟩
        have h := h x1 ex1
        refine lv_iinc (v := x1) (lv' := [(3, .int x1), (0, .ref (B + v0)), (1, .ref (B + v1)), (2, .int v2)]) hx hb dX5_lowestGoodNode_39 hl (k := 3) rfl (by rw [ex1]; rfl) (by decide) rfl (fun ls hl => ?_)
        refine lv_goto (tgt := 2) hx hb dX5_lowestGoodNode_42 (by decide) ?_
        exact ih _ _ _ _ _ h0 h1 h _ _ _ hP hS (lv_sub hl [1, 2, 3, 0] rfl)
      · have h := h.2 c2
        refine lv_aload_n hx hb dX5_lowestGoodNode_18 rfl (lv_at hl 0 rfl) ?_
        refine rk_get X hP (C := RX5) (T := TX5) (N := 1) (ci := 5) wix_5 h0 rfl rfl 0 (by decide) (wi_6 _ (List.mem_of_getElem? (i := 1) rfl)) rfl rfl dX5_lowestGoodNode_19 ?_
        refine lv_iload_n hx hb dX5_lowestGoodNode_22 rfl (lv_at hl 2 rfl) ?_
        refine lv_iconst (v := (1 : Int32)) hx hb dX5_lowestGoodNode_23 (by decide) ?_
        refine lv_iload_n hx hb dX5_lowestGoodNode_24 rfl (lv_at hl 3 rfl) ?_
        refine lv_ishl hx hb dX5_lowestGoodNode_25 ?_
        refine lv_ior hx hb dX5_lowestGoodNode_26 ?_
        refine lv_topi (fun x2 ex2 => ?_)
        have h := h x2 ex2
        obtain ⟨b1, h⟩ := h
        refine rk_iald X hP (n := 64) (klX_X5_0 h0) (fun _ _ => rfl) b1 dX5_lowestGoodNode_27 ?_
        refine lv_aload_n hx hb dX5_lowestGoodNode_28 rfl (lv_at hl 0 rfl) ?_
        refine rk_get X hP (C := RX5) (T := TX5) (N := 1) (ci := 5) wix_5 h0 rfl rfl 0 (by decide) (wi_6 _ (List.mem_of_getElem? (i := 1) rfl)) rfl rfl dX5_lowestGoodNode_29 ?_
        refine lv_iconst (v := (0 : Int32)) hx hb dX5_lowestGoodNode_32 (by decide) ?_
        have b2 : vp_in (0 : Int32) 64 := by unfold vp_in; decide
        refine rk_iald X hP (n := 64) (klX_X5_0 h0) (fun _ _ => rfl) b2 dX5_lowestGoodNode_33 ?_
        refine lv_icmp_gt (tgt := 39) hx hb dX5_lowestGoodNode_34 (by decide) (fun c3 => ?_) (fun c3 => ?_)
        · have h := h.1 c3
          obtain ⟨x3, ex3⟩ : ∃ y : Int32, y = v3 + (1 : Int32) := ⟨_, rfl⟩
          have h := h x3 ex3
          refine lv_iinc (v := x3) (lv' := [(3, .int x3), (0, .ref (B + v0)), (1, .ref (B + v1)), (2, .int v2)]) hx hb dX5_lowestGoodNode_39 hl (k := 3) rfl (by rw [ex3]; rfl) (by decide) rfl (fun ls hl => ?_)
          refine lv_goto (tgt := 2) hx hb dX5_lowestGoodNode_42 (by decide) ?_
          exact ih _ _ _ _ _ h0 h1 h _ _ _ hP hS (lv_sub hl [1, 2, 3, 0] rfl)
        · have h := h.2 c3
          refine lv_iload_n hx hb dX5_lowestGoodNode_37 rfl (lv_at hl 3 rfl) ?_
          exact rk_iret X rfl kX_len h hP hS dX5_lowestGoodNode_38
set_option maxRecDepth 100000 in
set_option maxHeartbeats 4000000 in
theorem mX5_lowestGoodNode (l : Launch) (D : va_G) (cy : Nat → ClassId) (B : Nat) (v0 : Nat) (v1 : Nat) (v2 : Int32) (σ : St) (h0 : kX[v0]? = some 5) (h1 : kX[v1]? = some 4) {post : Int32 → St → Prop} (h : wX5_lowestGoodNode v0 v1 v2 σ post) : Met l yX5_lowestGoodNode (Cond.code yX5_lowestGoodNode cX5_lowestGoodNode 4 (some .int) :: WALL) (rmD 0) (PcW D cy B kX σ [.ref (B + v0), .ref (B + v1), .int v2]) (va_Qi post (BW D cy B kX) (AW B 346)) 0 0 (AW B 346) := by
  refine Met.ofK (cc := cX5_lowestGoodNode) (maxL := 4) (ret := (some .int)) (by decide +kernel) rfl kX_len ?_
  intro p e s m below meth c X hP
  obtain ⟨⟨hx, hb, hml, hown, hts⟩, hr, hlk, hK, hN, hZ⟩ := id X
  have hD : ∀ σ, va_D (AW B 346) (wW cy B kX σ) := AW_D kX_len
  have hS : va_S (AW B 346) s.heap s.heap [] := va_S.rf
  have hl := lv_entry ([.ref (B + v0), .ref (B + v1), .int v2]) (n := 4) (Nat.le_of_ble_eq_true rfl)
  rw [lg_entry_eq]
  generalize (lg_sl ([.ref (B + v0), .ref (B + v1), .int v2]) ++ List.replicate (4 - (lg_sl ([.ref (B + v0), .ref (B + v1), .int v2])).length) Slot.unset).toArray = ls at hl ⊢
  have hl : lv_has ls 4 [(0, .ref (B + v0)), (1, .ref (B + v1)), (2, .int v2)] := hl
  unfold wX5_lowestGoodNode at h
  refine lv_iconst (v := (0 : Int32)) hx hb dX5_lowestGoodNode_0 (by decide) ?_
  refine lv_istore_n (lv' := [(3, .int (0 : Int32)), (0, .ref (B + v0)), (1, .ref (B + v1)), (2, .int v2)]) hx hb dX5_lowestGoodNode_1 rfl hl (by decide) rfl (fun ls hl => ?_)
  obtain ⟨j, h⟩ := h
  exact tX5_lowestGoodNode_2 X j _ _ _ _ _ h0 h1 h _ _ _ hP hS (lv_sub hl [1, 2, 3, 0] rfl)

theorem hd_X5_bestNode : yX5_bestNode.cls = RX5 ∧ yX5_bestNode.cls ≠ "java/lang/invoke/MethodHandle" ∧ yX5_bestNode.cls ≠ "java/lang/invoke/VarHandle" ∧ (parseMethodDescriptor yX5_bestNode.desc).map (fun d => d.parameters.length) = some 2 := by decide +kernel
set_option maxRecDepth 100000 in
set_option maxHeartbeats 4000000 in
theorem tX5_bestNode_46 {p : Program} {l : Launch} {e : Env} {s : State} {m : MethodId} {av : Array Value} {below : List Frame} {meth : Method} {c : Code} {D : va_G} {cy : Nat → ClassId} {B : Nat} (X : kC p s m av meth c cX5_bestNode 6 (some .int) WALL RX5 D cy (AW B 346)) {post : Int32 → St → Prop} {R8 : Nat → Nat → Int32 → Int32 → Int32 → Int32 → St → Prop} (hR8 : ∀ (v0 : Nat) (v1 : Nat) (v2 : Int32) (v3 : Int32) (v4 : Int32) (v5 : Int32) (σ : St), kX[v0]? = some 5 → kX[v1]? = some 4 → R8 v0 v1 v2 v3 v4 v5 σ → ∀ (H : Heap) (locs : List Loc) (ls : Array Slot), va_P D vwCl (wW cy B kX σ) H → va_S (AW B 346) s.heap H locs → lv_has ls 6 [(0, .ref (B + v0)), (1, .ref (B + v1)), (2, .int v2), (3, .int v3), (4, .int v4), (5, .int v5)] → W p l e (rmD 1) s m av below meth c H locs 0 0 (MQ below (va_Qi post (BW D cy B kX) (AW B 346)) av s 0 0 (AW B 346)) (F0 m 8 ls [])) : ∀ (v0 : Nat) (v1 : Nat) (v2 : Int32) (v4 : Int32) (v5 : Int32) (t0 : Int32) (t1 : Int32) (σ : St), kX[v0]? = some 5 → kX[v1]? = some 4 → wX5_bestNode_46 post R8 v0 v1 v2 v4 v5 t0 t1 σ → ∀ (H : Heap) (locs : List Loc) (ls : Array Slot), va_P D vwCl (wW cy B kX σ) H → va_S (AW B 346) s.heap H locs → lv_has ls 6 [(0, .ref (B + v0)), (1, .ref (B + v1)), (2, .int v2), (4, .int v4), (5, .int v5)] → W p l e (rmD 1) s m av below meth c H locs 0 0 (MQ below (va_Qi post (BW D cy B kX) (AW B 346)) av s 0 0 (AW B 346)) (F0 m 46 ls [.int t1, .int t0]) := by
  obtain ⟨⟨hx, hb, hml, hown, hts⟩, hr, hlk, hK, hN, hZ⟩ := id X
  have hD : ∀ σ, va_D (AW B 346) (wW cy B kX σ) := AW_D kX_len
  intro v0 v1 v2 v4 v5 t0 t1 σ h0 h1 h H locs ls hP hS hl
  unfold wX5_bestNode_46 at h
  refine lv_ior hx hb dX5_bestNode_46 ?_
  refine lv_topi (fun x1 ex1 => ?_)
  have h := h x1 ex1
  refine lv_istore_n (lv' := [(3, .int x1), (0, .ref (B + v0)), (1, .ref (B + v1)), (2, .int v2), (4, .int v4), (5, .int v5)]) hx hb dX5_bestNode_47 rfl hl (by decide) rfl (fun ls hl => ?_)
  obtain ⟨x2, ex2⟩ : ∃ y : Int32, y = v5 + (1 : Int32) := ⟨_, rfl⟩
  have h := h x2 ex2
  refine lv_iinc (v := x2) (lv' := [(5, .int x2), (3, .int x1), (0, .ref (B + v0)), (1, .ref (B + v1)), (2, .int v2), (4, .int v4)]) hx hb dX5_bestNode_48 hl (k := 5) rfl (by rw [ex2]; rfl) (by decide) rfl (fun ls hl => ?_)
  refine lv_goto (tgt := 8) hx hb dX5_bestNode_51 (by decide) ?_
  exact hR8 _ _ _ _ _ _ _ h0 h1 h _ _ _ hP hS (lv_sub hl [2, 3, 4, 1, 5, 0] rfl)
set_option maxRecDepth 100000 in
set_option maxHeartbeats 4000000 in
theorem tX5_bestNode_8 {p : Program} {l : Launch} {e : Env} {s : State} {m : MethodId} {av : Array Value} {below : List Frame} {meth : Method} {c : Code} {D : va_G} {cy : Nat → ClassId} {B : Nat} (X : kC p s m av meth c cX5_bestNode 6 (some .int) WALL RX5 D cy (AW B 346)) {post : Int32 → St → Prop} : ∀ (n : Nat) (v0 : Nat) (v1 : Nat) (v2 : Int32) (v3 : Int32) (v4 : Int32) (v5 : Int32) (σ : St), kX[v0]? = some 5 → kX[v1]? = some 4 → wX5_bestNode_8 post n v0 v1 v2 v3 v4 v5 σ → ∀ (H : Heap) (locs : List Loc) (ls : Array Slot), va_P D vwCl (wW cy B kX σ) H → va_S (AW B 346) s.heap H locs → lv_has ls 6 [(0, .ref (B + v0)), (1, .ref (B + v1)), (2, .int v2), (3, .int v3), (4, .int v4), (5, .int v5)] → W p l e (rmD 1) s m av below meth c H locs 0 0 (MQ below (va_Qi post (BW D cy B kX) (AW B 346)) av s 0 0 (AW B 346)) (F0 m 8 ls []) := by
  obtain ⟨⟨hx, hb, hml, hown, hts⟩, hr, hlk, hK, hN, hZ⟩ := id X
  have hD : ∀ σ, va_D (AW B 346) (wW cy B kX σ) := AW_D kX_len
  intro n
  induction n with
  | zero => intro v0 v1 v2 v3 v4 v5 σ h0 h1 h; exact absurd h id
  | succ n ih =>
    intro v0 v1 v2 v3 v4 v5 σ h0 h1 h H locs ls hP hS hl
    rw [wX5_bestNode_8] at h
    refine lv_iload hx hb dX5_bestNode_8 (lv_at hl 5 rfl) ?_
    refine lv_iload_n hx hb dX5_bestNode_10 rfl (lv_at hl 2 rfl) ?_
    refine lv_icmp_gt (tgt := 54) hx hb dX5_bestNode_11 (by decide) (fun c1 => ?_) (fun c1 => ?_)
    · have h := h.1 c1
      refine lv_iload hx hb dX5_bestNode_54 (lv_at hl 4 rfl) ?_
      exact rk_iret X rfl kX_len h hP hS dX5_bestNode_56
    · have h := h.2 c1
      refine lv_iload hx hb dX5_bestNode_14 (lv_at hl 5 rfl) ?_
      refine lv_aload_n hx hb dX5_bestNode_16 rfl (lv_at hl 1 rfl) ?_
      refine rk_get X hP (C := RX4) (T := TX4) (N := 4) (ci := 4) wix_4 h1 rfl rfl 0 (by decide) (wi_6 _ (List.mem_of_getElem? (i := 3) rfl)) rfl rfl dX5_bestNode_17 ?_
      refine lv_icmp_ge (tgt := 54) hx hb dX5_bestNode_20 (by decide) (fun c2 => ?_) (fun c2 => ?_)
      · have h := h.1 c2
        refine lv_iload hx hb dX5_bestNode_54 (lv_at hl 4 rfl) ?_
        exact rk_iret X rfl kX_len h hP hS dX5_bestNode_56
      · have h := h.2 c2
        refine lv_aload_n hx hb dX5_bestNode_23 rfl (lv_at hl 0 rfl) ?_
        refine lv_aload_n hx hb dX5_bestNode_24 rfl (lv_at hl 1 rfl) ?_
        refine lv_iload_n hx hb dX5_bestNode_25 rfl (lv_at hl 3 rfl) ?_
        refine rk_calli (va_runV (As := [.ref (B + v1), .int v3]) (rest := []) X.1 (mX5_lowestGoodNode l D cy B v0 v1 v3 σ h0 h1 h) (cwV 2 hts (gW_V (wi_7 _ (List.mem_of_getElem? (i := 7) rfl)) (wi_7 _ (List.mem_of_getElem? (i := 8) rfl)) (wi_7 _ (List.mem_of_getElem? (i := 9) rfl)) (wi_6 _ (List.mem_of_getElem? (i := 23) rfl)) (wi_7 _ (List.mem_of_getElem? (i := 5) rfl))) rfl rfl rfl hd_X5_lowestGoodNode ⟨Nat.le_of_ble_eq_true rfl, Nat.le_of_ble_eq_true rfl⟩) (rk_preV X hS hP h0 rfl rfl [.ref (B + v1), .int v3]) rfl rfl hl.1 rfl (lv_room (Nat.le_of_ble_eq_true rfl)) dX5_bestNode_26 ⟨Nat.zero_le _, Nat.zero_le _⟩) hS (fun _ h => h) (fun r1 s1 H locs h hP hS => ?_)
        refine lv_istore (lv' := [(4, .int r1), (0, .ref (B + v0)), (1, .ref (B + v1)), (2, .int v2), (3, .int v3), (5, .int v5)]) hx hb dX5_bestNode_29 hl (by decide) rfl (fun ls hl => ?_)
        refine lv_iload_n hx hb dX5_bestNode_31 rfl (lv_at hl 4 rfl) ?_
        refine lv_iload hx hb dX5_bestNode_32 (lv_at hl 0 rfl) ?_
        refine lv_iconst (v := (-1 : Int32)) hx hb dX5_bestNode_34 (by decide) ?_
        refine lv_icmp_ne (tgt := 42) hx hb dX5_bestNode_35 (by decide) (fun c3 => ?_) (fun c3 => ?_)
        · have h := h.1 c3
          refine lv_iconst (v := (1 : Int32)) hx hb dX5_bestNode_42 (by decide) ?_
          refine lv_iload hx hb dX5_bestNode_43 (lv_at hl 0 rfl) ?_
          refine lv_ishl hx hb dX5_bestNode_45 ?_
          exact tX5_bestNode_46 X ih _ _ _ _ _ _ _ _ h0 h1 h _ _ _ hP hS (lv_sub hl [1, 2, 3, 0, 5] rfl)
        · have h := h.2 c3
          refine lv_iconst (v := (0 : Int32)) hx hb dX5_bestNode_38 (by decide) ?_
          refine lv_goto (tgt := 46) hx hb dX5_bestNode_39 (by decide) ?_
          exact tX5_bestNode_46 X ih _ _ _ _ _ _ _ _ h0 h1 h _ _ _ hP hS (lv_sub hl [1, 2, 3, 0, 5] rfl)
set_option maxRecDepth 100000 in
set_option maxHeartbeats 4000000 in
theorem mX5_bestNode (l : Launch) (D : va_G) (cy : Nat → ClassId) (B : Nat) (v0 : Nat) (v1 : Nat) (v2 : Int32) (σ : St) (h0 : kX[v0]? = some 5) (h1 : kX[v1]? = some 4) {post : Int32 → St → Prop} (h : wX5_bestNode v0 v1 v2 σ post) : Met l yX5_bestNode (Cond.code yX5_bestNode cX5_bestNode 6 (some .int) :: WALL) (rmD 1) (PcW D cy B kX σ [.ref (B + v0), .ref (B + v1), .int v2]) (va_Qi post (BW D cy B kX) (AW B 346)) 0 0 (AW B 346) := by
  refine Met.ofK (cc := cX5_bestNode) (maxL := 6) (ret := (some .int)) (by decide +kernel) rfl kX_len ?_
  intro p e s m below meth c X hP
  obtain ⟨⟨hx, hb, hml, hown, hts⟩, hr, hlk, hK, hN, hZ⟩ := id X
  have hD : ∀ σ, va_D (AW B 346) (wW cy B kX σ) := AW_D kX_len
  have hS : va_S (AW B 346) s.heap s.heap [] := va_S.rf
  have hl := lv_entry ([.ref (B + v0), .ref (B + v1), .int v2]) (n := 6) (Nat.le_of_ble_eq_true rfl)
  rw [lg_entry_eq]
  generalize (lg_sl ([.ref (B + v0), .ref (B + v1), .int v2]) ++ List.replicate (6 - (lg_sl ([.ref (B + v0), .ref (B + v1), .int v2])).length) Slot.unset).toArray = ls at hl ⊢
  have hl : lv_has ls 6 [(0, .ref (B + v0)), (1, .ref (B + v1)), (2, .int v2)] := hl
  unfold wX5_bestNode at h
  refine lv_iconst (v := (0 : Int32)) hx hb dX5_bestNode_0 (by decide) ?_
  refine lv_istore_n (lv' := [(3, .int (0 : Int32)), (0, .ref (B + v0)), (1, .ref (B + v1)), (2, .int v2)]) hx hb dX5_bestNode_1 rfl hl (by decide) rfl (fun ls hl => ?_)
  refine lv_iconst (v := (-1 : Int32)) hx hb dX5_bestNode_2 (by decide) ?_
  refine lv_istore (lv' := [(4, .int (-1 : Int32)), (3, .int (0 : Int32)), (0, .ref (B + v0)), (1, .ref (B + v1)), (2, .int v2)]) hx hb dX5_bestNode_3 hl (by decide) rfl (fun ls hl => ?_)
  refine lv_iconst (v := (0 : Int32)) hx hb dX5_bestNode_5 (by decide) ?_
  refine lv_istore (lv' := [(5, .int (0 : Int32)), (4, .int (-1 : Int32)), (3, .int (0 : Int32)), (0, .ref (B + v0)), (1, .ref (B + v1)), (2, .int v2)]) hx hb dX5_bestNode_6 hl (by decide) rfl (fun ls hl => ?_)
  obtain ⟨j, h⟩ := h
  exact tX5_bestNode_8 X j _ _ _ _ _ _ _ h0 h1 h _ _ _ hP hS (lv_sub hl [3, 4, 5, 2, 1, 0] rfl)

theorem hd_X8_setOpenLegs : yX8_setOpenLegs.cls = RX8 ∧ yX8_setOpenLegs.cls ≠ "java/lang/invoke/MethodHandle" ∧ yX8_setOpenLegs.cls ≠ "java/lang/invoke/VarHandle" ∧ (parseMethodDescriptor yX8_setOpenLegs.desc).map (fun d => d.parameters.length) = some 2 := by decide +kernel
set_option maxRecDepth 100000 in
set_option maxHeartbeats 4000000 in
theorem tX8_setOpenLegs_25 {p : Program} {l : Launch} {e : Env} {s : State} {m : MethodId} {av : Array Value} {below : List Frame} {meth : Method} {c : Code} {D : va_G} {cy : Nat → ClassId} {B : Nat} (X : kC p s m av meth c cX8_setOpenLegs 6 none WALL RX8 D cy (AW B 346)) {post : St → Prop} {R5 : Nat → Nat → Int32 → Int32 → St → Prop} (hR5 : ∀ (v0 : Nat) (v1 : Nat) (v3 : Int32) (v4 : Int32) (σ : St), kX[v0]? = some 8 → kX[v1]? = some 4 → R5 v0 v1 v3 v4 σ → ∀ (H : Heap) (locs : List Loc) (ls : Array Slot), va_P D vwCl (wW cy B kX σ) H → va_S (AW B 346) s.heap H locs → lv_has ls 6 [(0, .ref (B + v0)), (1, .ref (B + v1)), (3, .int v3), (4, .int v4)] → W p l e (rmD 1) s m av below meth c H locs 0 0 (MQ below (va_Qv post (BW D cy B kX) (AW B 346)) av s 0 0 (AW B 346)) (F0 m 5 ls [])) : ∀ (n : Nat) (v0 : Nat) (v1 : Nat) (v3 : Int32) (v4 : Int32) (v5 : Int32) (σ : St), kX[v0]? = some 8 → kX[v1]? = some 4 → wX8_setOpenLegs_25 post R5 n v0 v1 v3 v4 v5 σ → ∀ (H : Heap) (locs : List Loc) (ls : Array Slot), va_P D vwCl (wW cy B kX σ) H → va_S (AW B 346) s.heap H locs → lv_has ls 6 [(0, .ref (B + v0)), (1, .ref (B + v1)), (3, .int v3), (4, .int v4), (5, .int v5)] → W p l e (rmD 1) s m av below meth c H locs 0 0 (MQ below (va_Qv post (BW D cy B kX) (AW B 346)) av s 0 0 (AW B 346)) (F0 m 25 ls []) := by
  obtain ⟨⟨hx, hb, hml, hown, hts⟩, hr, hlk, hK, hN, hZ⟩ := id X
  have hD : ∀ σ, va_D (AW B 346) (wW cy B kX σ) := AW_D kX_len
  intro n
  induction n with
  | zero => intro v0 v1 v3 v4 v5 σ h0 h1 h; exact absurd h id
  | succ n ih =>
    intro v0 v1 v3 v4 v5 σ h0 h1 h H locs ls hP hS hl
    rw [wX8_setOpenLegs_25] at h
    refine lv_iload hx hb dX8_setOpenLegs_25 (lv_at hl 4 rfl) ?_
    refine lv_aload_n hx hb dX8_setOpenLegs_27 rfl (lv_at hl 1 rfl) ?_
    refine rk_get X hP (C := RX4) (T := TX4) (N := 4) (ci := 4) wix_4 h1 rfl rfl 2 (by decide) (wi_17 _ (List.mem_of_getElem? (i := 20) rfl)) rfl rfl dX8_setOpenLegs_28 ?_
    refine lv_iload hx hb dX8_setOpenLegs_31 (lv_at hl 3 rfl) ?_
    obtain ⟨b1, h⟩ := h
    refine rk_aald X hP (C := RX7) (n := 6) (t0 := 6) (d := 2) (r := 2) (klX_X4_2 h1) (fun _ _ => rfl) rfl b1 dX8_setOpenLegs_33 ?_
    refine rk_get X hP (C := RX7) (T := TX7) (N := 2) (ci := 7) wix_7 (klX_14 (klX_X4_2 h1) (vp_lt b1)) rfl rfl 0 (by decide) (wi_17 _ (List.mem_of_getElem? (i := 21) rfl)) rfl rfl dX8_setOpenLegs_34 ?_
    refine lv_icmp_ge (tgt := 80) hx hb dX8_setOpenLegs_37 (by decide) (fun c1 => ?_) (fun c1 => ?_)
    · have h := h.1 c1
      obtain ⟨x1, ex1⟩ : ∃ y : Int32, y = v4 + (1 : Int32) := ⟨_, rfl⟩
      have h := h x1 ex1
      refine lv_iinc (v := x1) (lv' := [(4, .int x1), (0, .ref (B + v0)), (1, .ref (B + v1)), (3, .int v3), (5, .int v5)]) hx hb dX8_setOpenLegs_80 hl (k := 3) rfl (by rw [ex1]; rfl) (by decide) rfl (fun ls hl => ?_)
      refine lv_goto (tgt := 5) hx hb dX8_setOpenLegs_83 (by decide) ?_
      exact hR5 _ _ _ _ _ h0 h1 h _ _ _ hP hS (lv_sub hl [1, 2, 3, 0] rfl)
    · have h := h.2 c1
      refine lv_aload_n hx hb dX8_setOpenLegs_40 rfl (lv_at hl 1 rfl) ?_
      refine lv_iconst (v := (4 : Int32)) hx hb dX8_setOpenLegs_41 (by decide) ?_
      refine lv_iload hx hb dX8_setOpenLegs_42 (lv_at hl 3 rfl) ?_
      refine lv_imul hx hb dX8_setOpenLegs_44 ?_
      refine lv_iload hx hb dX8_setOpenLegs_45 (lv_at hl 4 rfl) ?_
      refine lv_iadd hx hb dX8_setOpenLegs_47 ?_
      refine rk_callz (va_runV (As := [.int (((4 : Int32) * v4) + v5)]) (rest := []) X.1 (mX4_hasWireAt l D cy B v1 (((4 : Int32) * v4) + v5) σ h1 h) (cwV 1 hts (gW_V (wi_17 _ (List.mem_of_getElem? (i := 22) rfl)) (wi_5 _ (List.mem_of_getElem? (i := 13) rfl)) (wi_5 _ (List.mem_of_getElem? (i := 14) rfl)) (wi_0 _ (List.mem_of_getElem? (i := 23) rfl)) (wi_5 _ (List.mem_of_getElem? (i := 5) rfl))) rfl rfl rfl hd_X4_hasWireAt ⟨Nat.le_of_ble_eq_true rfl, Nat.le_of_ble_eq_true rfl⟩) (rk_preV X hS hP h1 rfl rfl [.int (((4 : Int32) * v4) + v5)]) rfl rfl hl.1 rfl (lv_room (Nat.le_of_ble_eq_true rfl)) dX8_setOpenLegs_48 ⟨Nat.zero_le _, Nat.zero_le _⟩) hS (fun _ h => h) (fun r1 s1 H locs h hP hS => ?_)
      refine lv_if_ne (tgt := 74) hx hb dX8_setOpenLegs_51 (by decide) (fun c2 => ?_) (fun c2 => ?_)
      · have h := h.1 (b2i_t c2)
        obtain ⟨x2, ex2⟩ : ∃ y : Int32, y = v5 + (1 : Int32) := ⟨_, rfl⟩
        have h := h x2 ex2
        refine lv_iinc (v := x2) (lv' := [(5, .int x2), (0, .ref (B + v0)), (1, .ref (B + v1)), (3, .int v3), (4, .int v4)]) hx hb dX8_setOpenLegs_74 hl (k := 4) rfl (by rw [ex2]; rfl) (by decide) rfl (fun ls hl => ?_)
        refine lv_goto (tgt := 25) hx hb dX8_setOpenLegs_77 (by decide) ?_
        exact ih _ _ _ _ _ _ h0 h1 h _ _ _ hP hS (lv_sub hl [1, 2, 3, 4, 0] rfl)
      · have h := h.2 (b2i_f c2)
        refine lv_aload_n hx hb dX8_setOpenLegs_54 rfl (lv_at hl 0 rfl) ?_
        refine rk_get X hP (C := RX8) (T := TX8) (N := 6) (ci := 8) wix_8 h0 rfl rfl 2 (by decide) (wi_17 _ (List.mem_of_getElem? (i := 11) rfl)) rfl rfl dX8_setOpenLegs_55 ?_
        refine lv_iload hx hb dX8_setOpenLegs_58 (lv_at hl 3 rfl) ?_
        refine lv_dup2_11 hx hb dX8_setOpenLegs_60 rfl rfl ?_
        obtain ⟨b2, h⟩ := h
        refine rk_iald X hP (n := 6) (klX_X8_2 h0) (fun _ _ => rfl) b2 dX8_setOpenLegs_61 ?_
        refine lv_iload_n hx hb dX8_setOpenLegs_62 rfl (lv_at hl 2 rfl) ?_
        refine lv_iconst (v := (1 : Int32)) hx hb dX8_setOpenLegs_63 (by decide) ?_
        refine lv_iand hx hb dX8_setOpenLegs_64 ?_
        refine lv_iload hx hb dX8_setOpenLegs_65 (lv_at hl 4 rfl) ?_
        refine lv_ishl hx hb dX8_setOpenLegs_67 ?_
        refine lv_ior hx hb dX8_setOpenLegs_68 ?_
        obtain ⟨b3, h⟩ := h
        refine rk_iast X hP hD hS (n := 6) (klX_X8_2 h0) (fun _ _ => rfl) b3 dX8_setOpenLegs_69 (fun H locs hP hS => ?_)
        obtain ⟨s2, es2⟩ : ∃ z : St, z = u1 s1 (v0 + 1) v4.toNatClampNeg ((s1.1 (v0 + 1) v4.toNatClampNeg) ||| ((v3 &&& (1 : Int32)) <<< (v5 &&& 31))) := ⟨_, rfl⟩
        rw [← es2] at hP
        have h := h s2 es2
        refine lv_iload_n hx hb dX8_setOpenLegs_70 rfl (lv_at hl 2 rfl) ?_
        refine lv_iconst (v := (1 : Int32)) hx hb dX8_setOpenLegs_71 (by decide) ?_
        refine lv_ishr hx hb dX8_setOpenLegs_72 ?_
        refine lv_topi (fun x3 ex3 => ?_)
        have h := h x3 ex3
        refine lv_istore_n (lv' := [(3, .int x3), (0, .ref (B + v0)), (1, .ref (B + v1)), (4, .int v4), (5, .int v5)]) hx hb dX8_setOpenLegs_73 rfl hl (by decide) rfl (fun ls hl => ?_)
        obtain ⟨x4, ex4⟩ : ∃ y : Int32, y = v5 + (1 : Int32) := ⟨_, rfl⟩
        have h := h x4 ex4
        refine lv_iinc (v := x4) (lv' := [(5, .int x4), (3, .int x3), (0, .ref (B + v0)), (1, .ref (B + v1)), (4, .int v4)]) hx hb dX8_setOpenLegs_74 hl (k := 4) rfl (by rw [ex4]; rfl) (by decide) rfl (fun ls hl => ?_)
        refine lv_goto (tgt := 25) hx hb dX8_setOpenLegs_77 (by decide) ?_
        exact ih _ _ _ _ _ _ h0 h1 h _ _ _ hP hS (lv_sub hl [2, 3, 1, 4, 0] rfl)
set_option maxRecDepth 100000 in
set_option maxHeartbeats 4000000 in
theorem tX8_setOpenLegs_5 {p : Program} {l : Launch} {e : Env} {s : State} {m : MethodId} {av : Array Value} {below : List Frame} {meth : Method} {c : Code} {D : va_G} {cy : Nat → ClassId} {B : Nat} (X : kC p s m av meth c cX8_setOpenLegs 6 none WALL RX8 D cy (AW B 346)) {post : St → Prop} : ∀ (n : Nat) (v0 : Nat) (v1 : Nat) (v3 : Int32) (v4 : Int32) (σ : St), kX[v0]? = some 8 → kX[v1]? = some 4 → wX8_setOpenLegs_5 post n v0 v1 v3 v4 σ → ∀ (H : Heap) (locs : List Loc) (ls : Array Slot), va_P D vwCl (wW cy B kX σ) H → va_S (AW B 346) s.heap H locs → lv_has ls 6 [(0, .ref (B + v0)), (1, .ref (B + v1)), (3, .int v3), (4, .int v4)] → W p l e (rmD 1) s m av below meth c H locs 0 0 (MQ below (va_Qv post (BW D cy B kX) (AW B 346)) av s 0 0 (AW B 346)) (F0 m 5 ls []) := by
  obtain ⟨⟨hx, hb, hml, hown, hts⟩, hr, hlk, hK, hN, hZ⟩ := id X
  have hD : ∀ σ, va_D (AW B 346) (wW cy B kX σ) := AW_D kX_len
  intro n
  induction n with
  | zero => intro v0 v1 v3 v4 σ h0 h1 h; exact absurd h id
  | succ n ih =>
    intro v0 v1 v3 v4 σ h0 h1 h H locs ls hP hS hl
    rw [wX8_setOpenLegs_5] at h
    refine lv_iload hx hb dX8_setOpenLegs_5 (lv_at hl 3 rfl) ?_
    refine lv_aload_n hx hb dX8_setOpenLegs_7 rfl (lv_at hl 1 rfl) ?_
    refine rk_get X hP (C := RX4) (T := TX4) (N := 4) (ci := 4) wix_4 h1 rfl rfl 0 (by decide) (wi_17 _ (List.mem_of_getElem? (i := 19) rfl)) rfl rfl dX8_setOpenLegs_8 ?_
    refine lv_icmp_ge (tgt := 86) hx hb dX8_setOpenLegs_11 (by decide) (fun c1 => ?_) (fun c1 => ?_)
    · have h := h.1 c1
      exact rk_vret X kX_len h hP hS dX8_setOpenLegs_86
    · have h := h.2 c1
      refine lv_aload_n hx hb dX8_setOpenLegs_14 rfl (lv_at hl 0 rfl) ?_
      refine rk_get X hP (C := RX8) (T := TX8) (N := 6) (ci := 8) wix_8 h0 rfl rfl 2 (by decide) (wi_17 _ (List.mem_of_getElem? (i := 11) rfl)) rfl rfl dX8_setOpenLegs_15 ?_
      refine lv_iload hx hb dX8_setOpenLegs_18 (lv_at hl 3 rfl) ?_
      refine lv_iconst (v := (0 : Int32)) hx hb dX8_setOpenLegs_20 (by decide) ?_
      obtain ⟨b1, h⟩ := h
      refine rk_iast X hP hD hS (n := 6) (klX_X8_2 h0) (fun _ _ => rfl) b1 dX8_setOpenLegs_21 (fun H locs hP hS => ?_)
      obtain ⟨s1, es1⟩ : ∃ z : St, z = u1 σ (v0 + 1) v4.toNatClampNeg (0 : Int32) := ⟨_, rfl⟩
      rw [← es1] at hP
      have h := h s1 es1
      refine lv_iconst (v := (0 : Int32)) hx hb dX8_setOpenLegs_22 (by decide) ?_
      refine lv_istore (lv' := [(5, .int (0 : Int32)), (0, .ref (B + v0)), (1, .ref (B + v1)), (3, .int v3), (4, .int v4)]) hx hb dX8_setOpenLegs_23 hl (by decide) rfl (fun ls hl => ?_)
      obtain ⟨j, h⟩ := h
      exact tX8_setOpenLegs_25 X ih j _ _ _ _ _ _ h0 h1 h _ _ _ hP hS (lv_sub hl [1, 2, 3, 4, 0] rfl)
set_option maxRecDepth 100000 in
set_option maxHeartbeats 4000000 in
theorem mX8_setOpenLegs (l : Launch) (D : va_G) (cy : Nat → ClassId) (B : Nat) (v0 : Nat) (v1 : Nat) (v2 : Int32) (σ : St) (h0 : kX[v0]? = some 8) (h1 : kX[v1]? = some 4) {post : St → Prop} (h : wX8_setOpenLegs v0 v1 v2 σ post) : Met l yX8_setOpenLegs (Cond.code yX8_setOpenLegs cX8_setOpenLegs 6 none :: WALL) (rmD 1) (PcW D cy B kX σ [.ref (B + v0), .ref (B + v1), .int v2]) (va_Qv post (BW D cy B kX) (AW B 346)) 0 0 (AW B 346) := by
  refine Met.ofK (cc := cX8_setOpenLegs) (maxL := 6) (ret := none) (by decide +kernel) rfl kX_len ?_
  intro p e s m below meth c X hP
  obtain ⟨⟨hx, hb, hml, hown, hts⟩, hr, hlk, hK, hN, hZ⟩ := id X
  have hD : ∀ σ, va_D (AW B 346) (wW cy B kX σ) := AW_D kX_len
  have hS : va_S (AW B 346) s.heap s.heap [] := va_S.rf
  have hl := lv_entry ([.ref (B + v0), .ref (B + v1), .int v2]) (n := 6) (Nat.le_of_ble_eq_true rfl)
  rw [lg_entry_eq]
  generalize (lg_sl ([.ref (B + v0), .ref (B + v1), .int v2]) ++ List.replicate (6 - (lg_sl ([.ref (B + v0), .ref (B + v1), .int v2])).length) Slot.unset).toArray = ls at hl ⊢
  have hl : lv_has ls 6 [(0, .ref (B + v0)), (1, .ref (B + v1)), (2, .int v2)] := hl
  unfold wX8_setOpenLegs at h
  refine lv_iload_n hx hb dX8_setOpenLegs_0 rfl (lv_at hl 2 rfl) ?_
  refine lv_istore_n (lv' := [(3, .int v2), (0, .ref (B + v0)), (1, .ref (B + v1)), (2, .int v2)]) hx hb dX8_setOpenLegs_1 rfl hl (by decide) rfl (fun ls hl => ?_)
  refine lv_iconst (v := (0 : Int32)) hx hb dX8_setOpenLegs_2 (by decide) ?_
  refine lv_istore (lv' := [(4, .int (0 : Int32)), (3, .int v2), (0, .ref (B + v0)), (1, .ref (B + v1)), (2, .int v2)]) hx hb dX8_setOpenLegs_3 hl (by decide) rfl (fun ls hl => ?_)
  obtain ⟨j, h⟩ := h
  exact tX8_setOpenLegs_5 X j _ _ _ _ _ h0 h1 h _ _ _ hP hS (lv_sub hl [2, 3, 1, 0] rfl)

theorem hd_X8_chooseWires : yX8_chooseWires.cls = RX8 ∧ yX8_chooseWires.cls ≠ "java/lang/invoke/MethodHandle" ∧ yX8_chooseWires.cls ≠ "java/lang/invoke/VarHandle" ∧ (parseMethodDescriptor yX8_chooseWires.desc).map (fun d => d.parameters.length) = some 2 := by decide +kernel
set_option maxRecDepth 100000 in
set_option maxHeartbeats 4000000 in
theorem tX8_chooseWires_7 {p : Program} {l : Launch} {e : Env} {s : State} {m : MethodId} {av : Array Value} {below : List Frame} {meth : Method} {c : Code} {D : va_G} {cy : Nat → ClassId} {B : Nat} (X : kC p s m av meth c cX8_chooseWires 4 none WALL RX8 D cy (AW B 346)) {post : St → Prop} : ∀ (n : Nat) (v0 : Nat) (v1 : Nat) (v2 : Int32) (v3 : Int32) (σ : St), kX[v0]? = some 8 → kX[v1]? = some 4 → wX8_chooseWires_7 post n v0 v1 v2 v3 σ → ∀ (H : Heap) (locs : List Loc) (ls : Array Slot), va_P D vwCl (wW cy B kX σ) H → va_S (AW B 346) s.heap H locs → lv_has ls 4 [(0, .ref (B + v0)), (1, .ref (B + v1)), (2, .int v2), (3, .int v3)] → W p l e (rmD 1) s m av below meth c H locs 0 0 (MQ below (va_Qv post (BW D cy B kX) (AW B 346)) av s 0 0 (AW B 346)) (F0 m 7 ls []) := by
  obtain ⟨⟨hx, hb, hml, hown, hts⟩, hr, hlk, hK, hN, hZ⟩ := id X
  have hD : ∀ σ, va_D (AW B 346) (wW cy B kX σ) := AW_D kX_len
  intro n
  induction n with
  | zero => intro v0 v1 v2 v3 σ h0 h1 h; exact absurd h id
  | succ n ih =>
    intro v0 v1 v2 v3 σ h0 h1 h H locs ls hP hS hl
    rw [wX8_chooseWires_7] at h
    refine lv_iload_n hx hb dX8_chooseWires_7 rfl (lv_at hl 3 rfl) ?_
    refine lv_aload_n hx hb dX8_chooseWires_8 rfl (lv_at hl 1 rfl) ?_
    refine rk_get X hP (C := RX4) (T := TX4) (N := 4) (ci := 4) wix_4 h1 rfl rfl 1 (by decide) (wi_18 _ (List.mem_of_getElem? (i := 0) rfl)) rfl rfl dX8_chooseWires_9 ?_
    refine lv_icmp_ge (tgt := 50) hx hb dX8_chooseWires_12 (by decide) (fun c1 => ?_) (fun c1 => ?_)
    · have h := h.1 c1
      exact rk_vret X kX_len h hP hS dX8_chooseWires_50
    · have h := h.2 c1
      refine lv_aload_n hx hb dX8_chooseWires_15 rfl (lv_at hl 1 rfl) ?_
      refine lv_iload_n hx hb dX8_chooseWires_16 rfl (lv_at hl 3 rfl) ?_
      refine lv_iload_n hx hb dX8_chooseWires_17 rfl (lv_at hl 2 rfl) ?_
      refine rk_callz (va_runV (As := [.int v3, .int v2]) (rest := []) X.1 (mX4_isBetween l D cy B v1 v3 v2 σ h1 h) (cwV 2 hts (gW_V (wi_18 _ (List.mem_of_getElem? (i := 1) rfl)) (wi_6 _ (List.mem_of_getElem? (i := 8) rfl)) (wi_6 _ (List.mem_of_getElem? (i := 9) rfl)) (wi_0 _ (List.mem_of_getElem? (i := 23) rfl)) (wi_5 _ (List.mem_of_getElem? (i := 19) rfl))) rfl rfl rfl hd_X4_isBetween ⟨Nat.le_of_ble_eq_true rfl, Nat.le_of_ble_eq_true rfl⟩) (rk_preV X hS hP h1 rfl rfl [.int v3, .int v2]) rfl rfl hl.1 rfl (lv_room (Nat.le_of_ble_eq_true rfl)) dX8_chooseWires_18 ⟨Nat.zero_le _, Nat.zero_le _⟩) hS (fun _ h => h) (fun r1 s1 H locs h hP hS => ?_)
      refine lv_if_eq (tgt := 44) hx hb dX8_chooseWires_21 (by decide) (fun c2 => ?_) (fun c2 => ?_)
      · have h := h.1 (b2i_f c2)
        obtain ⟨x1, ex1⟩ : ∃ y : Int32, y = v3 + (1 : Int32) := ⟨_, rfl⟩
        have h := h x1 ex1
        refine lv_iinc (v := x1) (lv' := [(3, .int x1), (0, .ref (B + v0)), (1, .ref (B + v1)), (2, .int v2)]) hx hb dX8_chooseWires_44 hl (k := 3) rfl (by rw [ex1]; rfl) (by decide) rfl (fun ls hl => ?_)
        refine lv_goto (tgt := 7) hx hb dX8_chooseWires_47 (by decide) ?_
        exact ih _ _ _ _ _ h0 h1 h _ _ _ hP hS (lv_sub hl [1, 2, 3, 0] rfl)
      · have h := h.2 (b2i_t c2)
        refine lv_aload_n hx hb dX8_chooseWires_24 rfl (lv_at hl 0 rfl) ?_
        refine rk_get X hP (C := RX8) (T := TX8) (N := 6) (ci := 8) wix_8 h0 rfl rfl 4 (by decide) (wi_17 _ (List.mem_of_getElem? (i := 13) rfl)) rfl rfl dX8_chooseWires_25 ?_
        refine lv_aload_n hx hb dX8_chooseWires_28 rfl (lv_at hl 0 rfl) ?_
        refine rk_get X hP (C := RX8) (T := TX8) (N := 6) (ci := 8) wix_8 h0 rfl rfl 3 (by decide) (wi_17 _ (List.mem_of_getElem? (i := 12) rfl)) rfl rfl dX8_chooseWires_29 ?_
        refine lv_iload_n hx hb dX8_chooseWires_32 rfl (lv_at hl 3 rfl) ?_
        obtain ⟨b1, h⟩ := h
        refine rk_iast X hP hD hS (n := 10) (klX_X8_4 h0) (fun _ _ => rfl) b1 dX8_chooseWires_33 (fun H locs hP hS => ?_)
        obtain ⟨s2, es2⟩ : ∃ z : St, z = u1 s1 (v0 + 2) (s1.1 v0 3).toNatClampNeg v3 := ⟨_, rfl⟩
        rw [← es2] at hP
        have h := h s2 es2
        refine lv_aload_n hx hb dX8_chooseWires_34 rfl (lv_at hl 0 rfl) ?_
        refine lv_dup hx hb dX8_chooseWires_35 rfl ?_
        refine rk_get X hP (C := RX8) (T := TX8) (N := 6) (ci := 8) wix_8 h0 rfl rfl 3 (by decide) (wi_17 _ (List.mem_of_getElem? (i := 12) rfl)) rfl rfl dX8_chooseWires_36 ?_
        refine lv_iconst (v := (1 : Int32)) hx hb dX8_chooseWires_39 (by decide) ?_
        refine lv_iadd hx hb dX8_chooseWires_40 ?_
        refine rk_puti X hP hD hS (C := RX8) (T := TX8) (N := 6) (ci := 8) wix_8 h0 rfl rfl tyX8 tyX8_ok nmX8 3 (by decide) (wi_17 _ (List.mem_of_getElem? (i := 12) rfl)) rfl rfl (by decide +kernel) (Nat.le_of_ble_eq_true rfl) rfl dX8_chooseWires_41 (fun H locs hP hS => ?_)
        obtain ⟨s3, es3⟩ : ∃ z : St, z = u1 s2 v0 3 ((s2.1 v0 3) + (1 : Int32)) := ⟨_, rfl⟩
        rw [← es3] at hP
        have h := h s3 es3
        obtain ⟨x2, ex2⟩ : ∃ y : Int32, y = v3 + (1 : Int32) := ⟨_, rfl⟩
        have h := h x2 ex2
        refine lv_iinc (v := x2) (lv' := [(3, .int x2), (0, .ref (B + v0)), (1, .ref (B + v1)), (2, .int v2)]) hx hb dX8_chooseWires_44 hl (k := 3) rfl (by rw [ex2]; rfl) (by decide) rfl (fun ls hl => ?_)
        refine lv_goto (tgt := 7) hx hb dX8_chooseWires_47 (by decide) ?_
        exact ih _ _ _ _ _ h0 h1 h _ _ _ hP hS (lv_sub hl [1, 2, 3, 0] rfl)
set_option maxRecDepth 100000 in
set_option maxHeartbeats 4000000 in
theorem mX8_chooseWires (l : Launch) (D : va_G) (cy : Nat → ClassId) (B : Nat) (v0 : Nat) (v1 : Nat) (v2 : Int32) (σ : St) (h0 : kX[v0]? = some 8) (h1 : kX[v1]? = some 4) {post : St → Prop} (h : wX8_chooseWires v0 v1 v2 σ post) : Met l yX8_chooseWires (Cond.code yX8_chooseWires cX8_chooseWires 4 none :: WALL) (rmD 1) (PcW D cy B kX σ [.ref (B + v0), .ref (B + v1), .int v2]) (va_Qv post (BW D cy B kX) (AW B 346)) 0 0 (AW B 346) := by
  refine Met.ofK (cc := cX8_chooseWires) (maxL := 4) (ret := none) (by decide +kernel) rfl kX_len ?_
  intro p e s m below meth c X hP
  obtain ⟨⟨hx, hb, hml, hown, hts⟩, hr, hlk, hK, hN, hZ⟩ := id X
  have hD : ∀ σ, va_D (AW B 346) (wW cy B kX σ) := AW_D kX_len
  have hS : va_S (AW B 346) s.heap s.heap [] := va_S.rf
  have hl := lv_entry ([.ref (B + v0), .ref (B + v1), .int v2]) (n := 4) (Nat.le_of_ble_eq_true rfl)
  rw [lg_entry_eq]
  generalize (lg_sl ([.ref (B + v0), .ref (B + v1), .int v2]) ++ List.replicate (4 - (lg_sl ([.ref (B + v0), .ref (B + v1), .int v2])).length) Slot.unset).toArray = ls at hl ⊢
  have hl : lv_has ls 4 [(0, .ref (B + v0)), (1, .ref (B + v1)), (2, .int v2)] := hl
  unfold wX8_chooseWires at h
  refine lv_aload_n hx hb dX8_chooseWires_0 rfl (lv_at hl 0 rfl) ?_
  refine lv_iconst (v := (0 : Int32)) hx hb dX8_chooseWires_1 (by decide) ?_
  refine rk_puti X hP hD hS (C := RX8) (T := TX8) (N := 6) (ci := 8) wix_8 h0 rfl rfl tyX8 tyX8_ok nmX8 3 (by decide) (wi_17 _ (List.mem_of_getElem? (i := 12) rfl)) rfl rfl (by decide +kernel) (Nat.le_of_ble_eq_true rfl) rfl dX8_chooseWires_2 (fun H locs hP hS => ?_)
  obtain ⟨s1, es1⟩ : ∃ z : St, z = u1 σ v0 3 (0 : Int32) := ⟨_, rfl⟩
  rw [← es1] at hP
  have h := h s1 es1
  refine lv_iconst (v := (0 : Int32)) hx hb dX8_chooseWires_5 (by decide) ?_
  refine lv_istore_n (lv' := [(3, .int (0 : Int32)), (0, .ref (B + v0)), (1, .ref (B + v1)), (2, .int v2)]) hx hb dX8_chooseWires_6 rfl hl (by decide) rfl (fun ls hl => ?_)
  obtain ⟨j, h⟩ := h
  exact tX8_chooseWires_7 X j _ _ _ _ _ h0 h1 h _ _ _ hP hS (lv_sub hl [1, 2, 3, 0] rfl)

theorem hd_X8_turnLeg : yX8_turnLeg.cls = RX8 ∧ yX8_turnLeg.cls ≠ "java/lang/invoke/MethodHandle" ∧ yX8_turnLeg.cls ≠ "java/lang/invoke/VarHandle" ∧ (parseMethodDescriptor yX8_turnLeg.desc).map (fun d => d.parameters.length) = some 1 := by decide +kernel
set_option maxRecDepth 100000 in
set_option maxHeartbeats 4000000 in
theorem mX8_turnLeg (l : Launch) (D : va_G) (cy : Nat → ClassId) (B : Nat) (v0 : Nat) (v1 : Int32) (σ : St) (h0 : kX[v0]? = some 8) {post : St → Prop} (h : wX8_turnLeg v0 v1 σ post) : Met l yX8_turnLeg (Cond.code yX8_turnLeg cX8_turnLeg 2 none :: WALL) (rmD 0) (PcW D cy B kX σ [.ref (B + v0), .int v1]) (va_Qv post (BW D cy B kX) (AW B 346)) 0 0 (AW B 346) := by
  refine Met.ofK (cc := cX8_turnLeg) (maxL := 2) (ret := none) (by decide +kernel) rfl kX_len ?_
  intro p e s m below meth c X hP
  obtain ⟨⟨hx, hb, hml, hown, hts⟩, hr, hlk, hK, hN, hZ⟩ := id X
  have hD : ∀ σ, va_D (AW B 346) (wW cy B kX σ) := AW_D kX_len
  have hS : va_S (AW B 346) s.heap s.heap [] := va_S.rf
  have hl := lv_entry ([.ref (B + v0), .int v1]) (n := 2) (Nat.le_of_ble_eq_true rfl)
  rw [lg_entry_eq]
  generalize (lg_sl ([.ref (B + v0), .int v1]) ++ List.replicate (2 - (lg_sl ([.ref (B + v0), .int v1])).length) Slot.unset).toArray = ls at hl ⊢
  have hl : lv_has ls 2 [(0, .ref (B + v0)), (1, .int v1)] := hl
  unfold wX8_turnLeg at h
  refine lv_aload_n hx hb dX8_turnLeg_0 rfl (lv_at hl 0 rfl) ?_
  refine rk_get X hP (C := RX8) (T := TX8) (N := 6) (ci := 8) wix_8 h0 rfl rfl 2 (by decide) (wi_17 _ (List.mem_of_getElem? (i := 11) rfl)) rfl rfl dX8_turnLeg_1 ?_
  refine lv_iload_n hx hb dX8_turnLeg_4 rfl (lv_at hl 1 rfl) ?_
  refine lv_iconst (v := (4 : Int32)) hx hb dX8_turnLeg_5 (by decide) ?_
  refine lv_idiv hx hb dX8_turnLeg_6 (by decide) ?_
  refine lv_topi (fun x1 ex1 => ?_)
  have h := h x1 ex1
  refine lv_dup2_11 hx hb dX8_turnLeg_7 rfl rfl ?_
  obtain ⟨b1, h⟩ := h
  refine rk_iald X hP (n := 6) (klX_X8_2 h0) (fun _ _ => rfl) b1 dX8_turnLeg_8 ?_
  refine lv_iconst (v := (1 : Int32)) hx hb dX8_turnLeg_9 (by decide) ?_
  refine lv_iload_n hx hb dX8_turnLeg_10 rfl (lv_at hl 1 rfl) ?_
  refine lv_iconst (v := (4 : Int32)) hx hb dX8_turnLeg_11 (by decide) ?_
  refine lv_irem hx hb dX8_turnLeg_12 (by decide) ?_
  refine lv_ishl hx hb dX8_turnLeg_13 ?_
  refine lv_ixor hx hb dX8_turnLeg_14 ?_
  obtain ⟨b2, h⟩ := h
  refine rk_iast X hP hD hS (n := 6) (klX_X8_2 h0) (fun _ _ => rfl) b2 dX8_turnLeg_15 (fun H locs hP hS => ?_)
  obtain ⟨s1, es1⟩ : ∃ z : St, z = u1 σ (v0 + 1) x1.toNatClampNeg ((σ.1 (v0 + 1) x1.toNatClampNeg) ^^^ ((1 : Int32) <<< ((v1 - v1 / (4 : Int32) * (4 : Int32)) &&& 31))) := ⟨_, rfl⟩
  rw [← es1] at hP
  have h := h s1 es1
  exact rk_vret X kX_len h hP hS dX8_turnLeg_16

theorem hd_X8_turnWire : yX8_turnWire.cls = RX8 ∧ yX8_turnWire.cls ≠ "java/lang/invoke/MethodHandle" ∧ yX8_turnWire.cls ≠ "java/lang/invoke/VarHandle" ∧ (parseMethodDescriptor yX8_turnWire.desc).map (fun d => d.parameters.length) = some 2 := by decide +kernel
set_option maxRecDepth 100000 in
set_option maxHeartbeats 4000000 in
theorem mX8_turnWire (l : Launch) (D : va_G) (cy : Nat → ClassId) (B : Nat) (v0 : Nat) (v1 : Nat) (v2 : Int32) (σ : St) (h0 : kX[v0]? = some 8) (h1 : kX[v1]? = some 4) {post : St → Prop} (h : wX8_turnWire v0 v1 v2 σ post) : Met l yX8_turnWire (Cond.code yX8_turnWire cX8_turnWire 3 none :: WALL) (rmD 1) (PcW D cy B kX σ [.ref (B + v0), .ref (B + v1), .int v2]) (va_Qv post (BW D cy B kX) (AW B 346)) 0 0 (AW B 346) := by
  refine Met.ofK (cc := cX8_turnWire) (maxL := 3) (ret := none) (by decide +kernel) rfl kX_len ?_
  intro p e s m below meth c X hP
  obtain ⟨⟨hx, hb, hml, hown, hts⟩, hr, hlk, hK, hN, hZ⟩ := id X
  have hD : ∀ σ, va_D (AW B 346) (wW cy B kX σ) := AW_D kX_len
  have hS : va_S (AW B 346) s.heap s.heap [] := va_S.rf
  have hl := lv_entry ([.ref (B + v0), .ref (B + v1), .int v2]) (n := 3) (Nat.le_of_ble_eq_true rfl)
  rw [lg_entry_eq]
  generalize (lg_sl ([.ref (B + v0), .ref (B + v1), .int v2]) ++ List.replicate (3 - (lg_sl ([.ref (B + v0), .ref (B + v1), .int v2])).length) Slot.unset).toArray = ls at hl ⊢
  have hl : lv_has ls 3 [(0, .ref (B + v0)), (1, .ref (B + v1)), (2, .int v2)] := hl
  unfold wX8_turnWire at h
  refine lv_iload_n hx hb dX8_turnWire_0 rfl (lv_at hl 2 rfl) ?_
  refine lv_if_lt (tgt := 48) hx hb dX8_turnWire_1 (by decide) (fun c1 => ?_) (fun c1 => ?_)
  · have h := h.1 c1
    exact rk_vret X kX_len h hP hS dX8_turnWire_48
  · have h := h.2 c1
    refine lv_iload_n hx hb dX8_turnWire_4 rfl (lv_at hl 2 rfl) ?_
    refine lv_aload_n hx hb dX8_turnWire_5 rfl (lv_at hl 0 rfl) ?_
    refine rk_get X hP (C := RX8) (T := TX8) (N := 6) (ci := 8) wix_8 h0 rfl rfl 3 (by decide) (wi_17 _ (List.mem_of_getElem? (i := 12) rfl)) rfl rfl dX8_turnWire_6 ?_
    refine lv_icmp_ge (tgt := 48) hx hb dX8_turnWire_9 (by decide) (fun c2 => ?_) (fun c2 => ?_)
    · have h := h.1 c2
      exact rk_vret X kX_len h hP hS dX8_turnWire_48
    · have h := h.2 c2
      refine lv_aload_n hx hb dX8_turnWire_12 rfl (lv_at hl 0 rfl) ?_
      refine lv_aload_n hx hb dX8_turnWire_13 rfl (lv_at hl 1 rfl) ?_
      refine rk_get X hP (C := RX4) (T := TX4) (N := 4) (ci := 4) wix_4 h1 rfl rfl 3 (by decide) (wi_18 _ (List.mem_of_getElem? (i := 6) rfl)) rfl rfl dX8_turnWire_14 ?_
      refine lv_iconst (v := (2 : Int32)) hx hb dX8_turnWire_17 (by decide) ?_
      refine lv_aload_n hx hb dX8_turnWire_18 rfl (lv_at hl 0 rfl) ?_
      refine rk_get X hP (C := RX8) (T := TX8) (N := 6) (ci := 8) wix_8 h0 rfl rfl 4 (by decide) (wi_17 _ (List.mem_of_getElem? (i := 13) rfl)) rfl rfl dX8_turnWire_19 ?_
      refine lv_iload_n hx hb dX8_turnWire_22 rfl (lv_at hl 2 rfl) ?_
      obtain ⟨b1, h⟩ := h
      refine rk_iald X hP (n := 10) (klX_X8_4 h0) (fun _ _ => rfl) b1 dX8_turnWire_23 ?_
      refine lv_imul hx hb dX8_turnWire_24 ?_
      refine lv_topi (fun x1 ex1 => ?_)
      have h := h x1 ex1
      obtain ⟨b2, h⟩ := h
      refine rk_iald X hP (n := 20) (klX_X4_3 h1) (fun _ _ => rfl) b2 dX8_turnWire_25 ?_
      refine rk_callv (va_runV (As := [.int (σ.1 (v1 + 2) x1.toNatClampNeg)]) (rest := []) X.1 (mX8_turnLeg l D cy B v0 (σ.1 (v1 + 2) x1.toNatClampNeg) σ h0 h) (cwV 1 hts (gW_V (wi_18 _ (List.mem_of_getElem? (i := 7) rfl)) (wi_18 _ (List.mem_of_getElem? (i := 8) rfl)) (wi_18 _ (List.mem_of_getElem? (i := 9) rfl)) (wi_18 _ (List.mem_of_getElem? (i := 10) rfl)) (wi_18 _ (List.mem_of_getElem? (i := 4) rfl))) rfl rfl rfl hd_X8_turnLeg ⟨Nat.le_of_ble_eq_true rfl, Nat.le_of_ble_eq_true rfl⟩) (rk_preV X hS hP h0 rfl rfl [.int (σ.1 (v1 + 2) x1.toNatClampNeg)]) rfl rfl hl.1 rfl (lv_room (Nat.le_of_ble_eq_true rfl)) dX8_turnWire_26 ⟨Nat.zero_le _, Nat.zero_le _⟩) hS (fun _ h => h) (fun s1 H locs h hP hS => ?_)
      refine lv_aload_n hx hb dX8_turnWire_29 rfl (lv_at hl 0 rfl) ?_
      refine lv_aload_n hx hb dX8_turnWire_30 rfl (lv_at hl 1 rfl) ?_
      refine rk_get X hP (C := RX4) (T := TX4) (N := 4) (ci := 4) wix_4 h1 rfl rfl 3 (by decide) (wi_18 _ (List.mem_of_getElem? (i := 6) rfl)) rfl rfl dX8_turnWire_31 ?_
      refine lv_iconst (v := (2 : Int32)) hx hb dX8_turnWire_34 (by decide) ?_
      refine lv_aload_n hx hb dX8_turnWire_35 rfl (lv_at hl 0 rfl) ?_
      refine rk_get X hP (C := RX8) (T := TX8) (N := 6) (ci := 8) wix_8 h0 rfl rfl 4 (by decide) (wi_17 _ (List.mem_of_getElem? (i := 13) rfl)) rfl rfl dX8_turnWire_36 ?_
      refine lv_iload_n hx hb dX8_turnWire_39 rfl (lv_at hl 2 rfl) ?_
      obtain ⟨b3, h⟩ := h
      refine rk_iald X hP (n := 10) (klX_X8_4 h0) (fun _ _ => rfl) b3 dX8_turnWire_40 ?_
      refine lv_imul hx hb dX8_turnWire_41 ?_
      refine lv_iconst (v := (1 : Int32)) hx hb dX8_turnWire_42 (by decide) ?_
      refine lv_iadd hx hb dX8_turnWire_43 ?_
      refine lv_topi (fun x2 ex2 => ?_)
      have h := h x2 ex2
      obtain ⟨b4, h⟩ := h
      refine rk_iald X hP (n := 20) (klX_X4_3 h1) (fun _ _ => rfl) b4 dX8_turnWire_44 ?_
      refine rk_callv (va_runV (As := [.int (s1.1 (v1 + 2) x2.toNatClampNeg)]) (rest := []) X.1 (mX8_turnLeg l D cy B v0 (s1.1 (v1 + 2) x2.toNatClampNeg) s1 h0 h) (cwV 1 hts (gW_V (wi_18 _ (List.mem_of_getElem? (i := 7) rfl)) (wi_18 _ (List.mem_of_getElem? (i := 8) rfl)) (wi_18 _ (List.mem_of_getElem? (i := 9) rfl)) (wi_18 _ (List.mem_of_getElem? (i := 10) rfl)) (wi_18 _ (List.mem_of_getElem? (i := 4) rfl))) rfl rfl rfl hd_X8_turnLeg ⟨Nat.le_of_ble_eq_true rfl, Nat.le_of_ble_eq_true rfl⟩) (rk_preV X hS hP h0 rfl rfl [.int (s1.1 (v1 + 2) x2.toNatClampNeg)]) rfl rfl hl.1 rfl (lv_room (Nat.le_of_ble_eq_true rfl)) dX8_turnWire_45 ⟨Nat.zero_le _, Nat.zero_le _⟩) hS (fun _ h => h) (fun s2 H locs h hP hS => ?_)
      exact rk_vret X kX_len h hP hS dX8_turnWire_48

theorem hd_X8_productHere : yX8_productHere.cls = RX8 ∧ yX8_productHere.cls ≠ "java/lang/invoke/MethodHandle" ∧ yX8_productHere.cls ≠ "java/lang/invoke/VarHandle" ∧ (parseMethodDescriptor yX8_productHere.desc).map (fun d => d.parameters.length) = some 3 := by decide +kernel
set_option maxRecDepth 100000 in
set_option maxHeartbeats 4000000 in
theorem tX8_productHere_6 {p : Program} {l : Launch} {e : Env} {s : State} {m : MethodId} {av : Array Value} {below : List Frame} {meth : Method} {c : Code} {D : va_G} {cy : Nat → ClassId} {B : Nat} (X : kC p s m av meth c cX8_productHere 6 (some .int) WALL RX8 D cy (AW B 346)) {post : Int32 → St → Prop} : ∀ (n : Nat) (v0 : Nat) (v1 : Nat) (v2 : Int32) (v3 : Int32) (v4 : Int32) (v5 : Int32) (σ : St), kX[v0]? = some 8 → kX[v1]? = some 4 → wX8_productHere_6 post n v0 v1 v2 v3 v4 v5 σ → ∀ (H : Heap) (locs : List Loc) (ls : Array Slot), va_P D vwCl (wW cy B kX σ) H → va_S (AW B 346) s.heap H locs → lv_has ls 6 [(0, .ref (B + v0)), (1, .ref (B + v1)), (2, .int v2), (3, .int v3), (4, .int v4), (5, .int v5)] → W p l e (rmD 2) s m av below meth c H locs 0 0 (MQ below (va_Qi post (BW D cy B kX) (AW B 346)) av s 0 0 (AW B 346)) (F0 m 6 ls []) := by
  obtain ⟨⟨hx, hb, hml, hown, hts⟩, hr, hlk, hK, hN, hZ⟩ := id X
  have hD : ∀ σ, va_D (AW B 346) (wW cy B kX σ) := AW_D kX_len
  intro n
  induction n with
  | zero => intro v0 v1 v2 v3 v4 v5 σ h0 h1 h; exact absurd h id
  | succ n ih =>
    intro v0 v1 v2 v3 v4 v5 σ h0 h1 h H locs ls hP hS hl
    rw [wX8_productHere_6] at h
    refine lv_iload hx hb dX8_productHere_6 (lv_at hl 5 rfl) ?_
    refine lv_aload_n hx hb dX8_productHere_8 rfl (lv_at hl 1 rfl) ?_
    refine rk_get X hP (C := RX4) (T := TX4) (N := 4) (ci := 4) wix_4 h1 rfl rfl 0 (by decide) (wi_17 _ (List.mem_of_getElem? (i := 19) rfl)) rfl rfl dX8_productHere_9 ?_
    refine lv_icmp_ge (tgt := 63) hx hb dX8_productHere_12 (by decide) (fun c1 => ?_) (fun c1 => ?_)
    · have h := h.1 c1
      refine lv_iload hx hb dX8_productHere_63 (lv_at hl 4 rfl) ?_
      exact rk_iret X rfl kX_len h hP hS dX8_productHere_65
    · have h := h.2 c1
      refine lv_iload hx hb dX8_productHere_15 (lv_at hl 4 rfl) ?_
      refine lv_if_eq (tgt := 63) hx hb dX8_productHere_17 (by decide) (fun c2 => ?_) (fun c2 => ?_)
      · have h := h.1 c2
        refine lv_iload hx hb dX8_productHere_63 (lv_at hl 4 rfl) ?_
        exact rk_iret X rfl kX_len h hP hS dX8_productHere_65
      · have h := h.2 c2
        refine lv_iload_n hx hb dX8_productHere_20 rfl (lv_at hl 2 rfl) ?_
        refine lv_iload hx hb dX8_productHere_21 (lv_at hl 5 rfl) ?_
        refine lv_ishr hx hb dX8_productHere_23 ?_
        refine lv_iconst (v := (1 : Int32)) hx hb dX8_productHere_24 (by decide) ?_
        refine lv_iand hx hb dX8_productHere_25 ?_
        refine lv_iconst (v := (1 : Int32)) hx hb dX8_productHere_26 (by decide) ?_
        refine lv_icmp_ne (tgt := 57) hx hb dX8_productHere_27 (by decide) (fun c3 => ?_) (fun c3 => ?_)
        · have h := h.1 c3
          obtain ⟨x1, ex1⟩ : ∃ y : Int32, y = v5 + (1 : Int32) := ⟨_, rfl⟩
          have h := h x1 ex1
          refine lv_iinc (v := x1) (lv' := [(5, .int x1), (0, .ref (B + v0)), (1, .ref (B + v1)), (2, .int v2), (3, .int v3), (4, .int v4)]) hx hb dX8_productHere_57 hl (k := 5) rfl (by rw [ex1]; rfl) (by decide) rfl (fun ls hl => ?_)
          refine lv_goto (tgt := 6) hx hb dX8_productHere_60 (by decide) ?_
          exact ih _ _ _ _ _ _ _ h0 h1 h _ _ _ hP hS (lv_sub hl [1, 2, 3, 4, 5, 0] rfl)
        · have h := h.2 c3
          refine lv_iload hx hb dX8_productHere_30 (lv_at hl 4 rfl) ?_
          refine lv_aload_n hx hb dX8_productHere_32 rfl (lv_at hl 1 rfl) ?_
          refine rk_get X hP (C := RX4) (T := TX4) (N := 4) (ci := 4) wix_4 h1 rfl rfl 2 (by decide) (wi_17 _ (List.mem_of_getElem? (i := 20) rfl)) rfl rfl dX8_productHere_33 ?_
          refine lv_iload hx hb dX8_productHere_36 (lv_at hl 5 rfl) ?_
          obtain ⟨b1, h⟩ := h
          refine rk_aald X hP (C := RX7) (n := 6) (t0 := 6) (d := 2) (r := 2) (klX_X4_2 h1) (fun _ _ => rfl) rfl b1 dX8_productHere_38 ?_
          refine rk_get X hP (C := RX7) (T := TX7) (N := 2) (ci := 7) wix_7 (klX_14 (klX_X4_2 h1) (vp_lt b1)) rfl rfl 1 (by decide) (wi_18 _ (List.mem_of_getElem? (i := 12) rfl)) rfl rfl dX8_productHere_39 ?_
          refine lv_aload_n hx hb dX8_productHere_42 rfl (lv_at hl 0 rfl) ?_
          refine rk_get X hP (C := RX8) (T := TX8) (N := 6) (ci := 8) wix_8 h0 rfl rfl 2 (by decide) (wi_17 _ (List.mem_of_getElem? (i := 11) rfl)) rfl rfl dX8_productHere_43 ?_
          refine lv_iload hx hb dX8_productHere_46 (lv_at hl 5 rfl) ?_
          obtain ⟨b2, h⟩ := h
          refine rk_iald X hP (n := 6) (klX_X8_2 h0) (fun _ _ => rfl) b2 dX8_productHere_48 ?_
          refine lv_topi (fun x2 ex2 => ?_)
          have h := h x2 ex2
          obtain ⟨b3, h⟩ := h
          refine rk_iald X hP (n := 16) (klX_X7_1 (klX_14 (klX_X4_2 h1) (vp_lt b1))) (fun _ _ => rfl) b3 dX8_productHere_49 ?_
          refine lv_imul hx hb dX8_productHere_50 ?_
          refine lv_iload_n hx hb dX8_productHere_51 rfl (lv_at hl 3 rfl) ?_
          refine rk_calli (va_runSN (As := [.int (v4 * (σ.1 (((v1 + 1) + 2 + 2 * v5.toNatClampNeg) + 1) x2.toNatClampNeg)), .int v3]) (rest := []) X.1 (mX10_mod l D cy B (v4 * (σ.1 (((v1 + 1) + 2 + 2 * v5.toNatClampNeg) + 1) x2.toNatClampNeg)) v3 σ h) ⟨va_cnB 2 hts (gW_C (wi_2 _ (List.mem_of_getElem? (i := 2) rfl))) rfl rfl rfl hN.2.2.2.2 (hts _ (wi_2 _ (List.mem_of_getElem? (i := 8) rfl))) hd_X10_mod ⟨Nat.le_of_ble_eq_true rfl, Nat.le_of_ble_eq_true rfl⟩, hts _ (wi_2 _ (List.mem_of_getElem? (i := 7) rfl)), trivial⟩ (rk_preS X hS hP [.int (v4 * (σ.1 (((v1 + 1) + 2 + 2 * v5.toNatClampNeg) + 1) x2.toNatClampNeg)), .int v3]) rfl rfl hl.1 rfl (lv_room (Nat.le_of_ble_eq_true rfl)) dX8_productHere_52 ⟨Nat.zero_le _, Nat.zero_le _⟩) hS (fun _ h => h) (fun r1 s1 H locs h hP hS => ?_)
          refine lv_istore (lv' := [(4, .int r1), (0, .ref (B + v0)), (1, .ref (B + v1)), (2, .int v2), (3, .int v3), (5, .int v5)]) hx hb dX8_productHere_55 hl (by decide) rfl (fun ls hl => ?_)
          obtain ⟨x3, ex3⟩ : ∃ y : Int32, y = v5 + (1 : Int32) := ⟨_, rfl⟩
          have h := h x3 ex3
          refine lv_iinc (v := x3) (lv' := [(5, .int x3), (4, .int r1), (0, .ref (B + v0)), (1, .ref (B + v1)), (2, .int v2), (3, .int v3)]) hx hb dX8_productHere_57 hl (k := 5) rfl (by rw [ex3]; rfl) (by decide) rfl (fun ls hl => ?_)
          refine lv_goto (tgt := 6) hx hb dX8_productHere_60 (by decide) ?_
          exact ih _ _ _ _ _ _ _ h0 h1 h _ _ _ hP hS (lv_sub hl [2, 3, 4, 5, 1, 0] rfl)
set_option maxRecDepth 100000 in
set_option maxHeartbeats 4000000 in
theorem mX8_productHere (l : Launch) (D : va_G) (cy : Nat → ClassId) (B : Nat) (v0 : Nat) (v1 : Nat) (v2 : Int32) (v3 : Int32) (σ : St) (h0 : kX[v0]? = some 8) (h1 : kX[v1]? = some 4) {post : Int32 → St → Prop} (h : wX8_productHere v0 v1 v2 v3 σ post) : Met l yX8_productHere (Cond.code yX8_productHere cX8_productHere 6 (some .int) :: WALL) (rmD 2) (PcW D cy B kX σ [.ref (B + v0), .ref (B + v1), .int v2, .int v3]) (va_Qi post (BW D cy B kX) (AW B 346)) 0 0 (AW B 346) := by
  refine Met.ofK (cc := cX8_productHere) (maxL := 6) (ret := (some .int)) (by decide +kernel) rfl kX_len ?_
  intro p e s m below meth c X hP
  obtain ⟨⟨hx, hb, hml, hown, hts⟩, hr, hlk, hK, hN, hZ⟩ := id X
  have hD : ∀ σ, va_D (AW B 346) (wW cy B kX σ) := AW_D kX_len
  have hS : va_S (AW B 346) s.heap s.heap [] := va_S.rf
  have hl := lv_entry ([.ref (B + v0), .ref (B + v1), .int v2, .int v3]) (n := 6) (Nat.le_of_ble_eq_true rfl)
  rw [lg_entry_eq]
  generalize (lg_sl ([.ref (B + v0), .ref (B + v1), .int v2, .int v3]) ++ List.replicate (6 - (lg_sl ([.ref (B + v0), .ref (B + v1), .int v2, .int v3])).length) Slot.unset).toArray = ls at hl ⊢
  have hl : lv_has ls 6 [(0, .ref (B + v0)), (1, .ref (B + v1)), (2, .int v2), (3, .int v3)] := hl
  unfold wX8_productHere at h
  refine lv_iconst (v := (1 : Int32)) hx hb dX8_productHere_0 (by decide) ?_
  refine lv_istore (lv' := [(4, .int (1 : Int32)), (0, .ref (B + v0)), (1, .ref (B + v1)), (2, .int v2), (3, .int v3)]) hx hb dX8_productHere_1 hl (by decide) rfl (fun ls hl => ?_)
  refine lv_iconst (v := (0 : Int32)) hx hb dX8_productHere_3 (by decide) ?_
  refine lv_istore (lv' := [(5, .int (0 : Int32)), (4, .int (1 : Int32)), (0, .ref (B + v0)), (1, .ref (B + v1)), (2, .int v2), (3, .int v3)]) hx hb dX8_productHere_4 hl (by decide) rfl (fun ls hl => ?_)
  obtain ⟨j, h⟩ := h
  exact tX8_productHere_6 X j _ _ _ _ _ _ _ h0 h1 h _ _ _ hP hS (lv_sub hl [2, 3, 4, 5, 1, 0] rfl)

theorem hd_X8_goThroughSettings : yX8_goThroughSettings.cls = RX8 ∧ yX8_goThroughSettings.cls ≠ "java/lang/invoke/MethodHandle" ∧ yX8_goThroughSettings.cls ≠ "java/lang/invoke/VarHandle" ∧ (parseMethodDescriptor yX8_goThroughSettings.desc).map (fun d => d.parameters.length) = some 3 := by decide +kernel
set_option maxRecDepth 100000 in
set_option maxHeartbeats 4000000 in
theorem tX8_goThroughSettings_84 {p : Program} {l : Launch} {e : Env} {s : State} {m : MethodId} {av : Array Value} {below : List Frame} {meth : Method} {c : Code} {D : va_G} {cy : Nat → ClassId} {B : Nat} (X : kC p s m av meth c cX8_goThroughSettings 6 none WALL RX8 D cy (AW B 346)) {post : St → Prop} {R19 : Nat → Nat → Int32 → Int32 → Int32 → St → Prop} (hR19 : ∀ (v0 : Nat) (v1 : Nat) (v2 : Int32) (v3 : Int32) (v4 : Int32) (σ : St), kX[v0]? = some 8 → kX[v1]? = some 4 → R19 v0 v1 v2 v3 v4 σ → ∀ (H : Heap) (locs : List Loc) (ls : Array Slot), va_P D vwCl (wW cy B kX σ) H → va_S (AW B 346) s.heap H locs → lv_has ls 6 [(0, .ref (B + v0)), (1, .ref (B + v1)), (2, .int v2), (3, .int v3), (4, .int v4)] → W p l e (rmD 3) s m av below meth c H locs 0 0 (MQ below (va_Qv post (BW D cy B kX) (AW B 346)) av s 0 0 (AW B 346)) (F0 m 19 ls [])) : ∀ (v0 : Nat) (v1 : Nat) (v2 : Int32) (v3 : Int32) (v4 : Int32) (t0 : Nat) (t1 : Int32) (t2 : Int32) (σ : St), kX[v0]? = some 8 → kX[v1]? = some 4 → kX[t0]? = some 8 → wX8_goThroughSettings_84 post R19 v0 v1 v2 v3 v4 t0 t1 t2 σ → ∀ (H : Heap) (locs : List Loc) (ls : Array Slot), va_P D vwCl (wW cy B kX σ) H → va_S (AW B 346) s.heap H locs → lv_has ls 6 [(0, .ref (B + v0)), (1, .ref (B + v1)), (2, .int v2), (3, .int v3), (4, .int v4)] → W p l e (rmD 3) s m av below meth c H locs 0 0 (MQ below (va_Qv post (BW D cy B kX) (AW B 346)) av s 0 0 (AW B 346)) (F0 m 84 ls [.int t2, .int t1, .ref (B + t0)]) := by
  obtain ⟨⟨hx, hb, hml, hown, hts⟩, hr, hlk, hK, hN, hZ⟩ := id X
  have hD : ∀ σ, va_D (AW B 346) (wW cy B kX σ) := AW_D kX_len
  intro v0 v1 v2 v3 v4 t0 t1 t2 σ h0 h1 g0 h H locs ls hP hS hl
  unfold wX8_goThroughSettings_84 at h
  refine lv_iadd hx hb dX8_goThroughSettings_84 ?_
  refine rk_puti X hP hD hS (C := RX8) (T := TX8) (N := 6) (ci := 8) wix_8 g0 rfl rfl tyX8 tyX8_ok nmX8 1 (by decide) (wi_17 _ (List.mem_of_getElem? (i := 10) rfl)) rfl rfl (by decide +kernel) (Nat.le_of_ble_eq_true rfl) rfl dX8_goThroughSettings_85 (fun H locs hP hS => ?_)
  obtain ⟨s1, es1⟩ : ∃ z : St, z = u1 σ t0 1 (t1 + t2) := ⟨_, rfl⟩
  rw [← es1] at hP
  have h := h s1 es1
  obtain ⟨x1, ex1⟩ : ∃ y : Int32, y = v4 + (1 : Int32) := ⟨_, rfl⟩
  have h := h x1 ex1
  refine lv_iinc (v := x1) (lv' := [(4, .int x1), (0, .ref (B + v0)), (1, .ref (B + v1)), (2, .int v2), (3, .int v3)]) hx hb dX8_goThroughSettings_88 hl (k := 4) rfl (by rw [ex1]; rfl) (by decide) rfl (fun ls hl => ?_)
  refine lv_goto (tgt := 19) hx hb dX8_goThroughSettings_91 (by decide) ?_
  exact hR19 _ _ _ _ _ _ h0 h1 h _ _ _ hP hS (lv_sub hl [1, 2, 3, 4, 0] rfl)
set_option maxRecDepth 100000 in
set_option maxHeartbeats 4000000 in
theorem tX8_goThroughSettings_45 {p : Program} {l : Launch} {e : Env} {s : State} {m : MethodId} {av : Array Value} {below : List Frame} {meth : Method} {c : Code} {D : va_G} {cy : Nat → ClassId} {B : Nat} (X : kC p s m av meth c cX8_goThroughSettings 6 none WALL RX8 D cy (AW B 346)) {post : St → Prop} {R19 : Nat → Nat → Int32 → Int32 → Int32 → St → Prop} (hR19 : ∀ (v0 : Nat) (v1 : Nat) (v2 : Int32) (v3 : Int32) (v4 : Int32) (σ : St), kX[v0]? = some 8 → kX[v1]? = some 4 → R19 v0 v1 v2 v3 v4 σ → ∀ (H : Heap) (locs : List Loc) (ls : Array Slot), va_P D vwCl (wW cy B kX σ) H → va_S (AW B 346) s.heap H locs → lv_has ls 6 [(0, .ref (B + v0)), (1, .ref (B + v1)), (2, .int v2), (3, .int v3), (4, .int v4)] → W p l e (rmD 3) s m av below meth c H locs 0 0 (MQ below (va_Qv post (BW D cy B kX) (AW B 346)) av s 0 0 (AW B 346)) (F0 m 19 ls [])) : ∀ (v0 : Nat) (v1 : Nat) (v2 : Int32) (v3 : Int32) (v4 : Int32) (σ : St), kX[v0]? = some 8 → kX[v1]? = some 4 → wX8_goThroughSettings_45 post R19 v0 v1 v2 v3 v4 σ → ∀ (H : Heap) (locs : List Loc) (ls : Array Slot), va_P D vwCl (wW cy B kX σ) H → va_S (AW B 346) s.heap H locs → lv_has ls 6 [(0, .ref (B + v0)), (1, .ref (B + v1)), (2, .int v2), (3, .int v3), (4, .int v4)] → W p l e (rmD 3) s m av below meth c H locs 0 0 (MQ below (va_Qv post (BW D cy B kX) (AW B 346)) av s 0 0 (AW B 346)) (F0 m 45 ls []) := by
  obtain ⟨⟨hx, hb, hml, hown, hts⟩, hr, hlk, hK, hN, hZ⟩ := id X
  have hD : ∀ σ, va_D (AW B 346) (wW cy B kX σ) := AW_D kX_len
  intro v0 v1 v2 v3 v4 σ h0 h1 h H locs ls hP hS hl
  unfold wX8_goThroughSettings_45 at h
  refine lv_aload_n hx hb dX8_goThroughSettings_45 rfl (lv_at hl 0 rfl) ?_
  refine lv_aload_n hx hb dX8_goThroughSettings_46 rfl (lv_at hl 1 rfl) ?_
  refine lv_iload_n hx hb dX8_goThroughSettings_47 rfl (lv_at hl 2 rfl) ?_
  refine lv_iload_n hx hb dX8_goThroughSettings_48 rfl (lv_at hl 3 rfl) ?_
  refine rk_calli (va_runV (As := [.ref (B + v1), .int v2, .int v3]) (rest := []) X.1 (mX8_productHere l D cy B v0 v1 v2 v3 σ h0 h1 h) (cwV 3 hts (gW_V (wi_18 _ (List.mem_of_getElem? (i := 21) rfl)) (wi_18 _ (List.mem_of_getElem? (i := 22) rfl)) (wi_18 _ (List.mem_of_getElem? (i := 23) rfl)) (wi_18 _ (List.mem_of_getElem? (i := 10) rfl)) (wi_18 _ (List.mem_of_getElem? (i := 11) rfl))) rfl rfl rfl hd_X8_productHere ⟨Nat.le_of_ble_eq_true rfl, Nat.le_of_ble_eq_true rfl⟩) (rk_preV X hS hP h0 rfl rfl [.ref (B + v1), .int v2, .int v3]) rfl rfl hl.1 rfl (lv_room (Nat.le_of_ble_eq_true rfl)) dX8_goThroughSettings_49 ⟨Nat.zero_le _, Nat.zero_le _⟩) hS (fun _ h => h) (fun r1 s1 H locs h hP hS => ?_)
  refine lv_istore (lv' := [(5, .int r1), (0, .ref (B + v0)), (1, .ref (B + v1)), (2, .int v2), (3, .int v3), (4, .int v4)]) hx hb dX8_goThroughSettings_52 hl (by decide) rfl (fun ls hl => ?_)
  refine lv_aload_n hx hb dX8_goThroughSettings_54 rfl (lv_at hl 1 rfl) ?_
  refine lv_aload_n hx hb dX8_goThroughSettings_55 rfl (lv_at hl 1 rfl) ?_
  refine rk_get X hP (C := RX8) (T := TX8) (N := 6) (ci := 8) wix_8 h0 rfl rfl 0 (by decide) (wi_17 _ (List.mem_of_getElem? (i := 9) rfl)) rfl rfl dX8_goThroughSettings_56 ?_
  refine lv_iload hx hb dX8_goThroughSettings_59 (lv_at hl 0 rfl) ?_
  refine lv_iadd hx hb dX8_goThroughSettings_61 ?_
  refine lv_iload_n hx hb dX8_goThroughSettings_62 rfl (lv_at hl 4 rfl) ?_
  refine rk_calli (va_runSN (As := [.int ((s1.1 v0 0) + r1), .int v3]) (rest := [.ref (B + v0)]) X.1 (mX10_mod l D cy B ((s1.1 v0 0) + r1) v3 s1 h) ⟨va_cnB 2 hts (gW_C (wi_2 _ (List.mem_of_getElem? (i := 2) rfl))) rfl rfl rfl hN.2.2.2.2 (hts _ (wi_2 _ (List.mem_of_getElem? (i := 8) rfl))) hd_X10_mod ⟨Nat.le_of_ble_eq_true rfl, Nat.le_of_ble_eq_true rfl⟩, hts _ (wi_2 _ (List.mem_of_getElem? (i := 7) rfl)), trivial⟩ (rk_preS X hS hP [.int ((s1.1 v0 0) + r1), .int v3]) rfl rfl hl.1 rfl (lv_room (Nat.le_of_ble_eq_true rfl)) dX8_goThroughSettings_63 ⟨Nat.zero_le _, Nat.zero_le _⟩) hS (fun _ h => h) (fun r2 s2 H locs h hP hS => ?_)
  refine rk_puti X hP hD hS (C := RX8) (T := TX8) (N := 6) (ci := 8) wix_8 h0 rfl rfl tyX8 tyX8_ok nmX8 0 (by decide) (wi_17 _ (List.mem_of_getElem? (i := 9) rfl)) rfl rfl (by decide +kernel) (Nat.le_of_ble_eq_true rfl) rfl dX8_goThroughSettings_66 (fun H locs hP hS => ?_)
  obtain ⟨s3, es3⟩ : ∃ z : St, z = u1 s2 v0 0 r2 := ⟨_, rfl⟩
  rw [← es3] at hP
  have h := h s3 es3
  refine lv_aload_n hx hb dX8_goThroughSettings_69 rfl (lv_at hl 1 rfl) ?_
  refine lv_dup hx hb dX8_goThroughSettings_70 rfl ?_
  refine rk_get X hP (C := RX8) (T := TX8) (N := 6) (ci := 8) wix_8 h0 rfl rfl 1 (by decide) (wi_17 _ (List.mem_of_getElem? (i := 10) rfl)) rfl rfl dX8_goThroughSettings_71 ?_
  refine lv_iload hx hb dX8_goThroughSettings_74 (lv_at hl 0 rfl) ?_
  refine lv_if_ne (tgt := 83) hx hb dX8_goThroughSettings_76 (by decide) (fun c1 => ?_) (fun c1 => ?_)
  · have h := h.1 c1
    refine lv_iconst (v := (1 : Int32)) hx hb dX8_goThroughSettings_83 (by decide) ?_
    exact tX8_goThroughSettings_84 X hR19 _ _ _ _ _ _ _ _ _ h0 h1 h0 h _ _ _ hP hS (lv_sub hl [1, 2, 3, 4, 5] rfl)
  · have h := h.2 c1
    refine lv_iconst (v := (0 : Int32)) hx hb dX8_goThroughSettings_79 (by decide) ?_
    refine lv_goto (tgt := 84) hx hb dX8_goThroughSettings_80 (by decide) ?_
    exact tX8_goThroughSettings_84 X hR19 _ _ _ _ _ _ _ _ _ h0 h1 h0 h _ _ _ hP hS (lv_sub hl [1, 2, 3, 4, 5] rfl)
set_option maxRecDepth 100000 in
set_option maxHeartbeats 4000000 in
theorem tX8_goThroughSettings_19 {p : Program} {l : Launch} {e : Env} {s : State} {m : MethodId} {av : Array Value} {below : List Frame} {meth : Method} {c : Code} {D : va_G} {cy : Nat → ClassId} {B : Nat} (X : kC p s m av meth c cX8_goThroughSettings 6 none WALL RX8 D cy (AW B 346)) {post : St → Prop} : ∀ (n : Nat) (v0 : Nat) (v1 : Nat) (v2 : Int32) (v3 : Int32) (v4 : Int32) (σ : St), kX[v0]? = some 8 → kX[v1]? = some 4 → wX8_goThroughSettings_19 post n v0 v1 v2 v3 v4 σ → ∀ (H : Heap) (locs : List Loc) (ls : Array Slot), va_P D vwCl (wW cy B kX σ) H → va_S (AW B 346) s.heap H locs → lv_has ls 6 [(0, .ref (B + v0)), (1, .ref (B + v1)), (2, .int v2), (3, .int v3), (4, .int v4)] → W p l e (rmD 3) s m av below meth c H locs 0 0 (MQ below (va_Qv post (BW D cy B kX) (AW B 346)) av s 0 0 (AW B 346)) (F0 m 19 ls []) := by
  obtain ⟨⟨hx, hb, hml, hown, hts⟩, hr, hlk, hK, hN, hZ⟩ := id X
  have hD : ∀ σ, va_D (AW B 346) (wW cy B kX σ) := AW_D kX_len
  intro n
  induction n with
  | zero => intro v0 v1 v2 v3 v4 σ h0 h1 h; exact absurd h id
  | succ n ih =>
    intro v0 v1 v2 v3 v4 σ h0 h1 h H locs ls hP hS hl
    rw [wX8_goThroughSettings_19] at h
    refine lv_iload hx hb dX8_goThroughSettings_19 (lv_at hl 4 rfl) ?_
    refine lv_iconst (v := (1 : Int32)) hx hb dX8_goThroughSettings_21 (by decide) ?_
    refine lv_aload_n hx hb dX8_goThroughSettings_22 rfl (lv_at hl 0 rfl) ?_
    refine rk_get X hP (C := RX8) (T := TX8) (N := 6) (ci := 8) wix_8 h0 rfl rfl 3 (by decide) (wi_17 _ (List.mem_of_getElem? (i := 12) rfl)) rfl rfl dX8_goThroughSettings_23 ?_
    refine lv_ishl hx hb dX8_goThroughSettings_26 ?_
    refine lv_icmp_ge (tgt := 94) hx hb dX8_goThroughSettings_27 (by decide) (fun c1 => ?_) (fun c1 => ?_)
    · have h := h.1 c1
      exact rk_vret X kX_len h hP hS dX8_goThroughSettings_94
    · have h := h.2 c1
      refine lv_iload hx hb dX8_goThroughSettings_30 (lv_at hl 4 rfl) ?_
      refine lv_if_le (tgt := 45) hx hb dX8_goThroughSettings_32 (by decide) (fun c2 => ?_) (fun c2 => ?_)
      · have h := h.1 c2
        exact tX8_goThroughSettings_45 X ih _ _ _ _ _ _ h0 h1 h _ _ _ hP hS (lv_sub hl [0, 1, 2, 3, 4] rfl)
      · have h := h.2 c2
        refine lv_aload_n hx hb dX8_goThroughSettings_35 rfl (lv_at hl 0 rfl) ?_
        refine lv_aload_n hx hb dX8_goThroughSettings_36 rfl (lv_at hl 1 rfl) ?_
        refine lv_iload hx hb dX8_goThroughSettings_37 (lv_at hl 4 rfl) ?_
        refine rk_calli (va_runS (As := [.int v4]) (rest := [.ref (B + v1), .ref (B + v0)]) X.1 (mJ6_numberOfTrailingZeros_0f7a4 l D cy B v4 σ h) (va_cwS 1 hts (gW_S (wi_18 _ (List.mem_of_getElem? (i := 16) rfl)) (wi_18 _ (List.mem_of_getElem? (i := 17) rfl)) (wi_4 _ (List.mem_of_getElem? (i := 5) rfl)) (wi_18 _ (List.mem_of_getElem? (i := 2) rfl))) rfl rfl rfl hd_J6_numberOfTrailingZeros_0f7a4 ⟨Nat.le_of_ble_eq_true rfl, Nat.le_of_ble_eq_true rfl⟩) (rk_preS X hS hP [.int v4]) rfl rfl hl.1 rfl (lv_room (Nat.le_of_ble_eq_true rfl)) dX8_goThroughSettings_39 ⟨Nat.zero_le _, Nat.zero_le _⟩) hS (fun _ h => h) (fun r1 s1 H locs h hP hS => ?_)
        refine rk_callv (va_runV (As := [.ref (B + v1), .int r1]) (rest := []) X.1 (mX8_turnWire l D cy B v0 v1 r1 s1 h0 h1 h) (cwV 2 hts (gW_V (wi_18 _ (List.mem_of_getElem? (i := 18) rfl)) (wi_18 _ (List.mem_of_getElem? (i := 19) rfl)) (wi_18 _ (List.mem_of_getElem? (i := 20) rfl)) (wi_18 _ (List.mem_of_getElem? (i := 10) rfl)) (wi_18 _ (List.mem_of_getElem? (i := 5) rfl))) rfl rfl rfl hd_X8_turnWire ⟨Nat.le_of_ble_eq_true rfl, Nat.le_of_ble_eq_true rfl⟩) (rk_preV X hS hP h0 rfl rfl [.ref (B + v1), .int r1]) rfl rfl hl.1 rfl (lv_room (Nat.le_of_ble_eq_true rfl)) dX8_goThroughSettings_42 ⟨Nat.zero_le _, Nat.zero_le _⟩) hS (fun _ h => h) (fun s2 H locs h hP hS => ?_)
        exact tX8_goThroughSettings_45 X ih _ _ _ _ _ _ h0 h1 h _ _ _ hP hS (lv_sub hl [0, 1, 2, 3, 4] rfl)
set_option maxRecDepth 100000 in
set_option maxHeartbeats 4000000 in
theorem mX8_goThroughSettings (l : Launch) (D : va_G) (cy : Nat → ClassId) (B : Nat) (v0 : Nat) (v1 : Nat) (v2 : Int32) (v3 : Int32) (σ : St) (h0 : kX[v0]? = some 8) (h1 : kX[v1]? = some 4) {post : St → Prop} (h : wX8_goThroughSettings v0 v1 v2 v3 σ post) : Met l yX8_goThroughSettings (Cond.code yX8_goThroughSettings cX8_goThroughSettings 6 none :: WALL) (rmD 3) (PcW D cy B kX σ [.ref (B + v0), .ref (B + v1), .int v2, .int v3]) (va_Qv post (BW D cy B kX) (AW B 346)) 0 0 (AW B 346) := by
  refine Met.ofK (cc := cX8_goThroughSettings) (maxL := 6) (ret := none) (by decide +kernel) rfl kX_len ?_
  intro p e s m below meth c X hP
  obtain ⟨⟨hx, hb, hml, hown, hts⟩, hr, hlk, hK, hN, hZ⟩ := id X
  have hD : ∀ σ, va_D (AW B 346) (wW cy B kX σ) := AW_D kX_len
  have hS : va_S (AW B 346) s.heap s.heap [] := va_S.rf
  have hl := lv_entry ([.ref (B + v0), .ref (B + v1), .int v2, .int v3]) (n := 6) (Nat.le_of_ble_eq_true rfl)
  rw [lg_entry_eq]
  generalize (lg_sl ([.ref (B + v0), .ref (B + v1), .int v2, .int v3]) ++ List.replicate (6 - (lg_sl ([.ref (B + v0), .ref (B + v1), .int v2, .int v3])).length) Slot.unset).toArray = ls at hl ⊢
  have hl : lv_has ls 6 [(0, .ref (B + v0)), (1, .ref (B + v1)), (2, .int v2), (3, .int v3)] := hl
  unfold wX8_goThroughSettings at h
  refine lv_aload_n hx hb dX8_goThroughSettings_0 rfl (lv_at hl 0 rfl) ?_
  refine lv_aload_n hx hb dX8_goThroughSettings_1 rfl (lv_at hl 1 rfl) ?_
  refine lv_iload_n hx hb dX8_goThroughSettings_2 rfl (lv_at hl 2 rfl) ?_
  refine rk_callv (va_runV (As := [.ref (B + v1), .int v2]) (rest := []) X.1 (mX8_chooseWires l D cy B v0 v1 v2 σ h0 h1 h) (cwV 2 hts (gW_V (wi_18 _ (List.mem_of_getElem? (i := 13) rfl)) (wi_18 _ (List.mem_of_getElem? (i := 14) rfl)) (wi_18 _ (List.mem_of_getElem? (i := 15) rfl)) (wi_18 _ (List.mem_of_getElem? (i := 10) rfl)) (wi_17 _ (List.mem_of_getElem? (i := 23) rfl))) rfl rfl rfl hd_X8_chooseWires ⟨Nat.le_of_ble_eq_true rfl, Nat.le_of_ble_eq_true rfl⟩) (rk_preV X hS hP h0 rfl rfl [.ref (B + v1), .int v2]) rfl rfl hl.1 rfl (lv_room (Nat.le_of_ble_eq_true rfl)) dX8_goThroughSettings_3 ⟨Nat.zero_le _, Nat.zero_le _⟩) hS (fun _ h => h) (fun s1 H locs h hP hS => ?_)
  refine lv_aload_n hx hb dX8_goThroughSettings_6 rfl (lv_at hl 0 rfl) ?_
  refine lv_iconst (v := (0 : Int32)) hx hb dX8_goThroughSettings_7 (by decide) ?_
  refine rk_puti X hP hD hS (C := RX8) (T := TX8) (N := 6) (ci := 8) wix_8 h0 rfl rfl tyX8 tyX8_ok nmX8 0 (by decide) (wi_17 _ (List.mem_of_getElem? (i := 9) rfl)) rfl rfl (by decide +kernel) (Nat.le_of_ble_eq_true rfl) rfl dX8_goThroughSettings_8 (fun H locs hP hS => ?_)
  obtain ⟨s2, es2⟩ : ∃ z : St, z = u1 s1 v0 0 (0 : Int32) := ⟨_, rfl⟩
  rw [← es2] at hP
  have h := h s2 es2
  refine lv_aload_n hx hb dX8_goThroughSettings_11 rfl (lv_at hl 0 rfl) ?_
  refine lv_iconst (v := (0 : Int32)) hx hb dX8_goThroughSettings_12 (by decide) ?_
  refine rk_puti X hP hD hS (C := RX8) (T := TX8) (N := 6) (ci := 8) wix_8 h0 rfl rfl tyX8 tyX8_ok nmX8 1 (by decide) (wi_17 _ (List.mem_of_getElem? (i := 10) rfl)) rfl rfl (by decide +kernel) (Nat.le_of_ble_eq_true rfl) rfl dX8_goThroughSettings_13 (fun H locs hP hS => ?_)
  obtain ⟨s3, es3⟩ : ∃ z : St, z = u1 s2 v0 1 (0 : Int32) := ⟨_, rfl⟩
  rw [← es3] at hP
  have h := h s3 es3
  refine lv_iconst (v := (0 : Int32)) hx hb dX8_goThroughSettings_16 (by decide) ?_
  refine lv_istore (lv' := [(4, .int (0 : Int32)), (0, .ref (B + v0)), (1, .ref (B + v1)), (2, .int v2), (3, .int v3)]) hx hb dX8_goThroughSettings_17 hl (by decide) rfl (fun ls hl => ?_)
  obtain ⟨j, h⟩ := h
  exact tX8_goThroughSettings_19 X j _ _ _ _ _ _ h0 h1 h _ _ _ hP hS (lv_sub hl [1, 2, 3, 4, 0] rfl)

theorem hd_X8_goThrough : yX8_goThrough.cls = RX8 ∧ yX8_goThrough.cls ≠ "java/lang/invoke/MethodHandle" ∧ yX8_goThrough.cls ≠ "java/lang/invoke/VarHandle" ∧ (parseMethodDescriptor yX8_goThrough.desc).map (fun d => d.parameters.length) = some 3 := by decide +kernel
set_option maxRecDepth 100000 in
set_option maxHeartbeats 4000000 in
theorem mX8_goThrough (l : Launch) (D : va_G) (cy : Nat → ClassId) (B : Nat) (v0 : Nat) (v1 : Nat) (v2 : Int32) (v3 : Int32) (σ : St) (h0 : kX[v0]? = some 8) (h1 : kX[v1]? = some 4) {post : St → Prop} (h : wX8_goThrough v0 v1 v2 v3 σ post) : Met l yX8_goThrough (Cond.code yX8_goThrough cX8_goThrough 4 none :: WALL) (rmD 4) (PcW D cy B kX σ [.ref (B + v0), .ref (B + v1), .int v2, .int v3]) (va_Qv post (BW D cy B kX) (AW B 346)) 0 0 (AW B 346) := by
  refine Met.ofK (cc := cX8_goThrough) (maxL := 4) (ret := none) (by decide +kernel) rfl kX_len ?_
  intro p e s m below meth c X hP
  obtain ⟨⟨hx, hb, hml, hown, hts⟩, hr, hlk, hK, hN, hZ⟩ := id X
  have hD : ∀ σ, va_D (AW B 346) (wW cy B kX σ) := AW_D kX_len
  have hS : va_S (AW B 346) s.heap s.heap [] := va_S.rf
  have hl := lv_entry ([.ref (B + v0), .ref (B + v1), .int v2, .int v3]) (n := 4) (Nat.le_of_ble_eq_true rfl)
  rw [lg_entry_eq]
  generalize (lg_sl ([.ref (B + v0), .ref (B + v1), .int v2, .int v3]) ++ List.replicate (4 - (lg_sl ([.ref (B + v0), .ref (B + v1), .int v2, .int v3])).length) Slot.unset).toArray = ls at hl ⊢
  have hl : lv_has ls 4 [(0, .ref (B + v0)), (1, .ref (B + v1)), (2, .int v2), (3, .int v3)] := hl
  unfold wX8_goThrough at h
  refine lv_aload_n hx hb dX8_goThrough_0 rfl (lv_at hl 0 rfl) ?_
  refine lv_aload_n hx hb dX8_goThrough_1 rfl (lv_at hl 1 rfl) ?_
  refine lv_iload_n hx hb dX8_goThrough_2 rfl (lv_at hl 2 rfl) ?_
  refine rk_callv (va_runV (As := [.ref (B + v1), .int v2]) (rest := []) X.1 (mX8_setOpenLegs l D cy B v0 v1 v2 σ h0 h1 h) (cwV 2 hts (gW_V (wi_19 _ (List.mem_of_getElem? (i := 1) rfl)) (wi_19 _ (List.mem_of_getElem? (i := 2) rfl)) (wi_19 _ (List.mem_of_getElem? (i := 3) rfl)) (wi_18 _ (List.mem_of_getElem? (i := 10) rfl)) (wi_17 _ (List.mem_of_getElem? (i := 18) rfl))) rfl rfl rfl hd_X8_setOpenLegs ⟨Nat.le_of_ble_eq_true rfl, Nat.le_of_ble_eq_true rfl⟩) (rk_preV X hS hP h0 rfl rfl [.ref (B + v1), .int v2]) rfl rfl hl.1 rfl (lv_room (Nat.le_of_ble_eq_true rfl)) dX8_goThrough_3 ⟨Nat.zero_le _, Nat.zero_le _⟩) hS (fun _ h => h) (fun s1 H locs h hP hS => ?_)
  refine lv_aload_n hx hb dX8_goThrough_6 rfl (lv_at hl 0 rfl) ?_
  refine lv_aload_n hx hb dX8_goThrough_7 rfl (lv_at hl 1 rfl) ?_
  refine lv_aload_n hx hb dX8_goThrough_8 rfl (lv_at hl 1 rfl) ?_
  refine rk_calli (va_runV (As := []) (rest := [.ref (B + v1), .ref (B + v0)]) X.1 (mX4_allNodes l D cy B v1 s1 h1 h) (cwV 0 hts (gW_V (wi_19 _ (List.mem_of_getElem? (i := 4) rfl)) (wi_6 _ (List.mem_of_getElem? (i := 16) rfl)) (wi_6 _ (List.mem_of_getElem? (i := 17) rfl)) (wi_0 _ (List.mem_of_getElem? (i := 23) rfl)) (wi_5 _ (List.mem_of_getElem? (i := 6) rfl))) rfl rfl rfl hd_X4_allNodes ⟨Nat.le_of_ble_eq_true rfl, Nat.le_of_ble_eq_true rfl⟩) (rk_preV X hS hP h1 rfl rfl []) rfl rfl hl.1 rfl (lv_room (Nat.le_of_ble_eq_true rfl)) dX8_goThrough_9 ⟨Nat.zero_le _, Nat.zero_le _⟩) hS (fun _ h => h) (fun r1 s2 H locs h hP hS => ?_)
  refine lv_iload_n hx hb dX8_goThrough_12 rfl (lv_at hl 3 rfl) ?_
  refine rk_callv (va_runV (As := [.ref (B + v1), .int r1, .int v3]) (rest := []) X.1 (mX8_goThroughSettings l D cy B v0 v1 r1 v3 s2 h0 h1 h) (cwV 3 hts (gW_V (wi_19 _ (List.mem_of_getElem? (i := 5) rfl)) (wi_19 _ (List.mem_of_getElem? (i := 6) rfl)) (wi_19 _ (List.mem_of_getElem? (i := 7) rfl)) (wi_18 _ (List.mem_of_getElem? (i := 10) rfl)) (wi_19 _ (List.mem_of_getElem? (i := 0) rfl))) rfl rfl rfl hd_X8_goThroughSettings ⟨Nat.le_of_ble_eq_true rfl, Nat.le_of_ble_eq_true rfl⟩) (rk_preV X hS hP h0 rfl rfl [.ref (B + v1), .int r1, .int v3]) rfl rfl hl.1 rfl (lv_room (Nat.le_of_ble_eq_true rfl)) dX8_goThrough_13 ⟨Nat.zero_le _, Nat.zero_le _⟩) hS (fun _ h => h) (fun s3 H locs h hP hS => ?_)
  exact rk_vret X kX_len h hP hS dX8_goThrough_16

theorem hd_X8_goThroughSome : yX8_goThroughSome.cls = RX8 ∧ yX8_goThroughSome.cls ≠ "java/lang/invoke/MethodHandle" ∧ yX8_goThroughSome.cls ≠ "java/lang/invoke/VarHandle" ∧ (parseMethodDescriptor yX8_goThroughSome.desc).map (fun d => d.parameters.length) = some 3 := by decide +kernel
set_option maxRecDepth 100000 in
set_option maxHeartbeats 4000000 in
theorem tX8_goThroughSome_3 {p : Program} {l : Launch} {e : Env} {s : State} {m : MethodId} {av : Array Value} {below : List Frame} {meth : Method} {c : Code} {D : va_G} {cy : Nat → ClassId} {B : Nat} (X : kC p s m av meth c cX8_goThroughSome 5 none WALL RX8 D cy (AW B 346)) {post : St → Prop} : ∀ (n : Nat) (v0 : Nat) (v1 : Nat) (v2 : Int32) (v3 : Int32) (v4 : Int32) (σ : St), kX[v0]? = some 8 → kX[v1]? = some 4 → wX8_goThroughSome_3 post n v0 v1 v2 v3 v4 σ → ∀ (H : Heap) (locs : List Loc) (ls : Array Slot), va_P D vwCl (wW cy B kX σ) H → va_S (AW B 346) s.heap H locs → lv_has ls 5 [(0, .ref (B + v0)), (1, .ref (B + v1)), (2, .int v2), (3, .int v3), (4, .int v4)] → W p l e (rmD 4) s m av below meth c H locs 0 0 (MQ below (va_Qv post (BW D cy B kX) (AW B 346)) av s 0 0 (AW B 346)) (F0 m 3 ls []) := by
  obtain ⟨⟨hx, hb, hml, hown, hts⟩, hr, hlk, hK, hN, hZ⟩ := id X
  have hD : ∀ σ, va_D (AW B 346) (wW cy B kX σ) := AW_D kX_len
  intro n
  induction n with
  | zero => intro v0 v1 v2 v3 v4 σ h0 h1 h; exact absurd h id
  | succ n ih =>
    intro v0 v1 v2 v3 v4 σ h0 h1 h H locs ls hP hS hl
    rw [wX8_goThroughSome_3] at h
    refine lv_iload hx hb dX8_goThroughSome_3 (lv_at hl 4 rfl) ?_
    refine lv_bipush (v := (6 : Int32)) hx hb dX8_goThroughSome_5 (by decide) ?_
    refine lv_icmp_ge (tgt := 24) hx hb dX8_goThroughSome_7 (by decide) (fun c1 => ?_) (fun c1 => ?_)
    · have h := h.1 c1
      refine lv_aload_n hx hb dX8_goThroughSome_24 rfl (lv_at hl 0 rfl) ?_
      refine lv_aload_n hx hb dX8_goThroughSome_25 rfl (lv_at hl 1 rfl) ?_
      refine lv_iload_n hx hb dX8_goThroughSome_26 rfl (lv_at hl 2 rfl) ?_
      refine lv_iload_n hx hb dX8_goThroughSome_27 rfl (lv_at hl 3 rfl) ?_
      refine rk_callv (va_runV (As := [.ref (B + v1), .int v2, .int v3]) (rest := []) X.1 (mX8_goThroughSettings l D cy B v0 v1 v2 v3 σ h0 h1 h) (cwV 3 hts (gW_V (wi_19 _ (List.mem_of_getElem? (i := 5) rfl)) (wi_19 _ (List.mem_of_getElem? (i := 6) rfl)) (wi_19 _ (List.mem_of_getElem? (i := 7) rfl)) (wi_18 _ (List.mem_of_getElem? (i := 10) rfl)) (wi_19 _ (List.mem_of_getElem? (i := 0) rfl))) rfl rfl rfl hd_X8_goThroughSettings ⟨Nat.le_of_ble_eq_true rfl, Nat.le_of_ble_eq_true rfl⟩) (rk_preV X hS hP h0 rfl rfl [.ref (B + v1), .int v2, .int v3]) rfl rfl hl.1 rfl (lv_room (Nat.le_of_ble_eq_true rfl)) dX8_goThroughSome_28 ⟨Nat.zero_le _, Nat.zero_le _⟩) hS (fun _ h => h) (fun s1 H locs h hP hS => ?_)
      exact rk_vret X kX_len h hP hS dX8_goThroughSome_31
    · have h := h.2 c1
      refine lv_aload_n hx hb dX8_goThroughSome_10 rfl (lv_at hl 0 rfl) ?_
      refine rk_get X hP (C := RX8) (T := TX8) (N := 6) (ci := 8) wix_8 h0 rfl rfl 2 (by decide) (wi_17 _ (List.mem_of_getElem? (i := 11) rfl)) rfl rfl dX8_goThroughSome_11 ?_
      refine lv_iload hx hb dX8_goThroughSome_14 (lv_at hl 4 rfl) ?_
      refine lv_iconst (v := (0 : Int32)) hx hb dX8_goThroughSome_16 (by decide) ?_
      obtain ⟨b1, h⟩ := h
      refine rk_iast X hP hD hS (n := 6) (klX_X8_2 h0) (fun _ _ => rfl) b1 dX8_goThroughSome_17 (fun H locs hP hS => ?_)
      obtain ⟨s2, es2⟩ : ∃ z : St, z = u1 σ (v0 + 1) v4.toNatClampNeg (0 : Int32) := ⟨_, rfl⟩
      rw [← es2] at hP
      have h := h s2 es2
      obtain ⟨x1, ex1⟩ : ∃ y : Int32, y = v4 + (1 : Int32) := ⟨_, rfl⟩
      have h := h x1 ex1
      refine lv_iinc (v := x1) (lv' := [(4, .int x1), (0, .ref (B + v0)), (1, .ref (B + v1)), (2, .int v2), (3, .int v3)]) hx hb dX8_goThroughSome_18 hl (k := 4) rfl (by rw [ex1]; rfl) (by decide) rfl (fun ls hl => ?_)
      refine lv_goto (tgt := 3) hx hb dX8_goThroughSome_21 (by decide) ?_
      exact ih _ _ _ _ _ _ h0 h1 h _ _ _ hP hS (lv_sub hl [1, 2, 3, 4, 0] rfl)
set_option maxRecDepth 100000 in
set_option maxHeartbeats 4000000 in
theorem mX8_goThroughSome (l : Launch) (D : va_G) (cy : Nat → ClassId) (B : Nat) (v0 : Nat) (v1 : Nat) (v2 : Int32) (v3 : Int32) (σ : St) (h0 : kX[v0]? = some 8) (h1 : kX[v1]? = some 4) {post : St → Prop} (h : wX8_goThroughSome v0 v1 v2 v3 σ post) : Met l yX8_goThroughSome (Cond.code yX8_goThroughSome cX8_goThroughSome 5 none :: WALL) (rmD 4) (PcW D cy B kX σ [.ref (B + v0), .ref (B + v1), .int v2, .int v3]) (va_Qv post (BW D cy B kX) (AW B 346)) 0 0 (AW B 346) := by
  refine Met.ofK (cc := cX8_goThroughSome) (maxL := 5) (ret := none) (by decide +kernel) rfl kX_len ?_
  intro p e s m below meth c X hP
  obtain ⟨⟨hx, hb, hml, hown, hts⟩, hr, hlk, hK, hN, hZ⟩ := id X
  have hD : ∀ σ, va_D (AW B 346) (wW cy B kX σ) := AW_D kX_len
  have hS : va_S (AW B 346) s.heap s.heap [] := va_S.rf
  have hl := lv_entry ([.ref (B + v0), .ref (B + v1), .int v2, .int v3]) (n := 5) (Nat.le_of_ble_eq_true rfl)
  rw [lg_entry_eq]
  generalize (lg_sl ([.ref (B + v0), .ref (B + v1), .int v2, .int v3]) ++ List.replicate (5 - (lg_sl ([.ref (B + v0), .ref (B + v1), .int v2, .int v3])).length) Slot.unset).toArray = ls at hl ⊢
  have hl : lv_has ls 5 [(0, .ref (B + v0)), (1, .ref (B + v1)), (2, .int v2), (3, .int v3)] := hl
  unfold wX8_goThroughSome at h
  refine lv_iconst (v := (0 : Int32)) hx hb dX8_goThroughSome_0 (by decide) ?_
  refine lv_istore (lv' := [(4, .int (0 : Int32)), (0, .ref (B + v0)), (1, .ref (B + v1)), (2, .int v2), (3, .int v3)]) hx hb dX8_goThroughSome_1 hl (by decide) rfl (fun ls hl => ?_)
  obtain ⟨j, h⟩ := h
  exact tX8_goThroughSome_3 X j _ _ _ _ _ _ h0 h1 h _ _ _ hP hS (lv_sub hl [1, 2, 3, 4, 0] rfl)

theorem hd_X8_goThroughAll : yX8_goThroughAll.cls = RX8 ∧ yX8_goThroughAll.cls ≠ "java/lang/invoke/MethodHandle" ∧ yX8_goThroughAll.cls ≠ "java/lang/invoke/VarHandle" ∧ (parseMethodDescriptor yX8_goThroughAll.desc).map (fun d => d.parameters.length) = some 2 := by decide +kernel
set_option maxRecDepth 100000 in
set_option maxHeartbeats 4000000 in
theorem tX8_goThroughAll_10 {p : Program} {l : Launch} {e : Env} {s : State} {m : MethodId} {av : Array Value} {below : List Frame} {meth : Method} {c : Code} {D : va_G} {cy : Nat → ClassId} {B : Nat} (X : kC p s m av meth c cX8_goThroughAll 4 none WALL RX8 D cy (AW B 346)) {post : St → Prop} : ∀ (n : Nat) (v0 : Nat) (v1 : Nat) (v2 : Int32) (v3 : Int32) (σ : St), kX[v0]? = some 8 → kX[v1]? = some 4 → wX8_goThroughAll_10 post n v0 v1 v2 v3 σ → ∀ (H : Heap) (locs : List Loc) (ls : Array Slot), va_P D vwCl (wW cy B kX σ) H → va_S (AW B 346) s.heap H locs → lv_has ls 4 [(0, .ref (B + v0)), (1, .ref (B + v1)), (2, .int v2), (3, .int v3)] → W p l e (rmD 5) s m av below meth c H locs 0 0 (MQ below (va_Qv post (BW D cy B kX) (AW B 346)) av s 0 0 (AW B 346)) (F0 m 10 ls []) := by
  obtain ⟨⟨hx, hb, hml, hown, hts⟩, hr, hlk, hK, hN, hZ⟩ := id X
  have hD : ∀ σ, va_D (AW B 346) (wW cy B kX σ) := AW_D kX_len
  intro n
  induction n with
  | zero => intro v0 v1 v2 v3 σ h0 h1 h; exact absurd h id
  | succ n ih =>
    intro v0 v1 v2 v3 σ h0 h1 h H locs ls hP hS hl
    rw [wX8_goThroughAll_10] at h
    refine lv_iload_n hx hb dX8_goThroughAll_10 rfl (lv_at hl 3 rfl) ?_
    refine lv_iconst (v := (4 : Int32)) hx hb dX8_goThroughAll_11 (by decide) ?_
    refine lv_aload_n hx hb dX8_goThroughAll_12 rfl (lv_at hl 1 rfl) ?_
    refine rk_get X hP (C := RX4) (T := TX4) (N := 4) (ci := 4) wix_4 h1 rfl rfl 0 (by decide) (wi_17 _ (List.mem_of_getElem? (i := 19) rfl)) rfl rfl dX8_goThroughAll_13 ?_
    refine lv_imul hx hb dX8_goThroughAll_16 ?_
    refine lv_icmp_ge (tgt := 52) hx hb dX8_goThroughAll_17 (by decide) (fun c1 => ?_) (fun c1 => ?_)
    · have h := h.1 c1
      refine lv_aload_n hx hb dX8_goThroughAll_52 rfl (lv_at hl 0 rfl) ?_
      refine lv_aload_n hx hb dX8_goThroughAll_53 rfl (lv_at hl 0 rfl) ?_
      refine rk_get X hP (C := RX8) (T := TX8) (N := 6) (ci := 8) wix_8 h0 rfl rfl 5 (by decide) (wi_17 _ (List.mem_of_getElem? (i := 15) rfl)) rfl rfl dX8_goThroughAll_54 ?_
      refine lv_aload_n hx hb dX8_goThroughAll_57 rfl (lv_at hl 0 rfl) ?_
      refine rk_get X hP (C := RX8) (T := TX8) (N := 6) (ci := 8) wix_8 h0 rfl rfl 5 (by decide) (wi_17 _ (List.mem_of_getElem? (i := 15) rfl)) rfl rfl dX8_goThroughAll_58 ?_
      refine rk_calli (va_runV (As := []) (rest := [.ref (B + (v0 + 3)), .ref (B + v0)]) X.1 (mX4_allNodes l D cy B (v0 + 3) σ (klX_X8_5 h0) h) (cwV 0 hts (gW_V (wi_19 _ (List.mem_of_getElem? (i := 4) rfl)) (wi_6 _ (List.mem_of_getElem? (i := 16) rfl)) (wi_6 _ (List.mem_of_getElem? (i := 17) rfl)) (wi_0 _ (List.mem_of_getElem? (i := 23) rfl)) (wi_5 _ (List.mem_of_getElem? (i := 6) rfl))) rfl rfl rfl hd_X4_allNodes ⟨Nat.le_of_ble_eq_true rfl, Nat.le_of_ble_eq_true rfl⟩) (rk_preV X hS hP (klX_X8_5 h0) rfl rfl []) rfl rfl hl.1 rfl (lv_room (Nat.le_of_ble_eq_true rfl)) dX8_goThroughAll_61 ⟨Nat.zero_le _, Nat.zero_le _⟩) hS (fun _ h => h) (fun r1 s1 H locs h hP hS => ?_)
      refine lv_iload_n hx hb dX8_goThroughAll_64 rfl (lv_at hl 2 rfl) ?_
      refine rk_callv (va_runV (As := [.ref (B + (v0 + 3)), .int r1, .int v2]) (rest := []) X.1 (mX8_goThroughSome l D cy B v0 (v0 + 3) r1 v2 s1 h0 (klX_X8_5 h0) h) (cwV 3 hts (gW_V (wi_19 _ (List.mem_of_getElem? (i := 15) rfl)) (wi_19 _ (List.mem_of_getElem? (i := 16) rfl)) (wi_19 _ (List.mem_of_getElem? (i := 17) rfl)) (wi_18 _ (List.mem_of_getElem? (i := 10) rfl)) (wi_19 _ (List.mem_of_getElem? (i := 9) rfl))) rfl rfl rfl hd_X8_goThroughSome ⟨Nat.le_of_ble_eq_true rfl, Nat.le_of_ble_eq_true rfl⟩) (rk_preV X hS hP h0 rfl rfl [.ref (B + (v0 + 3)), .int r1, .int v2]) rfl rfl hl.1 rfl (lv_room (Nat.le_of_ble_eq_true rfl)) dX8_goThroughAll_65 ⟨Nat.zero_le _, Nat.zero_le _⟩) hS (fun _ h => h) (fun s2 H locs h hP hS => ?_)
      exact rk_vret X kX_len h hP hS dX8_goThroughAll_68
    · have h := h.2 c1
      refine lv_aload_n hx hb dX8_goThroughAll_20 rfl (lv_at hl 1 rfl) ?_
      refine lv_iload_n hx hb dX8_goThroughAll_21 rfl (lv_at hl 3 rfl) ?_
      refine rk_callz (va_runV (As := [.int v3]) (rest := []) X.1 (mX4_isOpen l D cy B v1 v3 σ h1 h) (cwV 1 hts (gW_V (wi_19 _ (List.mem_of_getElem? (i := 11) rfl)) (wi_5 _ (List.mem_of_getElem? (i := 17) rfl)) (wi_5 _ (List.mem_of_getElem? (i := 18) rfl)) (wi_0 _ (List.mem_of_getElem? (i := 23) rfl)) (wi_5 _ (List.mem_of_getElem? (i := 8) rfl))) rfl rfl rfl hd_X4_isOpen ⟨Nat.le_of_ble_eq_true rfl, Nat.le_of_ble_eq_true rfl⟩) (rk_preV X hS hP h1 rfl rfl [.int v3]) rfl rfl hl.1 rfl (lv_room (Nat.le_of_ble_eq_true rfl)) dX8_goThroughAll_22 ⟨Nat.zero_le _, Nat.zero_le _⟩) hS (fun _ h => h) (fun r2 s3 H locs h hP hS => ?_)
      refine lv_if_eq (tgt := 46) hx hb dX8_goThroughAll_25 (by decide) (fun c2 => ?_) (fun c2 => ?_)
      · have h := h.1 (b2i_f c2)
        obtain ⟨x1, ex1⟩ : ∃ y : Int32, y = v3 + (1 : Int32) := ⟨_, rfl⟩
        have h := h x1 ex1
        refine lv_iinc (v := x1) (lv' := [(3, .int x1), (0, .ref (B + v0)), (1, .ref (B + v1)), (2, .int v2)]) hx hb dX8_goThroughAll_46 hl (k := 3) rfl (by rw [ex1]; rfl) (by decide) rfl (fun ls hl => ?_)
        refine lv_goto (tgt := 10) hx hb dX8_goThroughAll_49 (by decide) ?_
        exact ih _ _ _ _ _ h0 h1 h _ _ _ hP hS (lv_sub hl [1, 2, 3, 0] rfl)
      · have h := h.2 (b2i_t c2)
        refine lv_aload_n hx hb dX8_goThroughAll_28 rfl (lv_at hl 0 rfl) ?_
        refine rk_get X hP (C := RX8) (T := TX8) (N := 6) (ci := 8) wix_8 h0 rfl rfl 5 (by decide) (wi_17 _ (List.mem_of_getElem? (i := 15) rfl)) rfl rfl dX8_goThroughAll_29 ?_
        refine rk_get X hP (C := RX4) (T := TX4) (N := 4) (ci := 4) wix_4 (klX_X8_5 h0) rfl rfl 2 (by decide) (wi_17 _ (List.mem_of_getElem? (i := 20) rfl)) rfl rfl dX8_goThroughAll_32 ?_
        refine lv_iload_n hx hb dX8_goThroughAll_35 rfl (lv_at hl 3 rfl) ?_
        refine lv_iconst (v := (4 : Int32)) hx hb dX8_goThroughAll_36 (by decide) ?_
        refine lv_idiv hx hb dX8_goThroughAll_37 (by decide) ?_
        refine lv_topi (fun x2 ex2 => ?_)
        have h := h x2 ex2
        obtain ⟨b1, h⟩ := h
        refine rk_aald X hP (C := RX7) (n := 6) (t0 := 6) (d := 2) (r := 2) (klX_X4_2 (klX_X8_5 h0)) (fun _ _ => rfl) rfl b1 dX8_goThroughAll_38 ?_
        refine lv_iload_n hx hb dX8_goThroughAll_39 rfl (lv_at hl 3 rfl) ?_
        refine lv_iconst (v := (4 : Int32)) hx hb dX8_goThroughAll_40 (by decide) ?_
        refine lv_irem hx hb dX8_goThroughAll_41 (by decide) ?_
        refine lv_iload_n hx hb dX8_goThroughAll_42 rfl (lv_at hl 2 rfl) ?_
        refine rk_callv (va_runV (As := [.int (v3 - v3 / (4 : Int32) * (4 : Int32)), .int v2]) (rest := []) X.1 (mX7_foldLeg l D cy B (((v0 + 3) + 1) + 2 + 2 * x2.toNatClampNeg) (v3 - v3 / (4 : Int32) * (4 : Int32)) v2 s3 (klX_14 (klX_X4_2 (klX_X8_5 h0)) (vp_lt b1)) h) (cwV 2 hts (gW_V (wi_19 _ (List.mem_of_getElem? (i := 12) rfl)) (wi_19 _ (List.mem_of_getElem? (i := 13) rfl)) (wi_19 _ (List.mem_of_getElem? (i := 14) rfl)) (wi_0 _ (List.mem_of_getElem? (i := 15) rfl)) (wi_17 _ (List.mem_of_getElem? (i := 7) rfl))) rfl rfl rfl hd_X7_foldLeg ⟨Nat.le_of_ble_eq_true rfl, Nat.le_of_ble_eq_true rfl⟩) (rk_preV X hS hP (klX_14 (klX_X4_2 (klX_X8_5 h0)) (vp_lt b1)) rfl rfl [.int (v3 - v3 / (4 : Int32) * (4 : Int32)), .int v2]) rfl rfl hl.1 rfl (lv_room (Nat.le_of_ble_eq_true rfl)) dX8_goThroughAll_43 ⟨Nat.zero_le _, Nat.zero_le _⟩) hS (fun _ h => h) (fun s4 H locs h hP hS => ?_)
        obtain ⟨x3, ex3⟩ : ∃ y : Int32, y = v3 + (1 : Int32) := ⟨_, rfl⟩
        have h := h x3 ex3
        refine lv_iinc (v := x3) (lv' := [(3, .int x3), (0, .ref (B + v0)), (1, .ref (B + v1)), (2, .int v2)]) hx hb dX8_goThroughAll_46 hl (k := 3) rfl (by rw [ex3]; rfl) (by decide) rfl (fun ls hl => ?_)
        refine lv_goto (tgt := 10) hx hb dX8_goThroughAll_49 (by decide) ?_
        exact ih _ _ _ _ _ h0 h1 h _ _ _ hP hS (lv_sub hl [1, 2, 3, 0] rfl)
set_option maxRecDepth 100000 in
set_option maxHeartbeats 4000000 in
theorem mX8_goThroughAll (l : Launch) (D : va_G) (cy : Nat → ClassId) (B : Nat) (v0 : Nat) (v1 : Nat) (v2 : Int32) (σ : St) (h0 : kX[v0]? = some 8) (h1 : kX[v1]? = some 4) {post : St → Prop} (h : wX8_goThroughAll v0 v1 v2 σ post) : Met l yX8_goThroughAll (Cond.code yX8_goThroughAll cX8_goThroughAll 4 none :: WALL) (rmD 5) (PcW D cy B kX σ [.ref (B + v0), .ref (B + v1), .int v2]) (va_Qv post (BW D cy B kX) (AW B 346)) 0 0 (AW B 346) := by
  refine Met.ofK (cc := cX8_goThroughAll) (maxL := 4) (ret := none) (by decide +kernel) rfl kX_len ?_
  intro p e s m below meth c X hP
  obtain ⟨⟨hx, hb, hml, hown, hts⟩, hr, hlk, hK, hN, hZ⟩ := id X
  have hD : ∀ σ, va_D (AW B 346) (wW cy B kX σ) := AW_D kX_len
  have hS : va_S (AW B 346) s.heap s.heap [] := va_S.rf
  have hl := lv_entry ([.ref (B + v0), .ref (B + v1), .int v2]) (n := 4) (Nat.le_of_ble_eq_true rfl)
  rw [lg_entry_eq]
  generalize (lg_sl ([.ref (B + v0), .ref (B + v1), .int v2]) ++ List.replicate (4 - (lg_sl ([.ref (B + v0), .ref (B + v1), .int v2])).length) Slot.unset).toArray = ls at hl ⊢
  have hl : lv_has ls 4 [(0, .ref (B + v0)), (1, .ref (B + v1)), (2, .int v2)] := hl
  unfold wX8_goThroughAll at h
  refine lv_aload_n hx hb dX8_goThroughAll_0 rfl (lv_at hl 0 rfl) ?_
  refine rk_get X hP (C := RX8) (T := TX8) (N := 6) (ci := 8) wix_8 h0 rfl rfl 5 (by decide) (wi_17 _ (List.mem_of_getElem? (i := 15) rfl)) rfl rfl dX8_goThroughAll_1 ?_
  refine lv_aload_n hx hb dX8_goThroughAll_4 rfl (lv_at hl 1 rfl) ?_
  refine rk_callv (va_runV (As := [.ref (B + v1)]) (rest := []) X.1 (mX4_copyFrom l D cy B (v0 + 3) v1 σ (klX_X8_5 h0) h1 h) (cwV 1 hts (gW_V (wi_19 _ (List.mem_of_getElem? (i := 10) rfl)) (wi_1 _ (List.mem_of_getElem? (i := 16) rfl)) (wi_1 _ (List.mem_of_getElem? (i := 17) rfl)) (wi_0 _ (List.mem_of_getElem? (i := 23) rfl)) (wi_1 _ (List.mem_of_getElem? (i := 9) rfl))) rfl rfl rfl hd_X4_copyFrom ⟨Nat.le_of_ble_eq_true rfl, Nat.le_of_ble_eq_true rfl⟩) (rk_preV X hS hP (klX_X8_5 h0) rfl rfl [.ref (B + v1)]) rfl rfl hl.1 rfl (lv_room (Nat.le_of_ble_eq_true rfl)) dX8_goThroughAll_5 ⟨Nat.zero_le _, Nat.zero_le _⟩) hS (fun _ h => h) (fun s1 H locs h hP hS => ?_)
  refine lv_iconst (v := (0 : Int32)) hx hb dX8_goThroughAll_8 (by decide) ?_
  refine lv_istore_n (lv' := [(3, .int (0 : Int32)), (0, .ref (B + v0)), (1, .ref (B + v1)), (2, .int v2)]) hx hb dX8_goThroughAll_9 rfl hl (by decide) rfl (fun ls hl => ?_)
  obtain ⟨j, h⟩ := h
  exact tX8_goThroughAll_10 X j _ _ _ _ _ h0 h1 h _ _ _ hP hS (lv_sub hl [1, 2, 3, 0] rfl)
