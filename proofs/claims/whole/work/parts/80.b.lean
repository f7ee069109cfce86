theorem hd_X4_copyFrom : yX4_copyFrom.cls = RX4 ∧ yX4_copyFrom.cls ≠ "java/lang/invoke/MethodHandle" ∧ yX4_copyFrom.cls ≠ "java/lang/invoke/VarHandle" ∧ (parseMethodDescriptor yX4_copyFrom.desc).map (fun d => d.parameters.length) = some 1 := by decide +kernel
set_option maxRecDepth 100000 in
set_option maxHeartbeats 4000000 in
theorem tX4_copyFrom_18 {p : Program} {l : Launch} {e : Env} {s : State} {m : MethodId} {av : Array Value} {below : List Frame} {meth : Method} {c : Code} {D : va_G} {cy : Nat → ClassId} {B : Nat} (X : kC p s m av meth c cX4_copyFrom 3 none WALL RX4 D cy (AW B 346)) {post : St → Prop} : ∀ (n : Nat) (v0 : Nat) (v1 : Nat) (v2 : Int32) (σ : St), kX[v0]? = some 4 → kX[v1]? = some 4 → wX4_copyFrom_18 post n v0 v1 v2 σ → ∀ (H : Heap) (locs : List Loc) (ls : Array Slot), va_P D vwCl (wW cy B kX σ) H → va_S (AW B 346) s.heap H locs → lv_has ls 3 [(0, .ref (B + v0)), (1, .ref (B + v1)), (2, .int v2)] → W p l e (rmD 3) s m av below meth c H locs 0 0 (MQ below (va_Qv post (BW D cy B kX) (AW B 346)) av s 0 0 (AW B 346)) (F0 m 18 ls []) := by
  obtain ⟨⟨hx, hb, hml, hown, hts⟩, hr, hlk, hK, hN, hZ⟩ := id X
  have hD : ∀ σ, va_D (AW B 346) (wW cy B kX σ) := AW_D kX_len
  intro n
  induction n with
  | zero => intro v0 v1 v2 σ h0 h1 h; exact absurd h id
  | succ n ih =>
    intro v0 v1 v2 σ h0 h1 h H locs ls hP hS hl
    rw [wX4_copyFrom_18] at h
    refine lv_iload_n hx hb dX4_copyFrom_18 rfl (lv_at hl 2 rfl) ?_
    refine lv_aload_n hx hb dX4_copyFrom_19 rfl (lv_at hl 0 rfl) ?_
    refine rk_get X hP (C := RX4) (T := TX4) (N := 4) (ci := 4) wix_4 h0 rfl rfl 0 (by decide) (wi_0 _ (List.mem_of_getElem? (i := 9) rfl)) rfl rfl dX4_copyFrom_20 ?_
    refine lv_icmp_ge (tgt := 47) hx hb dX4_copyFrom_23 (by decide) (fun c1 => ?_) (fun c1 => ?_)
    · have h := h.1 c1
      refine lv_aload_n hx hb dX4_copyFrom_47 rfl (lv_at hl 1 rfl) ?_
      refine rk_get X hP (C := RX4) (T := TX4) (N := 4) (ci := 4) wix_4 h1 rfl rfl 3 (by decide) (wi_0 _ (List.mem_of_getElem? (i := 13) rfl)) rfl rfl dX4_copyFrom_48 ?_
      refine lv_iconst (v := (0 : Int32)) hx hb dX4_copyFrom_51 (by decide) ?_
      refine lv_aload_n hx hb dX4_copyFrom_52 rfl (lv_at hl 0 rfl) ?_
      refine rk_get X hP (C := RX4) (T := TX4) (N := 4) (ci := 4) wix_4 h0 rfl rfl 3 (by decide) (wi_0 _ (List.mem_of_getElem? (i := 13) rfl)) rfl rfl dX4_copyFrom_53 ?_
      refine lv_iconst (v := (0 : Int32)) hx hb dX4_copyFrom_56 (by decide) ?_
      refine lv_bipush (v := (20 : Int32)) hx hb dX4_copyFrom_57 (by decide) ?_
      have b1 : (¬ (0 : Int32) < 0) ∧ (¬ (0 : Int32) < 0) ∧ (¬ (20 : Int32) < 0) ∧ (0 : Int32).toNatClampNeg + (20 : Int32).toNatClampNeg ≤ 20 ∧ (0 : Int32).toNatClampNeg + (20 : Int32).toNatClampNeg ≤ 20 := by decide
      refine rk_copyi X hl.1 hP hD hS (wi_1 _ (List.mem_of_getElem? (i := 10) rfl)) (wi_1 _ (List.mem_of_getElem? (i := 6) rfl)) (wi_1 _ (List.mem_of_getElem? (i := 7) rfl)) (wi_1 _ (List.mem_of_getElem? (i := 8) rfl)) (n0 := 20) (n1 := 20) (klX_X4_3 h1) (fun _ _ => rfl) (klX_X4_3 h0) (fun _ _ => rfl) b1 (Nat.le_of_ble_eq_true rfl) (Nat.le_of_ble_eq_true rfl) dX4_copyFrom_59 (fun H locs hP hS => ?_)
      obtain ⟨s1, es1⟩ : ∃ z : St, z = r1 σ (v0 + 2) (va_cpy (σ.1 (v1 + 2)) (σ.1 (v0 + 2)) (0 : Int32).toNatClampNeg (0 : Int32).toNatClampNeg (20 : Int32).toNatClampNeg) := ⟨_, rfl⟩
      rw [← es1] at hP
      have h := h s1 es1
      exact rk_vret X kX_len h hP hS dX4_copyFrom_62
    · have h := h.2 c1
      refine lv_aload_n hx hb dX4_copyFrom_26 rfl (lv_at hl 0 rfl) ?_
      refine rk_get X hP (C := RX4) (T := TX4) (N := 4) (ci := 4) wix_4 h0 rfl rfl 2 (by decide) (wi_0 _ (List.mem_of_getElem? (i := 12) rfl)) rfl rfl dX4_copyFrom_27 ?_
      refine lv_iload_n hx hb dX4_copyFrom_30 rfl (lv_at hl 2 rfl) ?_
      obtain ⟨b2, h⟩ := h
      refine rk_aald X hP (C := RX7) (n := 6) (t0 := 6) (d := 2) (r := 2) (klX_X4_2 h0) (fun _ _ => rfl) rfl b2 dX4_copyFrom_31 ?_
      refine lv_aload_n hx hb dX4_copyFrom_32 rfl (lv_at hl 1 rfl) ?_
      refine rk_get X hP (C := RX4) (T := TX4) (N := 4) (ci := 4) wix_4 h1 rfl rfl 2 (by decide) (wi_0 _ (List.mem_of_getElem? (i := 12) rfl)) rfl rfl dX4_copyFrom_33 ?_
      refine lv_iload_n hx hb dX4_copyFrom_36 rfl (lv_at hl 2 rfl) ?_
      obtain ⟨b3, h⟩ := h
      refine rk_aald X hP (C := RX7) (n := 6) (t0 := 6) (d := 2) (r := 2) (klX_X4_2 h1) (fun _ _ => rfl) rfl b3 dX4_copyFrom_37 ?_
      refine rk_callv (va_runV (As := [.ref (B + ((v1 + 1) + 2 + 2 * v2.toNatClampNeg))]) (rest := []) X.1 (mX7_copyFrom l D cy B ((v0 + 1) + 2 + 2 * v2.toNatClampNeg) ((v1 + 1) + 2 + 2 * v2.toNatClampNeg) σ (klX_14 (klX_X4_2 h0) (vp_lt b2)) (klX_14 (klX_X4_2 h1) (vp_lt b3)) h) (cwV 1 hts (gW_V (wi_1 _ (List.mem_of_getElem? (i := 11) rfl)) (wi_1 _ (List.mem_of_getElem? (i := 12) rfl)) (wi_1 _ (List.mem_of_getElem? (i := 13) rfl)) (wi_0 _ (List.mem_of_getElem? (i := 15) rfl)) (wi_1 _ (List.mem_of_getElem? (i := 4) rfl))) rfl rfl rfl hd_X7_copyFrom ⟨Nat.le_of_ble_eq_true rfl, Nat.le_of_ble_eq_true rfl⟩) (rk_preV X hS hP (klX_14 (klX_X4_2 h0) (vp_lt b2)) rfl rfl [.ref (B + ((v1 + 1) + 2 + 2 * v2.toNatClampNeg))]) rfl rfl hl.1 rfl (lv_room (Nat.le_of_ble_eq_true rfl)) dX4_copyFrom_38 ⟨Nat.zero_le _, Nat.zero_le _⟩) hS (fun _ h => h) (fun s2 H locs h hP hS => ?_)
      obtain ⟨x1, ex1⟩ : ∃ y : Int32, y = v2 + (1 : Int32) := ⟨_, rfl⟩
      have h := h x1 ex1
      refine lv_iinc (v := x1) (lv' := [(2, .int x1), (0, .ref (B + v0)), (1, .ref (B + v1))]) hx hb dX4_copyFrom_41 hl (k := 2) rfl (by rw [ex1]; rfl) (by decide) rfl (fun ls hl => ?_)
      refine lv_goto (tgt := 18) hx hb dX4_copyFrom_44 (by decide) ?_
      exact ih _ _ _ _ h0 h1 h _ _ _ hP hS (lv_sub hl [1, 2, 0] rfl)
set_option maxRecDepth 100000 in
set_option maxHeartbeats 4000000 in
theorem mX4_copyFrom (l : Launch) (D : va_G) (cy : Nat → ClassId) (B : Nat) (v0 : Nat) (v1 : Nat) (σ : St) (h0 : kX[v0]? = some 4) (h1 : kX[v1]? = some 4) {post : St → Prop} (h : wX4_copyFrom v0 v1 σ post) : Met l yX4_copyFrom (Cond.code yX4_copyFrom cX4_copyFrom 3 none :: WALL) (rmD 3) (PcW D cy B kX σ [.ref (B + v0), .ref (B + v1)]) (va_Qv post (BW D cy B kX) (AW B 346)) 0 0 (AW B 346) := by
  refine Met.ofK (cc := cX4_copyFrom) (maxL := 3) (ret := none) (by decide +kernel) rfl kX_len ?_
  intro p e s m below meth c X hP
  obtain ⟨⟨hx, hb, hml, hown, hts⟩, hr, hlk, hK, hN, hZ⟩ := id X
  have hD : ∀ σ, va_D (AW B 346) (wW cy B kX σ) := AW_D kX_len
  have hS : va_S (AW B 346) s.heap s.heap [] := va_S.rf
  have hl := lv_entry ([.ref (B + v0), .ref (B + v1)]) (n := 3) (Nat.le_of_ble_eq_true rfl)
  rw [lg_entry_eq]
  generalize (lg_sl ([.ref (B + v0), .ref (B + v1)]) ++ List.replicate (3 - (lg_sl ([.ref (B + v0), .ref (B + v1)])).length) Slot.unset).toArray = ls at hl ⊢
  have hl : lv_has ls 3 [(0, .ref (B + v0)), (1, .ref (B + v1))] := hl
  unfold wX4_copyFrom at h
  refine lv_aload_n hx hb dX4_copyFrom_0 rfl (lv_at hl 0 rfl) ?_
  refine lv_aload_n hx hb dX4_copyFrom_1 rfl (lv_at hl 1 rfl) ?_
  refine rk_get X hP (C := RX4) (T := TX4) (N := 4) (ci := 4) wix_4 h1 rfl rfl 0 (by decide) (wi_0 _ (List.mem_of_getElem? (i := 9) rfl)) rfl rfl dX4_copyFrom_2 ?_
  refine rk_puti X hP hD hS (C := RX4) (T := TX4) (N := 4) (ci := 4) wix_4 h0 rfl rfl tyX4 tyX4_ok nmX4 0 (by decide) (wi_0 _ (List.mem_of_getElem? (i := 9) rfl)) rfl rfl (by decide +kernel) (Nat.le_of_ble_eq_true rfl) rfl dX4_copyFrom_5 (fun H locs hP hS => ?_)
  obtain ⟨s1, es1⟩ : ∃ z : St, z = u1 σ v0 0 (σ.1 v1 0) := ⟨_, rfl⟩
  rw [← es1] at hP
  have h := h s1 es1
  refine lv_aload_n hx hb dX4_copyFrom_8 rfl (lv_at hl 0 rfl) ?_
  refine lv_aload_n hx hb dX4_copyFrom_9 rfl (lv_at hl 1 rfl) ?_
  refine rk_get X hP (C := RX4) (T := TX4) (N := 4) (ci := 4) wix_4 h1 rfl rfl 1 (by decide) (wi_0 _ (List.mem_of_getElem? (i := 10) rfl)) rfl rfl dX4_copyFrom_10 ?_
  refine rk_puti X hP hD hS (C := RX4) (T := TX4) (N := 4) (ci := 4) wix_4 h0 rfl rfl tyX4 tyX4_ok nmX4 1 (by decide) (wi_0 _ (List.mem_of_getElem? (i := 10) rfl)) rfl rfl (by decide +kernel) (Nat.le_of_ble_eq_true rfl) rfl dX4_copyFrom_13 (fun H locs hP hS => ?_)
  obtain ⟨s2, es2⟩ : ∃ z : St, z = u1 s1 v0 1 (s1.1 v1 1) := ⟨_, rfl⟩
  rw [← es2] at hP
  have h := h s2 es2
  refine lv_iconst (v := (0 : Int32)) hx hb dX4_copyFrom_16 (by decide) ?_
  refine lv_istore_n (lv' := [(2, .int (0 : Int32)), (0, .ref (B + v0)), (1, .ref (B + v1))]) hx hb dX4_copyFrom_17 rfl hl (by decide) rfl (fun ls hl => ?_)
  obtain ⟨j, h⟩ := h
  exact tX4_copyFrom_18 X j _ _ _ _ h0 h1 h _ _ _ hP hS (lv_sub hl [1, 2, 0] rfl)

theorem hd_X4_hasNode : yX4_hasNode.cls = RX4 ∧ yX4_hasNode.cls ≠ "java/lang/invoke/MethodHandle" ∧ yX4_hasNode.cls ≠ "java/lang/invoke/VarHandle" ∧ (parseMethodDescriptor yX4_hasNode.desc).map (fun d => d.parameters.length) = some 1 := by decide +kernel
set_option maxRecDepth 100000 in
set_option maxHeartbeats 4000000 in
theorem mX4_hasNode (l : Launch) (D : va_G) (cy : Nat → ClassId) (B : Nat) (v0 : Nat) (v1 : Int32) (σ : St) (h0 : kX[v0]? = some 4) {post : Bool → St → Prop} (h : wX4_hasNode v0 v1 σ post) : Met l yX4_hasNode (Cond.code yX4_hasNode cX4_hasNode 2 (some .boolean) :: WALL) (rmD 0) (PcW D cy B kX σ [.ref (B + v0), .int v1]) (Qz post D cy B kX 346) 0 0 (AW B 346) := by
  refine Met.ofK (cc := cX4_hasNode) (maxL := 2) (ret := (some .boolean)) (by decide +kernel) rfl kX_len ?_
  intro p e s m below meth c X hP
  obtain ⟨⟨hx, hb, hml, hown, hts⟩, hr, hlk, hK, hN, hZ⟩ := id X
  have hD : ∀ σ, va_D (AW B 346) (wW cy B kX σ) := AW_D kX_len
  have hS : va_S (AW B 346) s.heap s.heap [] := va_S.rf
  have hl := lv_entry ([.ref (B + v0), .int v1]) (n := 2) (Nat.le_of_ble_eq_true rfl)
  rw [lg_entry_eq]
  generalize (lg_sl ([.ref (B + v0), .int v1]) ++ List.replicate (2 - (lg_sl ([.ref (B + v0), .int v1])).length) Slot.unset).toArray = ls at hl ⊢
  have hl : lv_has ls 2 [(0, .ref (B + v0)), (1, .int v1)] := hl
  unfold wX4_hasNode at h
  refine lv_iload_n hx hb dX4_hasNode_0 rfl (lv_at hl 1 rfl) ?_
  refine lv_if_lt (tgt := 16) hx hb dX4_hasNode_1 (by decide) (fun c1 => ?_) (fun c1 => ?_)
  · have h := h.1 c1
    refine lv_iconst (v := (0 : Int32)) hx hb dX4_hasNode_16 (by decide) ?_
    exact rk_zret X kX_len false h hP hS dX4_hasNode_17
  · have h := h.2 c1
    refine lv_iload_n hx hb dX4_hasNode_4 rfl (lv_at hl 1 rfl) ?_
    refine lv_aload_n hx hb dX4_hasNode_5 rfl (lv_at hl 0 rfl) ?_
    refine rk_get X hP (C := RX4) (T := TX4) (N := 4) (ci := 4) wix_4 h0 rfl rfl 0 (by decide) (wi_0 _ (List.mem_of_getElem? (i := 9) rfl)) rfl rfl dX4_hasNode_6 ?_
    refine lv_icmp_ge (tgt := 16) hx hb dX4_hasNode_9 (by decide) (fun c2 => ?_) (fun c2 => ?_)
    · have h := h.1 c2
      refine lv_iconst (v := (0 : Int32)) hx hb dX4_hasNode_16 (by decide) ?_
      exact rk_zret X kX_len false h hP hS dX4_hasNode_17
    · have h := h.2 c2
      refine lv_iconst (v := (1 : Int32)) hx hb dX4_hasNode_12 (by decide) ?_
      refine lv_goto (tgt := 17) hx hb dX4_hasNode_13 (by decide) ?_
      exact rk_zret X kX_len true h hP hS dX4_hasNode_17

theorem hd_X4_hasLeg : yX4_hasLeg.cls = RX4 ∧ yX4_hasLeg.cls ≠ "java/lang/invoke/MethodHandle" ∧ yX4_hasLeg.cls ≠ "java/lang/invoke/VarHandle" ∧ (parseMethodDescriptor yX4_hasLeg.desc).map (fun d => d.parameters.length) = some 2 := by decide +kernel
set_option maxRecDepth 100000 in
set_option maxHeartbeats 4000000 in
theorem mX4_hasLeg (l : Launch) (D : va_G) (cy : Nat → ClassId) (B : Nat) (v0 : Nat) (v1 : Int32) (v2 : Int32) (σ : St) (h0 : kX[v0]? = some 4) {post : Bool → St → Prop} (h : wX4_hasLeg v0 v1 v2 σ post) : Met l yX4_hasLeg (Cond.code yX4_hasLeg cX4_hasLeg 3 (some .boolean) :: WALL) (rmD 1) (PcW D cy B kX σ [.ref (B + v0), .int v1, .int v2]) (Qz post D cy B kX 346) 0 0 (AW B 346) := by
  refine Met.ofK (cc := cX4_hasLeg) (maxL := 3) (ret := (some .boolean)) (by decide +kernel) rfl kX_len ?_
  intro p e s m below meth c X hP
  obtain ⟨⟨hx, hb, hml, hown, hts⟩, hr, hlk, hK, hN, hZ⟩ := id X
  have hD : ∀ σ, va_D (AW B 346) (wW cy B kX σ) := AW_D kX_len
  have hS : va_S (AW B 346) s.heap s.heap [] := va_S.rf
  have hl := lv_entry ([.ref (B + v0), .int v1, .int v2]) (n := 3) (Nat.le_of_ble_eq_true rfl)
  rw [lg_entry_eq]
  generalize (lg_sl ([.ref (B + v0), .int v1, .int v2]) ++ List.replicate (3 - (lg_sl ([.ref (B + v0), .int v1, .int v2])).length) Slot.unset).toArray = ls at hl ⊢
  have hl : lv_has ls 3 [(0, .ref (B + v0)), (1, .int v1), (2, .int v2)] := hl
  unfold wX4_hasLeg at h
  refine lv_aload_n hx hb dX4_hasLeg_0 rfl (lv_at hl 0 rfl) ?_
  refine lv_iload_n hx hb dX4_hasLeg_1 rfl (lv_at hl 1 rfl) ?_
  refine rk_callz (va_runV (As := [.int v1]) (rest := []) X.1 (mX4_hasNode l D cy B v0 v1 σ h0 h) (cwV 1 hts (gW_V (wi_5 _ (List.mem_of_getElem? (i := 1) rfl)) (wi_5 _ (List.mem_of_getElem? (i := 2) rfl)) (wi_5 _ (List.mem_of_getElem? (i := 3) rfl)) (wi_0 _ (List.mem_of_getElem? (i := 23) rfl)) (wi_4 _ (List.mem_of_getElem? (i := 22) rfl))) rfl rfl rfl hd_X4_hasNode ⟨Nat.le_of_ble_eq_true rfl, Nat.le_of_ble_eq_true rfl⟩) (rk_preV X hS hP h0 rfl rfl [.int v1]) rfl rfl hl.1 rfl (lv_room (Nat.le_of_ble_eq_true rfl)) dX4_hasLeg_2 ⟨Nat.zero_le _, Nat.zero_le _⟩) hS (fun _ h => h) (fun r1 s1 H locs h hP hS => ?_)
  refine lv_if_eq (tgt := 29) hx hb dX4_hasLeg_5 (by decide) (fun c1 => ?_) (fun c1 => ?_)
  · have h := h.1 (b2i_f c1)
    refine lv_iconst (v := (0 : Int32)) hx hb dX4_hasLeg_29 (by decide) ?_
    exact rk_zret X kX_len false h hP hS dX4_hasLeg_30
  · have h := h.2 (b2i_t c1)
    refine lv_iload_n hx hb dX4_hasLeg_8 rfl (lv_at hl 2 rfl) ?_
    refine lv_if_lt (tgt := 29) hx hb dX4_hasLeg_9 (by decide) (fun c2 => ?_) (fun c2 => ?_)
    · have h := h.1 c2
      refine lv_iconst (v := (0 : Int32)) hx hb dX4_hasLeg_29 (by decide) ?_
      exact rk_zret X kX_len false h hP hS dX4_hasLeg_30
    · have h := h.2 c2
      refine lv_iload_n hx hb dX4_hasLeg_12 rfl (lv_at hl 2 rfl) ?_
      refine lv_aload_n hx hb dX4_hasLeg_13 rfl (lv_at hl 0 rfl) ?_
      refine rk_get X hP (C := RX4) (T := TX4) (N := 4) (ci := 4) wix_4 h0 rfl rfl 2 (by decide) (wi_0 _ (List.mem_of_getElem? (i := 12) rfl)) rfl rfl dX4_hasLeg_14 ?_
      refine lv_iload_n hx hb dX4_hasLeg_17 rfl (lv_at hl 1 rfl) ?_
      obtain ⟨b1, h⟩ := h
      refine rk_aald X hP (C := RX7) (n := 6) (t0 := 6) (d := 2) (r := 2) (klX_X4_2 h0) (fun _ _ => rfl) rfl b1 dX4_hasLeg_18 ?_
      refine rk_get X hP (C := RX7) (T := TX7) (N := 2) (ci := 7) wix_7 (klX_14 (klX_X4_2 h0) (vp_lt b1)) rfl rfl 0 (by decide) (wi_5 _ (List.mem_of_getElem? (i := 0) rfl)) rfl rfl dX4_hasLeg_19 ?_
      refine lv_icmp_ge (tgt := 29) hx hb dX4_hasLeg_22 (by decide) (fun c3 => ?_) (fun c3 => ?_)
      · have h := h.1 c3
        refine lv_iconst (v := (0 : Int32)) hx hb dX4_hasLeg_29 (by decide) ?_
        exact rk_zret X kX_len false h hP hS dX4_hasLeg_30
      · have h := h.2 c3
        refine lv_iconst (v := (1 : Int32)) hx hb dX4_hasLeg_25 (by decide) ?_
        refine lv_goto (tgt := 30) hx hb dX4_hasLeg_26 (by decide) ?_
        exact rk_zret X kX_len true h hP hS dX4_hasLeg_30

theorem hd_X4_hasWire : yX4_hasWire.cls = RX4 ∧ yX4_hasWire.cls ≠ "java/lang/invoke/MethodHandle" ∧ yX4_hasWire.cls ≠ "java/lang/invoke/VarHandle" ∧ (parseMethodDescriptor yX4_hasWire.desc).map (fun d => d.parameters.length) = some 1 := by decide +kernel
set_option maxRecDepth 100000 in
set_option maxHeartbeats 4000000 in
theorem mX4_hasWire (l : Launch) (D : va_G) (cy : Nat → ClassId) (B : Nat) (v0 : Nat) (v1 : Int32) (σ : St) (h0 : kX[v0]? = some 4) {post : Bool → St → Prop} (h : wX4_hasWire v0 v1 σ post) : Met l yX4_hasWire (Cond.code yX4_hasWire cX4_hasWire 2 (some .boolean) :: WALL) (rmD 0) (PcW D cy B kX σ [.ref (B + v0), .int v1]) (Qz post D cy B kX 346) 0 0 (AW B 346) := by
  refine Met.ofK (cc := cX4_hasWire) (maxL := 2) (ret := (some .boolean)) (by decide +kernel) rfl kX_len ?_
  intro p e s m below meth c X hP
  obtain ⟨⟨hx, hb, hml, hown, hts⟩, hr, hlk, hK, hN, hZ⟩ := id X
  have hD : ∀ σ, va_D (AW B 346) (wW cy B kX σ) := AW_D kX_len
  have hS : va_S (AW B 346) s.heap s.heap [] := va_S.rf
  have hl := lv_entry ([.ref (B + v0), .int v1]) (n := 2) (Nat.le_of_ble_eq_true rfl)
  rw [lg_entry_eq]
  generalize (lg_sl ([.ref (B + v0), .int v1]) ++ List.replicate (2 - (lg_sl ([.ref (B + v0), .int v1])).length) Slot.unset).toArray = ls at hl ⊢
  have hl : lv_has ls 2 [(0, .ref (B + v0)), (1, .int v1)] := hl
  unfold wX4_hasWire at h
  refine lv_iload_n hx hb dX4_hasWire_0 rfl (lv_at hl 1 rfl) ?_
  refine lv_if_lt (tgt := 16) hx hb dX4_hasWire_1 (by decide) (fun c1 => ?_) (fun c1 => ?_)
  · have h := h.1 c1
    refine lv_iconst (v := (0 : Int32)) hx hb dX4_hasWire_16 (by decide) ?_
    exact rk_zret X kX_len false h hP hS dX4_hasWire_17
  · have h := h.2 c1
    refine lv_iload_n hx hb dX4_hasWire_4 rfl (lv_at hl 1 rfl) ?_
    refine lv_aload_n hx hb dX4_hasWire_5 rfl (lv_at hl 0 rfl) ?_
    refine rk_get X hP (C := RX4) (T := TX4) (N := 4) (ci := 4) wix_4 h0 rfl rfl 1 (by decide) (wi_0 _ (List.mem_of_getElem? (i := 10) rfl)) rfl rfl dX4_hasWire_6 ?_
    refine lv_icmp_ge (tgt := 16) hx hb dX4_hasWire_9 (by decide) (fun c2 => ?_) (fun c2 => ?_)
    · have h := h.1 c2
      refine lv_iconst (v := (0 : Int32)) hx hb dX4_hasWire_16 (by decide) ?_
      exact rk_zret X kX_len false h hP hS dX4_hasWire_17
    · have h := h.2 c2
      refine lv_iconst (v := (1 : Int32)) hx hb dX4_hasWire_12 (by decide) ?_
      refine lv_goto (tgt := 17) hx hb dX4_hasWire_13 (by decide) ?_
      exact rk_zret X kX_len true h hP hS dX4_hasWire_17

theorem hd_X4_hasWireAt : yX4_hasWireAt.cls = RX4 ∧ yX4_hasWireAt.cls ≠ "java/lang/invoke/MethodHandle" ∧ yX4_hasWireAt.cls ≠ "java/lang/invoke/VarHandle" ∧ (parseMethodDescriptor yX4_hasWireAt.desc).map (fun d => d.parameters.length) = some 1 := by decide +kernel
set_option maxRecDepth 100000 in
set_option maxHeartbeats 4000000 in
theorem tX4_hasWireAt_2 {p : Program} {l : Launch} {e : Env} {s : State} {m : MethodId} {av : Array Value} {below : List Frame} {meth : Method} {c : Code} {D : va_G} {cy : Nat → ClassId} {B : Nat} (X : kC p s m av meth c cX4_hasWireAt 3 (some .boolean) WALL RX4 D cy (AW B 346)) {post : Bool → St → Prop} : ∀ (n : Nat) (v0 : Nat) (v1 : Int32) (v2 : Int32) (σ : St), kX[v0]? = some 4 → wX4_hasWireAt_2 post n v0 v1 v2 σ → ∀ (H : Heap) (locs : List Loc) (ls : Array Slot), va_P D vwCl (wW cy B kX σ) H → va_S (AW B 346) s.heap H locs → lv_has ls 3 [(0, .ref (B + v0)), (1, .int v1), (2, .int v2)] → W p l e (rmD 0) s m av below meth c H locs 0 0 (MQ below (Qz post D cy B kX 346) av s 0 0 (AW B 346)) (F0 m 2 ls []) := by
  obtain ⟨⟨hx, hb, hml, hown, hts⟩, hr, hlk, hK, hN, hZ⟩ := id X
  have hD : ∀ σ, va_D (AW B 346) (wW cy B kX σ) := AW_D kX_len
  intro n
  induction n with
  | zero => intro v0 v1 v2 σ h0 h; exact absurd h id
  | succ n ih =>
    intro v0 v1 v2 σ h0 h H locs ls hP hS hl
    rw [wX4_hasWireAt_2] at h
    refine lv_iload_n hx hb dX4_hasWireAt_2 rfl (lv_at hl 2 rfl) ?_
    refine lv_iconst (v := (2 : Int32)) hx hb dX4_hasWireAt_3 (by decide) ?_
    refine lv_aload_n hx hb dX4_hasWireAt_4 rfl (lv_at hl 0 rfl) ?_
    refine rk_get X hP (C := RX4) (T := TX4) (N := 4) (ci := 4) wix_4 h0 rfl rfl 1 (by decide) (wi_0 _ (List.mem_of_getElem? (i := 10) rfl)) rfl rfl dX4_hasWireAt_5 ?_
    refine lv_imul hx hb dX4_hasWireAt_8 ?_
    refine lv_icmp_ge (tgt := 30) hx hb dX4_hasWireAt_9 (by decide) (fun c1 => ?_) (fun c1 => ?_)
    · have h := h.1 c1
      refine lv_iconst (v := (0 : Int32)) hx hb dX4_hasWireAt_30 (by decide) ?_
      exact rk_zret X kX_len false h hP hS dX4_hasWireAt_31
    · have h := h.2 c1
      refine lv_aload_n hx hb dX4_hasWireAt_12 rfl (lv_at hl 0 rfl) ?_
      refine rk_get X hP (C := RX4) (T := TX4) (N := 4) (ci := 4) wix_4 h0 rfl rfl 3 (by decide) (wi_0 _ (List.mem_of_getElem? (i := 13) rfl)) rfl rfl dX4_hasWireAt_13 ?_
      refine lv_iload_n hx hb dX4_hasWireAt_16 rfl (lv_at hl 2 rfl) ?_
      obtain ⟨b1, h⟩ := h
      refine rk_iald X hP (n := 20) (klX_X4_3 h0) (fun _ _ => rfl) b1 dX4_hasWireAt_17 ?_
      refine lv_iload_n hx hb dX4_hasWireAt_18 rfl (lv_at hl 1 rfl) ?_
      refine lv_icmp_ne (tgt := 24) hx hb dX4_hasWireAt_19 (by decide) (fun c2 => ?_) (fun c2 => ?_)
      · have h := h.1 c2
        obtain ⟨x1, ex1⟩ : ∃ y : Int32, y = v2 + (1 : Int32) := ⟨_, rfl⟩
        have h := h x1 ex1
        refine lv_iinc (v := x1) (lv' := [(2, .int x1), (0, .ref (B + v0)), (1, .int v1)]) hx hb dX4_hasWireAt_24 hl (k := 2) rfl (by rw [ex1]; rfl) (by decide) rfl (fun ls hl => ?_)
        refine lv_goto (tgt := 2) hx hb dX4_hasWireAt_27 (by decide) ?_
        exact ih _ _ _ _ h0 h _ _ _ hP hS (lv_sub hl [1, 2, 0] rfl)
      · have h := h.2 c2
        refine lv_iconst (v := (1 : Int32)) hx hb dX4_hasWireAt_22 (by decide) ?_
        exact rk_zret X kX_len true h hP hS dX4_hasWireAt_23
set_option maxRecDepth 100000 in
set_option maxHeartbeats 4000000 in
theorem mX4_hasWireAt (l : Launch) (D : va_G) (cy : Nat → ClassId) (B : Nat) (v0 : Nat) (v1 : Int32) (σ : St) (h0 : kX[v0]? = some 4) {post : Bool → St → Prop} (h : wX4_hasWireAt v0 v1 σ post) : Met l yX4_hasWireAt (Cond.code yX4_hasWireAt cX4_hasWireAt 3 (some .boolean) :: WALL) (rmD 0) (PcW D cy B kX σ [.ref (B + v0), .int v1]) (Qz post D cy B kX 346) 0 0 (AW B 346) := by
  refine Met.ofK (cc := cX4_hasWireAt) (maxL := 3) (ret := (some .boolean)) (by decide +kernel) rfl kX_len ?_
  intro p e s m below meth c X hP
  obtain ⟨⟨hx, hb, hml, hown, hts⟩, hr, hlk, hK, hN, hZ⟩ := id X
  have hD : ∀ σ, va_D (AW B 346) (wW cy B kX σ) := AW_D kX_len
  have hS : va_S (AW B 346) s.heap s.heap [] := va_S.rf
  have hl := lv_entry ([.ref (B + v0), .int v1]) (n := 3) (Nat.le_of_ble_eq_true rfl)
  rw [lg_entry_eq]
  generalize (lg_sl ([.ref (B + v0), .int v1]) ++ List.replicate (3 - (lg_sl ([.ref (B + v0), .int v1])).length) Slot.unset).toArray = ls at hl ⊢
  have hl : lv_has ls 3 [(0, .ref (B + v0)), (1, .int v1)] := hl
  unfold wX4_hasWireAt at h
  refine lv_iconst (v := (0 : Int32)) hx hb dX4_hasWireAt_0 (by decide) ?_
  refine lv_istore_n (lv' := [(2, .int (0 : Int32)), (0, .ref (B + v0)), (1, .int v1)]) hx hb dX4_hasWireAt_1 rfl hl (by decide) rfl (fun ls hl => ?_)
  obtain ⟨j, h⟩ := h
  exact tX4_hasWireAt_2 X j _ _ _ _ h0 h _ _ _ hP hS (lv_sub hl [1, 2, 0] rfl)

theorem hd_X4_allNodes : yX4_allNodes.cls = RX4 ∧ yX4_allNodes.cls ≠ "java/lang/invoke/MethodHandle" ∧ yX4_allNodes.cls ≠ "java/lang/invoke/VarHandle" ∧ (parseMethodDescriptor yX4_allNodes.desc).map (fun d => d.parameters.length) = some 0 := by decide +kernel
set_option maxRecDepth 100000 in
set_option maxHeartbeats 4000000 in
theorem mX4_allNodes (l : Launch) (D : va_G) (cy : Nat → ClassId) (B : Nat) (v0 : Nat) (σ : St) (h0 : kX[v0]? = some 4) {post : Int32 → St → Prop} (h : wX4_allNodes v0 σ post) : Met l yX4_allNodes (Cond.code yX4_allNodes cX4_allNodes 1 (some .int) :: WALL) (rmD 0) (PcW D cy B kX σ [.ref (B + v0)]) (va_Qi post (BW D cy B kX) (AW B 346)) 0 0 (AW B 346) := by
  refine Met.ofK (cc := cX4_allNodes) (maxL := 1) (ret := (some .int)) (by decide +kernel) rfl kX_len ?_
  intro p e s m below meth c X hP
  obtain ⟨⟨hx, hb, hml, hown, hts⟩, hr, hlk, hK, hN, hZ⟩ := id X
  have hD : ∀ σ, va_D (AW B 346) (wW cy B kX σ) := AW_D kX_len
  have hS : va_S (AW B 346) s.heap s.heap [] := va_S.rf
  have hl := lv_entry ([.ref (B + v0)]) (n := 1) (Nat.le_of_ble_eq_true rfl)
  rw [lg_entry_eq]
  generalize (lg_sl ([.ref (B + v0)]) ++ List.replicate (1 - (lg_sl ([.ref (B + v0)])).length) Slot.unset).toArray = ls at hl ⊢
  have hl : lv_has ls 1 [(0, .ref (B + v0))] := hl
  unfold wX4_allNodes at h
  refine lv_iconst (v := (1 : Int32)) hx hb dX4_allNodes_0 (by decide) ?_
  refine lv_aload_n hx hb dX4_allNodes_1 rfl (lv_at hl 0 rfl) ?_
  refine rk_get X hP (C := RX4) (T := TX4) (N := 4) (ci := 4) wix_4 h0 rfl rfl 0 (by decide) (wi_0 _ (List.mem_of_getElem? (i := 9) rfl)) rfl rfl dX4_allNodes_2 ?_
  refine lv_ishl hx hb dX4_allNodes_5 ?_
  refine lv_iconst (v := (1 : Int32)) hx hb dX4_allNodes_6 (by decide) ?_
  refine lv_isub hx hb dX4_allNodes_7 ?_
  exact rk_iret X rfl kX_len h hP hS dX4_allNodes_8

theorem hd_X4_openCount : yX4_openCount.cls = RX4 ∧ yX4_openCount.cls ≠ "java/lang/invoke/MethodHandle" ∧ yX4_openCount.cls ≠ "java/lang/invoke/VarHandle" ∧ (parseMethodDescriptor yX4_openCount.desc).map (fun d => d.parameters.length) = some 0 := by decide +kernel
set_option maxRecDepth 100000 in
set_option maxHeartbeats 4000000 in
theorem tX4_openCount_4 {p : Program} {l : Launch} {e : Env} {s : State} {m : MethodId} {av : Array Value} {below : List Frame} {meth : Method} {c : Code} {D : va_G} {cy : Nat → ClassId} {B : Nat} (X : kC p s m av meth c cX4_openCount 3 (some .int) WALL RX4 D cy (AW B 346)) {post : Int32 → St → Prop} : ∀ (n : Nat) (v0 : Nat) (v1 : Int32) (v2 : Int32) (σ : St), kX[v0]? = some 4 → wX4_openCount_4 post n v0 v1 v2 σ → ∀ (H : Heap) (locs : List Loc) (ls : Array Slot), va_P D vwCl (wW cy B kX σ) H → va_S (AW B 346) s.heap H locs → lv_has ls 3 [(0, .ref (B + v0)), (1, .int v1), (2, .int v2)] → W p l e (rmD 0) s m av below meth c H locs 0 0 (MQ below (va_Qi post (BW D cy B kX) (AW B 346)) av s 0 0 (AW B 346)) (F0 m 4 ls []) := by
  obtain ⟨⟨hx, hb, hml, hown, hts⟩, hr, hlk, hK, hN, hZ⟩ := id X
  have hD : ∀ σ, va_D (AW B 346) (wW cy B kX σ) := AW_D kX_len
  intro n
  induction n with
  | zero => intro v0 v1 v2 σ h0 h; exact absurd h id
  | succ n ih =>
    intro v0 v1 v2 σ h0 h H locs ls hP hS hl
    rw [wX4_openCount_4] at h
    refine lv_iload_n hx hb dX4_openCount_4 rfl (lv_at hl 2 rfl) ?_
    refine lv_aload_n hx hb dX4_openCount_5 rfl (lv_at hl 0 rfl) ?_
    refine rk_get X hP (C := RX4) (T := TX4) (N := 4) (ci := 4) wix_4 h0 rfl rfl 0 (by decide) (wi_0 _ (List.mem_of_getElem? (i := 9) rfl)) rfl rfl dX4_openCount_6 ?_
    refine lv_icmp_ge (tgt := 30) hx hb dX4_openCount_9 (by decide) (fun c1 => ?_) (fun c1 => ?_)
    · have h := h.1 c1
      refine lv_iload_n hx hb dX4_openCount_30 rfl (lv_at hl 1 rfl) ?_
      refine lv_iconst (v := (2 : Int32)) hx hb dX4_openCount_31 (by decide) ?_
      refine lv_aload_n hx hb dX4_openCount_32 rfl (lv_at hl 0 rfl) ?_
      refine rk_get X hP (C := RX4) (T := TX4) (N := 4) (ci := 4) wix_4 h0 rfl rfl 1 (by decide) (wi_0 _ (List.mem_of_getElem? (i := 10) rfl)) rfl rfl dX4_openCount_33 ?_
      refine lv_imul hx hb dX4_openCount_36 ?_
      refine lv_isub hx hb dX4_openCount_37 ?_
      exact rk_iret X rfl kX_len h hP hS dX4_openCount_38
    · have h := h.2 c1
      refine lv_iload_n hx hb dX4_openCount_12 rfl (lv_at hl 1 rfl) ?_
      refine lv_aload_n hx hb dX4_openCount_13 rfl (lv_at hl 0 rfl) ?_
      refine rk_get X hP (C := RX4) (T := TX4) (N := 4) (ci := 4) wix_4 h0 rfl rfl 2 (by decide) (wi_0 _ (List.mem_of_getElem? (i := 12) rfl)) rfl rfl dX4_openCount_14 ?_
      refine lv_iload_n hx hb dX4_openCount_17 rfl (lv_at hl 2 rfl) ?_
      obtain ⟨b1, h⟩ := h
      refine rk_aald X hP (C := RX7) (n := 6) (t0 := 6) (d := 2) (r := 2) (klX_X4_2 h0) (fun _ _ => rfl) rfl b1 dX4_openCount_18 ?_
      refine rk_get X hP (C := RX7) (T := TX7) (N := 2) (ci := 7) wix_7 (klX_14 (klX_X4_2 h0) (vp_lt b1)) rfl rfl 0 (by decide) (wi_5 _ (List.mem_of_getElem? (i := 0) rfl)) rfl rfl dX4_openCount_19 ?_
      refine lv_iadd hx hb dX4_openCount_22 ?_
      refine lv_topi (fun x1 ex1 => ?_)
      have h := h x1 ex1
      refine lv_istore_n (lv' := [(1, .int x1), (0, .ref (B + v0)), (2, .int v2)]) hx hb dX4_openCount_23 rfl hl (by decide) rfl (fun ls hl => ?_)
      obtain ⟨x2, ex2⟩ : ∃ y : Int32, y = v2 + (1 : Int32) := ⟨_, rfl⟩
      have h := h x2 ex2
      refine lv_iinc (v := x2) (lv' := [(2, .int x2), (1, .int x1), (0, .ref (B + v0))]) hx hb dX4_openCount_24 hl (k := 2) rfl (by rw [ex2]; rfl) (by decide) rfl (fun ls hl => ?_)
      refine lv_goto (tgt := 4) hx hb dX4_openCount_27 (by decide) ?_
      exact ih _ _ _ _ h0 h _ _ _ hP hS (lv_sub hl [2, 1, 0] rfl)
set_option maxRecDepth 100000 in
set_option maxHeartbeats 4000000 in
theorem mX4_openCount (l : Launch) (D : va_G) (cy : Nat → ClassId) (B : Nat) (v0 : Nat) (σ : St) (h0 : kX[v0]? = some 4) {post : Int32 → St → Prop} (h : wX4_openCount v0 σ post) : Met l yX4_openCount (Cond.code yX4_openCount cX4_openCount 3 (some .int) :: WALL) (rmD 0) (PcW D cy B kX σ [.ref (B + v0)]) (va_Qi post (BW D cy B kX) (AW B 346)) 0 0 (AW B 346) := by
  refine Met.ofK (cc := cX4_openCount) (maxL := 3) (ret := (some .int)) (by decide +kernel) rfl kX_len ?_
  intro p e s m below meth c X hP
  obtain ⟨⟨hx, hb, hml, hown, hts⟩, hr, hlk, hK, hN, hZ⟩ := id X
  have hD : ∀ σ, va_D (AW B 346) (wW cy B kX σ) := AW_D kX_len
  have hS : va_S (AW B 346) s.heap s.heap [] := va_S.rf
  have hl := lv_entry ([.ref (B + v0)]) (n := 3) (Nat.le_of_ble_eq_true rfl)
  rw [lg_entry_eq]
  generalize (lg_sl ([.ref (B + v0)]) ++ List.replicate (3 - (lg_sl ([.ref (B + v0)])).length) Slot.unset).toArray = ls at hl ⊢
  have hl : lv_has ls 3 [(0, .ref (B + v0))] := hl
  unfold wX4_openCount at h
  refine lv_iconst (v := (0 : Int32)) hx hb dX4_openCount_0 (by decide) ?_
  refine lv_istore_n (lv' := [(1, .int (0 : Int32)), (0, .ref (B + v0))]) hx hb dX4_openCount_1 rfl hl (by decide) rfl (fun ls hl => ?_)
  refine lv_iconst (v := (0 : Int32)) hx hb dX4_openCount_2 (by decide) ?_
  refine lv_istore_n (lv' := [(2, .int (0 : Int32)), (1, .int (0 : Int32)), (0, .ref (B + v0))]) hx hb dX4_openCount_3 rfl hl (by decide) rfl (fun ls hl => ?_)
  obtain ⟨j, h⟩ := h
  exact tX4_openCount_4 X j _ _ _ _ h0 h _ _ _ hP hS (lv_sub hl [2, 1, 0] rfl)

theorem hd_X4_isOpen : yX4_isOpen.cls = RX4 ∧ yX4_isOpen.cls ≠ "java/lang/invoke/MethodHandle" ∧ yX4_isOpen.cls ≠ "java/lang/invoke/VarHandle" ∧ (parseMethodDescriptor yX4_isOpen.desc).map (fun d => d.parameters.length) = some 1 := by decide +kernel
set_option maxRecDepth 100000 in
set_option maxHeartbeats 4000000 in
theorem mX4_isOpen (l : Launch) (D : va_G) (cy : Nat → ClassId) (B : Nat) (v0 : Nat) (v1 : Int32) (σ : St) (h0 : kX[v0]? = some 4) {post : Bool → St → Prop} (h : wX4_isOpen v0 v1 σ post) : Met l yX4_isOpen (Cond.code yX4_isOpen cX4_isOpen 2 (some .boolean) :: WALL) (rmD 2) (PcW D cy B kX σ [.ref (B + v0), .int v1]) (Qz post D cy B kX 346) 0 0 (AW B 346) := by
  refine Met.ofK (cc := cX4_isOpen) (maxL := 2) (ret := (some .boolean)) (by decide +kernel) rfl kX_len ?_
  intro p e s m below meth c X hP
  obtain ⟨⟨hx, hb, hml, hown, hts⟩, hr, hlk, hK, hN, hZ⟩ := id X
  have hD : ∀ σ, va_D (AW B 346) (wW cy B kX σ) := AW_D kX_len
  have hS : va_S (AW B 346) s.heap s.heap [] := va_S.rf
  have hl := lv_entry ([.ref (B + v0), .int v1]) (n := 2) (Nat.le_of_ble_eq_true rfl)
  rw [lg_entry_eq]
  generalize (lg_sl ([.ref (B + v0), .int v1]) ++ List.replicate (2 - (lg_sl ([.ref (B + v0), .int v1])).length) Slot.unset).toArray = ls at hl ⊢
  have hl : lv_has ls 2 [(0, .ref (B + v0)), (1, .int v1)] := hl
  unfold wX4_isOpen at h
  refine lv_aload_n hx hb dX4_isOpen_0 rfl (lv_at hl 0 rfl) ?_
  refine lv_iload_n hx hb dX4_isOpen_1 rfl (lv_at hl 1 rfl) ?_
  refine lv_iconst (v := (4 : Int32)) hx hb dX4_isOpen_2 (by decide) ?_
  refine lv_idiv hx hb dX4_isOpen_3 (by decide) ?_
  refine lv_iload_n hx hb dX4_isOpen_4 rfl (lv_at hl 1 rfl) ?_
  refine lv_iconst (v := (4 : Int32)) hx hb dX4_isOpen_5 (by decide) ?_
  refine lv_irem hx hb dX4_isOpen_6 (by decide) ?_
  refine rk_callz (va_runV (As := [.int (v1 / (4 : Int32)), .int (v1 - v1 / (4 : Int32) * (4 : Int32))]) (rest := []) X.1 (mX4_hasLeg l D cy B v0 (v1 / (4 : Int32)) (v1 - v1 / (4 : Int32) * (4 : Int32)) σ h0 h) (cwV 2 hts (gW_V (wi_5 _ (List.mem_of_getElem? (i := 9) rfl)) (wi_5 _ (List.mem_of_getElem? (i := 10) rfl)) (wi_5 _ (List.mem_of_getElem? (i := 11) rfl)) (wi_0 _ (List.mem_of_getElem? (i := 23) rfl)) (wi_4 _ (List.mem_of_getElem? (i := 23) rfl))) rfl rfl rfl hd_X4_hasLeg ⟨Nat.le_of_ble_eq_true rfl, Nat.le_of_ble_eq_true rfl⟩) (rk_preV X hS hP h0 rfl rfl [.int (v1 / (4 : Int32)), .int (v1 - v1 / (4 : Int32) * (4 : Int32))]) rfl rfl hl.1 rfl (lv_room (Nat.le_of_ble_eq_true rfl)) dX4_isOpen_7 ⟨Nat.zero_le _, Nat.zero_le _⟩) hS (fun _ h => h) (fun r1 s1 H locs h hP hS => ?_)
  refine lv_if_eq (tgt := 25) hx hb dX4_isOpen_10 (by decide) (fun c1 => ?_) (fun c1 => ?_)
  · have h := h.1 (b2i_f c1)
    refine lv_iconst (v := (0 : Int32)) hx hb dX4_isOpen_25 (by decide) ?_
    exact rk_zret X kX_len false h hP hS dX4_isOpen_26
  · have h := h.2 (b2i_t c1)
    refine lv_aload_n hx hb dX4_isOpen_13 rfl (lv_at hl 0 rfl) ?_
    refine lv_iload_n hx hb dX4_isOpen_14 rfl (lv_at hl 1 rfl) ?_
    refine rk_callz (va_runV (As := [.int v1]) (rest := []) X.1 (mX4_hasWireAt l D cy B v0 v1 s1 h0 h) (cwV 1 hts (gW_V (wi_5 _ (List.mem_of_getElem? (i := 12) rfl)) (wi_5 _ (List.mem_of_getElem? (i := 13) rfl)) (wi_5 _ (List.mem_of_getElem? (i := 14) rfl)) (wi_0 _ (List.mem_of_getElem? (i := 23) rfl)) (wi_5 _ (List.mem_of_getElem? (i := 5) rfl))) rfl rfl rfl hd_X4_hasWireAt ⟨Nat.le_of_ble_eq_true rfl, Nat.le_of_ble_eq_true rfl⟩) (rk_preV X hS hP h0 rfl rfl [.int v1]) rfl rfl hl.1 rfl (lv_room (Nat.le_of_ble_eq_true rfl)) dX4_isOpen_15 ⟨Nat.zero_le _, Nat.zero_le _⟩) hS (fun _ h => h) (fun r2 s2 H locs h hP hS => ?_)
    refine lv_if_ne (tgt := 25) hx hb dX4_isOpen_18 (by decide) (fun c2 => ?_) (fun c2 => ?_)
    · have h := h.1 (b2i_t c2)
      refine lv_iconst (v := (0 : Int32)) hx hb dX4_isOpen_25 (by decide) ?_
      exact rk_zret X kX_len false h hP hS dX4_isOpen_26
    · have h := h.2 (b2i_f c2)
      refine lv_iconst (v := (1 : Int32)) hx hb dX4_isOpen_21 (by decide) ?_
      refine lv_goto (tgt := 26) hx hb dX4_isOpen_22 (by decide) ?_
      exact rk_zret X kX_len true h hP hS dX4_isOpen_26

theorem hd_X4_openLeg : yX4_openLeg.cls = RX4 ∧ yX4_openLeg.cls ≠ "java/lang/invoke/MethodHandle" ∧ yX4_openLeg.cls ≠ "java/lang/invoke/VarHandle" ∧ (parseMethodDescriptor yX4_openLeg.desc).map (fun d => d.parameters.length) = some 1 := by decide +kernel
set_option maxRecDepth 100000 in
set_option maxHeartbeats 4000000 in
theorem tX4_openLeg_4 {p : Program} {l : Launch} {e : Env} {s : State} {m : MethodId} {av : Array Value} {below : List Frame} {meth : Method} {c : Code} {D : va_G} {cy : Nat → ClassId} {B : Nat} (X : kC p s m av meth c cX4_openLeg 4 (some .int) WALL RX4 D cy (AW B 346)) {post : Int32 → St → Prop} : ∀ (n : Nat) (v0 : Nat) (v1 : Int32) (v2 : Int32) (v3 : Int32) (σ : St), kX[v0]? = some 4 → wX4_openLeg_4 post n v0 v1 v2 v3 σ → ∀ (H : Heap) (locs : List Loc) (ls : Array Slot), va_P D vwCl (wW cy B kX σ) H → va_S (AW B 346) s.heap H locs → lv_has ls 4 [(0, .ref (B + v0)), (1, .int v1), (2, .int v2), (3, .int v3)] → W p l e (rmD 3) s m av below meth c H locs 0 0 (MQ below (va_Qi post (BW D cy B kX) (AW B 346)) av s 0 0 (AW B 346)) (F0 m 4 ls []) := by
  obtain ⟨⟨hx, hb, hml, hown, hts⟩, hr, hlk, hK, hN, hZ⟩ := id X
  have hD : ∀ σ, va_D (AW B 346) (wW cy B kX σ) := AW_D kX_len
  intro n
  induction n with
  | zero => intro v0 v1 v2 v3 σ h0 h; exact absurd h id
  | succ n ih =>
    intro v0 v1 v2 v3 σ h0 h H locs ls hP hS hl
    rw [wX4_openLeg_4] at h
    refine lv_iload_n hx hb dX4_openLeg_4 rfl (lv_at hl 3 rfl) ?_
    refine lv_iconst (v := (4 : Int32)) hx hb dX4_openLeg_5 (by decide) ?_
    refine lv_aload_n hx hb dX4_openLeg_6 rfl (lv_at hl 0 rfl) ?_
    refine rk_get X hP (C := RX4) (T := TX4) (N := 4) (ci := 4) wix_4 h0 rfl rfl 0 (by decide) (wi_0 _ (List.mem_of_getElem? (i := 9) rfl)) rfl rfl dX4_openLeg_7 ?_
    refine lv_imul hx hb dX4_openLeg_10 ?_
    refine lv_icmp_ge (tgt := 38) hx hb dX4_openLeg_11 (by decide) (fun c1 => ?_) (fun c1 => ?_)
    · have h := h.1 c1
      refine lv_iconst (v := (-1 : Int32)) hx hb dX4_openLeg_38 (by decide) ?_
      exact rk_iret X rfl kX_len h hP hS dX4_openLeg_39
    · have h := h.2 c1
      refine lv_aload_n hx hb dX4_openLeg_14 rfl (lv_at hl 0 rfl) ?_
      refine lv_iload_n hx hb dX4_openLeg_15 rfl (lv_at hl 3 rfl) ?_
      refine rk_callz (va_runV (As := [.int v3]) (rest := []) X.1 (mX4_isOpen l D cy B v0 v3 σ h0 h) (cwV 1 hts (gW_V (wi_5 _ (List.mem_of_getElem? (i := 16) rfl)) (wi_5 _ (List.mem_of_getElem? (i := 17) rfl)) (wi_5 _ (List.mem_of_getElem? (i := 18) rfl)) (wi_0 _ (List.mem_of_getElem? (i := 23) rfl)) (wi_5 _ (List.mem_of_getElem? (i := 8) rfl))) rfl rfl rfl hd_X4_isOpen ⟨Nat.le_of_ble_eq_true rfl, Nat.le_of_ble_eq_true rfl⟩) (rk_preV X hS hP h0 rfl rfl [.int v3]) rfl rfl hl.1 rfl (lv_room (Nat.le_of_ble_eq_true rfl)) dX4_openLeg_16 ⟨Nat.zero_le _, Nat.zero_le _⟩) hS (fun _ h => h) (fun r1 s1 H locs h hP hS => ?_)
      refine lv_if_eq (tgt := 32) hx hb dX4_openLeg_19 (by decide) (fun c2 => ?_) (fun c2 => ?_)
      · have h := h.1 (b2i_f c2)
        obtain ⟨x1, ex1⟩ : ∃ y : Int32, y = v3 + (1 : Int32) := ⟨_, rfl⟩
        have h := h x1 ex1
        refine lv_iinc (v := x1) (lv' := [(3, .int x1), (0, .ref (B + v0)), (1, .int v1), (2, .int v2)]) hx hb dX4_openLeg_32 hl (k := 3) rfl (by rw [ex1]; rfl) (by decide) rfl (fun ls hl => ?_)
        refine lv_goto (tgt := 4) hx hb dX4_openLeg_35 (by decide) ?_
        exact ih _ _ _ _ _ h0 h _ _ _ hP hS (lv_sub hl [1, 2, 3, 0] rfl)
      · have h := h.2 (b2i_t c2)
        refine lv_iload_n hx hb dX4_openLeg_22 rfl (lv_at hl 2 rfl) ?_
        refine lv_iload_n hx hb dX4_openLeg_23 rfl (lv_at hl 1 rfl) ?_
        refine lv_icmp_ne (tgt := 29) hx hb dX4_openLeg_24 (by decide) (fun c3 => ?_) (fun c3 => ?_)
        · have h := h.1 c3
          obtain ⟨x2, ex2⟩ : ∃ y : Int32, y = v2 + (1 : Int32) := ⟨_, rfl⟩
          have h := h x2 ex2
          refine lv_iinc (v := x2) (lv' := [(2, .int x2), (0, .ref (B + v0)), (1, .int v1), (3, .int v3)]) hx hb dX4_openLeg_29 hl (k := 2) rfl (by rw [ex2]; rfl) (by decide) rfl (fun ls hl => ?_)
          obtain ⟨x3, ex3⟩ : ∃ y : Int32, y = v3 + (1 : Int32) := ⟨_, rfl⟩
          have h := h x3 ex3
          refine lv_iinc (v := x3) (lv' := [(3, .int x3), (2, .int x2), (0, .ref (B + v0)), (1, .int v1)]) hx hb dX4_openLeg_32 hl (k := 3) rfl (by rw [ex3]; rfl) (by decide) rfl (fun ls hl => ?_)
          refine lv_goto (tgt := 4) hx hb dX4_openLeg_35 (by decide) ?_
          exact ih _ _ _ _ _ h0 h _ _ _ hP hS (lv_sub hl [2, 3, 1, 0] rfl)
        · have h := h.2 c3
          refine lv_iload_n hx hb dX4_openLeg_27 rfl (lv_at hl 3 rfl) ?_
          exact rk_iret X rfl kX_len h hP hS dX4_openLeg_28
set_option maxRecDepth 100000 in
set_option maxHeartbeats 4000000 in
theorem mX4_openLeg (l : Launch) (D : va_G) (cy : Nat → ClassId) (B : Nat) (v0 : Nat) (v1 : Int32) (σ : St) (h0 : kX[v0]? = some 4) {post : Int32 → St → Prop} (h : wX4_openLeg v0 v1 σ post) : Met l yX4_openLeg (Cond.code yX4_openLeg cX4_openLeg 4 (some .int) :: WALL) (rmD 3) (PcW D cy B kX σ [.ref (B + v0), .int v1]) (va_Qi post (BW D cy B kX) (AW B 346)) 0 0 (AW B 346) := by
  refine Met.ofK (cc := cX4_openLeg) (maxL := 4) (ret := (some .int)) (by decide +kernel) rfl kX_len ?_
  intro p e s m below meth c X hP
  obtain ⟨⟨hx, hb, hml, hown, hts⟩, hr, hlk, hK, hN, hZ⟩ := id X
  have hD : ∀ σ, va_D (AW B 346) (wW cy B kX σ) := AW_D kX_len
  have hS : va_S (AW B 346) s.heap s.heap [] := va_S.rf
  have hl := lv_entry ([.ref (B + v0), .int v1]) (n := 4) (Nat.le_of_ble_eq_true rfl)
  rw [lg_entry_eq]
  generalize (lg_sl ([.ref (B + v0), .int v1]) ++ List.replicate (4 - (lg_sl ([.ref (B + v0), .int v1])).length) Slot.unset).toArray = ls at hl ⊢
  have hl : lv_has ls 4 [(0, .ref (B + v0)), (1, .int v1)] := hl
  unfold wX4_openLeg at h
  refine lv_iconst (v := (0 : Int32)) hx hb dX4_openLeg_0 (by decide) ?_
  refine lv_istore_n (lv' := [(2, .int (0 : Int32)), (0, .ref (B + v0)), (1, .int v1)]) hx hb dX4_openLeg_1 rfl hl (by decide) rfl (fun ls hl => ?_)
  refine lv_iconst (v := (0 : Int32)) hx hb dX4_openLeg_2 (by decide) ?_
  refine lv_istore_n (lv' := [(3, .int (0 : Int32)), (2, .int (0 : Int32)), (0, .ref (B + v0)), (1, .int v1)]) hx hb dX4_openLeg_3 rfl hl (by decide) rfl (fun ls hl => ?_)
  obtain ⟨j, h⟩ := h
  exact tX4_openLeg_4 X j _ _ _ _ _ h0 h _ _ _ hP hS (lv_sub hl [2, 3, 1, 0] rfl)

theorem hd_X4_isBetween : yX4_isBetween.cls = RX4 ∧ yX4_isBetween.cls ≠ "java/lang/invoke/MethodHandle" ∧ yX4_isBetween.cls ≠ "java/lang/invoke/VarHandle" ∧ (parseMethodDescriptor yX4_isBetween.desc).map (fun d => d.parameters.length) = some 2 := by decide +kernel
set_option maxRecDepth 100000 in
set_option maxHeartbeats 4000000 in
theorem mX4_isBetween (l : Launch) (D : va_G) (cy : Nat → ClassId) (B : Nat) (v0 : Nat) (v1 : Int32) (v2 : Int32) (σ : St) (h0 : kX[v0]? = some 4) {post : Bool → St → Prop} (h : wX4_isBetween v0 v1 v2 σ post) : Met l yX4_isBetween (Cond.code yX4_isBetween cX4_isBetween 5 (some .boolean) :: WALL) (rmD 0) (PcW D cy B kX σ [.ref (B + v0), .int v1, .int v2]) (Qz post D cy B kX 346) 0 0 (AW B 346) := by
  refine Met.ofK (cc := cX4_isBetween) (maxL := 5) (ret := (some .boolean)) (by decide +kernel) rfl kX_len ?_
  intro p e s m below meth c X hP
  obtain ⟨⟨hx, hb, hml, hown, hts⟩, hr, hlk, hK, hN, hZ⟩ := id X
  have hD : ∀ σ, va_D (AW B 346) (wW cy B kX σ) := AW_D kX_len
  have hS : va_S (AW B 346) s.heap s.heap [] := va_S.rf
  have hl := lv_entry ([.ref (B + v0), .int v1, .int v2]) (n := 5) (Nat.le_of_ble_eq_true rfl)
  rw [lg_entry_eq]
  generalize (lg_sl ([.ref (B + v0), .int v1, .int v2]) ++ List.replicate (5 - (lg_sl ([.ref (B + v0), .int v1, .int v2])).length) Slot.unset).toArray = ls at hl ⊢
  have hl : lv_has ls 5 [(0, .ref (B + v0)), (1, .int v1), (2, .int v2)] := hl
  unfold wX4_isBetween at h
  refine lv_aload_n hx hb dX4_isBetween_0 rfl (lv_at hl 0 rfl) ?_
  refine rk_get X hP (C := RX4) (T := TX4) (N := 4) (ci := 4) wix_4 h0 rfl rfl 3 (by decide) (wi_0 _ (List.mem_of_getElem? (i := 13) rfl)) rfl rfl dX4_isBetween_1 ?_
  refine lv_iconst (v := (2 : Int32)) hx hb dX4_isBetween_4 (by decide) ?_
  refine lv_iload_n hx hb dX4_isBetween_5 rfl (lv_at hl 1 rfl) ?_
  refine lv_imul hx hb dX4_isBetween_6 ?_
  refine lv_topi (fun x1 ex1 => ?_)
  have h := h x1 ex1
  obtain ⟨b1, h⟩ := h
  refine rk_iald X hP (n := 20) (klX_X4_3 h0) (fun _ _ => rfl) b1 dX4_isBetween_7 ?_
  refine lv_iconst (v := (4 : Int32)) hx hb dX4_isBetween_8 (by decide) ?_
  refine lv_idiv hx hb dX4_isBetween_9 (by decide) ?_
  refine lv_topi (fun x2 ex2 => ?_)
  have h := h x2 ex2
  refine lv_istore_n (lv' := [(3, .int x2), (0, .ref (B + v0)), (1, .int v1), (2, .int v2)]) hx hb dX4_isBetween_10 rfl hl (by decide) rfl (fun ls hl => ?_)
  refine lv_aload_n hx hb dX4_isBetween_11 rfl (lv_at hl 1 rfl) ?_
  refine rk_get X hP (C := RX4) (T := TX4) (N := 4) (ci := 4) wix_4 h0 rfl rfl 3 (by decide) (wi_0 _ (List.mem_of_getElem? (i := 13) rfl)) rfl rfl dX4_isBetween_12 ?_
  refine lv_iconst (v := (2 : Int32)) hx hb dX4_isBetween_15 (by decide) ?_
  refine lv_iload_n hx hb dX4_isBetween_16 rfl (lv_at hl 2 rfl) ?_
  refine lv_imul hx hb dX4_isBetween_17 ?_
  refine lv_iconst (v := (1 : Int32)) hx hb dX4_isBetween_18 (by decide) ?_
  refine lv_iadd hx hb dX4_isBetween_19 ?_
  refine lv_topi (fun x3 ex3 => ?_)
  have h := h x3 ex3
  obtain ⟨b2, h⟩ := h
  refine rk_iald X hP (n := 20) (klX_X4_3 h0) (fun _ _ => rfl) b2 dX4_isBetween_20 ?_
  refine lv_iconst (v := (4 : Int32)) hx hb dX4_isBetween_21 (by decide) ?_
  refine lv_idiv hx hb dX4_isBetween_22 (by decide) ?_
  refine lv_topi (fun x4 ex4 => ?_)
  have h := h x4 ex4
  refine lv_istore (lv' := [(4, .int x4), (3, .int x2), (0, .ref (B + v0)), (1, .int v1), (2, .int v2)]) hx hb dX4_isBetween_23 hl (by decide) rfl (fun ls hl => ?_)
  refine lv_iload_n hx hb dX4_isBetween_25 rfl (lv_at hl 4 rfl) ?_
  refine lv_iload_n hx hb dX4_isBetween_26 rfl (lv_at hl 1 rfl) ?_
  refine lv_ishr hx hb dX4_isBetween_27 ?_
  refine lv_iconst (v := (1 : Int32)) hx hb dX4_isBetween_28 (by decide) ?_
  refine lv_iand hx hb dX4_isBetween_29 ?_
  refine lv_iconst (v := (1 : Int32)) hx hb dX4_isBetween_30 (by decide) ?_
  refine lv_icmp_ne (tgt := 48) hx hb dX4_isBetween_31 (by decide) (fun c1 => ?_) (fun c1 => ?_)
  · have h := h.1 c1
    refine lv_iconst (v := (0 : Int32)) hx hb dX4_isBetween_48 (by decide) ?_
    exact rk_zret X kX_len false h hP hS dX4_isBetween_49
  · have h := h.2 c1
    refine lv_iload_n hx hb dX4_isBetween_34 rfl (lv_at hl 4 rfl) ?_
    refine lv_iload hx hb dX4_isBetween_35 (lv_at hl 0 rfl) ?_
    refine lv_ishr hx hb dX4_isBetween_37 ?_
    refine lv_iconst (v := (1 : Int32)) hx hb dX4_isBetween_38 (by decide) ?_
    refine lv_iand hx hb dX4_isBetween_39 ?_
    refine lv_iconst (v := (1 : Int32)) hx hb dX4_isBetween_40 (by decide) ?_
    refine lv_icmp_ne (tgt := 48) hx hb dX4_isBetween_41 (by decide) (fun c2 => ?_) (fun c2 => ?_)
    · have h := h.1 c2
      refine lv_iconst (v := (0 : Int32)) hx hb dX4_isBetween_48 (by decide) ?_
      exact rk_zret X kX_len false h hP hS dX4_isBetween_49
    · have h := h.2 c2
      refine lv_iconst (v := (1 : Int32)) hx hb dX4_isBetween_44 (by decide) ?_
      refine lv_goto (tgt := 49) hx hb dX4_isBetween_45 (by decide) ?_
      exact rk_zret X kX_len true h hP hS dX4_isBetween_49

theorem hd_X4_addNode : yX4_addNode.cls = RX4 ∧ yX4_addNode.cls ≠ "java/lang/invoke/MethodHandle" ∧ yX4_addNode.cls ≠ "java/lang/invoke/VarHandle" ∧ (parseMethodDescriptor yX4_addNode.desc).map (fun d => d.parameters.length) = some 1 := by decide +kernel
set_option maxRecDepth 100000 in
set_option maxHeartbeats 4000000 in
theorem mX4_addNode (l : Launch) (D : va_G) (cy : Nat → ClassId) (B : Nat) (v0 : Nat) (v1 : Nat) (σ : St) (h0 : kX[v0]? = some 4) (h1 : kX[v1]? = some 7) {post : St → Prop} (h : wX4_addNode v0 v1 σ post) : Met l yX4_addNode (Cond.code yX4_addNode cX4_addNode 2 none :: WALL) (rmD 3) (PcW D cy B kX σ [.ref (B + v0), .ref (B + v1)]) (va_Qv post (BW D cy B kX) (AW B 346)) 0 0 (AW B 346) := by
  refine Met.ofK (cc := cX4_addNode) (maxL := 2) (ret := none) (by decide +kernel) rfl kX_len ?_
  intro p e s m below meth c X hP
  obtain ⟨⟨hx, hb, hml, hown, hts⟩, hr, hlk, hK, hN, hZ⟩ := id X
  have hD : ∀ σ, va_D (AW B 346) (wW cy B kX σ) := AW_D kX_len
  have hS : va_S (AW B 346) s.heap s.heap [] := va_S.rf
  have hl := lv_entry ([.ref (B + v0), .ref (B + v1)]) (n := 2) (Nat.le_of_ble_eq_true rfl)
  rw [lg_entry_eq]
  generalize (lg_sl ([.ref (B + v0), .ref (B + v1)]) ++ List.replicate (2 - (lg_sl ([.ref (B + v0), .ref (B + v1)])).length) Slot.unset).toArray = ls at hl ⊢
  have hl : lv_has ls 2 [(0, .ref (B + v0)), (1, .ref (B + v1))] := hl
  unfold wX4_addNode at h
  refine lv_aload_n hx hb dX4_addNode_0 rfl (lv_at hl 0 rfl) ?_
  refine rk_get X hP (C := RX4) (T := TX4) (N := 4) (ci := 4) wix_4 h0 rfl rfl 0 (by decide) (wi_0 _ (List.mem_of_getElem? (i := 9) rfl)) rfl rfl dX4_addNode_1 ?_
  refine lv_bipush (v := (6 : Int32)) hx hb dX4_addNode_4 (by decide) ?_
  refine lv_icmp_ge (tgt := 32) hx hb dX4_addNode_6 (by decide) (fun c1 => ?_) (fun c1 => ?_)
  · have h := h.1 c1
    exact rk_vret X kX_len h hP hS dX4_addNode_32
  · have h := h.2 c1
    refine lv_aload_n hx hb dX4_addNode_9 rfl (lv_at hl 0 rfl) ?_
    refine rk_get X hP (C := RX4) (T := TX4) (N := 4) (ci := 4) wix_4 h0 rfl rfl 2 (by decide) (wi_0 _ (List.mem_of_getElem? (i := 12) rfl)) rfl rfl dX4_addNode_10 ?_
    refine lv_aload_n hx hb dX4_addNode_13 rfl (lv_at hl 0 rfl) ?_
    refine rk_get X hP (C := RX4) (T := TX4) (N := 4) (ci := 4) wix_4 h0 rfl rfl 0 (by decide) (wi_0 _ (List.mem_of_getElem? (i := 9) rfl)) rfl rfl dX4_addNode_14 ?_
    refine lv_topi (fun x1 ex1 => ?_)
    have h := h x1 ex1
    obtain ⟨b1, h⟩ := h
    refine rk_aald X hP (C := RX7) (n := 6) (t0 := 6) (d := 2) (r := 2) (klX_X4_2 h0) (fun _ _ => rfl) rfl b1 dX4_addNode_17 ?_
    refine lv_aload_n hx hb dX4_addNode_18 rfl (lv_at hl 1 rfl) ?_
    refine rk_callv (va_runV (As := [.ref (B + v1)]) (rest := []) X.1 (mX7_copyFrom l D cy B ((v0 + 1) + 2 + 2 * x1.toNatClampNeg) v1 σ (klX_14 (klX_X4_2 h0) (vp_lt b1)) h1 h) (cwV 1 hts (gW_V (wi_1 _ (List.mem_of_getElem? (i := 11) rfl)) (wi_1 _ (List.mem_of_getElem? (i := 12) rfl)) (wi_1 _ (List.mem_of_getElem? (i := 13) rfl)) (wi_0 _ (List.mem_of_getElem? (i := 15) rfl)) (wi_1 _ (List.mem_of_getElem? (i := 4) rfl))) rfl rfl rfl hd_X7_copyFrom ⟨Nat.le_of_ble_eq_true rfl, Nat.le_of_ble_eq_true rfl⟩) (rk_preV X hS hP (klX_14 (klX_X4_2 h0) (vp_lt b1)) rfl rfl [.ref (B + v1)]) rfl rfl hl.1 rfl (lv_room (Nat.le_of_ble_eq_true rfl)) dX4_addNode_19 ⟨Nat.zero_le _, Nat.zero_le _⟩) hS (fun _ h => h) (fun s1 H locs h hP hS => ?_)
    refine lv_aload_n hx hb dX4_addNode_22 rfl (lv_at hl 0 rfl) ?_
    refine lv_dup hx hb dX4_addNode_23 rfl ?_
    refine rk_get X hP (C := RX4) (T := TX4) (N := 4) (ci := 4) wix_4 h0 rfl rfl 0 (by decide) (wi_0 _ (List.mem_of_getElem? (i := 9) rfl)) rfl rfl dX4_addNode_24 ?_
    refine lv_iconst (v := (1 : Int32)) hx hb dX4_addNode_27 (by decide) ?_
    refine lv_iadd hx hb dX4_addNode_28 ?_
    refine rk_puti X hP hD hS (C := RX4) (T := TX4) (N := 4) (ci := 4) wix_4 h0 rfl rfl tyX4 tyX4_ok nmX4 0 (by decide) (wi_0 _ (List.mem_of_getElem? (i := 9) rfl)) rfl rfl (by decide +kernel) (Nat.le_of_ble_eq_true rfl) rfl dX4_addNode_29 (fun H locs hP hS => ?_)
    obtain ⟨s2, es2⟩ : ∃ z : St, z = u1 s1 v0 0 ((s1.1 v0 0) + (1 : Int32)) := ⟨_, rfl⟩
    rw [← es2] at hP
    have h := h s2 es2
    exact rk_vret X kX_len h hP hS dX4_addNode_32

theorem hd_X4_addWire : yX4_addWire.cls = RX4 ∧ yX4_addWire.cls ≠ "java/lang/invoke/MethodHandle" ∧ yX4_addWire.cls ≠ "java/lang/invoke/VarHandle" ∧ (parseMethodDescriptor yX4_addWire.desc).map (fun d => d.parameters.length) = some 2 := by decide +kernel
set_option maxRecDepth 100000 in
set_option maxHeartbeats 4000000 in
theorem mX4_addWire (l : Launch) (D : va_G) (cy : Nat → ClassId) (B : Nat) (v0 : Nat) (v1 : Int32) (v2 : Int32) (σ : St) (h0 : kX[v0]? = some 4) {post : St → Prop} (h : wX4_addWire v0 v1 v2 σ post) : Met l yX4_addWire (Cond.code yX4_addWire cX4_addWire 3 none :: WALL) (rmD 0) (PcW D cy B kX σ [.ref (B + v0), .int v1, .int v2]) (va_Qv post (BW D cy B kX) (AW B 346)) 0 0 (AW B 346) := by
  refine Met.ofK (cc := cX4_addWire) (maxL := 3) (ret := none) (by decide +kernel) rfl kX_len ?_
  intro p e s m below meth c X hP
  obtain ⟨⟨hx, hb, hml, hown, hts⟩, hr, hlk, hK, hN, hZ⟩ := id X
  have hD : ∀ σ, va_D (AW B 346) (wW cy B kX σ) := AW_D kX_len
  have hS : va_S (AW B 346) s.heap s.heap [] := va_S.rf
  have hl := lv_entry ([.ref (B + v0), .int v1, .int v2]) (n := 3) (Nat.le_of_ble_eq_true rfl)
  rw [lg_entry_eq]
  generalize (lg_sl ([.ref (B + v0), .int v1, .int v2]) ++ List.replicate (3 - (lg_sl ([.ref (B + v0), .int v1, .int v2])).length) Slot.unset).toArray = ls at hl ⊢
  have hl : lv_has ls 3 [(0, .ref (B + v0)), (1, .int v1), (2, .int v2)] := hl
  unfold wX4_addWire at h
  refine lv_aload_n hx hb dX4_addWire_0 rfl (lv_at hl 0 rfl) ?_
  refine rk_get X hP (C := RX4) (T := TX4) (N := 4) (ci := 4) wix_4 h0 rfl rfl 1 (by decide) (wi_0 _ (List.mem_of_getElem? (i := 10) rfl)) rfl rfl dX4_addWire_1 ?_
  refine lv_bipush (v := (10 : Int32)) hx hb dX4_addWire_4 (by decide) ?_
  refine lv_icmp_ge (tgt := 45) hx hb dX4_addWire_6 (by decide) (fun c1 => ?_) (fun c1 => ?_)
  · have h := h.1 c1
    exact rk_vret X kX_len h hP hS dX4_addWire_45
  · have h := h.2 c1
    refine lv_aload_n hx hb dX4_addWire_9 rfl (lv_at hl 0 rfl) ?_
    refine rk_get X hP (C := RX4) (T := TX4) (N := 4) (ci := 4) wix_4 h0 rfl rfl 3 (by decide) (wi_0 _ (List.mem_of_getElem? (i := 13) rfl)) rfl rfl dX4_addWire_10 ?_
    refine lv_iconst (v := (2 : Int32)) hx hb dX4_addWire_13 (by decide) ?_
    refine lv_aload_n hx hb dX4_addWire_14 rfl (lv_at hl 0 rfl) ?_
    refine rk_get X hP (C := RX4) (T := TX4) (N := 4) (ci := 4) wix_4 h0 rfl rfl 1 (by decide) (wi_0 _ (List.mem_of_getElem? (i := 10) rfl)) rfl rfl dX4_addWire_15 ?_
    refine lv_imul hx hb dX4_addWire_18 ?_
    refine lv_iload_n hx hb dX4_addWire_19 rfl (lv_at hl 1 rfl) ?_
    obtain ⟨b1, h⟩ := h
    refine rk_iast X hP hD hS (n := 20) (klX_X4_3 h0) (fun _ _ => rfl) b1 dX4_addWire_20 (fun H locs hP hS => ?_)
    obtain ⟨s1, es1⟩ : ∃ z : St, z = u1 σ (v0 + 2) ((2 : Int32) * (σ.1 v0 1)).toNatClampNeg v1 := ⟨_, rfl⟩
    rw [← es1] at hP
    have h := h s1 es1
    refine lv_aload_n hx hb dX4_addWire_21 rfl (lv_at hl 0 rfl) ?_
    refine rk_get X hP (C := RX4) (T := TX4) (N := 4) (ci := 4) wix_4 h0 rfl rfl 3 (by decide) (wi_0 _ (List.mem_of_getElem? (i := 13) rfl)) rfl rfl dX4_addWire_22 ?_
    refine lv_iconst (v := (2 : Int32)) hx hb dX4_addWire_25 (by decide) ?_
    refine lv_aload_n hx hb dX4_addWire_26 rfl (lv_at hl 0 rfl) ?_
    refine rk_get X hP (C := RX4) (T := TX4) (N := 4) (ci := 4) wix_4 h0 rfl rfl 1 (by decide) (wi_0 _ (List.mem_of_getElem? (i := 10) rfl)) rfl rfl dX4_addWire_27 ?_
    refine lv_imul hx hb dX4_addWire_30 ?_
    refine lv_iconst (v := (1 : Int32)) hx hb dX4_addWire_31 (by decide) ?_
    refine lv_iadd hx hb dX4_addWire_32 ?_
    refine lv_iload_n hx hb dX4_addWire_33 rfl (lv_at hl 2 rfl) ?_
    obtain ⟨b2, h⟩ := h
    refine rk_iast X hP hD hS (n := 20) (klX_X4_3 h0) (fun _ _ => rfl) b2 dX4_addWire_34 (fun H locs hP hS => ?_)
    obtain ⟨s2, es2⟩ : ∃ z : St, z = u1 s1 (v0 + 2) (((2 : Int32) * (s1.1 v0 1)) + (1 : Int32)).toNatClampNeg v2 := ⟨_, rfl⟩
    rw [← es2] at hP
    have h := h s2 es2
    refine lv_aload_n hx hb dX4_addWire_35 rfl (lv_at hl 0 rfl) ?_
    refine lv_dup hx hb dX4_addWire_36 rfl ?_
    refine rk_get X hP (C := RX4) (T := TX4) (N := 4) (ci := 4) wix_4 h0 rfl rfl 1 (by decide) (wi_0 _ (List.mem_of_getElem? (i := 10) rfl)) rfl rfl dX4_addWire_37 ?_
    refine lv_iconst (v := (1 : Int32)) hx hb dX4_addWire_40 (by decide) ?_
    refine lv_iadd hx hb dX4_addWire_41 ?_
    refine rk_puti X hP hD hS (C := RX4) (T := TX4) (N := 4) (ci := 4) wix_4 h0 rfl rfl tyX4 tyX4_ok nmX4 1 (by decide) (wi_0 _ (List.mem_of_getElem? (i := 10) rfl)) rfl rfl (by decide +kernel) (Nat.le_of_ble_eq_true rfl) rfl dX4_addWire_42 (fun H locs hP hS => ?_)
    obtain ⟨s3, es3⟩ : ∃ z : St, z = u1 s2 v0 1 ((s2.1 v0 1) + (1 : Int32)) := ⟨_, rfl⟩
    rw [← es3] at hP
    have h := h s3 es3
    exact rk_vret X kX_len h hP hS dX4_addWire_45

theorem hd_X4_removeWire : yX4_removeWire.cls = RX4 ∧ yX4_removeWire.cls ≠ "java/lang/invoke/MethodHandle" ∧ yX4_removeWire.cls ≠ "java/lang/invoke/VarHandle" ∧ (parseMethodDescriptor yX4_removeWire.desc).map (fun d => d.parameters.length) = some 1 := by decide +kernel
set_option maxRecDepth 100000 in
set_option maxHeartbeats 4000000 in
theorem tX4_removeWire_4 {p : Program} {l : Launch} {e : Env} {s : State} {m : MethodId} {av : Array Value} {below : List Frame} {meth : Method} {c : Code} {D : va_G} {cy : Nat → ClassId} {B : Nat} (X : kC p s m av meth c cX4_removeWire 3 none WALL RX4 D cy (AW B 346)) {post : St → Prop} : ∀ (n : Nat) (v0 : Nat) (v2 : Int32) (σ : St), kX[v0]? = some 4 → wX4_removeWire_4 post n v0 v2 σ → ∀ (H : Heap) (locs : List Loc) (ls : Array Slot), va_P D vwCl (wW cy B kX σ) H → va_S (AW B 346) s.heap H locs → lv_has ls 3 [(0, .ref (B + v0)), (2, .int v2)] → W p l e (rmD 0) s m av below meth c H locs 0 0 (MQ below (va_Qv post (BW D cy B kX) (AW B 346)) av s 0 0 (AW B 346)) (F0 m 4 ls []) := by
  obtain ⟨⟨hx, hb, hml, hown, hts⟩, hr, hlk, hK, hN, hZ⟩ := id X
  have hD : ∀ σ, va_D (AW B 346) (wW cy B kX σ) := AW_D kX_len
  intro n
  induction n with
  | zero => intro v0 v2 σ h0 h; exact absurd h id
  | succ n ih =>
    intro v0 v2 σ h0 h H locs ls hP hS hl
    rw [wX4_removeWire_4] at h
    refine lv_iload_n hx hb dX4_removeWire_4 rfl (lv_at hl 1 rfl) ?_
    refine lv_iconst (v := (2 : Int32)) hx hb dX4_removeWire_5 (by decide) ?_
    refine lv_aload_n hx hb dX4_removeWire_6 rfl (lv_at hl 0 rfl) ?_
    refine rk_get X hP (C := RX4) (T := TX4) (N := 4) (ci := 4) wix_4 h0 rfl rfl 1 (by decide) (wi_0 _ (List.mem_of_getElem? (i := 10) rfl)) rfl rfl dX4_removeWire_7 ?_
    refine lv_iconst (v := (1 : Int32)) hx hb dX4_removeWire_10 (by decide) ?_
    refine lv_isub hx hb dX4_removeWire_11 ?_
    refine lv_imul hx hb dX4_removeWire_12 ?_
    refine lv_icmp_ge (tgt := 36) hx hb dX4_removeWire_13 (by decide) (fun c1 => ?_) (fun c1 => ?_)
    · have h := h.1 c1
      refine lv_aload_n hx hb dX4_removeWire_36 rfl (lv_at hl 0 rfl) ?_
      refine lv_dup hx hb dX4_removeWire_37 rfl ?_
      refine rk_get X hP (C := RX4) (T := TX4) (N := 4) (ci := 4) wix_4 h0 rfl rfl 1 (by decide) (wi_0 _ (List.mem_of_getElem? (i := 10) rfl)) rfl rfl dX4_removeWire_38 ?_
      refine lv_iconst (v := (1 : Int32)) hx hb dX4_removeWire_41 (by decide) ?_
      refine lv_isub hx hb dX4_removeWire_42 ?_
      refine rk_puti X hP hD hS (C := RX4) (T := TX4) (N := 4) (ci := 4) wix_4 h0 rfl rfl tyX4 tyX4_ok nmX4 1 (by decide) (wi_0 _ (List.mem_of_getElem? (i := 10) rfl)) rfl rfl (by decide +kernel) (Nat.le_of_ble_eq_true rfl) rfl dX4_removeWire_43 (fun H locs hP hS => ?_)
      obtain ⟨s1, es1⟩ : ∃ z : St, z = u1 σ v0 1 ((σ.1 v0 1) - (1 : Int32)) := ⟨_, rfl⟩
      rw [← es1] at hP
      have h := h s1 es1
      exact rk_vret X kX_len h hP hS dX4_removeWire_46
    · have h := h.2 c1
      refine lv_aload_n hx hb dX4_removeWire_16 rfl (lv_at hl 0 rfl) ?_
      refine rk_get X hP (C := RX4) (T := TX4) (N := 4) (ci := 4) wix_4 h0 rfl rfl 3 (by decide) (wi_0 _ (List.mem_of_getElem? (i := 13) rfl)) rfl rfl dX4_removeWire_17 ?_
      refine lv_iload_n hx hb dX4_removeWire_20 rfl (lv_at hl 1 rfl) ?_
      refine lv_aload_n hx hb dX4_removeWire_21 rfl (lv_at hl 0 rfl) ?_
      refine rk_get X hP (C := RX4) (T := TX4) (N := 4) (ci := 4) wix_4 h0 rfl rfl 3 (by decide) (wi_0 _ (List.mem_of_getElem? (i := 13) rfl)) rfl rfl dX4_removeWire_22 ?_
      refine lv_iload_n hx hb dX4_removeWire_25 rfl (lv_at hl 1 rfl) ?_
      refine lv_iconst (v := (2 : Int32)) hx hb dX4_removeWire_26 (by decide) ?_
      refine lv_iadd hx hb dX4_removeWire_27 ?_
      refine lv_topi (fun x1 ex1 => ?_)
      have h := h x1 ex1
      obtain ⟨b1, h⟩ := h
      refine rk_iald X hP (n := 20) (klX_X4_3 h0) (fun _ _ => rfl) b1 dX4_removeWire_28 ?_
      obtain ⟨b2, h⟩ := h
      refine rk_iast X hP hD hS (n := 20) (klX_X4_3 h0) (fun _ _ => rfl) b2 dX4_removeWire_29 (fun H locs hP hS => ?_)
      obtain ⟨s2, es2⟩ : ∃ z : St, z = u1 σ (v0 + 2) v2.toNatClampNeg (σ.1 (v0 + 2) x1.toNatClampNeg) := ⟨_, rfl⟩
      rw [← es2] at hP
      have h := h s2 es2
      obtain ⟨x2, ex2⟩ : ∃ y : Int32, y = v2 + (1 : Int32) := ⟨_, rfl⟩
      have h := h x2 ex2
      refine lv_iinc (v := x2) (lv' := [(2, .int x2), (0, .ref (B + v0))]) hx hb dX4_removeWire_30 hl (k := 1) rfl (by rw [ex2]; rfl) (by decide) rfl (fun ls hl => ?_)
      refine lv_goto (tgt := 4) hx hb dX4_removeWire_33 (by decide) ?_
      exact ih _ _ _ h0 h _ _ _ hP hS (lv_sub hl [1, 0] rfl)
set_option maxRecDepth 100000 in
set_option maxHeartbeats 4000000 in
theorem mX4_removeWire (l : Launch) (D : va_G) (cy : Nat → ClassId) (B : Nat) (v0 : Nat) (v1 : Int32) (σ : St) (h0 : kX[v0]? = some 4) {post : St → Prop} (h : wX4_removeWire v0 v1 σ post) : Met l yX4_removeWire (Cond.code yX4_removeWire cX4_removeWire 3 none :: WALL) (rmD 0) (PcW D cy B kX σ [.ref (B + v0), .int v1]) (va_Qv post (BW D cy B kX) (AW B 346)) 0 0 (AW B 346) := by
  refine Met.ofK (cc := cX4_removeWire) (maxL := 3) (ret := none) (by decide +kernel) rfl kX_len ?_
  intro p e s m below meth c X hP
  obtain ⟨⟨hx, hb, hml, hown, hts⟩, hr, hlk, hK, hN, hZ⟩ := id X
  have hD : ∀ σ, va_D (AW B 346) (wW cy B kX σ) := AW_D kX_len
  have hS : va_S (AW B 346) s.heap s.heap [] := va_S.rf
  have hl := lv_entry ([.ref (B + v0), .int v1]) (n := 3) (Nat.le_of_ble_eq_true rfl)
  rw [lg_entry_eq]
  generalize (lg_sl ([.ref (B + v0), .int v1]) ++ List.replicate (3 - (lg_sl ([.ref (B + v0), .int v1])).length) Slot.unset).toArray = ls at hl ⊢
  have hl : lv_has ls 3 [(0, .ref (B + v0)), (1, .int v1)] := hl
  unfold wX4_removeWire at h
  refine lv_iconst (v := (2 : Int32)) hx hb dX4_removeWire_0 (by decide) ?_
  refine lv_iload_n hx hb dX4_removeWire_1 rfl (lv_at hl 1 rfl) ?_
  refine lv_imul hx hb dX4_removeWire_2 ?_
  refine lv_topi (fun x1 ex1 => ?_)
  have h := h x1 ex1
  refine lv_istore_n (lv' := [(2, .int x1), (0, .ref (B + v0)), (1, .int v1)]) hx hb dX4_removeWire_3 rfl hl (by decide) rfl (fun ls hl => ?_)
  obtain ⟨j, h⟩ := h
  exact tX4_removeWire_4 X j _ _ _ h0 h _ _ _ hP hS (lv_sub hl [1, 0] rfl)

theorem hd_X2_begin : yX2_begin.cls = RX2 ∧ yX2_begin.cls ≠ "java/lang/invoke/MethodHandle" ∧ yX2_begin.cls ≠ "java/lang/invoke/VarHandle" ∧ (parseMethodDescriptor yX2_begin.desc).map (fun d => d.parameters.length) = some 1 := by decide +kernel
set_option maxRecDepth 100000 in
set_option maxHeartbeats 4000000 in
theorem mX2_begin (l : Launch) (D : va_G) (cy : Nat → ClassId) (B : Nat) (v0 : Nat) (v1 : Int32) (σ : St) (h0 : kX[v0]? = some 2) {post : St → Prop} (h : wX2_begin v0 v1 σ post) : Met l yX2_begin (Cond.code yX2_begin cX2_begin 2 none :: WALL) (rmD 0) (PcW D cy B kX σ [.ref (B + v0), .int v1]) (va_Qv post (BW D cy B kX) (AW B 346)) 0 0 (AW B 346) := by
  refine Met.ofK (cc := cX2_begin) (maxL := 2) (ret := none) (by decide +kernel) rfl kX_len ?_
  intro p e s m below meth c X hP
  obtain ⟨⟨hx, hb, hml, hown, hts⟩, hr, hlk, hK, hN, hZ⟩ := id X
  have hD : ∀ σ, va_D (AW B 346) (wW cy B kX σ) := AW_D kX_len
  have hS : va_S (AW B 346) s.heap s.heap [] := va_S.rf
  have hl := lv_entry ([.ref (B + v0), .int v1]) (n := 2) (Nat.le_of_ble_eq_true rfl)
  rw [lg_entry_eq]
  generalize (lg_sl ([.ref (B + v0), .int v1]) ++ List.replicate (2 - (lg_sl ([.ref (B + v0), .int v1])).length) Slot.unset).toArray = ls at hl ⊢
  have hl : lv_has ls 2 [(0, .ref (B + v0)), (1, .int v1)] := hl
  unfold wX2_begin at h
  refine lv_aload_n hx hb dX2_begin_0 rfl (lv_at hl 0 rfl) ?_
  refine lv_iload_n hx hb dX2_begin_1 rfl (lv_at hl 1 rfl) ?_
  refine rk_puti X hP hD hS (C := RX2) (T := TX2) (N := 5) (ci := 2) wix_2 h0 rfl rfl tyX2 tyX2_ok nmX2 0 (by decide) (wi_2 _ (List.mem_of_getElem? (i := 19) rfl)) rfl rfl (by decide +kernel) (Nat.le_of_ble_eq_true rfl) rfl dX2_begin_2 (fun H locs hP hS => ?_)
  obtain ⟨s1, es1⟩ : ∃ z : St, z = u1 σ v0 0 v1 := ⟨_, rfl⟩
  rw [← es1] at hP
  have h := h s1 es1
  refine lv_aload_n hx hb dX2_begin_5 rfl (lv_at hl 0 rfl) ?_
  refine lv_iconst (v := (0 : Int32)) hx hb dX2_begin_6 (by decide) ?_
  refine rk_puti X hP hD hS (C := RX2) (T := TX2) (N := 5) (ci := 2) wix_2 h0 rfl rfl tyX2 tyX2_ok nmX2 1 (by decide) (wi_2 _ (List.mem_of_getElem? (i := 20) rfl)) rfl rfl (by decide +kernel) (Nat.le_of_ble_eq_true rfl) rfl dX2_begin_7 (fun H locs hP hS => ?_)
  obtain ⟨s2, es2⟩ : ∃ z : St, z = u1 s1 v0 1 (0 : Int32) := ⟨_, rfl⟩
  rw [← es2] at hP
  have h := h s2 es2
  exact rk_vret X kX_len h hP hS dX2_begin_10

theorem hd_X2_hasEdge : yX2_hasEdge.cls = RX2 ∧ yX2_hasEdge.cls ≠ "java/lang/invoke/MethodHandle" ∧ yX2_hasEdge.cls ≠ "java/lang/invoke/VarHandle" ∧ (parseMethodDescriptor yX2_hasEdge.desc).map (fun d => d.parameters.length) = some 2 := by decide +kernel
set_option maxRecDepth 100000 in
set_option maxHeartbeats 4000000 in
theorem tX2_hasEdge_11 {p : Program} {l : Launch} {e : Env} {s : State} {m : MethodId} {av : Array Value} {below : List Frame} {meth : Method} {c : Code} {D : va_G} {cy : Nat → ClassId} {B : Nat} (X : kC p s m av meth c cX2_hasEdge 5 (some .boolean) WALL RX2 D cy (AW B 346)) {post : Bool → St → Prop} : ∀ (n : Nat) (v0 : Nat) (v3 : Int32) (v4 : Int32) (σ : St), kX[v0]? = some 2 → wX2_hasEdge_11 post n v0 v3 v4 σ → ∀ (H : Heap) (locs : List Loc) (ls : Array Slot), va_P D vwCl (wW cy B kX σ) H → va_S (AW B 346) s.heap H locs → lv_has ls 5 [(0, .ref (B + v0)), (3, .int v3), (4, .int v4)] → W p l e (rmD 0) s m av below meth c H locs 0 0 (MQ below (Qz post D cy B kX 346) av s 0 0 (AW B 346)) (F0 m 11 ls []) := by
  obtain ⟨⟨hx, hb, hml, hown, hts⟩, hr, hlk, hK, hN, hZ⟩ := id X
  have hD : ∀ σ, va_D (AW B 346) (wW cy B kX σ) := AW_D kX_len
  intro n
  induction n with
  | zero => intro v0 v3 v4 σ h0 h; exact absurd h id
  | succ n ih =>
    intro v0 v3 v4 σ h0 h H locs ls hP hS hl
    rw [wX2_hasEdge_11] at h
    refine lv_iload hx hb dX2_hasEdge_11 (lv_at hl 2 rfl) ?_
    refine lv_aload_n hx hb dX2_hasEdge_13 rfl (lv_at hl 0 rfl) ?_
    refine rk_get X hP (C := RX2) (T := TX2) (N := 5) (ci := 2) wix_2 h0 rfl rfl 1 (by decide) (wi_2 _ (List.mem_of_getElem? (i := 20) rfl)) rfl rfl dX2_hasEdge_14 ?_
    refine lv_icmp_ge (tgt := 39) hx hb dX2_hasEdge_17 (by decide) (fun c1 => ?_) (fun c1 => ?_)
    · have h := h.1 c1
      refine lv_iconst (v := (0 : Int32)) hx hb dX2_hasEdge_39 (by decide) ?_
      exact rk_zret X kX_len false h hP hS dX2_hasEdge_40
    · have h := h.2 c1
      refine lv_aload_n hx hb dX2_hasEdge_20 rfl (lv_at hl 0 rfl) ?_
      refine rk_get X hP (C := RX2) (T := TX2) (N := 5) (ci := 2) wix_2 h0 rfl rfl 2 (by decide) (wi_2 _ (List.mem_of_getElem? (i := 21) rfl)) rfl rfl dX2_hasEdge_21 ?_
      refine lv_iload hx hb dX2_hasEdge_24 (lv_at hl 2 rfl) ?_
      obtain ⟨b1, h⟩ := h
      refine rk_iald X hP (n := 12) (klX_X2_2 h0) (fun _ _ => rfl) b1 dX2_hasEdge_26 ?_
      refine lv_iload_n hx hb dX2_hasEdge_27 rfl (lv_at hl 1 rfl) ?_
      refine lv_icmp_ne (tgt := 33) hx hb dX2_hasEdge_28 (by decide) (fun c2 => ?_) (fun c2 => ?_)
      · have h := h.1 c2
        obtain ⟨x1, ex1⟩ : ∃ y : Int32, y = v4 + (1 : Int32) := ⟨_, rfl⟩
        have h := h x1 ex1
        refine lv_iinc (v := x1) (lv' := [(4, .int x1), (0, .ref (B + v0)), (3, .int v3)]) hx hb dX2_hasEdge_33 hl (k := 2) rfl (by rw [ex1]; rfl) (by decide) rfl (fun ls hl => ?_)
        refine lv_goto (tgt := 11) hx hb dX2_hasEdge_36 (by decide) ?_
        exact ih _ _ _ _ h0 h _ _ _ hP hS (lv_sub hl [1, 2, 0] rfl)
      · have h := h.2 c2
        refine lv_iconst (v := (1 : Int32)) hx hb dX2_hasEdge_31 (by decide) ?_
        exact rk_zret X kX_len true h hP hS dX2_hasEdge_32
set_option maxRecDepth 100000 in
set_option maxHeartbeats 4000000 in
theorem mX2_hasEdge (l : Launch) (D : va_G) (cy : Nat → ClassId) (B : Nat) (v0 : Nat) (v1 : Int32) (v2 : Int32) (σ : St) (h0 : kX[v0]? = some 2) {post : Bool → St → Prop} (h : wX2_hasEdge v0 v1 v2 σ post) : Met l yX2_hasEdge (Cond.code yX2_hasEdge cX2_hasEdge 5 (some .boolean) :: WALL) (rmD 0) (PcW D cy B kX σ [.ref (B + v0), .int v1, .int v2]) (Qz post D cy B kX 346) 0 0 (AW B 346) := by
  refine Met.ofK (cc := cX2_hasEdge) (maxL := 5) (ret := (some .boolean)) (by decide +kernel) rfl kX_len ?_
  intro p e s m below meth c X hP
  obtain ⟨⟨hx, hb, hml, hown, hts⟩, hr, hlk, hK, hN, hZ⟩ := id X
  have hD : ∀ σ, va_D (AW B 346) (wW cy B kX σ) := AW_D kX_len
  have hS : va_S (AW B 346) s.heap s.heap [] := va_S.rf
  have hl := lv_entry ([.ref (B + v0), .int v1, .int v2]) (n := 5) (Nat.le_of_ble_eq_true rfl)
  rw [lg_entry_eq]
  generalize (lg_sl ([.ref (B + v0), .int v1, .int v2]) ++ List.replicate (5 - (lg_sl ([.ref (B + v0), .int v1, .int v2])).length) Slot.unset).toArray = ls at hl ⊢
  have hl : lv_has ls 5 [(0, .ref (B + v0)), (1, .int v1), (2, .int v2)] := hl
  unfold wX2_hasEdge at h
  refine lv_iconst (v := (1 : Int32)) hx hb dX2_hasEdge_0 (by decide) ?_
  refine lv_iload_n hx hb dX2_hasEdge_1 rfl (lv_at hl 1 rfl) ?_
  refine lv_ishl hx hb dX2_hasEdge_2 ?_
  refine lv_iconst (v := (1 : Int32)) hx hb dX2_hasEdge_3 (by decide) ?_
  refine lv_iload_n hx hb dX2_hasEdge_4 rfl (lv_at hl 2 rfl) ?_
  refine lv_ishl hx hb dX2_hasEdge_5 ?_
  refine lv_ior hx hb dX2_hasEdge_6 ?_
  refine lv_topi (fun x1 ex1 => ?_)
  have h := h x1 ex1
  refine lv_istore_n (lv' := [(3, .int x1), (0, .ref (B + v0)), (1, .int v1), (2, .int v2)]) hx hb dX2_hasEdge_7 rfl hl (by decide) rfl (fun ls hl => ?_)
  refine lv_iconst (v := (0 : Int32)) hx hb dX2_hasEdge_8 (by decide) ?_
  refine lv_istore (lv' := [(4, .int (0 : Int32)), (3, .int x1), (0, .ref (B + v0)), (1, .int v1), (2, .int v2)]) hx hb dX2_hasEdge_9 hl (by decide) rfl (fun ls hl => ?_)
  obtain ⟨j, h⟩ := h
  exact tX2_hasEdge_11 X j _ _ _ _ h0 h _ _ _ hP hS (lv_sub hl [2, 1, 0] rfl)

theorem hd_X2_addEdge : yX2_addEdge.cls = RX2 ∧ yX2_addEdge.cls ≠ "java/lang/invoke/MethodHandle" ∧ yX2_addEdge.cls ≠ "java/lang/invoke/VarHandle" ∧ (parseMethodDescriptor yX2_addEdge.desc).map (fun d => d.parameters.length) = some 3 := by decide +kernel
set_option maxRecDepth 100000 in
set_option maxHeartbeats 4000000 in
theorem mX2_addEdge (l : Launch) (D : va_G) (cy : Nat → ClassId) (B : Nat) (v0 : Nat) (v1 : Int32) (v2 : Int32) (v3 : Int32) (σ : St) (h0 : kX[v0]? = some 2) {post : St → Prop} (h : wX2_addEdge v0 v1 v2 v3 σ post) : Met l yX2_addEdge (Cond.code yX2_addEdge cX2_addEdge 4 none :: WALL) (rmD 0) (PcW D cy B kX σ [.ref (B + v0), .int v1, .int v2, .int v3]) (va_Qv post (BW D cy B kX) (AW B 346)) 0 0 (AW B 346) := by
  refine Met.ofK (cc := cX2_addEdge) (maxL := 4) (ret := none) (by decide +kernel) rfl kX_len ?_
  intro p e s m below meth c X hP
  obtain ⟨⟨hx, hb, hml, hown, hts⟩, hr, hlk, hK, hN, hZ⟩ := id X
  have hD : ∀ σ, va_D (AW B 346) (wW cy B kX σ) := AW_D kX_len
  have hS : va_S (AW B 346) s.heap s.heap [] := va_S.rf
  have hl := lv_entry ([.ref (B + v0), .int v1, .int v2, .int v3]) (n := 4) (Nat.le_of_ble_eq_true rfl)
  rw [lg_entry_eq]
  generalize (lg_sl ([.ref (B + v0), .int v1, .int v2, .int v3]) ++ List.replicate (4 - (lg_sl ([.ref (B + v0), .int v1, .int v2, .int v3])).length) Slot.unset).toArray = ls at hl ⊢
  have hl : lv_has ls 4 [(0, .ref (B + v0)), (1, .int v1), (2, .int v2), (3, .int v3)] := hl
  unfold wX2_addEdge at h
  refine lv_aload_n hx hb dX2_addEdge_0 rfl (lv_at hl 0 rfl) ?_
  refine rk_get X hP (C := RX2) (T := TX2) (N := 5) (ci := 2) wix_2 h0 rfl rfl 1 (by decide) (wi_2 _ (List.mem_of_getElem? (i := 20) rfl)) rfl rfl dX2_addEdge_1 ?_
  refine lv_bipush (v := (12 : Int32)) hx hb dX2_addEdge_4 (by decide) ?_
  refine lv_icmp_ge (tgt := 45) hx hb dX2_addEdge_6 (by decide) (fun c1 => ?_) (fun c1 => ?_)
  · have h := h.1 c1
    exact rk_vret X kX_len h hP hS dX2_addEdge_45
  · have h := h.2 c1
    refine lv_aload_n hx hb dX2_addEdge_9 rfl (lv_at hl 0 rfl) ?_
    refine rk_get X hP (C := RX2) (T := TX2) (N := 5) (ci := 2) wix_2 h0 rfl rfl 2 (by decide) (wi_2 _ (List.mem_of_getElem? (i := 21) rfl)) rfl rfl dX2_addEdge_10 ?_
    refine lv_aload_n hx hb dX2_addEdge_13 rfl (lv_at hl 0 rfl) ?_
    refine rk_get X hP (C := RX2) (T := TX2) (N := 5) (ci := 2) wix_2 h0 rfl rfl 1 (by decide) (wi_2 _ (List.mem_of_getElem? (i := 20) rfl)) rfl rfl dX2_addEdge_14 ?_
    refine lv_iconst (v := (1 : Int32)) hx hb dX2_addEdge_17 (by decide) ?_
    refine lv_iload_n hx hb dX2_addEdge_18 rfl (lv_at hl 1 rfl) ?_
    refine lv_ishl hx hb dX2_addEdge_19 ?_
    refine lv_iconst (v := (1 : Int32)) hx hb dX2_addEdge_20 (by decide) ?_
    refine lv_iload_n hx hb dX2_addEdge_21 rfl (lv_at hl 2 rfl) ?_
    refine lv_ishl hx hb dX2_addEdge_22 ?_
    refine lv_ior hx hb dX2_addEdge_23 ?_
    obtain ⟨b1, h⟩ := h
    refine rk_iast X hP hD hS (n := 12) (klX_X2_2 h0) (fun _ _ => rfl) b1 dX2_addEdge_24 (fun H locs hP hS => ?_)
    obtain ⟨s1, es1⟩ : ∃ z : St, z = u1 σ (v0 + 1) (σ.1 v0 1).toNatClampNeg (((1 : Int32) <<< (v1 &&& 31)) ||| ((1 : Int32) <<< (v2 &&& 31))) := ⟨_, rfl⟩
    rw [← es1] at hP
    have h := h s1 es1
    refine lv_aload_n hx hb dX2_addEdge_25 rfl (lv_at hl 0 rfl) ?_
    refine rk_get X hP (C := RX2) (T := TX2) (N := 5) (ci := 2) wix_2 h0 rfl rfl 3 (by decide) (wi_2 _ (List.mem_of_getElem? (i := 22) rfl)) rfl rfl dX2_addEdge_26 ?_
    refine lv_aload_n hx hb dX2_addEdge_29 rfl (lv_at hl 0 rfl) ?_
    refine rk_get X hP (C := RX2) (T := TX2) (N := 5) (ci := 2) wix_2 h0 rfl rfl 1 (by decide) (wi_2 _ (List.mem_of_getElem? (i := 20) rfl)) rfl rfl dX2_addEdge_30 ?_
    refine lv_iload_n hx hb dX2_addEdge_33 rfl (lv_at hl 3 rfl) ?_
    obtain ⟨b2, h⟩ := h
    refine rk_iast X hP hD hS (n := 12) (klX_X2_3 h0) (fun _ _ => rfl) b2 dX2_addEdge_34 (fun H locs hP hS => ?_)
    obtain ⟨s2, es2⟩ : ∃ z : St, z = u1 s1 (v0 + 2) (s1.1 v0 1).toNatClampNeg v3 := ⟨_, rfl⟩
    rw [← es2] at hP
    have h := h s2 es2
    refine lv_aload_n hx hb dX2_addEdge_35 rfl (lv_at hl 0 rfl) ?_
    refine lv_dup hx hb dX2_addEdge_36 rfl ?_
    refine rk_get X hP (C := RX2) (T := TX2) (N := 5) (ci := 2) wix_2 h0 rfl rfl 1 (by decide) (wi_2 _ (List.mem_of_getElem? (i := 20) rfl)) rfl rfl dX2_addEdge_37 ?_
    refine lv_iconst (v := (1 : Int32)) hx hb dX2_addEdge_40 (by decide) ?_
    refine lv_iadd hx hb dX2_addEdge_41 ?_
    refine rk_puti X hP hD hS (C := RX2) (T := TX2) (N := 5) (ci := 2) wix_2 h0 rfl rfl tyX2 tyX2_ok nmX2 1 (by decide) (wi_2 _ (List.mem_of_getElem? (i := 20) rfl)) rfl rfl (by decide +kernel) (Nat.le_of_ble_eq_true rfl) rfl dX2_addEdge_42 (fun H locs hP hS => ?_)
    obtain ⟨s3, es3⟩ : ∃ z : St, z = u1 s2 v0 1 ((s2.1 v0 1) + (1 : Int32)) := ⟨_, rfl⟩
    rw [← es3] at hP
    have h := h s3 es3
    exact rk_vret X kX_len h hP hS dX2_addEdge_45

theorem hd_X2_matchingsOf : yX2_matchingsOf.cls = RX2 ∧ yX2_matchingsOf.cls ≠ "java/lang/invoke/MethodHandle" ∧ yX2_matchingsOf.cls ≠ "java/lang/invoke/VarHandle" ∧ (parseMethodDescriptor yX2_matchingsOf.desc).map (fun d => d.parameters.length) = some 2 := by decide +kernel
set_option maxRecDepth 100000 in
set_option maxHeartbeats 4000000 in
theorem tX2_matchingsOf_11 {p : Program} {l : Launch} {e : Env} {s : State} {m : MethodId} {av : Array Value} {below : List Frame} {meth : Method} {c : Code} {D : va_G} {cy : Nat → ClassId} {B : Nat} (X : kC p s m av meth c cX2_matchingsOf 7 (some .int) WALL RX2 D cy (AW B 346)) {post : Int32 → St → Prop} : ∀ (n : Nat) (v0 : Nat) (v1 : Int32) (v2 : Int32) (v3 : Int32) (v4 : Int32) (v5 : Int32) (σ : St), kX[v0]? = some 2 → wX2_matchingsOf_11 post n v0 v1 v2 v3 v4 v5 σ → ∀ (H : Heap) (locs : List Loc) (ls : Array Slot), va_P D vwCl (wW cy B kX σ) H → va_S (AW B 346) s.heap H locs → lv_has ls 7 [(0, .ref (B + v0)), (1, .int v1), (2, .int v2), (3, .int v3), (4, .int v4), (5, .int v5)] → W p l e (rmD 2) s m av below meth c H locs 0 0 (MQ below (va_Qi post (BW D cy B kX) (AW B 346)) av s 0 0 (AW B 346)) (F0 m 11 ls []) := by
  obtain ⟨⟨hx, hb, hml, hown, hts⟩, hr, hlk, hK, hN, hZ⟩ := id X
  have hD : ∀ σ, va_D (AW B 346) (wW cy B kX σ) := AW_D kX_len
  intro n
  induction n with
  | zero => intro v0 v1 v2 v3 v4 v5 σ h0 h; exact absurd h id
  | succ n ih =>
    intro v0 v1 v2 v3 v4 v5 σ h0 h H locs ls hP hS hl
    rw [wX2_matchingsOf_11] at h
    refine lv_iload hx hb dX2_matchingsOf_11 (lv_at hl 5 rfl) ?_
    refine lv_aload_n hx hb dX2_matchingsOf_13 rfl (lv_at hl 0 rfl) ?_
    refine rk_get X hP (C := RX2) (T := TX2) (N := 5) (ci := 2) wix_2 h0 rfl rfl 1 (by decide) (wi_2 _ (List.mem_of_getElem? (i := 20) rfl)) rfl rfl dX2_matchingsOf_14 ?_
    refine lv_icmp_ge (tgt := 73) hx hb dX2_matchingsOf_17 (by decide) (fun c1 => ?_) (fun c1 => ?_)
    · have h := h.1 c1
      refine lv_iload hx hb dX2_matchingsOf_73 (lv_at hl 4 rfl) ?_
      refine lv_iload_n hx hb dX2_matchingsOf_75 rfl (lv_at hl 2 rfl) ?_
      refine rk_calli (va_runSN (As := [.int v4, .int v2]) (rest := []) X.1 (mX10_mod l D cy B v4 v2 σ h) ⟨va_cnB 2 hts (gW_C (wi_2 _ (List.mem_of_getElem? (i := 2) rfl))) rfl rfl rfl hN.2.1 (hts _ (wi_2 _ (List.mem_of_getElem? (i := 8) rfl))) hd_X10_mod ⟨Nat.le_of_ble_eq_true rfl, Nat.le_of_ble_eq_true rfl⟩, hts _ (wi_2 _ (List.mem_of_getElem? (i := 7) rfl)), trivial⟩ (rk_preS X hS hP [.int v4, .int v2]) rfl rfl hl.1 rfl (lv_room (Nat.le_of_ble_eq_true rfl)) dX2_matchingsOf_76 ⟨Nat.zero_le _, Nat.zero_le _⟩) hS (fun _ h => h) (fun r1 s1 H locs h hP hS => ?_)
      exact rk_iret X rfl kX_len h hP hS dX2_matchingsOf_79
    · have h := h.2 c1
      refine lv_aload_n hx hb dX2_matchingsOf_20 rfl (lv_at hl 0 rfl) ?_
      refine rk_get X hP (C := RX2) (T := TX2) (N := 5) (ci := 2) wix_2 h0 rfl rfl 2 (by decide) (wi_2 _ (List.mem_of_getElem? (i := 21) rfl)) rfl rfl dX2_matchingsOf_21 ?_
      refine lv_iload hx hb dX2_matchingsOf_24 (lv_at hl 5 rfl) ?_
      obtain ⟨b1, h⟩ := h
      refine rk_iald X hP (n := 12) (klX_X2_2 h0) (fun _ _ => rfl) b1 dX2_matchingsOf_26 ?_
      refine lv_topi (fun x1 ex1 => ?_)
      have h := h x1 ex1
      refine lv_istore (lv' := [(6, .int x1), (0, .ref (B + v0)), (1, .int v1), (2, .int v2), (3, .int v3), (4, .int v4), (5, .int v5)]) hx hb dX2_matchingsOf_27 hl (by decide) rfl (fun ls hl => ?_)
      refine lv_iload hx hb dX2_matchingsOf_29 (lv_at hl 0 rfl) ?_
      refine lv_iload_n hx hb dX2_matchingsOf_31 rfl (lv_at hl 4 rfl) ?_
      refine lv_iand hx hb dX2_matchingsOf_32 ?_
      refine lv_if_eq (tgt := 67) hx hb dX2_matchingsOf_33 (by decide) (fun c2 => ?_) (fun c2 => ?_)
      · have h := h.1 c2
        obtain ⟨x2, ex2⟩ : ∃ y : Int32, y = v5 + (1 : Int32) := ⟨_, rfl⟩
        have h := h x2 ex2
        refine lv_iinc (v := x2) (lv' := [(5, .int x2), (6, .int x1), (0, .ref (B + v0)), (1, .int v1), (2, .int v2), (3, .int v3), (4, .int v4)]) hx hb dX2_matchingsOf_67 hl (k := 6) rfl (by rw [ex2]; rfl) (by decide) rfl (fun ls hl => ?_)
        refine lv_goto (tgt := 11) hx hb dX2_matchingsOf_70 (by decide) ?_
        exact ih _ _ _ _ _ _ _ h0 h _ _ _ hP hS (lv_sub hl [2, 3, 4, 5, 6, 0] rfl)
      · have h := h.2 c2
        refine lv_iload hx hb dX2_matchingsOf_36 (lv_at hl 0 rfl) ?_
        refine lv_iload_n hx hb dX2_matchingsOf_38 rfl (lv_at hl 2 rfl) ?_
        refine lv_iand hx hb dX2_matchingsOf_39 ?_
        refine lv_iload hx hb dX2_matchingsOf_40 (lv_at hl 0 rfl) ?_
        refine lv_icmp_ne (tgt := 67) hx hb dX2_matchingsOf_42 (by decide) (fun c3 => ?_) (fun c3 => ?_)
        · have h := h.1 c3
          obtain ⟨x3, ex3⟩ : ∃ y : Int32, y = v5 + (1 : Int32) := ⟨_, rfl⟩
          have h := h x3 ex3
          refine lv_iinc (v := x3) (lv' := [(5, .int x3), (6, .int x1), (0, .ref (B + v0)), (1, .int v1), (2, .int v2), (3, .int v3), (4, .int v4)]) hx hb dX2_matchingsOf_67 hl (k := 6) rfl (by rw [ex3]; rfl) (by decide) rfl (fun ls hl => ?_)
          refine lv_goto (tgt := 11) hx hb dX2_matchingsOf_70 (by decide) ?_
          exact ih _ _ _ _ _ _ _ h0 h _ _ _ hP hS (lv_sub hl [2, 3, 4, 5, 6, 0] rfl)
        · have h := h.2 c3
          refine lv_iload hx hb dX2_matchingsOf_45 (lv_at hl 5 rfl) ?_
          refine lv_aload_n hx hb dX2_matchingsOf_47 rfl (lv_at hl 1 rfl) ?_
          refine rk_get X hP (C := RX2) (T := TX2) (N := 5) (ci := 2) wix_2 h0 rfl rfl 3 (by decide) (wi_2 _ (List.mem_of_getElem? (i := 22) rfl)) rfl rfl dX2_matchingsOf_48 ?_
          refine lv_iload hx hb dX2_matchingsOf_51 (lv_at hl 6 rfl) ?_
          obtain ⟨b2, h⟩ := h
          refine rk_iald X hP (n := 12) (klX_X2_3 h0) (fun _ _ => rfl) b2 dX2_matchingsOf_53 ?_
          refine lv_aload_n hx hb dX2_matchingsOf_54 rfl (lv_at hl 1 rfl) ?_
          refine rk_get X hP (C := RX2) (T := TX2) (N := 5) (ci := 2) wix_2 h0 rfl rfl 4 (by decide) (wi_2 _ (List.mem_of_getElem? (i := 23) rfl)) rfl rfl dX2_matchingsOf_55 ?_
          refine lv_iload_n hx hb dX2_matchingsOf_58 rfl (lv_at hl 2 rfl) ?_
          refine lv_iload hx hb dX2_matchingsOf_59 (lv_at hl 0 rfl) ?_
          refine lv_ixor hx hb dX2_matchingsOf_61 ?_
          refine lv_topi (fun x4 ex4 => ?_)
          have h := h x4 ex4
          obtain ⟨b3, h⟩ := h
          refine rk_iald X hP (n := 256) (klX_X2_4 h0) (fun _ _ => rfl) b3 dX2_matchingsOf_62 ?_
          refine lv_imul hx hb dX2_matchingsOf_63 ?_
          refine lv_iadd hx hb dX2_matchingsOf_64 ?_
          refine lv_topi (fun x5 ex5 => ?_)
          have h := h x5 ex5
          refine lv_istore (lv' := [(4, .int x5), (6, .int x1), (0, .ref (B + v0)), (1, .int v1), (2, .int v2), (3, .int v3), (5, .int v5)]) hx hb dX2_matchingsOf_65 hl (by decide) rfl (fun ls hl => ?_)
          obtain ⟨x6, ex6⟩ : ∃ y : Int32, y = v5 + (1 : Int32) := ⟨_, rfl⟩
          have h := h x6 ex6
          refine lv_iinc (v := x6) (lv' := [(5, .int x6), (4, .int x5), (6, .int x1), (0, .ref (B + v0)), (1, .int v1), (2, .int v2), (3, .int v3)]) hx hb dX2_matchingsOf_67 hl (k := 6) rfl (by rw [ex6]; rfl) (by decide) rfl (fun ls hl => ?_)
          refine lv_goto (tgt := 11) hx hb dX2_matchingsOf_70 (by decide) ?_
          exact ih _ _ _ _ _ _ _ h0 h _ _ _ hP hS (lv_sub hl [3, 4, 5, 6, 1, 0] rfl)
set_option maxRecDepth 100000 in
set_option maxHeartbeats 4000000 in
theorem mX2_matchingsOf (l : Launch) (D : va_G) (cy : Nat → ClassId) (B : Nat) (v0 : Nat) (v1 : Int32) (v2 : Int32) (σ : St) (h0 : kX[v0]? = some 2) {post : Int32 → St → Prop} (h : wX2_matchingsOf v0 v1 v2 σ post) : Met l yX2_matchingsOf (Cond.code yX2_matchingsOf cX2_matchingsOf 7 (some .int) :: WALL) (rmD 2) (PcW D cy B kX σ [.ref (B + v0), .int v1, .int v2]) (va_Qi post (BW D cy B kX) (AW B 346)) 0 0 (AW B 346) := by
  refine Met.ofK (cc := cX2_matchingsOf) (maxL := 7) (ret := (some .int)) (by decide +kernel) rfl kX_len ?_
  intro p e s m below meth c X hP
  obtain ⟨⟨hx, hb, hml, hown, hts⟩, hr, hlk, hK, hN, hZ⟩ := id X
  have hD : ∀ σ, va_D (AW B 346) (wW cy B kX σ) := AW_D kX_len
  have hS : va_S (AW B 346) s.heap s.heap [] := va_S.rf
  have hl := lv_entry ([.ref (B + v0), .int v1, .int v2]) (n := 7) (Nat.le_of_ble_eq_true rfl)
  rw [lg_entry_eq]
  generalize (lg_sl ([.ref (B + v0), .int v1, .int v2]) ++ List.replicate (7 - (lg_sl ([.ref (B + v0), .int v1, .int v2])).length) Slot.unset).toArray = ls at hl ⊢
  have hl : lv_has ls 7 [(0, .ref (B + v0)), (1, .int v1), (2, .int v2)] := hl
  unfold wX2_matchingsOf at h
  refine lv_iload_n hx hb dX2_matchingsOf_0 rfl (lv_at hl 1 rfl) ?_
  refine lv_iload_n hx hb dX2_matchingsOf_1 rfl (lv_at hl 1 rfl) ?_
  refine lv_ineg hx hb dX2_matchingsOf_2 ?_
  refine lv_iand hx hb dX2_matchingsOf_3 ?_
  refine lv_topi (fun x1 ex1 => ?_)
  have h := h x1 ex1
  refine lv_istore_n (lv' := [(3, .int x1), (0, .ref (B + v0)), (1, .int v1), (2, .int v2)]) hx hb dX2_matchingsOf_4 rfl hl (by decide) rfl (fun ls hl => ?_)
  refine lv_iconst (v := (0 : Int32)) hx hb dX2_matchingsOf_5 (by decide) ?_
  refine lv_istore (lv' := [(4, .int (0 : Int32)), (3, .int x1), (0, .ref (B + v0)), (1, .int v1), (2, .int v2)]) hx hb dX2_matchingsOf_6 hl (by decide) rfl (fun ls hl => ?_)
  refine lv_iconst (v := (0 : Int32)) hx hb dX2_matchingsOf_8 (by decide) ?_
  refine lv_istore (lv' := [(5, .int (0 : Int32)), (4, .int (0 : Int32)), (3, .int x1), (0, .ref (B + v0)), (1, .int v1), (2, .int v2)]) hx hb dX2_matchingsOf_9 hl (by decide) rfl (fun ls hl => ?_)
  obtain ⟨j, h⟩ := h
  exact tX2_matchingsOf_11 X j _ _ _ _ _ _ _ h0 h _ _ _ hP hS (lv_sub hl [3, 4, 5, 2, 1, 0] rfl)

theorem hd_X2_fill : yX2_fill.cls = RX2 ∧ yX2_fill.cls ≠ "java/lang/invoke/MethodHandle" ∧ yX2_fill.cls ≠ "java/lang/invoke/VarHandle" ∧ (parseMethodDescriptor yX2_fill.desc).map (fun d => d.parameters.length) = some 2 := by decide +kernel
set_option maxRecDepth 100000 in
set_option maxHeartbeats 4000000 in
theorem tX2_fill_48 {p : Program} {l : Launch} {e : Env} {s : State} {m : MethodId} {av : Array Value} {below : List Frame} {meth : Method} {c : Code} {D : va_G} {cy : Nat → ClassId} {B : Nat} (X : kC p s m av meth c cX2_fill 5 none WALL RX2 D cy (AW B 346)) {post : St → Prop} : ∀ (n : Nat) (v0 : Nat) (v1 : Nat) (v3 : Int32) (v4 : Int32) (σ : St), kX[v0]? = some 2 → kX[v1]? = some 7 → wX2_fill_48 post n v0 v1 v3 v4 σ → ∀ (H : Heap) (locs : List Loc) (ls : Array Slot), va_P D vwCl (wW cy B kX σ) H → va_S (AW B 346) s.heap H locs → lv_has ls 5 [(0, .ref (B + v0)), (1, .ref (B + v1)), (3, .int v3), (4, .int v4)] → W p l e (rmD 3) s m av below meth c H locs 0 0 (MQ below (va_Qv post (BW D cy B kX) (AW B 346)) av s 0 0 (AW B 346)) (F0 m 48 ls []) := by
  obtain ⟨⟨hx, hb, hml, hown, hts⟩, hr, hlk, hK, hN, hZ⟩ := id X
  have hD : ∀ σ, va_D (AW B 346) (wW cy B kX σ) := AW_D kX_len
  intro n
  induction n with
  | zero => intro v0 v1 v3 v4 σ h0 h1 h; exact absurd h id
  | succ n ih =>
    intro v0 v1 v3 v4 σ h0 h1 h H locs ls hP hS hl
    rw [wX2_fill_48] at h
    refine lv_iload hx hb dX2_fill_48 (lv_at hl 3 rfl) ?_
    refine lv_aload_n hx hb dX2_fill_50 rfl (lv_at hl 1 rfl) ?_
    refine rk_calli (va_runV (As := []) (rest := [.int v4]) X.1 (mX7_size l D cy B v1 σ h1 h) (cwV 0 hts (gW_V (wi_3 _ (List.mem_of_getElem? (i := 11) rfl)) (wi_3 _ (List.mem_of_getElem? (i := 12) rfl)) (wi_3 _ (List.mem_of_getElem? (i := 13) rfl)) (wi_0 _ (List.mem_of_getElem? (i := 15) rfl)) (wi_3 _ (List.mem_of_getElem? (i := 4) rfl))) rfl rfl rfl hd_X7_size ⟨Nat.le_of_ble_eq_true rfl, Nat.le_of_ble_eq_true rfl⟩) (rk_preV X hS hP h1 rfl rfl []) rfl rfl hl.1 rfl (lv_room (Nat.le_of_ble_eq_true rfl)) dX2_fill_51 ⟨Nat.zero_le _, Nat.zero_le _⟩) hS (fun _ h => h) (fun r1 s1 H locs h hP hS => ?_)
    refine lv_icmp_ge (tgt := 81) hx hb dX2_fill_54 (by decide) (fun c1 => ?_) (fun c1 => ?_)
    · have h := h.1 c1
      exact rk_vret X kX_len h hP hS dX2_fill_81
    · have h := h.2 c1
      refine lv_aload_n hx hb dX2_fill_57 rfl (lv_at hl 1 rfl) ?_
      refine rk_get X hP (C := RX7) (T := TX7) (N := 2) (ci := 7) wix_7 h1 rfl rfl 1 (by decide) (wi_3 _ (List.mem_of_getElem? (i := 6) rfl)) rfl rfl dX2_fill_58 ?_
      refine lv_iload hx hb dX2_fill_61 (lv_at hl 3 rfl) ?_
      refine lv_aload_n hx hb dX2_fill_63 rfl (lv_at hl 0 rfl) ?_
      refine rk_get X hP (C := RX2) (T := TX2) (N := 5) (ci := 2) wix_2 h0 rfl rfl 4 (by decide) (wi_2 _ (List.mem_of_getElem? (i := 23) rfl)) rfl rfl dX2_fill_64 ?_
      refine lv_iload_n hx hb dX2_fill_67 rfl (lv_at hl 2 rfl) ?_
      refine lv_iload hx hb dX2_fill_68 (lv_at hl 3 rfl) ?_
      refine lv_iconst (v := (-1 : Int32)) hx hb dX2_fill_70 (by decide) ?_
      refine lv_ixor hx hb dX2_fill_71 ?_
      refine lv_iand hx hb dX2_fill_72 ?_
      refine lv_topi (fun x1 ex1 => ?_)
      have h := h x1 ex1
      obtain ⟨b1, h⟩ := h
      refine rk_iald X hP (n := 256) (klX_X2_4 h0) (fun _ _ => rfl) b1 dX2_fill_73 ?_
      obtain ⟨b2, h⟩ := h
      refine rk_iast X hP hD hS (n := 16) (klX_X7_1 h1) (fun _ _ => rfl) b2 dX2_fill_74 (fun H locs hP hS => ?_)
      obtain ⟨s2, es2⟩ : ∃ z : St, z = u1 s1 (v1 + 1) v4.toNatClampNeg (s1.1 (v0 + 3) x1.toNatClampNeg) := ⟨_, rfl⟩
      rw [← es2] at hP
      have h := h s2 es2
      obtain ⟨x2, ex2⟩ : ∃ y : Int32, y = v4 + (1 : Int32) := ⟨_, rfl⟩
      have h := h x2 ex2
      refine lv_iinc (v := x2) (lv' := [(4, .int x2), (0, .ref (B + v0)), (1, .ref (B + v1)), (3, .int v3)]) hx hb dX2_fill_75 hl (k := 3) rfl (by rw [ex2]; rfl) (by decide) rfl (fun ls hl => ?_)
      refine lv_goto (tgt := 48) hx hb dX2_fill_78 (by decide) ?_
      exact ih _ _ _ _ _ h0 h1 h _ _ _ hP hS (lv_sub hl [1, 2, 3, 0] rfl)
set_option maxRecDepth 100000 in
set_option maxHeartbeats 4000000 in
theorem tX2_fill_19 {p : Program} {l : Launch} {e : Env} {s : State} {m : MethodId} {av : Array Value} {below : List Frame} {meth : Method} {c : Code} {D : va_G} {cy : Nat → ClassId} {B : Nat} (X : kC p s m av meth c cX2_fill 5 none WALL RX2 D cy (AW B 346)) {post : St → Prop} : ∀ (n : Nat) (v0 : Nat) (v1 : Nat) (v2 : Int32) (v3 : Int32) (v4 : Int32) (σ : St), kX[v0]? = some 2 → kX[v1]? = some 7 → wX2_fill_19 post n v0 v1 v2 v3 v4 σ → ∀ (H : Heap) (locs : List Loc) (ls : Array Slot), va_P D vwCl (wW cy B kX σ) H → va_S (AW B 346) s.heap H locs → lv_has ls 5 [(0, .ref (B + v0)), (1, .ref (B + v1)), (2, .int v2), (3, .int v3), (4, .int v4)] → W p l e (rmD 3) s m av below meth c H locs 0 0 (MQ below (va_Qv post (BW D cy B kX) (AW B 346)) av s 0 0 (AW B 346)) (F0 m 19 ls []) := by
  obtain ⟨⟨hx, hb, hml, hown, hts⟩, hr, hlk, hK, hN, hZ⟩ := id X
  have hD : ∀ σ, va_D (AW B 346) (wW cy B kX σ) := AW_D kX_len
  intro n
  induction n with
  | zero => intro v0 v1 v2 v3 v4 σ h0 h1 h; exact absurd h id
  | succ n ih =>
    intro v0 v1 v2 v3 v4 σ h0 h1 h H locs ls hP hS hl
    rw [wX2_fill_19] at h
    refine lv_iload hx hb dX2_fill_19 (lv_at hl 4 rfl) ?_
    refine lv_iload_n hx hb dX2_fill_21 rfl (lv_at hl 3 rfl) ?_
    refine lv_icmp_gt (tgt := 45) hx hb dX2_fill_22 (by decide) (fun c1 => ?_) (fun c1 => ?_)
    · have h := h.1 c1
      refine lv_iconst (v := (0 : Int32)) hx hb dX2_fill_45 (by decide) ?_
      refine lv_istore (lv' := [(4, .int (0 : Int32)), (0, .ref (B + v0)), (1, .ref (B + v1)), (2, .int v2), (3, .int v3)]) hx hb dX2_fill_46 hl (by decide) rfl (fun ls hl => ?_)
      obtain ⟨j, h⟩ := h
      exact tX2_fill_48 X j _ _ _ _ _ h0 h1 h _ _ _ hP hS (lv_sub hl [1, 2, 4, 0] rfl)
    · have h := h.2 c1
      refine lv_aload_n hx hb dX2_fill_25 rfl (lv_at hl 0 rfl) ?_
      refine rk_get X hP (C := RX2) (T := TX2) (N := 5) (ci := 2) wix_2 h0 rfl rfl 4 (by decide) (wi_2 _ (List.mem_of_getElem? (i := 23) rfl)) rfl rfl dX2_fill_26 ?_
      refine lv_iload hx hb dX2_fill_29 (lv_at hl 4 rfl) ?_
      refine lv_aload_n hx hb dX2_fill_31 rfl (lv_at hl 0 rfl) ?_
      refine lv_iload hx hb dX2_fill_32 (lv_at hl 4 rfl) ?_
      refine lv_iload_n hx hb dX2_fill_34 rfl (lv_at hl 2 rfl) ?_
      refine rk_calli (va_runV (As := [.int v4, .int v2]) (rest := [.int v4, .ref (B + (v0 + 3))]) X.1 (mX2_matchingsOf l D cy B v0 v4 v2 σ h0 h) (cwV 2 hts (gW_V (wi_3 _ (List.mem_of_getElem? (i := 7) rfl)) (wi_3 _ (List.mem_of_getElem? (i := 8) rfl)) (wi_3 _ (List.mem_of_getElem? (i := 9) rfl)) (wi_3 _ (List.mem_of_getElem? (i := 10) rfl)) (wi_3 _ (List.mem_of_getElem? (i := 3) rfl))) rfl rfl rfl hd_X2_matchingsOf ⟨Nat.le_of_ble_eq_true rfl, Nat.le_of_ble_eq_true rfl⟩) (rk_preV X hS hP h0 rfl rfl [.int v4, .int v2]) rfl rfl hl.1 rfl (lv_room (Nat.le_of_ble_eq_true rfl)) dX2_fill_35 ⟨Nat.zero_le _, Nat.zero_le _⟩) hS (fun _ h => h) (fun r1 s1 H locs h hP hS => ?_)
      obtain ⟨b1, h⟩ := h
      refine rk_iast X hP hD hS (n := 256) (klX_X2_4 h0) (fun _ _ => rfl) b1 dX2_fill_38 (fun H locs hP hS => ?_)
      obtain ⟨s2, es2⟩ : ∃ z : St, z = u1 s1 (v0 + 3) v4.toNatClampNeg r1 := ⟨_, rfl⟩
      rw [← es2] at hP
      have h := h s2 es2
      obtain ⟨x1, ex1⟩ : ∃ y : Int32, y = v4 + (1 : Int32) := ⟨_, rfl⟩
      have h := h x1 ex1
      refine lv_iinc (v := x1) (lv' := [(4, .int x1), (0, .ref (B + v0)), (1, .ref (B + v1)), (2, .int v2), (3, .int v3)]) hx hb dX2_fill_39 hl (k := 4) rfl (by rw [ex1]; rfl) (by decide) rfl (fun ls hl => ?_)
      refine lv_goto (tgt := 19) hx hb dX2_fill_42 (by decide) ?_
      exact ih _ _ _ _ _ _ h0 h1 h _ _ _ hP hS (lv_sub hl [1, 2, 3, 4, 0] rfl)
set_option maxRecDepth 100000 in
set_option maxHeartbeats 4000000 in
theorem mX2_fill (l : Launch) (D : va_G) (cy : Nat → ClassId) (B : Nat) (v0 : Nat) (v1 : Nat) (v2 : Int32) (σ : St) (h0 : kX[v0]? = some 2) (h1 : kX[v1]? = some 7) {post : St → Prop} (h : wX2_fill v0 v1 v2 σ post) : Met l yX2_fill (Cond.code yX2_fill cX2_fill 5 none :: WALL) (rmD 3) (PcW D cy B kX σ [.ref (B + v0), .ref (B + v1), .int v2]) (va_Qv post (BW D cy B kX) (AW B 346)) 0 0 (AW B 346) := by
  refine Met.ofK (cc := cX2_fill) (maxL := 5) (ret := none) (by decide +kernel) rfl kX_len ?_
  intro p e s m below meth c X hP
  obtain ⟨⟨hx, hb, hml, hown, hts⟩, hr, hlk, hK, hN, hZ⟩ := id X
  have hD : ∀ σ, va_D (AW B 346) (wW cy B kX σ) := AW_D kX_len
  have hS : va_S (AW B 346) s.heap s.heap [] := va_S.rf
  have hl := lv_entry ([.ref (B + v0), .ref (B + v1), .int v2]) (n := 5) (Nat.le_of_ble_eq_true rfl)
  rw [lg_entry_eq]
  generalize (lg_sl ([.ref (B + v0), .ref (B + v1), .int v2]) ++ List.replicate (5 - (lg_sl ([.ref (B + v0), .ref (B + v1), .int v2])).length) Slot.unset).toArray = ls at hl ⊢
  have hl : lv_has ls 5 [(0, .ref (B + v0)), (1, .ref (B + v1)), (2, .int v2)] := hl
  unfold wX2_fill at h
  refine lv_iconst (v := (1 : Int32)) hx hb dX2_fill_0 (by decide) ?_
  refine lv_aload_n hx hb dX2_fill_1 rfl (lv_at hl 0 rfl) ?_
  refine rk_get X hP (C := RX2) (T := TX2) (N := 5) (ci := 2) wix_2 h0 rfl rfl 0 (by decide) (wi_2 _ (List.mem_of_getElem? (i := 19) rfl)) rfl rfl dX2_fill_2 ?_
  refine lv_ishl hx hb dX2_fill_5 ?_
  refine lv_iconst (v := (1 : Int32)) hx hb dX2_fill_6 (by decide) ?_
  refine lv_isub hx hb dX2_fill_7 ?_
  refine lv_topi (fun x1 ex1 => ?_)
  have h := h x1 ex1
  refine lv_istore_n (lv' := [(3, .int x1), (0, .ref (B + v0)), (1, .ref (B + v1)), (2, .int v2)]) hx hb dX2_fill_8 rfl hl (by decide) rfl (fun ls hl => ?_)
  refine lv_aload_n hx hb dX2_fill_9 rfl (lv_at hl 1 rfl) ?_
  refine rk_get X hP (C := RX2) (T := TX2) (N := 5) (ci := 2) wix_2 h0 rfl rfl 4 (by decide) (wi_2 _ (List.mem_of_getElem? (i := 23) rfl)) rfl rfl dX2_fill_10 ?_
  refine lv_iconst (v := (0 : Int32)) hx hb dX2_fill_13 (by decide) ?_
  refine lv_iconst (v := (1 : Int32)) hx hb dX2_fill_14 (by decide) ?_
  have b1 : vp_in (0 : Int32) 256 := by unfold vp_in; decide
  refine rk_iast X hP hD hS (n := 256) (klX_X2_4 h0) (fun _ _ => rfl) b1 dX2_fill_15 (fun H locs hP hS => ?_)
  obtain ⟨s1, es1⟩ : ∃ z : St, z = u1 σ (v0 + 3) (0 : Int32).toNatClampNeg (1 : Int32) := ⟨_, rfl⟩
  rw [← es1] at hP
  have h := h s1 es1
  refine lv_iconst (v := (1 : Int32)) hx hb dX2_fill_16 (by decide) ?_
  refine lv_istore (lv' := [(4, .int (1 : Int32)), (3, .int x1), (0, .ref (B + v0)), (1, .ref (B + v1)), (2, .int v2)]) hx hb dX2_fill_17 hl (by decide) rfl (fun ls hl => ?_)
  obtain ⟨j, h⟩ := h
  exact tX2_fill_19 X j _ _ _ _ _ _ h0 h1 h _ _ _ hP hS (lv_sub hl [2, 3, 4, 1, 0] rfl)

theorem hd_X3_spread : yX3_spread.cls ≠ "java/lang/invoke/MethodHandle" ∧ yX3_spread.cls ≠ "java/lang/invoke/VarHandle" ∧ (parseMethodDescriptor yX3_spread.desc).map (fun d => d.parameters.length) = some 2 := by decide +kernel
set_option maxRecDepth 100000 in
set_option maxHeartbeats 4000000 in
theorem tX3_spread_7 {p : Program} {l : Launch} {e : Env} {s : State} {m : MethodId} {av : Array Value} {below : List Frame} {meth : Method} {c : Code} {D : va_G} {cy : Nat → ClassId} {B : Nat} (X : kC p s m av meth c cX3_spread 5 (some .int) WALL RX3 D cy (AW B 346)) {post : Int32 → St → Prop} : ∀ (n : Nat) (v0 : Int32) (v1 : Int32) (v2 : Int32) (v3 : Int32) (v4 : Int32) (σ : St), wX3_spread_7 post n v0 v1 v2 v3 v4 σ → ∀ (H : Heap) (locs : List Loc) (ls : Array Slot), va_P D vwCl (wW cy B kX σ) H → va_S (AW B 346) s.heap H locs → lv_has ls 5 [(0, .int v0), (1, .int v1), (2, .int v2), (3, .int v3), (4, .int v4)] → W p l e (rmD 0) s m av below meth c H locs 0 0 (MQ below (va_Qi post (BW D cy B kX) (AW B 346)) av s 0 0 (AW B 346)) (F0 m 7 ls []) := by
  obtain ⟨⟨hx, hb, hml, hown, hts⟩, hr, hlk, hK, hN, hZ⟩ := id X
  have hD : ∀ σ, va_D (AW B 346) (wW cy B kX σ) := AW_D kX_len
  intro n
  induction n with
  | zero => intro v0 v1 v2 v3 v4 σ h; exact absurd h id
  | succ n ih =>
    intro v0 v1 v2 v3 v4 σ h H locs ls hP hS hl
    rw [wX3_spread_7] at h
    refine lv_iload hx hb dX3_spread_7 (lv_at hl 4 rfl) ?_
    refine lv_iconst (v := (4 : Int32)) hx hb dX3_spread_9 (by decide) ?_
    refine lv_icmp_ge (tgt := 43) hx hb dX3_spread_10 (by decide) (fun c1 => ?_) (fun c1 => ?_)
    · have h := h.1 c1
      refine lv_iload_n hx hb dX3_spread_43 rfl (lv_at hl 2 rfl) ?_
      exact rk_iret X rfl kX_len h hP hS dX3_spread_44
    · have h := h.2 c1
      refine lv_iload_n hx hb dX3_spread_13 rfl (lv_at hl 1 rfl) ?_
      refine lv_iload hx hb dX3_spread_14 (lv_at hl 4 rfl) ?_
      refine lv_ishr hx hb dX3_spread_16 ?_
      refine lv_iconst (v := (1 : Int32)) hx hb dX3_spread_17 (by decide) ?_
      refine lv_iand hx hb dX3_spread_18 ?_
      refine lv_iconst (v := (1 : Int32)) hx hb dX3_spread_19 (by decide) ?_
      refine lv_icmp_ne (tgt := 37) hx hb dX3_spread_20 (by decide) (fun c2 => ?_) (fun c2 => ?_)
      · have h := h.1 c2
        obtain ⟨x1, ex1⟩ : ∃ y : Int32, y = v4 + (1 : Int32) := ⟨_, rfl⟩
        have h := h x1 ex1
        refine lv_iinc (v := x1) (lv' := [(4, .int x1), (0, .int v0), (1, .int v1), (2, .int v2), (3, .int v3)]) hx hb dX3_spread_37 hl (k := 4) rfl (by rw [ex1]; rfl) (by decide) rfl (fun ls hl => ?_)
        refine lv_goto (tgt := 7) hx hb dX3_spread_40 (by decide) ?_
        exact ih _ _ _ _ _ _ h _ _ _ hP hS (lv_sub hl [1, 2, 3, 4, 0] rfl)
      · have h := h.2 c2
        refine lv_iload_n hx hb dX3_spread_23 rfl (lv_at hl 2 rfl) ?_
        refine lv_iload_n hx hb dX3_spread_24 rfl (lv_at hl 0 rfl) ?_
        refine lv_iload_n hx hb dX3_spread_25 rfl (lv_at hl 3 rfl) ?_
        refine lv_ishr hx hb dX3_spread_26 ?_
        refine lv_iconst (v := (1 : Int32)) hx hb dX3_spread_27 (by decide) ?_
        refine lv_iand hx hb dX3_spread_28 ?_
        refine lv_iload hx hb dX3_spread_29 (lv_at hl 4 rfl) ?_
        refine lv_ishl hx hb dX3_spread_31 ?_
        refine lv_ior hx hb dX3_spread_32 ?_
        refine lv_topi (fun x2 ex2 => ?_)
        have h := h x2 ex2
        refine lv_istore_n (lv' := [(2, .int x2), (0, .int v0), (1, .int v1), (3, .int v3), (4, .int v4)]) hx hb dX3_spread_33 rfl hl (by decide) rfl (fun ls hl => ?_)
        obtain ⟨x3, ex3⟩ : ∃ y : Int32, y = v3 + (1 : Int32) := ⟨_, rfl⟩
        have h := h x3 ex3
        refine lv_iinc (v := x3) (lv' := [(3, .int x3), (2, .int x2), (0, .int v0), (1, .int v1), (4, .int v4)]) hx hb dX3_spread_34 hl (k := 3) rfl (by rw [ex3]; rfl) (by decide) rfl (fun ls hl => ?_)
        obtain ⟨x4, ex4⟩ : ∃ y : Int32, y = v4 + (1 : Int32) := ⟨_, rfl⟩
        have h := h x4 ex4
        refine lv_iinc (v := x4) (lv' := [(4, .int x4), (3, .int x3), (2, .int x2), (0, .int v0), (1, .int v1)]) hx hb dX3_spread_37 hl (k := 4) rfl (by rw [ex4]; rfl) (by decide) rfl (fun ls hl => ?_)
        refine lv_goto (tgt := 7) hx hb dX3_spread_40 (by decide) ?_
        exact ih _ _ _ _ _ _ h _ _ _ hP hS (lv_sub hl [3, 4, 2, 1, 0] rfl)
set_option maxRecDepth 100000 in
set_option maxHeartbeats 4000000 in
theorem mX3_spread (l : Launch) (D : va_G) (cy : Nat → ClassId) (B : Nat) (v0 : Int32) (v1 : Int32) (σ : St) {post : Int32 → St → Prop} (h : wX3_spread v0 v1 σ post) : Met l yX3_spread (Cond.code yX3_spread cX3_spread 5 (some .int) :: WALL) (rmD 0) (PcW D cy B kX σ [.int v0, .int v1]) (va_Qi post (BW D cy B kX) (AW B 346)) 0 0 (AW B 346) := by
  refine Met.ofK (cc := cX3_spread) (maxL := 5) (ret := (some .int)) (by decide +kernel) rfl kX_len ?_
  intro p e s m below meth c X hP
  obtain ⟨⟨hx, hb, hml, hown, hts⟩, hr, hlk, hK, hN, hZ⟩ := id X
  have hD : ∀ σ, va_D (AW B 346) (wW cy B kX σ) := AW_D kX_len
  have hS : va_S (AW B 346) s.heap s.heap [] := va_S.rf
  have hl := lv_entry ([.int v0, .int v1]) (n := 5) (Nat.le_of_ble_eq_true rfl)
  rw [lg_entry_eq]
  generalize (lg_sl ([.int v0, .int v1]) ++ List.replicate (5 - (lg_sl ([.int v0, .int v1])).length) Slot.unset).toArray = ls at hl ⊢
  have hl : lv_has ls 5 [(0, .int v0), (1, .int v1)] := hl
  unfold wX3_spread at h
  refine lv_iconst (v := (0 : Int32)) hx hb dX3_spread_0 (by decide) ?_
  refine lv_istore_n (lv' := [(2, .int (0 : Int32)), (0, .int v0), (1, .int v1)]) hx hb dX3_spread_1 rfl hl (by decide) rfl (fun ls hl => ?_)
  refine lv_iconst (v := (0 : Int32)) hx hb dX3_spread_2 (by decide) ?_
  refine lv_istore_n (lv' := [(3, .int (0 : Int32)), (2, .int (0 : Int32)), (0, .int v0), (1, .int v1)]) hx hb dX3_spread_3 rfl hl (by decide) rfl (fun ls hl => ?_)
  refine lv_iconst (v := (0 : Int32)) hx hb dX3_spread_4 (by decide) ?_
  refine lv_istore (lv' := [(4, .int (0 : Int32)), (3, .int (0 : Int32)), (2, .int (0 : Int32)), (0, .int v0), (1, .int v1)]) hx hb dX3_spread_5 hl (by decide) rfl (fun ls hl => ?_)
  obtain ⟨j, h⟩ := h
  exact tX3_spread_7 X j _ _ _ _ _ _ h _ _ _ hP hS (lv_sub hl [3, 4, 2, 1, 0] rfl)

theorem hd_X3_fill : yX3_fill.cls = RX3 ∧ yX3_fill.cls ≠ "java/lang/invoke/MethodHandle" ∧ yX3_fill.cls ≠ "java/lang/invoke/VarHandle" ∧ (parseMethodDescriptor yX3_fill.desc).map (fun d => d.parameters.length) = some 2 := by decide +kernel
set_option maxRecDepth 100000 in
set_option maxHeartbeats 4000000 in
theorem tX3_fill_46 {p : Program} {l : Launch} {e : Env} {s : State} {m : MethodId} {av : Array Value} {below : List Frame} {meth : Method} {c : Code} {D : va_G} {cy : Nat → ClassId} {B : Nat} (X : kC p s m av meth c cX3_fill 7 none WALL RX3 D cy (AW B 346)) {post : St → Prop} {R34 : Nat → Nat → Int32 → Int32 → Int32 → St → Prop} (hR34 : ∀ (v0 : Nat) (v1 : Nat) (v2 : Int32) (v3 : Int32) (v4 : Int32) (σ : St), kX[v0]? = some 3 → kX[v1]? = some 7 → R34 v0 v1 v2 v3 v4 σ → ∀ (H : Heap) (locs : List Loc) (ls : Array Slot), va_P D vwCl (wW cy B kX σ) H → va_S (AW B 346) s.heap H locs → lv_has ls 7 [(0, .ref (B + v0)), (1, .ref (B + v1)), (2, .int v2), (3, .int v3), (4, .int v4)] → W p l e (rmD 1) s m av below meth c H locs 0 0 (MQ below (va_Qv post (BW D cy B kX) (AW B 346)) av s 0 0 (AW B 346)) (F0 m 34 ls [])) : ∀ (n : Nat) (v0 : Nat) (v1 : Nat) (v2 : Int32) (v3 : Int32) (v4 : Int32) (v5 : Int32) (σ : St), kX[v0]? = some 3 → kX[v1]? = some 7 → wX3_fill_46 post R34 n v0 v1 v2 v3 v4 v5 σ → ∀ (H : Heap) (locs : List Loc) (ls : Array Slot), va_P D vwCl (wW cy B kX σ) H → va_S (AW B 346) s.heap H locs → lv_has ls 7 [(0, .ref (B + v0)), (1, .ref (B + v1)), (2, .int v2), (3, .int v3), (4, .int v4), (5, .int v5)] → W p l e (rmD 1) s m av below meth c H locs 0 0 (MQ below (va_Qv post (BW D cy B kX) (AW B 346)) av s 0 0 (AW B 346)) (F0 m 46 ls []) := by
  obtain ⟨⟨hx, hb, hml, hown, hts⟩, hr, hlk, hK, hN, hZ⟩ := id X
  have hD : ∀ σ, va_D (AW B 346) (wW cy B kX σ) := AW_D kX_len
  intro n
  induction n with
  | zero => intro v0 v1 v2 v3 v4 v5 σ h0 h1 h; exact absurd h id
  | succ n ih =>
    intro v0 v1 v2 v3 v4 v5 σ h0 h1 h H locs ls hP hS hl
    rw [wX3_fill_46] at h
    refine lv_iload hx hb dX3_fill_46 (lv_at hl 5 rfl) ?_
    refine lv_aload_n hx hb dX3_fill_48 rfl (lv_at hl 0 rfl) ?_
    refine rk_get X hP (C := RX3) (T := TX3) (N := 3) (ci := 3) wix_3 h0 rfl rfl 1 (by decide) (wi_3 _ (List.mem_of_getElem? (i := 17) rfl)) rfl rfl dX3_fill_49 ?_
    refine lv_icmp_ge (tgt := 98) hx hb dX3_fill_52 (by decide) (fun c1 => ?_) (fun c1 => ?_)
    · have h := h.1 c1
      obtain ⟨x1, ex1⟩ : ∃ y : Int32, y = v4 + (1 : Int32) := ⟨_, rfl⟩
      have h := h x1 ex1
      refine lv_iinc (v := x1) (lv' := [(4, .int x1), (0, .ref (B + v0)), (1, .ref (B + v1)), (2, .int v2), (3, .int v3), (5, .int v5)]) hx hb dX3_fill_98 hl (k := 4) rfl (by rw [ex1]; rfl) (by decide) rfl (fun ls hl => ?_)
      refine lv_goto (tgt := 34) hx hb dX3_fill_101 (by decide) ?_
      exact hR34 _ _ _ _ _ _ h0 h1 h _ _ _ hP hS (lv_sub hl [1, 2, 3, 4, 0] rfl)
    · have h := h.2 c1
      refine lv_iload hx hb dX3_fill_55 (lv_at hl 4 rfl) ?_
      refine lv_iload_n hx hb dX3_fill_57 rfl (lv_at hl 2 rfl) ?_
      refine rk_calli (va_runS (As := [.int v4, .int v2]) (rest := []) X.1 (mX3_spread l D cy B v4 v2 σ h) (va_cwS 2 hts (gW_S (wi_4 _ (List.mem_of_getElem? (i := 6) rfl)) (wi_4 _ (List.mem_of_getElem? (i := 7) rfl)) (wi_4 _ (List.mem_of_getElem? (i := 8) rfl)) (wi_3 _ (List.mem_of_getElem? (i := 23) rfl))) rfl rfl rfl hd_X3_spread ⟨Nat.le_of_ble_eq_true rfl, Nat.le_of_ble_eq_true rfl⟩) (rk_preS X hS hP [.int v4, .int v2]) rfl rfl hl.1 rfl (lv_room (Nat.le_of_ble_eq_true rfl)) dX3_fill_58 ⟨Nat.zero_le _, Nat.zero_le _⟩) hS (fun _ h => h) (fun r1 s1 H locs h hP hS => ?_)
      refine lv_iload hx hb dX3_fill_61 (lv_at hl 5 rfl) ?_
      refine lv_iload_n hx hb dX3_fill_63 rfl (lv_at hl 3 rfl) ?_
      refine rk_calli (va_runS (As := [.int v5, .int v3]) (rest := [.int r1]) X.1 (mX3_spread l D cy B v5 v3 s1 h) (va_cwS 2 hts (gW_S (wi_4 _ (List.mem_of_getElem? (i := 6) rfl)) (wi_4 _ (List.mem_of_getElem? (i := 7) rfl)) (wi_4 _ (List.mem_of_getElem? (i := 8) rfl)) (wi_3 _ (List.mem_of_getElem? (i := 23) rfl))) rfl rfl rfl hd_X3_spread ⟨Nat.le_of_ble_eq_true rfl, Nat.le_of_ble_eq_true rfl⟩) (rk_preS X hS hP [.int v5, .int v3]) rfl rfl hl.1 rfl (lv_room (Nat.le_of_ble_eq_true rfl)) dX3_fill_64 ⟨Nat.zero_le _, Nat.zero_le _⟩) hS (fun _ h => h) (fun r2 s2 H locs h hP hS => ?_)
      refine lv_ior hx hb dX3_fill_67 ?_
      refine lv_topi (fun x2 ex2 => ?_)
      have h := h x2 ex2
      refine lv_istore (lv' := [(6, .int x2), (0, .ref (B + v0)), (1, .ref (B + v1)), (2, .int v2), (3, .int v3), (4, .int v4), (5, .int v5)]) hx hb dX3_fill_68 hl (by decide) rfl (fun ls hl => ?_)
      refine lv_aload_n hx hb dX3_fill_70 rfl (lv_at hl 1 rfl) ?_
      refine rk_get X hP (C := RX3) (T := TX3) (N := 3) (ci := 3) wix_3 h0 rfl rfl 2 (by decide) (wi_3 _ (List.mem_of_getElem? (i := 18) rfl)) rfl rfl dX3_fill_71 ?_
      refine lv_iload hx hb dX3_fill_74 (lv_at hl 5 rfl) ?_
      refine lv_aload_n hx hb dX3_fill_76 rfl (lv_at hl 1 rfl) ?_
      refine rk_get X hP (C := RX3) (T := TX3) (N := 3) (ci := 3) wix_3 h0 rfl rfl 1 (by decide) (wi_3 _ (List.mem_of_getElem? (i := 17) rfl)) rfl rfl dX3_fill_77 ?_
      refine lv_imul hx hb dX3_fill_80 ?_
      refine lv_iload hx hb dX3_fill_81 (lv_at hl 6 rfl) ?_
      refine lv_iadd hx hb dX3_fill_83 ?_
      refine lv_aload_n hx hb dX3_fill_84 rfl (lv_at hl 2 rfl) ?_
      refine rk_get X hP (C := RX7) (T := TX7) (N := 2) (ci := 7) wix_7 h1 rfl rfl 1 (by decide) (wi_4 _ (List.mem_of_getElem? (i := 1) rfl)) rfl rfl dX3_fill_85 ?_
      refine lv_iload hx hb dX3_fill_88 (lv_at hl 0 rfl) ?_
      obtain ⟨b1, h⟩ := h
      refine rk_iald X hP (n := 16) (klX_X7_1 h1) (fun _ _ => rfl) b1 dX3_fill_90 ?_
      obtain ⟨b2, h⟩ := h
      refine rk_iast X hP hD hS (n := 16) (klX_X3_2 h0) (fun _ _ => rfl) b2 dX3_fill_91 (fun H locs hP hS => ?_)
      obtain ⟨s3, es3⟩ : ∃ z : St, z = u1 s2 (v0 + 1) ((v4 * (s2.1 v0 1)) + v5).toNatClampNeg (s2.1 (v1 + 1) x2.toNatClampNeg) := ⟨_, rfl⟩
      rw [← es3] at hP
      have h := h s3 es3
      obtain ⟨x3, ex3⟩ : ∃ y : Int32, y = v5 + (1 : Int32) := ⟨_, rfl⟩
      have h := h x3 ex3
      refine lv_iinc (v := x3) (lv' := [(5, .int x3), (6, .int x2), (0, .ref (B + v0)), (1, .ref (B + v1)), (2, .int v2), (3, .int v3), (4, .int v4)]) hx hb dX3_fill_92 hl (k := 6) rfl (by rw [ex3]; rfl) (by decide) rfl (fun ls hl => ?_)
      refine lv_goto (tgt := 46) hx hb dX3_fill_95 (by decide) ?_
      exact ih _ _ _ _ _ _ _ h0 h1 h _ _ _ hP hS (lv_sub hl [2, 3, 4, 5, 6, 0] rfl)
set_option maxRecDepth 100000 in
set_option maxHeartbeats 4000000 in
theorem tX3_fill_34 {p : Program} {l : Launch} {e : Env} {s : State} {m : MethodId} {av : Array Value} {below : List Frame} {meth : Method} {c : Code} {D : va_G} {cy : Nat → ClassId} {B : Nat} (X : kC p s m av meth c cX3_fill 7 none WALL RX3 D cy (AW B 346)) {post : St → Prop} : ∀ (n : Nat) (v0 : Nat) (v1 : Nat) (v2 : Int32) (v3 : Int32) (v4 : Int32) (σ : St), kX[v0]? = some 3 → kX[v1]? = some 7 → wX3_fill_34 post n v0 v1 v2 v3 v4 σ → ∀ (H : Heap) (locs : List Loc) (ls : Array Slot), va_P D vwCl (wW cy B kX σ) H → va_S (AW B 346) s.heap H locs → lv_has ls 7 [(0, .ref (B + v0)), (1, .ref (B + v1)), (2, .int v2), (3, .int v3), (4, .int v4)] → W p l e (rmD 1) s m av below meth c H locs 0 0 (MQ below (va_Qv post (BW D cy B kX) (AW B 346)) av s 0 0 (AW B 346)) (F0 m 34 ls []) := by
  obtain ⟨⟨hx, hb, hml, hown, hts⟩, hr, hlk, hK, hN, hZ⟩ := id X
  have hD : ∀ σ, va_D (AW B 346) (wW cy B kX σ) := AW_D kX_len
  intro n
  induction n with
  | zero => intro v0 v1 v2 v3 v4 σ h0 h1 h; exact absurd h id
  | succ n ih =>
    intro v0 v1 v2 v3 v4 σ h0 h1 h H locs ls hP hS hl
    rw [wX3_fill_34] at h
    refine lv_iload hx hb dX3_fill_34 (lv_at hl 4 rfl) ?_
    refine lv_aload_n hx hb dX3_fill_36 rfl (lv_at hl 0 rfl) ?_
    refine rk_get X hP (C := RX3) (T := TX3) (N := 3) (ci := 3) wix_3 h0 rfl rfl 0 (by decide) (wi_3 _ (List.mem_of_getElem? (i := 16) rfl)) rfl rfl dX3_fill_37 ?_
    refine lv_icmp_ge (tgt := 104) hx hb dX3_fill_40 (by decide) (fun c1 => ?_) (fun c1 => ?_)
    · have h := h.1 c1
      exact rk_vret X kX_len h hP hS dX3_fill_104
    · have h := h.2 c1
      refine lv_iconst (v := (0 : Int32)) hx hb dX3_fill_43 (by decide) ?_
      refine lv_istore (lv' := [(5, .int (0 : Int32)), (0, .ref (B + v0)), (1, .ref (B + v1)), (2, .int v2), (3, .int v3), (4, .int v4)]) hx hb dX3_fill_44 hl (by decide) rfl (fun ls hl => ?_)
      obtain ⟨j, h⟩ := h
      exact tX3_fill_46 X ih j _ _ _ _ _ _ _ h0 h1 h _ _ _ hP hS (lv_sub hl [1, 2, 3, 4, 5, 0] rfl)
set_option maxRecDepth 100000 in
set_option maxHeartbeats 4000000 in
theorem mX3_fill (l : Launch) (D : va_G) (cy : Nat → ClassId) (B : Nat) (v0 : Nat) (v1 : Nat) (v2 : Int32) (σ : St) (h0 : kX[v0]? = some 3) (h1 : kX[v1]? = some 7) {post : St → Prop} (h : wX3_fill v0 v1 v2 σ post) : Met l yX3_fill (Cond.code yX3_fill cX3_fill 7 none :: WALL) (rmD 1) (PcW D cy B kX σ [.ref (B + v0), .ref (B + v1), .int v2]) (va_Qv post (BW D cy B kX) (AW B 346)) 0 0 (AW B 346) := by
  refine Met.ofK (cc := cX3_fill) (maxL := 7) (ret := none) (by decide +kernel) rfl kX_len ?_
  intro p e s m below meth c X hP
  obtain ⟨⟨hx, hb, hml, hown, hts⟩, hr, hlk, hK, hN, hZ⟩ := id X
  have hD : ∀ σ, va_D (AW B 346) (wW cy B kX σ) := AW_D kX_len
  have hS : va_S (AW B 346) s.heap s.heap [] := va_S.rf
  have hl := lv_entry ([.ref (B + v0), .ref (B + v1), .int v2]) (n := 7) (Nat.le_of_ble_eq_true rfl)
  rw [lg_entry_eq]
  generalize (lg_sl ([.ref (B + v0), .ref (B + v1), .int v2]) ++ List.replicate (7 - (lg_sl ([.ref (B + v0), .ref (B + v1), .int v2])).length) Slot.unset).toArray = ls at hl ⊢
  have hl : lv_has ls 7 [(0, .ref (B + v0)), (1, .ref (B + v1)), (2, .int v2)] := hl
  unfold wX3_fill at h
  refine lv_aload_n hx hb dX3_fill_0 rfl (lv_at hl 1 rfl) ?_
  refine rk_calli (va_runV (As := []) (rest := []) X.1 (mX7_size l D cy B v1 σ h1 h) (cwV 0 hts (gW_V (wi_4 _ (List.mem_of_getElem? (i := 2) rfl)) (wi_3 _ (List.mem_of_getElem? (i := 12) rfl)) (wi_3 _ (List.mem_of_getElem? (i := 13) rfl)) (wi_0 _ (List.mem_of_getElem? (i := 15) rfl)) (wi_3 _ (List.mem_of_getElem? (i := 4) rfl))) rfl rfl rfl hd_X7_size ⟨Nat.le_of_ble_eq_true rfl, Nat.le_of_ble_eq_true rfl⟩) (rk_preV X hS hP h1 rfl rfl []) rfl rfl hl.1 rfl (lv_room (Nat.le_of_ble_eq_true rfl)) dX3_fill_1 ⟨Nat.zero_le _, Nat.zero_le _⟩) hS (fun _ h => h) (fun r1 s1 H locs h hP hS => ?_)
  refine lv_iconst (v := (1 : Int32)) hx hb dX3_fill_4 (by decide) ?_
  refine lv_isub hx hb dX3_fill_5 ?_
  refine lv_iload_n hx hb dX3_fill_6 rfl (lv_at hl 2 rfl) ?_
  refine lv_iconst (v := (-1 : Int32)) hx hb dX3_fill_7 (by decide) ?_
  refine lv_ixor hx hb dX3_fill_8 ?_
  refine lv_iand hx hb dX3_fill_9 ?_
  refine lv_topi (fun x1 ex1 => ?_)
  have h := h x1 ex1
  refine lv_istore_n (lv' := [(3, .int x1), (0, .ref (B + v0)), (1, .ref (B + v1)), (2, .int v2)]) hx hb dX3_fill_10 rfl hl (by decide) rfl (fun ls hl => ?_)
  refine lv_aload_n hx hb dX3_fill_11 rfl (lv_at hl 1 rfl) ?_
  refine lv_iconst (v := (1 : Int32)) hx hb dX3_fill_12 (by decide) ?_
  refine lv_iload_n hx hb dX3_fill_13 rfl (lv_at hl 3 rfl) ?_
  refine rk_calli (va_runS (As := [.int v2]) (rest := [.int (1 : Int32), .ref (B + v0)]) X.1 (mJ6_bitCount_0f7a4 l D cy B v2 s1 h) (va_cwS 1 hts (gW_S (wi_4 _ (List.mem_of_getElem? (i := 3) rfl)) (wi_4 _ (List.mem_of_getElem? (i := 4) rfl)) (wi_4 _ (List.mem_of_getElem? (i := 5) rfl)) (wi_3 _ (List.mem_of_getElem? (i := 19) rfl))) rfl rfl rfl hd_J6_bitCount_0f7a4 ⟨Nat.le_of_ble_eq_true rfl, Nat.le_of_ble_eq_true rfl⟩) (rk_preS X hS hP [.int v2]) rfl rfl hl.1 rfl (lv_room (Nat.le_of_ble_eq_true rfl)) dX3_fill_14 ⟨Nat.zero_le _, Nat.zero_le _⟩) hS (fun _ h => h) (fun r2 s2 H locs h hP hS => ?_)
  refine lv_ishl hx hb dX3_fill_17 ?_
  refine rk_puti X hP hD hS (C := RX3) (T := TX3) (N := 3) (ci := 3) wix_3 h0 rfl rfl tyX3 tyX3_ok nmX3 0 (by decide) (wi_3 _ (List.mem_of_getElem? (i := 16) rfl)) rfl rfl (by decide +kernel) (Nat.le_of_ble_eq_true rfl) rfl dX3_fill_18 (fun H locs hP hS => ?_)
  obtain ⟨s3, es3⟩ : ∃ z : St, z = u1 s2 v0 0 ((1 : Int32) <<< (r2 &&& 31)) := ⟨_, rfl⟩
  rw [← es3] at hP
  have h := h s3 es3
  refine lv_aload_n hx hb dX3_fill_21 rfl (lv_at hl 1 rfl) ?_
  refine lv_iconst (v := (1 : Int32)) hx hb dX3_fill_22 (by decide) ?_
  refine lv_iload_n hx hb dX3_fill_23 rfl (lv_at hl 0 rfl) ?_
  refine rk_calli (va_runS (As := [.int x1]) (rest := [.int (1 : Int32), .ref (B + v0)]) X.1 (mJ6_bitCount_0f7a4 l D cy B x1 s3 h) (va_cwS 1 hts (gW_S (wi_4 _ (List.mem_of_getElem? (i := 3) rfl)) (wi_4 _ (List.mem_of_getElem? (i := 4) rfl)) (wi_4 _ (List.mem_of_getElem? (i := 5) rfl)) (wi_3 _ (List.mem_of_getElem? (i := 19) rfl))) rfl rfl rfl hd_J6_bitCount_0f7a4 ⟨Nat.le_of_ble_eq_true rfl, Nat.le_of_ble_eq_true rfl⟩) (rk_preS X hS hP [.int x1]) rfl rfl hl.1 rfl (lv_room (Nat.le_of_ble_eq_true rfl)) dX3_fill_24 ⟨Nat.zero_le _, Nat.zero_le _⟩) hS (fun _ h => h) (fun r3 s4 H locs h hP hS => ?_)
  refine lv_ishl hx hb dX3_fill_27 ?_
  refine rk_puti X hP hD hS (C := RX3) (T := TX3) (N := 3) (ci := 3) wix_3 h0 rfl rfl tyX3 tyX3_ok nmX3 1 (by decide) (wi_3 _ (List.mem_of_getElem? (i := 17) rfl)) rfl rfl (by decide +kernel) (Nat.le_of_ble_eq_true rfl) rfl dX3_fill_28 (fun H locs hP hS => ?_)
  obtain ⟨s5, es5⟩ : ∃ z : St, z = u1 s4 v0 1 ((1 : Int32) <<< (r3 &&& 31)) := ⟨_, rfl⟩
  rw [← es5] at hP
  have h := h s5 es5
  refine lv_iconst (v := (0 : Int32)) hx hb dX3_fill_31 (by decide) ?_
  refine lv_istore (lv' := [(4, .int (0 : Int32)), (3, .int x1), (0, .ref (B + v0)), (1, .ref (B + v1)), (2, .int v2)]) hx hb dX3_fill_32 hl (by decide) rfl (fun ls hl => ?_)
  obtain ⟨j, h⟩ := h
  exact tX3_fill_34 X j _ _ _ _ _ _ h0 h1 h _ _ _ hP hS (lv_sub hl [2, 3, 4, 1, 0] rfl)

theorem hd_X3_rowWithout0 : yX3_rowWithout0.cls = RX3 ∧ yX3_rowWithout0.cls ≠ "java/lang/invoke/MethodHandle" ∧ yX3_rowWithout0.cls ≠ "java/lang/invoke/VarHandle" ∧ (parseMethodDescriptor yX3_rowWithout0.desc).map (fun d => d.parameters.length) = some 2 := by decide +kernel
set_option maxRecDepth 100000 in
set_option maxHeartbeats 4000000 in
theorem tX3_rowWithout0_2 {p : Program} {l : Launch} {e : Env} {s : State} {m : MethodId} {av : Array Value} {below : List Frame} {meth : Method} {c : Code} {D : va_G} {cy : Nat → ClassId} {B : Nat} (X : kC p s m av meth c cX3_rowWithout0 4 (some .int) WALL RX3 D cy (AW B 346)) {post : Int32 → St → Prop} : ∀ (n : Nat) (v0 : Nat) (v2 : Int32) (v3 : Int32) (σ : St), kX[v0]? = some 3 → wX3_rowWithout0_2 post n v0 v2 v3 σ → ∀ (H : Heap) (locs : List Loc) (ls : Array Slot), va_P D vwCl (wW cy B kX σ) H → va_S (AW B 346) s.heap H locs → lv_has ls 4 [(0, .ref (B + v0)), (2, .int v2), (3, .int v3)] → W p l e (rmD 0) s m av below meth c H locs 0 0 (MQ below (va_Qi post (BW D cy B kX) (AW B 346)) av s 0 0 (AW B 346)) (F0 m 2 ls []) := by
  obtain ⟨⟨hx, hb, hml, hown, hts⟩, hr, hlk, hK, hN, hZ⟩ := id X
  have hD : ∀ σ, va_D (AW B 346) (wW cy B kX σ) := AW_D kX_len
  intro n
  induction n with
  | zero => intro v0 v2 v3 σ h0 h; exact absurd h id
  | succ n ih =>
    intro v0 v2 v3 σ h0 h H locs ls hP hS hl
    rw [wX3_rowWithout0_2] at h
    refine lv_iload_n hx hb dX3_rowWithout0_2 rfl (lv_at hl 2 rfl) ?_
    refine lv_aload_n hx hb dX3_rowWithout0_3 rfl (lv_at hl 0 rfl) ?_
    refine rk_get X hP (C := RX3) (T := TX3) (N := 3) (ci := 3) wix_3 h0 rfl rfl 0 (by decide) (wi_3 _ (List.mem_of_getElem? (i := 16) rfl)) rfl rfl dX3_rowWithout0_4 ?_
    refine lv_icmp_ge (tgt := 34) hx hb dX3_rowWithout0_7 (by decide) (fun c1 => ?_) (fun c1 => ?_)
    · have h := h.1 c1
      refine lv_iconst (v := (-1 : Int32)) hx hb dX3_rowWithout0_34 (by decide) ?_
      exact rk_iret X rfl kX_len h hP hS dX3_rowWithout0_35
    · have h := h.2 c1
      refine lv_aload_n hx hb dX3_rowWithout0_10 rfl (lv_at hl 0 rfl) ?_
      refine rk_get X hP (C := RX3) (T := TX3) (N := 3) (ci := 3) wix_3 h0 rfl rfl 2 (by decide) (wi_3 _ (List.mem_of_getElem? (i := 18) rfl)) rfl rfl dX3_rowWithout0_11 ?_
      refine lv_iload_n hx hb dX3_rowWithout0_14 rfl (lv_at hl 2 rfl) ?_
      refine lv_aload_n hx hb dX3_rowWithout0_15 rfl (lv_at hl 0 rfl) ?_
      refine rk_get X hP (C := RX3) (T := TX3) (N := 3) (ci := 3) wix_3 h0 rfl rfl 1 (by decide) (wi_3 _ (List.mem_of_getElem? (i := 17) rfl)) rfl rfl dX3_rowWithout0_16 ?_
      refine lv_imul hx hb dX3_rowWithout0_19 ?_
      refine lv_iload_n hx hb dX3_rowWithout0_20 rfl (lv_at hl 1 rfl) ?_
      refine lv_iadd hx hb dX3_rowWithout0_21 ?_
      refine lv_topi (fun x1 ex1 => ?_)
      have h := h x1 ex1
      obtain ⟨b1, h⟩ := h
      refine rk_iald X hP (n := 16) (klX_X3_2 h0) (fun _ _ => rfl) b1 dX3_rowWithout0_22 ?_
      refine lv_if_eq (tgt := 28) hx hb dX3_rowWithout0_23 (by decide) (fun c2 => ?_) (fun c2 => ?_)
      · have h := h.1 c2
        obtain ⟨x2, ex2⟩ : ∃ y : Int32, y = v3 + (1 : Int32) := ⟨_, rfl⟩
        have h := h x2 ex2
        refine lv_iinc (v := x2) (lv' := [(3, .int x2), (0, .ref (B + v0)), (2, .int v2)]) hx hb dX3_rowWithout0_28 hl (k := 2) rfl (by rw [ex2]; rfl) (by decide) rfl (fun ls hl => ?_)
        refine lv_goto (tgt := 2) hx hb dX3_rowWithout0_31 (by decide) ?_
        exact ih _ _ _ _ h0 h _ _ _ hP hS (lv_sub hl [1, 2, 0] rfl)
      · have h := h.2 c2
        refine lv_iload_n hx hb dX3_rowWithout0_26 rfl (lv_at hl 2 rfl) ?_
        exact rk_iret X rfl kX_len h hP hS dX3_rowWithout0_27
set_option maxRecDepth 100000 in
set_option maxHeartbeats 4000000 in
theorem mX3_rowWithout0 (l : Launch) (D : va_G) (cy : Nat → ClassId) (B : Nat) (v0 : Nat) (v1 : Int32) (v2 : Int32) (σ : St) (h0 : kX[v0]? = some 3) {post : Int32 → St → Prop} (h : wX3_rowWithout0 v0 v1 v2 σ post) : Met l yX3_rowWithout0 (Cond.code yX3_rowWithout0 cX3_rowWithout0 4 (some .int) :: WALL) (rmD 0) (PcW D cy B kX σ [.ref (B + v0), .int v1, .int v2]) (va_Qi post (BW D cy B kX) (AW B 346)) 0 0 (AW B 346) := by
  refine Met.ofK (cc := cX3_rowWithout0) (maxL := 4) (ret := (some .int)) (by decide +kernel) rfl kX_len ?_
  intro p e s m below meth c X hP
  obtain ⟨⟨hx, hb, hml, hown, hts⟩, hr, hlk, hK, hN, hZ⟩ := id X
  have hD : ∀ σ, va_D (AW B 346) (wW cy B kX σ) := AW_D kX_len
  have hS : va_S (AW B 346) s.heap s.heap [] := va_S.rf
  have hl := lv_entry ([.ref (B + v0), .int v1, .int v2]) (n := 4) (Nat.le_of_ble_eq_true rfl)
  rw [lg_entry_eq]
  generalize (lg_sl ([.ref (B + v0), .int v1, .int v2]) ++ List.replicate (4 - (lg_sl ([.ref (B + v0), .int v1, .int v2])).length) Slot.unset).toArray = ls at hl ⊢
  have hl : lv_has ls 4 [(0, .ref (B + v0)), (1, .int v1), (2, .int v2)] := hl
  unfold wX3_rowWithout0 at h
  refine lv_iload_n hx hb dX3_rowWithout0_0 rfl (lv_at hl 1 rfl) ?_
  refine lv_istore_n (lv' := [(3, .int v1), (0, .ref (B + v0)), (1, .int v1), (2, .int v2)]) hx hb dX3_rowWithout0_1 rfl hl (by decide) rfl (fun ls hl => ?_)
  obtain ⟨j, h⟩ := h
  exact tX3_rowWithout0_2 X j _ _ _ _ h0 h _ _ _ hP hS (lv_sub hl [1, 3, 0] rfl)

theorem hd_X3_exchangeRows : yX3_exchangeRows.cls = RX3 ∧ yX3_exchangeRows.cls ≠ "java/lang/invoke/MethodHandle" ∧ yX3_exchangeRows.cls ≠ "java/lang/invoke/VarHandle" ∧ (parseMethodDescriptor yX3_exchangeRows.desc).map (fun d => d.parameters.length) = some 2 := by decide +kernel
set_option maxRecDepth 100000 in
set_option maxHeartbeats 4000000 in
theorem tX3_exchangeRows_2 {p : Program} {l : Launch} {e : Env} {s : State} {m : MethodId} {av : Array Value} {below : List Frame} {meth : Method} {c : Code} {D : va_G} {cy : Nat → ClassId} {B : Nat} (X : kC p s m av meth c cX3_exchangeRows 5 none WALL RX3 D cy (AW B 346)) {post : St → Prop} : ∀ (n : Nat) (v0 : Nat) (v1 : Int32) (v2 : Int32) (v3 : Int32) (σ : St), kX[v0]? = some 3 → wX3_exchangeRows_2 post n v0 v1 v2 v3 σ → ∀ (H : Heap) (locs : List Loc) (ls : Array Slot), va_P D vwCl (wW cy B kX σ) H → va_S (AW B 346) s.heap H locs → lv_has ls 5 [(0, .ref (B + v0)), (1, .int v1), (2, .int v2), (3, .int v3)] → W p l e (rmD 0) s m av below meth c H locs 0 0 (MQ below (va_Qv post (BW D cy B kX) (AW B 346)) av s 0 0 (AW B 346)) (F0 m 2 ls []) := by
  obtain ⟨⟨hx, hb, hml, hown, hts⟩, hr, hlk, hK, hN, hZ⟩ := id X
  have hD : ∀ σ, va_D (AW B 346) (wW cy B kX σ) := AW_D kX_len
  intro n
  induction n with
  | zero => intro v0 v1 v2 v3 σ h0 h; exact absurd h id
  | succ n ih =>
    intro v0 v1 v2 v3 σ h0 h H locs ls hP hS hl
    rw [wX3_exchangeRows_2] at h
    refine lv_iload_n hx hb dX3_exchangeRows_2 rfl (lv_at hl 3 rfl) ?_
    refine lv_aload_n hx hb dX3_exchangeRows_3 rfl (lv_at hl 0 rfl) ?_
    refine rk_get X hP (C := RX3) (T := TX3) (N := 3) (ci := 3) wix_3 h0 rfl rfl 1 (by decide) (wi_3 _ (List.mem_of_getElem? (i := 17) rfl)) rfl rfl dX3_exchangeRows_4 ?_
    refine lv_icmp_ge (tgt := 72) hx hb dX3_exchangeRows_7 (by decide) (fun c1 => ?_) (fun c1 => ?_)
    · have h := h.1 c1
      exact rk_vret X kX_len h hP hS dX3_exchangeRows_72
    · have h := h.2 c1
      refine lv_aload_n hx hb dX3_exchangeRows_10 rfl (lv_at hl 0 rfl) ?_
      refine rk_get X hP (C := RX3) (T := TX3) (N := 3) (ci := 3) wix_3 h0 rfl rfl 2 (by decide) (wi_3 _ (List.mem_of_getElem? (i := 18) rfl)) rfl rfl dX3_exchangeRows_11 ?_
      refine lv_iload_n hx hb dX3_exchangeRows_14 rfl (lv_at hl 1 rfl) ?_
      refine lv_aload_n hx hb dX3_exchangeRows_15 rfl (lv_at hl 0 rfl) ?_
      refine rk_get X hP (C := RX3) (T := TX3) (N := 3) (ci := 3) wix_3 h0 rfl rfl 1 (by decide) (wi_3 _ (List.mem_of_getElem? (i := 17) rfl)) rfl rfl dX3_exchangeRows_16 ?_
      refine lv_imul hx hb dX3_exchangeRows_19 ?_
      refine lv_iload_n hx hb dX3_exchangeRows_20 rfl (lv_at hl 3 rfl) ?_
      refine lv_iadd hx hb dX3_exchangeRows_21 ?_
      refine lv_topi (fun x1 ex1 => ?_)
      have h := h x1 ex1
      obtain ⟨b1, h⟩ := h
      refine rk_iald X hP (n := 16) (klX_X3_2 h0) (fun _ _ => rfl) b1 dX3_exchangeRows_22 ?_
      refine lv_topi (fun x2 ex2 => ?_)
      have h := h x2 ex2
      refine lv_istore (lv' := [(4, .int x2), (0, .ref (B + v0)), (1, .int v1), (2, .int v2), (3, .int v3)]) hx hb dX3_exchangeRows_23 hl (by decide) rfl (fun ls hl => ?_)
      refine lv_aload_n hx hb dX3_exchangeRows_25 rfl (lv_at hl 1 rfl) ?_
      refine rk_get X hP (C := RX3) (T := TX3) (N := 3) (ci := 3) wix_3 h0 rfl rfl 2 (by decide) (wi_3 _ (List.mem_of_getElem? (i := 18) rfl)) rfl rfl dX3_exchangeRows_26 ?_
      refine lv_iload_n hx hb dX3_exchangeRows_29 rfl (lv_at hl 2 rfl) ?_
      refine lv_aload_n hx hb dX3_exchangeRows_30 rfl (lv_at hl 1 rfl) ?_
      refine rk_get X hP (C := RX3) (T := TX3) (N := 3) (ci := 3) wix_3 h0 rfl rfl 1 (by decide) (wi_3 _ (List.mem_of_getElem? (i := 17) rfl)) rfl rfl dX3_exchangeRows_31 ?_
      refine lv_imul hx hb dX3_exchangeRows_34 ?_
      refine lv_iload_n hx hb dX3_exchangeRows_35 rfl (lv_at hl 4 rfl) ?_
      refine lv_iadd hx hb dX3_exchangeRows_36 ?_
      refine lv_aload_n hx hb dX3_exchangeRows_37 rfl (lv_at hl 1 rfl) ?_
      refine rk_get X hP (C := RX3) (T := TX3) (N := 3) (ci := 3) wix_3 h0 rfl rfl 2 (by decide) (wi_3 _ (List.mem_of_getElem? (i := 18) rfl)) rfl rfl dX3_exchangeRows_38 ?_
      refine lv_iload_n hx hb dX3_exchangeRows_41 rfl (lv_at hl 3 rfl) ?_
      refine lv_aload_n hx hb dX3_exchangeRows_42 rfl (lv_at hl 1 rfl) ?_
      refine rk_get X hP (C := RX3) (T := TX3) (N := 3) (ci := 3) wix_3 h0 rfl rfl 1 (by decide) (wi_3 _ (List.mem_of_getElem? (i := 17) rfl)) rfl rfl dX3_exchangeRows_43 ?_
      refine lv_imul hx hb dX3_exchangeRows_46 ?_
      refine lv_iload_n hx hb dX3_exchangeRows_47 rfl (lv_at hl 4 rfl) ?_
      refine lv_iadd hx hb dX3_exchangeRows_48 ?_
      refine lv_topi (fun x3 ex3 => ?_)
      have h := h x3 ex3
      obtain ⟨b2, h⟩ := h
      refine rk_iald X hP (n := 16) (klX_X3_2 h0) (fun _ _ => rfl) b2 dX3_exchangeRows_49 ?_
      obtain ⟨b3, h⟩ := h
      refine rk_iast X hP hD hS (n := 16) (klX_X3_2 h0) (fun _ _ => rfl) b3 dX3_exchangeRows_50 (fun H locs hP hS => ?_)
      obtain ⟨s1, es1⟩ : ∃ z : St, z = u1 σ (v0 + 1) ((v1 * (σ.1 v0 1)) + v3).toNatClampNeg (σ.1 (v0 + 1) x3.toNatClampNeg) := ⟨_, rfl⟩
      rw [← es1] at hP
      have h := h s1 es1
      refine lv_aload_n hx hb dX3_exchangeRows_51 rfl (lv_at hl 1 rfl) ?_
      refine rk_get X hP (C := RX3) (T := TX3) (N := 3) (ci := 3) wix_3 h0 rfl rfl 2 (by decide) (wi_3 _ (List.mem_of_getElem? (i := 18) rfl)) rfl rfl dX3_exchangeRows_52 ?_
      refine lv_iload_n hx hb dX3_exchangeRows_55 rfl (lv_at hl 3 rfl) ?_
      refine lv_aload_n hx hb dX3_exchangeRows_56 rfl (lv_at hl 1 rfl) ?_
      refine rk_get X hP (C := RX3) (T := TX3) (N := 3) (ci := 3) wix_3 h0 rfl rfl 1 (by decide) (wi_3 _ (List.mem_of_getElem? (i := 17) rfl)) rfl rfl dX3_exchangeRows_57 ?_
      refine lv_imul hx hb dX3_exchangeRows_60 ?_
      refine lv_iload_n hx hb dX3_exchangeRows_61 rfl (lv_at hl 4 rfl) ?_
      refine lv_iadd hx hb dX3_exchangeRows_62 ?_
      refine lv_iload hx hb dX3_exchangeRows_63 (lv_at hl 0 rfl) ?_
      obtain ⟨b4, h⟩ := h
      refine rk_iast X hP hD hS (n := 16) (klX_X3_2 h0) (fun _ _ => rfl) b4 dX3_exchangeRows_65 (fun H locs hP hS => ?_)
      obtain ⟨s2, es2⟩ : ∃ z : St, z = u1 s1 (v0 + 1) ((v2 * (s1.1 v0 1)) + v3).toNatClampNeg x2 := ⟨_, rfl⟩
      rw [← es2] at hP
      have h := h s2 es2
      obtain ⟨x4, ex4⟩ : ∃ y : Int32, y = v3 + (1 : Int32) := ⟨_, rfl⟩
      have h := h x4 ex4
      refine lv_iinc (v := x4) (lv' := [(3, .int x4), (4, .int x2), (0, .ref (B + v0)), (1, .int v1), (2, .int v2)]) hx hb dX3_exchangeRows_66 hl (k := 4) rfl (by rw [ex4]; rfl) (by decide) rfl (fun ls hl => ?_)
      refine lv_goto (tgt := 2) hx hb dX3_exchangeRows_69 (by decide) ?_
      exact ih _ _ _ _ _ h0 h _ _ _ hP hS (lv_sub hl [2, 3, 4, 0] rfl)
set_option maxRecDepth 100000 in
set_option maxHeartbeats 4000000 in
theorem mX3_exchangeRows (l : Launch) (D : va_G) (cy : Nat → ClassId) (B : Nat) (v0 : Nat) (v1 : Int32) (v2 : Int32) (σ : St) (h0 : kX[v0]? = some 3) {post : St → Prop} (h : wX3_exchangeRows v0 v1 v2 σ post) : Met l yX3_exchangeRows (Cond.code yX3_exchangeRows cX3_exchangeRows 5 none :: WALL) (rmD 0) (PcW D cy B kX σ [.ref (B + v0), .int v1, .int v2]) (va_Qv post (BW D cy B kX) (AW B 346)) 0 0 (AW B 346) := by
  refine Met.ofK (cc := cX3_exchangeRows) (maxL := 5) (ret := none) (by decide +kernel) rfl kX_len ?_
  intro p e s m below meth c X hP
  obtain ⟨⟨hx, hb, hml, hown, hts⟩, hr, hlk, hK, hN, hZ⟩ := id X
  have hD : ∀ σ, va_D (AW B 346) (wW cy B kX σ) := AW_D kX_len
  have hS : va_S (AW B 346) s.heap s.heap [] := va_S.rf
  have hl := lv_entry ([.ref (B + v0), .int v1, .int v2]) (n := 5) (Nat.le_of_ble_eq_true rfl)
  rw [lg_entry_eq]
  generalize (lg_sl ([.ref (B + v0), .int v1, .int v2]) ++ List.replicate (5 - (lg_sl ([.ref (B + v0), .int v1, .int v2])).length) Slot.unset).toArray = ls at hl ⊢
  have hl : lv_has ls 5 [(0, .ref (B + v0)), (1, .int v1), (2, .int v2)] := hl
  unfold wX3_exchangeRows at h
  refine lv_iconst (v := (0 : Int32)) hx hb dX3_exchangeRows_0 (by decide) ?_
  refine lv_istore_n (lv' := [(3, .int (0 : Int32)), (0, .ref (B + v0)), (1, .int v1), (2, .int v2)]) hx hb dX3_exchangeRows_1 rfl hl (by decide) rfl (fun ls hl => ?_)
  obtain ⟨j, h⟩ := h
  exact tX3_exchangeRows_2 X j _ _ _ _ _ h0 h _ _ _ hP hS (lv_sub hl [1, 2, 3, 0] rfl)

theorem hd_X3_clearBelow : yX3_clearBelow.cls = RX3 ∧ yX3_clearBelow.cls ≠ "java/lang/invoke/MethodHandle" ∧ yX3_clearBelow.cls ≠ "java/lang/invoke/VarHandle" ∧ (parseMethodDescriptor yX3_clearBelow.desc).map (fun d => d.parameters.length) = some 3 := by decide +kernel
set_option maxRecDepth 100000 in
set_option maxHeartbeats 4000000 in
theorem tX3_clearBelow_48 {p : Program} {l : Launch} {e : Env} {s : State} {m : MethodId} {av : Array Value} {below : List Frame} {meth : Method} {c : Code} {D : va_G} {cy : Nat → ClassId} {B : Nat} (X : kC p s m av meth c cX3_clearBelow 9 none WALL RX3 D cy (AW B 346)) {post : St → Prop} {R20 : Nat → Int32 → Int32 → Int32 → Int32 → Int32 → St → Prop} (hR20 : ∀ (v0 : Nat) (v1 : Int32) (v2 : Int32) (v3 : Int32) (v4 : Int32) (v5 : Int32) (σ : St), kX[v0]? = some 3 → R20 v0 v1 v2 v3 v4 v5 σ → ∀ (H : Heap) (locs : List Loc) (ls : Array Slot), va_P D vwCl (wW cy B kX σ) H → va_S (AW B 346) s.heap H locs → lv_has ls 9 [(0, .ref (B + v0)), (1, .int v1), (2, .int v2), (3, .int v3), (4, .int v4), (5, .int v5)] → W p l e (rmD 2) s m av below meth c H locs 0 0 (MQ below (va_Qv post (BW D cy B kX) (AW B 346)) av s 0 0 (AW B 346)) (F0 m 20 ls [])) : ∀ (n : Nat) (v0 : Nat) (v1 : Int32) (v2 : Int32) (v3 : Int32) (v4 : Int32) (v5 : Int32) (v6 : Int32) (v7 : Int32) (σ : St), kX[v0]? = some 3 → wX3_clearBelow_48 post R20 n v0 v1 v2 v3 v4 v5 v6 v7 σ → ∀ (H : Heap) (locs : List Loc) (ls : Array Slot), va_P D vwCl (wW cy B kX σ) H → va_S (AW B 346) s.heap H locs → lv_has ls 9 [(0, .ref (B + v0)), (1, .int v1), (2, .int v2), (3, .int v3), (4, .int v4), (5, .int v5), (6, .int v6), (7, .int v7)] → W p l e (rmD 2) s m av below meth c H locs 0 0 (MQ below (va_Qv post (BW D cy B kX) (AW B 346)) av s 0 0 (AW B 346)) (F0 m 48 ls []) := by
  obtain ⟨⟨hx, hb, hml, hown, hts⟩, hr, hlk, hK, hN, hZ⟩ := id X
  have hD : ∀ σ, va_D (AW B 346) (wW cy B kX σ) := AW_D kX_len
  intro n
  induction n with
  | zero => intro v0 v1 v2 v3 v4 v5 v6 v7 σ h0 h; exact absurd h id
  | succ n ih =>
    intro v0 v1 v2 v3 v4 v5 v6 v7 σ h0 h H locs ls hP hS hl
    rw [wX3_clearBelow_48] at h
    refine lv_iload hx hb dX3_clearBelow_48 (lv_at hl 7 rfl) ?_
    refine lv_aload_n hx hb dX3_clearBelow_50 rfl (lv_at hl 0 rfl) ?_
    refine rk_get X hP (C := RX3) (T := TX3) (N := 3) (ci := 3) wix_3 h0 rfl rfl 1 (by decide) (wi_3 _ (List.mem_of_getElem? (i := 17) rfl)) rfl rfl dX3_clearBelow_51 ?_
    refine lv_icmp_ge (tgt := 122) hx hb dX3_clearBelow_54 (by decide) (fun c1 => ?_) (fun c1 => ?_)
    · have h := h.1 c1
      obtain ⟨x1, ex1⟩ : ∃ y : Int32, y = v5 + (1 : Int32) := ⟨_, rfl⟩
      have h := h x1 ex1
      refine lv_iinc (v := x1) (lv' := [(5, .int x1), (0, .ref (B + v0)), (1, .int v1), (2, .int v2), (3, .int v3), (4, .int v4), (6, .int v6), (7, .int v7)]) hx hb dX3_clearBelow_122 hl (k := 5) rfl (by rw [ex1]; rfl) (by decide) rfl (fun ls hl => ?_)
      refine lv_goto (tgt := 20) hx hb dX3_clearBelow_125 (by decide) ?_
      exact hR20 _ _ _ _ _ _ _ h0 h _ _ _ hP hS (lv_sub hl [1, 2, 3, 4, 5, 0] rfl)
    · have h := h.2 c1
      refine lv_aload_n hx hb dX3_clearBelow_57 rfl (lv_at hl 0 rfl) ?_
      refine rk_get X hP (C := RX3) (T := TX3) (N := 3) (ci := 3) wix_3 h0 rfl rfl 2 (by decide) (wi_3 _ (List.mem_of_getElem? (i := 18) rfl)) rfl rfl dX3_clearBelow_58 ?_
      refine lv_iload hx hb dX3_clearBelow_61 (lv_at hl 5 rfl) ?_
      refine lv_aload_n hx hb dX3_clearBelow_63 rfl (lv_at hl 0 rfl) ?_
      refine rk_get X hP (C := RX3) (T := TX3) (N := 3) (ci := 3) wix_3 h0 rfl rfl 1 (by decide) (wi_3 _ (List.mem_of_getElem? (i := 17) rfl)) rfl rfl dX3_clearBelow_64 ?_
      refine lv_imul hx hb dX3_clearBelow_67 ?_
      refine lv_iload hx hb dX3_clearBelow_68 (lv_at hl 7 rfl) ?_
      refine lv_iadd hx hb dX3_clearBelow_70 ?_
      refine lv_topi (fun x2 ex2 => ?_)
      have h := h x2 ex2
      obtain ⟨b1, h⟩ := h
      refine rk_iald X hP (n := 16) (klX_X3_2 h0) (fun _ _ => rfl) b1 dX3_clearBelow_71 ?_
      refine lv_iload hx hb dX3_clearBelow_72 (lv_at hl 4 rfl) ?_
      refine lv_imul hx hb dX3_clearBelow_74 ?_
      refine lv_aload_n hx hb dX3_clearBelow_75 rfl (lv_at hl 0 rfl) ?_
      refine rk_get X hP (C := RX3) (T := TX3) (N := 3) (ci := 3) wix_3 h0 rfl rfl 2 (by decide) (wi_3 _ (List.mem_of_getElem? (i := 18) rfl)) rfl rfl dX3_clearBelow_76 ?_
      refine lv_iload_n hx hb dX3_clearBelow_79 rfl (lv_at hl 1 rfl) ?_
      refine lv_aload_n hx hb dX3_clearBelow_80 rfl (lv_at hl 0 rfl) ?_
      refine rk_get X hP (C := RX3) (T := TX3) (N := 3) (ci := 3) wix_3 h0 rfl rfl 1 (by decide) (wi_3 _ (List.mem_of_getElem? (i := 17) rfl)) rfl rfl dX3_clearBelow_81 ?_
      refine lv_imul hx hb dX3_clearBelow_84 ?_
      refine lv_iload hx hb dX3_clearBelow_85 (lv_at hl 7 rfl) ?_
      refine lv_iadd hx hb dX3_clearBelow_87 ?_
      refine lv_topi (fun x3 ex3 => ?_)
      have h := h x3 ex3
      obtain ⟨b2, h⟩ := h
      refine rk_iald X hP (n := 16) (klX_X3_2 h0) (fun _ _ => rfl) b2 dX3_clearBelow_88 ?_
      refine lv_iload hx hb dX3_clearBelow_89 (lv_at hl 6 rfl) ?_
      refine lv_imul hx hb dX3_clearBelow_91 ?_
      refine lv_isub hx hb dX3_clearBelow_92 ?_
      refine lv_topi (fun x4 ex4 => ?_)
      have h := h x4 ex4
      refine lv_istore (lv' := [(8, .int x4), (0, .ref (B + v0)), (1, .int v1), (2, .int v2), (3, .int v3), (4, .int v4), (5, .int v5), (6, .int v6), (7, .int v7)]) hx hb dX3_clearBelow_93 hl (by decide) rfl (fun ls hl => ?_)
      refine lv_aload_n hx hb dX3_clearBelow_95 rfl (lv_at hl 1 rfl) ?_
      refine rk_get X hP (C := RX3) (T := TX3) (N := 3) (ci := 3) wix_3 h0 rfl rfl 2 (by decide) (wi_3 _ (List.mem_of_getElem? (i := 18) rfl)) rfl rfl dX3_clearBelow_96 ?_
      refine lv_iload hx hb dX3_clearBelow_99 (lv_at hl 6 rfl) ?_
      refine lv_aload_n hx hb dX3_clearBelow_101 rfl (lv_at hl 1 rfl) ?_
      refine rk_get X hP (C := RX3) (T := TX3) (N := 3) (ci := 3) wix_3 h0 rfl rfl 1 (by decide) (wi_3 _ (List.mem_of_getElem? (i := 17) rfl)) rfl rfl dX3_clearBelow_102 ?_
      refine lv_imul hx hb dX3_clearBelow_105 ?_
      refine lv_iload hx hb dX3_clearBelow_106 (lv_at hl 8 rfl) ?_
      refine lv_iadd hx hb dX3_clearBelow_108 ?_
      refine lv_iload hx hb dX3_clearBelow_109 (lv_at hl 0 rfl) ?_
      refine lv_iload_n hx hb dX3_clearBelow_111 rfl (lv_at hl 4 rfl) ?_
      refine rk_calli (va_runSN (As := [.int x4, .int v3]) (rest := [.int ((v5 * (σ.1 v0 1)) + v7), .ref (B + (v0 + 1))]) X.1 (mX10_mod l D cy B x4 v3 σ h) ⟨va_cnB 2 hts (gW_C (wi_2 _ (List.mem_of_getElem? (i := 2) rfl))) rfl rfl rfl hN.2.2.1 (hts _ (wi_2 _ (List.mem_of_getElem? (i := 8) rfl))) hd_X10_mod ⟨Nat.le_of_ble_eq_true rfl, Nat.le_of_ble_eq_true rfl⟩, hts _ (wi_2 _ (List.mem_of_getElem? (i := 7) rfl)), trivial⟩ (rk_preS X hS hP [.int x4, .int v3]) rfl rfl hl.1 rfl (lv_room (Nat.le_of_ble_eq_true rfl)) dX3_clearBelow_112 ⟨Nat.zero_le _, Nat.zero_le _⟩) hS (fun _ h => h) (fun r1 s1 H locs h hP hS => ?_)
      obtain ⟨b3, h⟩ := h
      refine rk_iast X hP hD hS (n := 16) (klX_X3_2 h0) (fun _ _ => rfl) b3 dX3_clearBelow_115 (fun H locs hP hS => ?_)
      obtain ⟨s2, es2⟩ : ∃ z : St, z = u1 s1 (v0 + 1) ((v5 * (σ.1 v0 1)) + v7).toNatClampNeg r1 := ⟨_, rfl⟩
      rw [← es2] at hP
      have h := h s2 es2
      obtain ⟨x5, ex5⟩ : ∃ y : Int32, y = v7 + (1 : Int32) := ⟨_, rfl⟩
      have h := h x5 ex5
      refine lv_iinc (v := x5) (lv' := [(7, .int x5), (8, .int x4), (0, .ref (B + v0)), (1, .int v1), (2, .int v2), (3, .int v3), (4, .int v4), (5, .int v5), (6, .int v6)]) hx hb dX3_clearBelow_116 hl (k := 8) rfl (by rw [ex5]; rfl) (by decide) rfl (fun ls hl => ?_)
      refine lv_goto (tgt := 48) hx hb dX3_clearBelow_119 (by decide) ?_
      exact ih _ _ _ _ _ _ _ _ _ h0 h _ _ _ hP hS (lv_sub hl [2, 3, 4, 5, 6, 7, 8, 0] rfl)
set_option maxRecDepth 100000 in
set_option maxHeartbeats 4000000 in
theorem tX3_clearBelow_20 {p : Program} {l : Launch} {e : Env} {s : State} {m : MethodId} {av : Array Value} {below : List Frame} {meth : Method} {c : Code} {D : va_G} {cy : Nat → ClassId} {B : Nat} (X : kC p s m av meth c cX3_clearBelow 9 none WALL RX3 D cy (AW B 346)) {post : St → Prop} : ∀ (n : Nat) (v0 : Nat) (v1 : Int32) (v2 : Int32) (v3 : Int32) (v4 : Int32) (v5 : Int32) (σ : St), kX[v0]? = some 3 → wX3_clearBelow_20 post n v0 v1 v2 v3 v4 v5 σ → ∀ (H : Heap) (locs : List Loc) (ls : Array Slot), va_P D vwCl (wW cy B kX σ) H → va_S (AW B 346) s.heap H locs → lv_has ls 9 [(0, .ref (B + v0)), (1, .int v1), (2, .int v2), (3, .int v3), (4, .int v4), (5, .int v5)] → W p l e (rmD 2) s m av below meth c H locs 0 0 (MQ below (va_Qv post (BW D cy B kX) (AW B 346)) av s 0 0 (AW B 346)) (F0 m 20 ls []) := by
  obtain ⟨⟨hx, hb, hml, hown, hts⟩, hr, hlk, hK, hN, hZ⟩ := id X
  have hD : ∀ σ, va_D (AW B 346) (wW cy B kX σ) := AW_D kX_len
  intro n
  induction n with
  | zero => intro v0 v1 v2 v3 v4 v5 σ h0 h; exact absurd h id
  | succ n ih =>
    intro v0 v1 v2 v3 v4 v5 σ h0 h H locs ls hP hS hl
    rw [wX3_clearBelow_20] at h
    refine lv_iload hx hb dX3_clearBelow_20 (lv_at hl 5 rfl) ?_
    refine lv_aload_n hx hb dX3_clearBelow_22 rfl (lv_at hl 0 rfl) ?_
    refine rk_get X hP (C := RX3) (T := TX3) (N := 3) (ci := 3) wix_3 h0 rfl rfl 0 (by decide) (wi_3 _ (List.mem_of_getElem? (i := 16) rfl)) rfl rfl dX3_clearBelow_23 ?_
    refine lv_icmp_ge (tgt := 128) hx hb dX3_clearBelow_26 (by decide) (fun c1 => ?_) (fun c1 => ?_)
    · have h := h.1 c1
      exact rk_vret X kX_len h hP hS dX3_clearBelow_128
    · have h := h.2 c1
      refine lv_aload_n hx hb dX3_clearBelow_29 rfl (lv_at hl 0 rfl) ?_
      refine rk_get X hP (C := RX3) (T := TX3) (N := 3) (ci := 3) wix_3 h0 rfl rfl 2 (by decide) (wi_3 _ (List.mem_of_getElem? (i := 18) rfl)) rfl rfl dX3_clearBelow_30 ?_
      refine lv_iload hx hb dX3_clearBelow_33 (lv_at hl 5 rfl) ?_
      refine lv_aload_n hx hb dX3_clearBelow_35 rfl (lv_at hl 0 rfl) ?_
      refine rk_get X hP (C := RX3) (T := TX3) (N := 3) (ci := 3) wix_3 h0 rfl rfl 1 (by decide) (wi_3 _ (List.mem_of_getElem? (i := 17) rfl)) rfl rfl dX3_clearBelow_36 ?_
      refine lv_imul hx hb dX3_clearBelow_39 ?_
      refine lv_iload_n hx hb dX3_clearBelow_40 rfl (lv_at hl 2 rfl) ?_
      refine lv_iadd hx hb dX3_clearBelow_41 ?_
      refine lv_topi (fun x1 ex1 => ?_)
      have h := h x1 ex1
      obtain ⟨b1, h⟩ := h
      refine rk_iald X hP (n := 16) (klX_X3_2 h0) (fun _ _ => rfl) b1 dX3_clearBelow_42 ?_
      refine lv_topi (fun x2 ex2 => ?_)
      have h := h x2 ex2
      refine lv_istore (lv' := [(6, .int x2), (0, .ref (B + v0)), (1, .int v1), (2, .int v2), (3, .int v3), (4, .int v4), (5, .int v5)]) hx hb dX3_clearBelow_43 hl (by decide) rfl (fun ls hl => ?_)
      refine lv_iconst (v := (0 : Int32)) hx hb dX3_clearBelow_45 (by decide) ?_
      refine lv_istore (lv' := [(7, .int (0 : Int32)), (6, .int x2), (0, .ref (B + v0)), (1, .int v1), (2, .int v2), (3, .int v3), (4, .int v4), (5, .int v5)]) hx hb dX3_clearBelow_46 hl (by decide) rfl (fun ls hl => ?_)
      obtain ⟨j, h⟩ := h
      exact tX3_clearBelow_48 X ih j _ _ _ _ _ _ _ _ _ h0 h _ _ _ hP hS (lv_sub hl [2, 3, 4, 5, 6, 7, 1, 0] rfl)
set_option maxRecDepth 100000 in
set_option maxHeartbeats 4000000 in
theorem mX3_clearBelow (l : Launch) (D : va_G) (cy : Nat → ClassId) (B : Nat) (v0 : Nat) (v1 : Int32) (v2 : Int32) (v3 : Int32) (σ : St) (h0 : kX[v0]? = some 3) {post : St → Prop} (h : wX3_clearBelow v0 v1 v2 v3 σ post) : Met l yX3_clearBelow (Cond.code yX3_clearBelow cX3_clearBelow 9 none :: WALL) (rmD 2) (PcW D cy B kX σ [.ref (B + v0), .int v1, .int v2, .int v3]) (va_Qv post (BW D cy B kX) (AW B 346)) 0 0 (AW B 346) := by
  refine Met.ofK (cc := cX3_clearBelow) (maxL := 9) (ret := none) (by decide +kernel) rfl kX_len ?_
  intro p e s m below meth c X hP
  obtain ⟨⟨hx, hb, hml, hown, hts⟩, hr, hlk, hK, hN, hZ⟩ := id X
  have hD : ∀ σ, va_D (AW B 346) (wW cy B kX σ) := AW_D kX_len
  have hS : va_S (AW B 346) s.heap s.heap [] := va_S.rf
  have hl := lv_entry ([.ref (B + v0), .int v1, .int v2, .int v3]) (n := 9) (Nat.le_of_ble_eq_true rfl)
  rw [lg_entry_eq]
  generalize (lg_sl ([.ref (B + v0), .int v1, .int v2, .int v3]) ++ List.replicate (9 - (lg_sl ([.ref (B + v0), .int v1, .int v2, .int v3])).length) Slot.unset).toArray = ls at hl ⊢
  have hl : lv_has ls 9 [(0, .ref (B + v0)), (1, .int v1), (2, .int v2), (3, .int v3)] := hl
  unfold wX3_clearBelow at h
  refine lv_aload_n hx hb dX3_clearBelow_0 rfl (lv_at hl 0 rfl) ?_
  refine rk_get X hP (C := RX3) (T := TX3) (N := 3) (ci := 3) wix_3 h0 rfl rfl 2 (by decide) (wi_3 _ (List.mem_of_getElem? (i := 18) rfl)) rfl rfl dX3_clearBelow_1 ?_
  refine lv_iload_n hx hb dX3_clearBelow_4 rfl (lv_at hl 1 rfl) ?_
  refine lv_aload_n hx hb dX3_clearBelow_5 rfl (lv_at hl 0 rfl) ?_
  refine rk_get X hP (C := RX3) (T := TX3) (N := 3) (ci := 3) wix_3 h0 rfl rfl 1 (by decide) (wi_3 _ (List.mem_of_getElem? (i := 17) rfl)) rfl rfl dX3_clearBelow_6 ?_
  refine lv_imul hx hb dX3_clearBelow_9 ?_
  refine lv_iload_n hx hb dX3_clearBelow_10 rfl (lv_at hl 2 rfl) ?_
  refine lv_iadd hx hb dX3_clearBelow_11 ?_
  refine lv_topi (fun x1 ex1 => ?_)
  have h := h x1 ex1
  obtain ⟨b1, h⟩ := h
  refine rk_iald X hP (n := 16) (klX_X3_2 h0) (fun _ _ => rfl) b1 dX3_clearBelow_12 ?_
  refine lv_topi (fun x2 ex2 => ?_)
  have h := h x2 ex2
  refine lv_istore (lv' := [(4, .int x2), (0, .ref (B + v0)), (1, .int v1), (2, .int v2), (3, .int v3)]) hx hb dX3_clearBelow_13 hl (by decide) rfl (fun ls hl => ?_)
  refine lv_iload_n hx hb dX3_clearBelow_15 rfl (lv_at hl 2 rfl) ?_
  refine lv_iconst (v := (1 : Int32)) hx hb dX3_clearBelow_16 (by decide) ?_
  refine lv_iadd hx hb dX3_clearBelow_17 ?_
  refine lv_topi (fun x3 ex3 => ?_)
  have h := h x3 ex3
  refine lv_istore (lv' := [(5, .int x3), (4, .int x2), (0, .ref (B + v0)), (1, .int v1), (2, .int v2), (3, .int v3)]) hx hb dX3_clearBelow_18 hl (by decide) rfl (fun ls hl => ?_)
  obtain ⟨j, h⟩ := h
  exact tX3_clearBelow_20 X j _ _ _ _ _ _ _ h0 h _ _ _ hP hS (lv_sub hl [2, 3, 4, 5, 1, 0] rfl)

theorem hd_X3_rankModulo : yX3_rankModulo.cls = RX3 ∧ yX3_rankModulo.cls ≠ "java/lang/invoke/MethodHandle" ∧ yX3_rankModulo.cls ≠ "java/lang/invoke/VarHandle" ∧ (parseMethodDescriptor yX3_rankModulo.desc).map (fun d => d.parameters.length) = some 1 := by decide +kernel
set_option maxRecDepth 100000 in
set_option maxHeartbeats 4000000 in
theorem tX3_rankModulo_4 {p : Program} {l : Launch} {e : Env} {s : State} {m : MethodId} {av : Array Value} {below : List Frame} {meth : Method} {c : Code} {D : va_G} {cy : Nat → ClassId} {B : Nat} (X : kC p s m av meth c cX3_rankModulo 5 (some .int) WALL RX3 D cy (AW B 346)) {post : Int32 → St → Prop} : ∀ (n : Nat) (v0 : Nat) (v1 : Int32) (v2 : Int32) (v3 : Int32) (σ : St), kX[v0]? = some 3 → wX3_rankModulo_4 post n v0 v1 v2 v3 σ → ∀ (H : Heap) (locs : List Loc) (ls : Array Slot), va_P D vwCl (wW cy B kX σ) H → va_S (AW B 346) s.heap H locs → lv_has ls 5 [(0, .ref (B + v0)), (1, .int v1), (2, .int v2), (3, .int v3)] → W p l e (rmD 3) s m av below meth c H locs 0 0 (MQ below (va_Qi post (BW D cy B kX) (AW B 346)) av s 0 0 (AW B 346)) (F0 m 4 ls []) := by
  obtain ⟨⟨hx, hb, hml, hown, hts⟩, hr, hlk, hK, hN, hZ⟩ := id X
  have hD : ∀ σ, va_D (AW B 346) (wW cy B kX σ) := AW_D kX_len
  intro n
  induction n with
  | zero => intro v0 v1 v2 v3 σ h0 h; exact absurd h id
  | succ n ih =>
    intro v0 v1 v2 v3 σ h0 h H locs ls hP hS hl
    rw [wX3_rankModulo_4] at h
    refine lv_iload_n hx hb dX3_rankModulo_4 rfl (lv_at hl 3 rfl) ?_
    refine lv_aload_n hx hb dX3_rankModulo_5 rfl (lv_at hl 0 rfl) ?_
    refine rk_get X hP (C := RX3) (T := TX3) (N := 3) (ci := 3) wix_3 h0 rfl rfl 1 (by decide) (wi_3 _ (List.mem_of_getElem? (i := 17) rfl)) rfl rfl dX3_rankModulo_6 ?_
    refine lv_icmp_ge (tgt := 57) hx hb dX3_rankModulo_9 (by decide) (fun c1 => ?_) (fun c1 => ?_)
    · have h := h.1 c1
      refine lv_iload_n hx hb dX3_rankModulo_57 rfl (lv_at hl 2 rfl) ?_
      exact rk_iret X rfl kX_len h hP hS dX3_rankModulo_58
    · have h := h.2 c1
      refine lv_iload_n hx hb dX3_rankModulo_12 rfl (lv_at hl 2 rfl) ?_
      refine lv_aload_n hx hb dX3_rankModulo_13 rfl (lv_at hl 0 rfl) ?_
      refine rk_get X hP (C := RX3) (T := TX3) (N := 3) (ci := 3) wix_3 h0 rfl rfl 0 (by decide) (wi_3 _ (List.mem_of_getElem? (i := 16) rfl)) rfl rfl dX3_rankModulo_14 ?_
      refine lv_icmp_ge (tgt := 57) hx hb dX3_rankModulo_17 (by decide) (fun c2 => ?_) (fun c2 => ?_)
      · have h := h.1 c2
        refine lv_iload_n hx hb dX3_rankModulo_57 rfl (lv_at hl 2 rfl) ?_
        exact rk_iret X rfl kX_len h hP hS dX3_rankModulo_58
      · have h := h.2 c2
        refine lv_aload_n hx hb dX3_rankModulo_20 rfl (lv_at hl 0 rfl) ?_
        refine lv_iload_n hx hb dX3_rankModulo_21 rfl (lv_at hl 2 rfl) ?_
        refine lv_iload_n hx hb dX3_rankModulo_22 rfl (lv_at hl 3 rfl) ?_
        refine rk_calli (va_runV (As := [.int v2, .int v3]) (rest := []) X.1 (mX3_rowWithout0 l D cy B v0 v2 v3 σ h0 h) (cwV 2 hts (gW_V (wi_4 _ (List.mem_of_getElem? (i := 13) rfl)) (wi_4 _ (List.mem_of_getElem? (i := 14) rfl)) (wi_4 _ (List.mem_of_getElem? (i := 15) rfl)) (wi_4 _ (List.mem_of_getElem? (i := 8) rfl)) (wi_4 _ (List.mem_of_getElem? (i := 9) rfl))) rfl rfl rfl hd_X3_rowWithout0 ⟨Nat.le_of_ble_eq_true rfl, Nat.le_of_ble_eq_true rfl⟩) (rk_preV X hS hP h0 rfl rfl [.int v2, .int v3]) rfl rfl hl.1 rfl (lv_room (Nat.le_of_ble_eq_true rfl)) dX3_rankModulo_23 ⟨Nat.zero_le _, Nat.zero_le _⟩) hS (fun _ h => h) (fun r1 s1 H locs h hP hS => ?_)
        refine lv_istore (lv' := [(4, .int r1), (0, .ref (B + v0)), (1, .int v1), (2, .int v2), (3, .int v3)]) hx hb dX3_rankModulo_26 hl (by decide) rfl (fun ls hl => ?_)
        refine lv_iload hx hb dX3_rankModulo_28 (lv_at hl 0 rfl) ?_
        refine lv_iconst (v := (-1 : Int32)) hx hb dX3_rankModulo_30 (by decide) ?_
        refine lv_icmp_eq (tgt := 51) hx hb dX3_rankModulo_31 (by decide) (fun c3 => ?_) (fun c3 => ?_)
        · have h := h.1 c3
          obtain ⟨x1, ex1⟩ : ∃ y : Int32, y = v3 + (1 : Int32) := ⟨_, rfl⟩
          have h := h x1 ex1
          refine lv_iinc (v := x1) (lv' := [(3, .int x1), (4, .int r1), (0, .ref (B + v0)), (1, .int v1), (2, .int v2)]) hx hb dX3_rankModulo_51 hl (k := 4) rfl (by rw [ex1]; rfl) (by decide) rfl (fun ls hl => ?_)
          refine lv_goto (tgt := 4) hx hb dX3_rankModulo_54 (by decide) ?_
          exact ih _ _ _ _ _ h0 h _ _ _ hP hS (lv_sub hl [2, 3, 4, 0] rfl)
        · have h := h.2 c3
          refine lv_aload_n hx hb dX3_rankModulo_34 rfl (lv_at hl 1 rfl) ?_
          refine lv_iload_n hx hb dX3_rankModulo_35 rfl (lv_at hl 3 rfl) ?_
          refine lv_iload hx hb dX3_rankModulo_36 (lv_at hl 0 rfl) ?_
          refine rk_callv (va_runV (As := [.int v2, .int r1]) (rest := []) X.1 (mX3_exchangeRows l D cy B v0 v2 r1 s1 h0 h) (cwV 2 hts (gW_V (wi_4 _ (List.mem_of_getElem? (i := 16) rfl)) (wi_4 _ (List.mem_of_getElem? (i := 17) rfl)) (wi_4 _ (List.mem_of_getElem? (i := 18) rfl)) (wi_4 _ (List.mem_of_getElem? (i := 8) rfl)) (wi_4 _ (List.mem_of_getElem? (i := 10) rfl))) rfl rfl rfl hd_X3_exchangeRows ⟨Nat.le_of_ble_eq_true rfl, Nat.le_of_ble_eq_true rfl⟩) (rk_preV X hS hP h0 rfl rfl [.int v2, .int r1]) rfl rfl hl.1 rfl (lv_room (Nat.le_of_ble_eq_true rfl)) dX3_rankModulo_38 ⟨Nat.zero_le _, Nat.zero_le _⟩) hS (fun _ h => h) (fun s2 H locs h hP hS => ?_)
          refine lv_aload_n hx hb dX3_rankModulo_41 rfl (lv_at hl 1 rfl) ?_
          refine lv_iload_n hx hb dX3_rankModulo_42 rfl (lv_at hl 3 rfl) ?_
          refine lv_iload_n hx hb dX3_rankModulo_43 rfl (lv_at hl 4 rfl) ?_
          refine lv_iload_n hx hb dX3_rankModulo_44 rfl (lv_at hl 2 rfl) ?_
          refine rk_callv (va_runV (As := [.int v2, .int v3, .int v1]) (rest := []) X.1 (mX3_clearBelow l D cy B v0 v2 v3 v1 s2 h0 h) (cwV 3 hts (gW_V (wi_4 _ (List.mem_of_getElem? (i := 19) rfl)) (wi_4 _ (List.mem_of_getElem? (i := 20) rfl)) (wi_4 _ (List.mem_of_getElem? (i := 21) rfl)) (wi_4 _ (List.mem_of_getElem? (i := 8) rfl)) (wi_4 _ (List.mem_of_getElem? (i := 11) rfl))) rfl rfl rfl hd_X3_clearBelow ⟨Nat.le_of_ble_eq_true rfl, Nat.le_of_ble_eq_true rfl⟩) (rk_preV X hS hP h0 rfl rfl [.int v2, .int v3, .int v1]) rfl rfl hl.1 rfl (lv_room (Nat.le_of_ble_eq_true rfl)) dX3_rankModulo_45 ⟨Nat.zero_le _, Nat.zero_le _⟩) hS (fun _ h => h) (fun s3 H locs h hP hS => ?_)
          obtain ⟨x2, ex2⟩ : ∃ y : Int32, y = v2 + (1 : Int32) := ⟨_, rfl⟩
          have h := h x2 ex2
          refine lv_iinc (v := x2) (lv' := [(2, .int x2), (4, .int r1), (0, .ref (B + v0)), (1, .int v1), (3, .int v3)]) hx hb dX3_rankModulo_48 hl (k := 3) rfl (by rw [ex2]; rfl) (by decide) rfl (fun ls hl => ?_)
          obtain ⟨x3, ex3⟩ : ∃ y : Int32, y = v3 + (1 : Int32) := ⟨_, rfl⟩
          have h := h x3 ex3
          refine lv_iinc (v := x3) (lv' := [(3, .int x3), (2, .int x2), (4, .int r1), (0, .ref (B + v0)), (1, .int v1)]) hx hb dX3_rankModulo_51 hl (k := 4) rfl (by rw [ex3]; rfl) (by decide) rfl (fun ls hl => ?_)
          refine lv_goto (tgt := 4) hx hb dX3_rankModulo_54 (by decide) ?_
          exact ih _ _ _ _ _ h0 h _ _ _ hP hS (lv_sub hl [3, 4, 1, 0] rfl)
set_option maxRecDepth 100000 in
set_option maxHeartbeats 4000000 in
theorem mX3_rankModulo (l : Launch) (D : va_G) (cy : Nat → ClassId) (B : Nat) (v0 : Nat) (v1 : Int32) (σ : St) (h0 : kX[v0]? = some 3) {post : Int32 → St → Prop} (h : wX3_rankModulo v0 v1 σ post) : Met l yX3_rankModulo (Cond.code yX3_rankModulo cX3_rankModulo 5 (some .int) :: WALL) (rmD 3) (PcW D cy B kX σ [.ref (B + v0), .int v1]) (va_Qi post (BW D cy B kX) (AW B 346)) 0 0 (AW B 346) := by
  refine Met.ofK (cc := cX3_rankModulo) (maxL := 5) (ret := (some .int)) (by decide +kernel) rfl kX_len ?_
  intro p e s m below meth c X hP
  obtain ⟨⟨hx, hb, hml, hown, hts⟩, hr, hlk, hK, hN, hZ⟩ := id X
  have hD : ∀ σ, va_D (AW B 346) (wW cy B kX σ) := AW_D kX_len
  have hS : va_S (AW B 346) s.heap s.heap [] := va_S.rf
  have hl := lv_entry ([.ref (B + v0), .int v1]) (n := 5) (Nat.le_of_ble_eq_true rfl)
  rw [lg_entry_eq]
  generalize (lg_sl ([.ref (B + v0), .int v1]) ++ List.replicate (5 - (lg_sl ([.ref (B + v0), .int v1])).length) Slot.unset).toArray = ls at hl ⊢
  have hl : lv_has ls 5 [(0, .ref (B + v0)), (1, .int v1)] := hl
  unfold wX3_rankModulo at h
  refine lv_iconst (v := (0 : Int32)) hx hb dX3_rankModulo_0 (by decide) ?_
  refine lv_istore_n (lv' := [(2, .int (0 : Int32)), (0, .ref (B + v0)), (1, .int v1)]) hx hb dX3_rankModulo_1 rfl hl (by decide) rfl (fun ls hl => ?_)
  refine lv_iconst (v := (0 : Int32)) hx hb dX3_rankModulo_2 (by decide) ?_
  refine lv_istore_n (lv' := [(3, .int (0 : Int32)), (2, .int (0 : Int32)), (0, .ref (B + v0)), (1, .int v1)]) hx hb dX3_rankModulo_3 rfl hl (by decide) rfl (fun ls hl => ?_)
  obtain ⟨j, h⟩ := h
  exact tX3_rankModulo_4 X j _ _ _ _ _ h0 h _ _ _ hP hS (lv_sub hl [2, 3, 1, 0] rfl)

theorem hd_X0_forget : yX0_forget.cls = RX0 ∧ yX0_forget.cls ≠ "java/lang/invoke/MethodHandle" ∧ yX0_forget.cls ≠ "java/lang/invoke/VarHandle" ∧ (parseMethodDescriptor yX0_forget.desc).map (fun d => d.parameters.length) = some 0 := by decide +kernel
set_option maxRecDepth 100000 in
set_option maxHeartbeats 4000000 in
theorem mX0_forget (l : Launch) (D : va_G) (cy : Nat → ClassId) (B : Nat) (v0 : Nat) (σ : St) (h0 : kX[v0]? = some 0) {post : St → Prop} (h : wX0_forget v0 σ post) : Met l yX0_forget (Cond.code yX0_forget cX0_forget 1 none :: WALL) (rmD 0) (PcW D cy B kX σ [.ref (B + v0)]) (va_Qv post (BW D cy B kX) (AW B 346)) 0 0 (AW B 346) := by
  refine Met.ofK (cc := cX0_forget) (maxL := 1) (ret := none) (by decide +kernel) rfl kX_len ?_
  intro p e s m below meth c X hP
  obtain ⟨⟨hx, hb, hml, hown, hts⟩, hr, hlk, hK, hN, hZ⟩ := id X
  have hD : ∀ σ, va_D (AW B 346) (wW cy B kX σ) := AW_D kX_len
  have hS : va_S (AW B 346) s.heap s.heap [] := va_S.rf
  have hl := lv_entry ([.ref (B + v0)]) (n := 1) (Nat.le_of_ble_eq_true rfl)
  rw [lg_entry_eq]
  generalize (lg_sl ([.ref (B + v0)]) ++ List.replicate (1 - (lg_sl ([.ref (B + v0)])).length) Slot.unset).toArray = ls at hl ⊢
  have hl : lv_has ls 1 [(0, .ref (B + v0))] := hl
  unfold wX0_forget at h
  refine lv_aload_n hx hb dX0_forget_0 rfl (lv_at hl 0 rfl) ?_
  refine lv_iconst (v := (0 : Int32)) hx hb dX0_forget_1 (by decide) ?_
  refine rk_puti X hP hD hS (C := RX0) (T := TX0) (N := 3) (ci := 0) wix_0 h0 rfl rfl tyX0 tyX0_ok nmX0 0 (by decide) (wi_0 _ (List.mem_of_getElem? (i := 18) rfl)) rfl rfl (by decide +kernel) (Nat.le_of_ble_eq_true rfl) rfl dX0_forget_2 (fun H locs hP hS => ?_)
  obtain ⟨s1, es1⟩ : ∃ z : St, z = u1 σ v0 0 (0 : Int32) := ⟨_, rfl⟩
  rw [← es1] at hP
  have h := h s1 es1
  exact rk_vret X kX_len h hP hS dX0_forget_5

theorem hd_X0_remember : yX0_remember.cls = RX0 ∧ yX0_remember.cls ≠ "java/lang/invoke/MethodHandle" ∧ yX0_remember.cls ≠ "java/lang/invoke/VarHandle" ∧ (parseMethodDescriptor yX0_remember.desc).map (fun d => d.parameters.length) = some 1 := by decide +kernel
set_option maxRecDepth 100000 in
set_option maxHeartbeats 4000000 in
theorem tX0_remember_32 {p : Program} {l : Launch} {e : Env} {s : State} {m : MethodId} {av : Array Value} {below : List Frame} {meth : Method} {c : Code} {D : va_G} {cy : Nat → ClassId} {B : Nat} (X : kC p s m av meth c cX0_remember 2 none WALL RX0 D cy (AW B 346)) {post : St → Prop} : ∀ (v0 : Nat) (v1 : Nat) (σ : St), kX[v0]? = some 0 → kX[v1]? = some 4 → wX0_remember_32 post v0 v1 σ → ∀ (H : Heap) (locs : List Loc) (ls : Array Slot), va_P D vwCl (wW cy B kX σ) H → va_S (AW B 346) s.heap H locs → lv_has ls 2 [(0, .ref (B + v0)), (1, .ref (B + v1))] → W p l e (rmD 4) s m av below meth c H locs 0 0 (MQ below (va_Qv post (BW D cy B kX) (AW B 346)) av s 0 0 (AW B 346)) (F0 m 32 ls []) := by
  obtain ⟨⟨hx, hb, hml, hown, hts⟩, hr, hlk, hK, hN, hZ⟩ := id X
  have hD : ∀ σ, va_D (AW B 346) (wW cy B kX σ) := AW_D kX_len
  intro v0 v1 σ h0 h1 h H locs ls hP hS hl
  unfold wX0_remember_32 at h
  refine lv_aload_n hx hb dX0_remember_32 rfl (lv_at hl 0 rfl) ?_
  refine rk_get X hP (C := RX0) (T := TX0) (N := 3) (ci := 0) wix_0 h0 rfl rfl 2 (by decide) (wi_0 _ (List.mem_of_getElem? (i := 21) rfl)) rfl rfl dX0_remember_33 ?_
  refine lv_aload_n hx hb dX0_remember_36 rfl (lv_at hl 0 rfl) ?_
  refine rk_get X hP (C := RX0) (T := TX0) (N := 3) (ci := 0) wix_0 h0 rfl rfl 1 (by decide) (wi_0 _ (List.mem_of_getElem? (i := 19) rfl)) rfl rfl dX0_remember_37 ?_
  refine lv_aload_n hx hb dX0_remember_40 rfl (lv_at hl 0 rfl) ?_
  refine rk_get X hP (C := RX0) (T := TX0) (N := 3) (ci := 0) wix_0 h0 rfl rfl 0 (by decide) (wi_0 _ (List.mem_of_getElem? (i := 18) rfl)) rfl rfl dX0_remember_41 ?_
  refine lv_iadd hx hb dX0_remember_44 ?_
  refine lv_bipush (v := (12 : Int32)) hx hb dX0_remember_45 (by decide) ?_
  refine lv_irem hx hb dX0_remember_47 (by decide) ?_
  refine lv_topi (fun x1 ex1 => ?_)
  have h := h x1 ex1
  obtain ⟨b1, h⟩ := h
  refine rk_aald X hP (C := RX4) (n := 12) (t0 := 5) (d := 1) (r := 15) (klX_X0_2 h0) (fun _ _ => rfl) rfl b1 dX0_remember_48 ?_
  refine lv_aload_n hx hb dX0_remember_49 rfl (lv_at hl 1 rfl) ?_
  refine rk_callv (va_runV (As := [.ref (B + v1)]) (rest := []) X.1 (mX4_copyFrom l D cy B ((v0 + 1) + 1 + 15 * x1.toNatClampNeg) v1 σ (klX_15 (klX_X0_2 h0) (vp_lt b1)) h1 h) (cwV 1 hts (gW_V (wi_1 _ (List.mem_of_getElem? (i := 15) rfl)) (wi_1 _ (List.mem_of_getElem? (i := 16) rfl)) (wi_1 _ (List.mem_of_getElem? (i := 17) rfl)) (wi_0 _ (List.mem_of_getElem? (i := 23) rfl)) (wi_1 _ (List.mem_of_getElem? (i := 9) rfl))) rfl rfl rfl hd_X4_copyFrom ⟨Nat.le_of_ble_eq_true rfl, Nat.le_of_ble_eq_true rfl⟩) (rk_preV X hS hP (klX_15 (klX_X0_2 h0) (vp_lt b1)) rfl rfl [.ref (B + v1)]) rfl rfl hl.1 rfl (lv_room (Nat.le_of_ble_eq_true rfl)) dX0_remember_50 ⟨Nat.zero_le _, Nat.zero_le _⟩) hS (fun _ h => h) (fun s1 H locs h hP hS => ?_)
  refine lv_aload_n hx hb dX0_remember_53 rfl (lv_at hl 0 rfl) ?_
  refine lv_dup hx hb dX0_remember_54 rfl ?_
  refine rk_get X hP (C := RX0) (T := TX0) (N := 3) (ci := 0) wix_0 h0 rfl rfl 0 (by decide) (wi_0 _ (List.mem_of_getElem? (i := 18) rfl)) rfl rfl dX0_remember_55 ?_
  refine lv_iconst (v := (1 : Int32)) hx hb dX0_remember_58 (by decide) ?_
  refine lv_iadd hx hb dX0_remember_59 ?_
  refine rk_puti X hP hD hS (C := RX0) (T := TX0) (N := 3) (ci := 0) wix_0 h0 rfl rfl tyX0 tyX0_ok nmX0 0 (by decide) (wi_0 _ (List.mem_of_getElem? (i := 18) rfl)) rfl rfl (by decide +kernel) (Nat.le_of_ble_eq_true rfl) rfl dX0_remember_60 (fun H locs hP hS => ?_)
  obtain ⟨s2, es2⟩ : ∃ z : St, z = u1 s1 v0 0 ((s1.1 v0 0) + (1 : Int32)) := ⟨_, rfl⟩
  rw [← es2] at hP
  have h := h s2 es2
  exact rk_vret X kX_len h hP hS dX0_remember_63
set_option maxRecDepth 100000 in
set_option maxHeartbeats 4000000 in
theorem mX0_remember (l : Launch) (D : va_G) (cy : Nat → ClassId) (B : Nat) (v0 : Nat) (v1 : Nat) (σ : St) (h0 : kX[v0]? = some 0) (h1 : kX[v1]? = some 4) {post : St → Prop} (h : wX0_remember v0 v1 σ post) : Met l yX0_remember (Cond.code yX0_remember cX0_remember 2 none :: WALL) (rmD 4) (PcW D cy B kX σ [.ref (B + v0), .ref (B + v1)]) (va_Qv post (BW D cy B kX) (AW B 346)) 0 0 (AW B 346) := by
  refine Met.ofK (cc := cX0_remember) (maxL := 2) (ret := none) (by decide +kernel) rfl kX_len ?_
  intro p e s m below meth c X hP
  obtain ⟨⟨hx, hb, hml, hown, hts⟩, hr, hlk, hK, hN, hZ⟩ := id X
  have hD : ∀ σ, va_D (AW B 346) (wW cy B kX σ) := AW_D kX_len
  have hS : va_S (AW B 346) s.heap s.heap [] := va_S.rf
  have hl := lv_entry ([.ref (B + v0), .ref (B + v1)]) (n := 2) (Nat.le_of_ble_eq_true rfl)
  rw [lg_entry_eq]
  generalize (lg_sl ([.ref (B + v0), .ref (B + v1)]) ++ List.replicate (2 - (lg_sl ([.ref (B + v0), .ref (B + v1)])).length) Slot.unset).toArray = ls at hl ⊢
  have hl : lv_has ls 2 [(0, .ref (B + v0)), (1, .ref (B + v1))] := hl
  unfold wX0_remember at h
  refine lv_aload_n hx hb dX0_remember_0 rfl (lv_at hl 0 rfl) ?_
  refine rk_get X hP (C := RX0) (T := TX0) (N := 3) (ci := 0) wix_0 h0 rfl rfl 0 (by decide) (wi_0 _ (List.mem_of_getElem? (i := 18) rfl)) rfl rfl dX0_remember_1 ?_
  refine lv_bipush (v := (12 : Int32)) hx hb dX0_remember_4 (by decide) ?_
  refine lv_icmp_ne (tgt := 32) hx hb dX0_remember_6 (by decide) (fun c1 => ?_) (fun c1 => ?_)
  · have h := h.1 c1
    exact tX0_remember_32 X _ _ _ h0 h1 h _ _ _ hP hS (lv_sub hl [0, 1] rfl)
  · have h := h.2 c1
    refine lv_aload_n hx hb dX0_remember_9 rfl (lv_at hl 0 rfl) ?_
    refine lv_aload_n hx hb dX0_remember_10 rfl (lv_at hl 0 rfl) ?_
    refine rk_get X hP (C := RX0) (T := TX0) (N := 3) (ci := 0) wix_0 h0 rfl rfl 1 (by decide) (wi_0 _ (List.mem_of_getElem? (i := 19) rfl)) rfl rfl dX0_remember_11 ?_
    refine lv_iconst (v := (1 : Int32)) hx hb dX0_remember_14 (by decide) ?_
    refine lv_iadd hx hb dX0_remember_15 ?_
    refine lv_bipush (v := (12 : Int32)) hx hb dX0_remember_16 (by decide) ?_
    refine lv_irem hx hb dX0_remember_18 (by decide) ?_
    refine rk_puti X hP hD hS (C := RX0) (T := TX0) (N := 3) (ci := 0) wix_0 h0 rfl rfl tyX0 tyX0_ok nmX0 1 (by decide) (wi_0 _ (List.mem_of_getElem? (i := 19) rfl)) rfl rfl (by decide +kernel) (Nat.le_of_ble_eq_true rfl) rfl dX0_remember_19 (fun H locs hP hS => ?_)
    obtain ⟨s1, es1⟩ : ∃ z : St, z = u1 σ v0 1 (((σ.1 v0 1) + (1 : Int32)) - ((σ.1 v0 1) + (1 : Int32)) / (12 : Int32) * (12 : Int32)) := ⟨_, rfl⟩
    rw [← es1] at hP
    have h := h s1 es1
    refine lv_aload_n hx hb dX0_remember_22 rfl (lv_at hl 0 rfl) ?_
    refine lv_dup hx hb dX0_remember_23 rfl ?_
    refine rk_get X hP (C := RX0) (T := TX0) (N := 3) (ci := 0) wix_0 h0 rfl rfl 0 (by decide) (wi_0 _ (List.mem_of_getElem? (i := 18) rfl)) rfl rfl dX0_remember_24 ?_
    refine lv_iconst (v := (1 : Int32)) hx hb dX0_remember_27 (by decide) ?_
    refine lv_isub hx hb dX0_remember_28 ?_
    refine rk_puti X hP hD hS (C := RX0) (T := TX0) (N := 3) (ci := 0) wix_0 h0 rfl rfl tyX0 tyX0_ok nmX0 0 (by decide) (wi_0 _ (List.mem_of_getElem? (i := 18) rfl)) rfl rfl (by decide +kernel) (Nat.le_of_ble_eq_true rfl) rfl dX0_remember_29 (fun H locs hP hS => ?_)
    obtain ⟨s2, es2⟩ : ∃ z : St, z = u1 s1 v0 0 ((s1.1 v0 0) - (1 : Int32)) := ⟨_, rfl⟩
    rw [← es2] at hP
    have h := h s2 es2
    exact tX0_remember_32 X _ _ _ h0 h1 h _ _ _ hP hS (lv_sub hl [0, 1] rfl)

theorem hd_X0_restore : yX0_restore.cls = RX0 ∧ yX0_restore.cls ≠ "java/lang/invoke/MethodHandle" ∧ yX0_restore.cls ≠ "java/lang/invoke/VarHandle" ∧ (parseMethodDescriptor yX0_restore.desc).map (fun d => d.parameters.length) = some 1 := by decide +kernel
set_option maxRecDepth 100000 in
set_option maxHeartbeats 4000000 in
theorem mX0_restore (l : Launch) (D : va_G) (cy : Nat → ClassId) (B : Nat) (v0 : Nat) (v1 : Nat) (σ : St) (h0 : kX[v0]? = some 0) (h1 : kX[v1]? = some 4) {post : St → Prop} (h : wX0_restore v0 v1 σ post) : Met l yX0_restore (Cond.code yX0_restore cX0_restore 2 none :: WALL) (rmD 4) (PcW D cy B kX σ [.ref (B + v0), .ref (B + v1)]) (va_Qv post (BW D cy B kX) (AW B 346)) 0 0 (AW B 346) := by
  refine Met.ofK (cc := cX0_restore) (maxL := 2) (ret := none) (by decide +kernel) rfl kX_len ?_
  intro p e s m below meth c X hP
  obtain ⟨⟨hx, hb, hml, hown, hts⟩, hr, hlk, hK, hN, hZ⟩ := id X
  have hD : ∀ σ, va_D (AW B 346) (wW cy B kX σ) := AW_D kX_len
  have hS : va_S (AW B 346) s.heap s.heap [] := va_S.rf
  have hl := lv_entry ([.ref (B + v0), .ref (B + v1)]) (n := 2) (Nat.le_of_ble_eq_true rfl)
  rw [lg_entry_eq]
  generalize (lg_sl ([.ref (B + v0), .ref (B + v1)]) ++ List.replicate (2 - (lg_sl ([.ref (B + v0), .ref (B + v1)])).length) Slot.unset).toArray = ls at hl ⊢
  have hl : lv_has ls 2 [(0, .ref (B + v0)), (1, .ref (B + v1))] := hl
  unfold wX0_restore at h
  refine lv_aload_n hx hb dX0_restore_0 rfl (lv_at hl 0 rfl) ?_
  refine rk_get X hP (C := RX0) (T := TX0) (N := 3) (ci := 0) wix_0 h0 rfl rfl 0 (by decide) (wi_0 _ (List.mem_of_getElem? (i := 18) rfl)) rfl rfl dX0_restore_1 ?_
  refine lv_if_le (tgt := 38) hx hb dX0_restore_4 (by decide) (fun c1 => ?_) (fun c1 => ?_)
  · have h := h.1 c1
    exact rk_vret X kX_len h hP hS dX0_restore_38
  · have h := h.2 c1
    refine lv_aload_n hx hb dX0_restore_7 rfl (lv_at hl 0 rfl) ?_
    refine lv_dup hx hb dX0_restore_8 rfl ?_
    refine rk_get X hP (C := RX0) (T := TX0) (N := 3) (ci := 0) wix_0 h0 rfl rfl 0 (by decide) (wi_0 _ (List.mem_of_getElem? (i := 18) rfl)) rfl rfl dX0_restore_9 ?_
    refine lv_iconst (v := (1 : Int32)) hx hb dX0_restore_12 (by decide) ?_
    refine lv_isub hx hb dX0_restore_13 ?_
    refine rk_puti X hP hD hS (C := RX0) (T := TX0) (N := 3) (ci := 0) wix_0 h0 rfl rfl tyX0 tyX0_ok nmX0 0 (by decide) (wi_0 _ (List.mem_of_getElem? (i := 18) rfl)) rfl rfl (by decide +kernel) (Nat.le_of_ble_eq_true rfl) rfl dX0_restore_14 (fun H locs hP hS => ?_)
    obtain ⟨s1, es1⟩ : ∃ z : St, z = u1 σ v0 0 ((σ.1 v0 0) - (1 : Int32)) := ⟨_, rfl⟩
    rw [← es1] at hP
    have h := h s1 es1
    refine lv_aload_n hx hb dX0_restore_17 rfl (lv_at hl 1 rfl) ?_
    refine lv_aload_n hx hb dX0_restore_18 rfl (lv_at hl 0 rfl) ?_
    refine rk_get X hP (C := RX0) (T := TX0) (N := 3) (ci := 0) wix_0 h0 rfl rfl 2 (by decide) (wi_0 _ (List.mem_of_getElem? (i := 21) rfl)) rfl rfl dX0_restore_19 ?_
    refine lv_aload_n hx hb dX0_restore_22 rfl (lv_at hl 0 rfl) ?_
    refine rk_get X hP (C := RX0) (T := TX0) (N := 3) (ci := 0) wix_0 h0 rfl rfl 1 (by decide) (wi_0 _ (List.mem_of_getElem? (i := 19) rfl)) rfl rfl dX0_restore_23 ?_
    refine lv_aload_n hx hb dX0_restore_26 rfl (lv_at hl 0 rfl) ?_
    refine rk_get X hP (C := RX0) (T := TX0) (N := 3) (ci := 0) wix_0 h0 rfl rfl 0 (by decide) (wi_0 _ (List.mem_of_getElem? (i := 18) rfl)) rfl rfl dX0_restore_27 ?_
    refine lv_iadd hx hb dX0_restore_30 ?_
    refine lv_bipush (v := (12 : Int32)) hx hb dX0_restore_31 (by decide) ?_
    refine lv_irem hx hb dX0_restore_33 (by decide) ?_
    refine lv_topi (fun x1 ex1 => ?_)
    have h := h x1 ex1
    obtain ⟨b1, h⟩ := h
    refine rk_aald X hP (C := RX4) (n := 12) (t0 := 5) (d := 1) (r := 15) (klX_X0_2 h0) (fun _ _ => rfl) rfl b1 dX0_restore_34 ?_
    refine rk_callv (va_runV (As := [.ref (B + ((v0 + 1) + 1 + 15 * x1.toNatClampNeg))]) (rest := []) X.1 (mX4_copyFrom l D cy B v1 ((v0 + 1) + 1 + 15 * x1.toNatClampNeg) s1 h1 (klX_15 (klX_X0_2 h0) (vp_lt b1)) h) (cwV 1 hts (gW_V (wi_1 _ (List.mem_of_getElem? (i := 15) rfl)) (wi_1 _ (List.mem_of_getElem? (i := 16) rfl)) (wi_1 _ (List.mem_of_getElem? (i := 17) rfl)) (wi_0 _ (List.mem_of_getElem? (i := 23) rfl)) (wi_1 _ (List.mem_of_getElem? (i := 9) rfl))) rfl rfl rfl hd_X4_copyFrom ⟨Nat.le_of_ble_eq_true rfl, Nat.le_of_ble_eq_true rfl⟩) (rk_preV X hS hP h1 rfl rfl [.ref (B + ((v0 + 1) + 1 + 15 * x1.toNatClampNeg))]) rfl rfl hl.1 rfl (lv_room (Nat.le_of_ble_eq_true rfl)) dX0_restore_35 ⟨Nat.zero_le _, Nat.zero_le _⟩) hS (fun _ h => h) (fun s2 H locs h hP hS => ?_)
    exact rk_vret X kX_len h hP hS dX0_restore_38

theorem hd_X9_clear : yX9_clear.cls = RX9 ∧ yX9_clear.cls ≠ "java/lang/invoke/MethodHandle" ∧ yX9_clear.cls ≠ "java/lang/invoke/VarHandle" ∧ (parseMethodDescriptor yX9_clear.desc).map (fun d => d.parameters.length) = some 0 := by decide +kernel
set_option maxRecDepth 100000 in
set_option maxHeartbeats 4000000 in
theorem mX9_clear (l : Launch) (D : va_G) (cy : Nat → ClassId) (B : Nat) (v0 : Nat) (σ : St) (h0 : kX[v0]? = some 9) {post : St → Prop} (h : wX9_clear v0 σ post) : Met l yX9_clear (Cond.code yX9_clear cX9_clear 1 none :: WALL) (rmD 0) (PcW D cy B kX σ [.ref (B + v0)]) (va_Qv post (BW D cy B kX) (AW B 346)) 0 0 (AW B 346) := by
  refine Met.ofK (cc := cX9_clear) (maxL := 1) (ret := none) (by decide +kernel) rfl kX_len ?_
  intro p e s m below meth c X hP
  obtain ⟨⟨hx, hb, hml, hown, hts⟩, hr, hlk, hK, hN, hZ⟩ := id X
  have hD : ∀ σ, va_D (AW B 346) (wW cy B kX σ) := AW_D kX_len
  have hS : va_S (AW B 346) s.heap s.heap [] := va_S.rf
  have hl := lv_entry ([.ref (B + v0)]) (n := 1) (Nat.le_of_ble_eq_true rfl)
  rw [lg_entry_eq]
  generalize (lg_sl ([.ref (B + v0)]) ++ List.replicate (1 - (lg_sl ([.ref (B + v0)])).length) Slot.unset).toArray = ls at hl ⊢
  have hl : lv_has ls 1 [(0, .ref (B + v0))] := hl
  unfold wX9_clear at h
  refine lv_aload_n hx hb dX9_clear_0 rfl (lv_at hl 0 rfl) ?_
  refine lv_bipush (v := (7 : Int32)) hx hb dX9_clear_1 (by decide) ?_
  refine rk_puti X hP hD hS (C := RX9) (T := TX9) (N := 10) (ci := 9) wix_9 h0 rfl rfl tyX9 tyX9_ok nmX9 0 (by decide) (wi_10 _ (List.mem_of_getElem? (i := 5) rfl)) rfl rfl (by decide +kernel) (Nat.le_of_ble_eq_true rfl) rfl dX9_clear_3 (fun H locs hP hS => ?_)
  obtain ⟨s1, es1⟩ : ∃ z : St, z = u1 σ v0 0 (7 : Int32) := ⟨_, rfl⟩
  rw [← es1] at hP
  have h := h s1 es1
  refine lv_aload_n hx hb dX9_clear_6 rfl (lv_at hl 0 rfl) ?_
  refine lv_iconst (v := (0 : Int32)) hx hb dX9_clear_7 (by decide) ?_
  refine rk_puti X hP hD hS (C := RX9) (T := TX9) (N := 10) (ci := 9) wix_9 h0 rfl rfl tyX9 tyX9_ok nmX9 1 (by decide) (wi_10 _ (List.mem_of_getElem? (i := 6) rfl)) rfl rfl (by decide +kernel) (Nat.le_of_ble_eq_true rfl) rfl dX9_clear_8 (fun H locs hP hS => ?_)
  obtain ⟨s2, es2⟩ : ∃ z : St, z = u1 s1 v0 1 (0 : Int32) := ⟨_, rfl⟩
  rw [← es2] at hP
  have h := h s2 es2
  refine lv_aload_n hx hb dX9_clear_11 rfl (lv_at hl 0 rfl) ?_
  refine lv_iconst (v := (0 : Int32)) hx hb dX9_clear_12 (by decide) ?_
  refine rk_puti X hP hD hS (C := RX9) (T := TX9) (N := 10) (ci := 9) wix_9 h0 rfl rfl tyX9 tyX9_ok nmX9 3 (by decide) (wi_10 _ (List.mem_of_getElem? (i := 7) rfl)) rfl rfl (by decide +kernel) (Nat.le_of_ble_eq_true rfl) rfl dX9_clear_13 (fun H locs hP hS => ?_)
  obtain ⟨s3, es3⟩ : ∃ z : St, z = u1 s2 v0 3 (0 : Int32) := ⟨_, rfl⟩
  rw [← es3] at hP
  have h := h s3 es3
  refine lv_aload_n hx hb dX9_clear_16 rfl (lv_at hl 0 rfl) ?_
  refine lv_iconst (v := (0 : Int32)) hx hb dX9_clear_17 (by decide) ?_
  refine rk_puti X hP hD hS (C := RX9) (T := TX9) (N := 10) (ci := 9) wix_9 h0 rfl rfl tyX9 tyX9_ok nmX9 6 (by decide) (wi_10 _ (List.mem_of_getElem? (i := 8) rfl)) rfl rfl (by decide +kernel) (Nat.le_of_ble_eq_true rfl) rfl dX9_clear_18 (fun H locs hP hS => ?_)
  obtain ⟨s4, es4⟩ : ∃ z : St, z = u1 s3 v0 6 (0 : Int32) := ⟨_, rfl⟩
  rw [← es4] at hP
  have h := h s4 es4
  refine lv_aload_n hx hb dX9_clear_21 rfl (lv_at hl 0 rfl) ?_
  refine rk_get X hP (C := RX9) (T := TX9) (N := 10) (ci := 9) wix_9 h0 rfl rfl 5 (by decide) (wi_10 _ (List.mem_of_getElem? (i := 9) rfl)) rfl rfl dX9_clear_22 ?_
  refine lv_iconst (v := (0 : Int32)) hx hb dX9_clear_25 (by decide) ?_
  refine rk_puti X hP hD hS (C := RX4) (T := TX4) (N := 4) (ci := 4) wix_4 (klX_X9_5 h0) rfl rfl tyX4 tyX4_ok nmX4 0 (by decide) (wi_10 _ (List.mem_of_getElem? (i := 10) rfl)) rfl rfl (by decide +kernel) (Nat.le_of_ble_eq_true rfl) rfl dX9_clear_26 (fun H locs hP hS => ?_)
  obtain ⟨s5, es5⟩ : ∃ z : St, z = u1 s4 (v0 + 3) 0 (0 : Int32) := ⟨_, rfl⟩
  rw [← es5] at hP
  have h := h s5 es5
  refine lv_aload_n hx hb dX9_clear_29 rfl (lv_at hl 0 rfl) ?_
  refine rk_get X hP (C := RX9) (T := TX9) (N := 10) (ci := 9) wix_9 h0 rfl rfl 5 (by decide) (wi_10 _ (List.mem_of_getElem? (i := 9) rfl)) rfl rfl dX9_clear_30 ?_
  refine lv_iconst (v := (0 : Int32)) hx hb dX9_clear_33 (by decide) ?_
  refine rk_puti X hP hD hS (C := RX4) (T := TX4) (N := 4) (ci := 4) wix_4 (klX_X9_5 h0) rfl rfl tyX4 tyX4_ok nmX4 1 (by decide) (wi_10 _ (List.mem_of_getElem? (i := 11) rfl)) rfl rfl (by decide +kernel) (Nat.le_of_ble_eq_true rfl) rfl dX9_clear_34 (fun H locs hP hS => ?_)
  obtain ⟨s6, es6⟩ : ∃ z : St, z = u1 s5 (v0 + 3) 1 (0 : Int32) := ⟨_, rfl⟩
  rw [← es6] at hP
  have h := h s6 es6
  exact rk_vret X kX_len h hP hS dX9_clear_37

theorem hd_X9_addName : yX9_addName.cls = RX9 ∧ yX9_addName.cls ≠ "java/lang/invoke/MethodHandle" ∧ yX9_addName.cls ≠ "java/lang/invoke/VarHandle" ∧ (parseMethodDescriptor yX9_addName.desc).map (fun d => d.parameters.length) = some 3 := by decide +kernel
set_option maxRecDepth 100000 in
set_option maxHeartbeats 4000000 in
theorem mX9_addName (l : Launch) (D : va_G) (cy : Nat → ClassId) (B : Nat) (v0 : Nat) (v1 : Int32) (v2 : Int32) (v3 : Int32) (σ : St) (h0 : kX[v0]? = some 9) {post : St → Prop} (h : wX9_addName v0 v1 v2 v3 σ post) : Met l yX9_addName (Cond.code yX9_addName cX9_addName 4 none :: WALL) (rmD 0) (PcW D cy B kX σ [.ref (B + v0), .int v1, .int v2, .int v3]) (va_Qv post (BW D cy B kX) (AW B 346)) 0 0 (AW B 346) := by
  refine Met.ofK (cc := cX9_addName) (maxL := 4) (ret := none) (by decide +kernel) rfl kX_len ?_
  intro p e s m below meth c X hP
  obtain ⟨⟨hx, hb, hml, hown, hts⟩, hr, hlk, hK, hN, hZ⟩ := id X
  have hD : ∀ σ, va_D (AW B 346) (wW cy B kX σ) := AW_D kX_len
  have hS : va_S (AW B 346) s.heap s.heap [] := va_S.rf
  have hl := lv_entry ([.ref (B + v0), .int v1, .int v2, .int v3]) (n := 4) (Nat.le_of_ble_eq_true rfl)
  rw [lg_entry_eq]
  generalize (lg_sl ([.ref (B + v0), .int v1, .int v2, .int v3]) ++ List.replicate (4 - (lg_sl ([.ref (B + v0), .int v1, .int v2, .int v3])).length) Slot.unset).toArray = ls at hl ⊢
  have hl : lv_has ls 4 [(0, .ref (B + v0)), (1, .int v1), (2, .int v2), (3, .int v3)] := hl
  unfold wX9_addName at h
  refine lv_aload_n hx hb dX9_addName_0 rfl (lv_at hl 0 rfl) ?_
  refine rk_get X hP (C := RX9) (T := TX9) (N := 10) (ci := 9) wix_9 h0 rfl rfl 6 (by decide) (wi_10 _ (List.mem_of_getElem? (i := 8) rfl)) rfl rfl dX9_addName_1 ?_
  refine lv_bipush (v := (19 : Int32)) hx hb dX9_addName_4 (by decide) ?_
  refine lv_icmp_ge (tgt := 49) hx hb dX9_addName_6 (by decide) (fun c1 => ?_) (fun c1 => ?_)
  · have h := h.1 c1
    exact rk_vret X kX_len h hP hS dX9_addName_49
  · have h := h.2 c1
    refine lv_aload_n hx hb dX9_addName_9 rfl (lv_at hl 0 rfl) ?_
    refine rk_get X hP (C := RX9) (T := TX9) (N := 10) (ci := 9) wix_9 h0 rfl rfl 7 (by decide) (wi_11 _ (List.mem_of_getElem? (i := 23) rfl)) rfl rfl dX9_addName_10 ?_
    refine lv_aload_n hx hb dX9_addName_13 rfl (lv_at hl 0 rfl) ?_
    refine rk_get X hP (C := RX9) (T := TX9) (N := 10) (ci := 9) wix_9 h0 rfl rfl 6 (by decide) (wi_10 _ (List.mem_of_getElem? (i := 8) rfl)) rfl rfl dX9_addName_14 ?_
    refine lv_iload_n hx hb dX9_addName_17 rfl (lv_at hl 1 rfl) ?_
    obtain ⟨b1, h⟩ := h
    refine rk_iast X hP hD hS (n := 19) (klX_X9_7 h0) (fun _ _ => rfl) b1 dX9_addName_18 (fun H locs hP hS => ?_)
    obtain ⟨s1, es1⟩ : ∃ z : St, z = u1 σ (v0 + 18) (σ.1 v0 6).toNatClampNeg v1 := ⟨_, rfl⟩
    rw [← es1] at hP
    have h := h s1 es1
    refine lv_aload_n hx hb dX9_addName_19 rfl (lv_at hl 0 rfl) ?_
    refine rk_get X hP (C := RX9) (T := TX9) (N := 10) (ci := 9) wix_9 h0 rfl rfl 8 (by decide) (wi_12 _ (List.mem_of_getElem? (i := 9) rfl)) rfl rfl dX9_addName_20 ?_
    refine lv_aload_n hx hb dX9_addName_23 rfl (lv_at hl 0 rfl) ?_
    refine rk_get X hP (C := RX9) (T := TX9) (N := 10) (ci := 9) wix_9 h0 rfl rfl 6 (by decide) (wi_10 _ (List.mem_of_getElem? (i := 8) rfl)) rfl rfl dX9_addName_24 ?_
    refine lv_iload_n hx hb dX9_addName_27 rfl (lv_at hl 2 rfl) ?_
    obtain ⟨b2, h⟩ := h
    refine rk_iast X hP hD hS (n := 19) (klX_X9_8 h0) (fun _ _ => rfl) b2 dX9_addName_28 (fun H locs hP hS => ?_)
    obtain ⟨s2, es2⟩ : ∃ z : St, z = u1 s1 (v0 + 19) (s1.1 v0 6).toNatClampNeg v2 := ⟨_, rfl⟩
    rw [← es2] at hP
    have h := h s2 es2
    refine lv_aload_n hx hb dX9_addName_29 rfl (lv_at hl 0 rfl) ?_
    refine rk_get X hP (C := RX9) (T := TX9) (N := 10) (ci := 9) wix_9 h0 rfl rfl 9 (by decide) (wi_12 _ (List.mem_of_getElem? (i := 10) rfl)) rfl rfl dX9_addName_30 ?_
    refine lv_aload_n hx hb dX9_addName_33 rfl (lv_at hl 0 rfl) ?_
    refine rk_get X hP (C := RX9) (T := TX9) (N := 10) (ci := 9) wix_9 h0 rfl rfl 6 (by decide) (wi_10 _ (List.mem_of_getElem? (i := 8) rfl)) rfl rfl dX9_addName_34 ?_
    refine lv_iload_n hx hb dX9_addName_37 rfl (lv_at hl 3 rfl) ?_
    obtain ⟨b3, h⟩ := h
    refine rk_iast X hP hD hS (n := 19) (klX_X9_9 h0) (fun _ _ => rfl) b3 dX9_addName_38 (fun H locs hP hS => ?_)
    obtain ⟨s3, es3⟩ : ∃ z : St, z = u1 s2 (v0 + 20) (s2.1 v0 6).toNatClampNeg v3 := ⟨_, rfl⟩
    rw [← es3] at hP
    have h := h s3 es3
    refine lv_aload_n hx hb dX9_addName_39 rfl (lv_at hl 0 rfl) ?_
    refine lv_dup hx hb dX9_addName_40 rfl ?_
    refine rk_get X hP (C := RX9) (T := TX9) (N := 10) (ci := 9) wix_9 h0 rfl rfl 6 (by decide) (wi_10 _ (List.mem_of_getElem? (i := 8) rfl)) rfl rfl dX9_addName_41 ?_
    refine lv_iconst (v := (1 : Int32)) hx hb dX9_addName_44 (by decide) ?_
    refine lv_iadd hx hb dX9_addName_45 ?_
    refine rk_puti X hP hD hS (C := RX9) (T := TX9) (N := 10) (ci := 9) wix_9 h0 rfl rfl tyX9 tyX9_ok nmX9 6 (by decide) (wi_10 _ (List.mem_of_getElem? (i := 8) rfl)) rfl rfl (by decide +kernel) (Nat.le_of_ble_eq_true rfl) rfl dX9_addName_46 (fun H locs hP hS => ?_)
    obtain ⟨s4, es4⟩ : ∃ z : St, z = u1 s3 v0 6 ((s3.1 v0 6) + (1 : Int32)) := ⟨_, rfl⟩
    rw [← es4] at hP
    have h := h s4 es4
    exact rk_vret X kX_len h hP hS dX9_addName_49

theorem hd_X9_hasName : yX9_hasName.cls = RX9 ∧ yX9_hasName.cls ≠ "java/lang/invoke/MethodHandle" ∧ yX9_hasName.cls ≠ "java/lang/invoke/VarHandle" ∧ (parseMethodDescriptor yX9_hasName.desc).map (fun d => d.parameters.length) = some 1 := by decide +kernel
set_option maxRecDepth 100000 in
set_option maxHeartbeats 4000000 in
theorem tX9_hasName_2 {p : Program} {l : Launch} {e : Env} {s : State} {m : MethodId} {av : Array Value} {below : List Frame} {meth : Method} {c : Code} {D : va_G} {cy : Nat → ClassId} {B : Nat} (X : kC p s m av meth c cX9_hasName 3 (some .boolean) WALL RX9 D cy (AW B 346)) {post : Bool → St → Prop} : ∀ (n : Nat) (v0 : Nat) (v1 : Int32) (v2 : Int32) (σ : St), kX[v0]? = some 9 → wX9_hasName_2 post n v0 v1 v2 σ → ∀ (H : Heap) (locs : List Loc) (ls : Array Slot), va_P D vwCl (wW cy B kX σ) H → va_S (AW B 346) s.heap H locs → lv_has ls 3 [(0, .ref (B + v0)), (1, .int v1), (2, .int v2)] → W p l e (rmD 0) s m av below meth c H locs 0 0 (MQ below (Qz post D cy B kX 346) av s 0 0 (AW B 346)) (F0 m 2 ls []) := by
  obtain ⟨⟨hx, hb, hml, hown, hts⟩, hr, hlk, hK, hN, hZ⟩ := id X
  have hD : ∀ σ, va_D (AW B 346) (wW cy B kX σ) := AW_D kX_len
  intro n
  induction n with
  | zero => intro v0 v1 v2 σ h0 h; exact absurd h id
  | succ n ih =>
    intro v0 v1 v2 σ h0 h H locs ls hP hS hl
    rw [wX9_hasName_2] at h
    refine lv_iload_n hx hb dX9_hasName_2 rfl (lv_at hl 2 rfl) ?_
    refine lv_aload_n hx hb dX9_hasName_3 rfl (lv_at hl 0 rfl) ?_
    refine rk_get X hP (C := RX9) (T := TX9) (N := 10) (ci := 9) wix_9 h0 rfl rfl 6 (by decide) (wi_10 _ (List.mem_of_getElem? (i := 8) rfl)) rfl rfl dX9_hasName_4 ?_
    refine lv_icmp_ge (tgt := 28) hx hb dX9_hasName_7 (by decide) (fun c1 => ?_) (fun c1 => ?_)
    · have h := h.1 c1
      refine lv_iconst (v := (0 : Int32)) hx hb dX9_hasName_28 (by decide) ?_
      exact rk_zret X kX_len false h hP hS dX9_hasName_29
    · have h := h.2 c1
      refine lv_aload_n hx hb dX9_hasName_10 rfl (lv_at hl 0 rfl) ?_
      refine rk_get X hP (C := RX9) (T := TX9) (N := 10) (ci := 9) wix_9 h0 rfl rfl 7 (by decide) (wi_11 _ (List.mem_of_getElem? (i := 23) rfl)) rfl rfl dX9_hasName_11 ?_
      refine lv_iload_n hx hb dX9_hasName_14 rfl (lv_at hl 2 rfl) ?_
      obtain ⟨b1, h⟩ := h
      refine rk_iald X hP (n := 19) (klX_X9_7 h0) (fun _ _ => rfl) b1 dX9_hasName_15 ?_
      refine lv_iload_n hx hb dX9_hasName_16 rfl (lv_at hl 1 rfl) ?_
      refine lv_icmp_ne (tgt := 22) hx hb dX9_hasName_17 (by decide) (fun c2 => ?_) (fun c2 => ?_)
      · have h := h.1 c2
        obtain ⟨x1, ex1⟩ : ∃ y : Int32, y = v2 + (1 : Int32) := ⟨_, rfl⟩
        have h := h x1 ex1
        refine lv_iinc (v := x1) (lv' := [(2, .int x1), (0, .ref (B + v0)), (1, .int v1)]) hx hb dX9_hasName_22 hl (k := 2) rfl (by rw [ex1]; rfl) (by decide) rfl (fun ls hl => ?_)
        refine lv_goto (tgt := 2) hx hb dX9_hasName_25 (by decide) ?_
        exact ih _ _ _ _ h0 h _ _ _ hP hS (lv_sub hl [1, 2, 0] rfl)
      · have h := h.2 c2
        refine lv_iconst (v := (1 : Int32)) hx hb dX9_hasName_20 (by decide) ?_
        exact rk_zret X kX_len true h hP hS dX9_hasName_21
set_option maxRecDepth 100000 in
set_option maxHeartbeats 4000000 in
theorem mX9_hasName (l : Launch) (D : va_G) (cy : Nat → ClassId) (B : Nat) (v0 : Nat) (v1 : Int32) (σ : St) (h0 : kX[v0]? = some 9) {post : Bool → St → Prop} (h : wX9_hasName v0 v1 σ post) : Met l yX9_hasName (Cond.code yX9_hasName cX9_hasName 3 (some .boolean) :: WALL) (rmD 0) (PcW D cy B kX σ [.ref (B + v0), .int v1]) (Qz post D cy B kX 346) 0 0 (AW B 346) := by
  refine Met.ofK (cc := cX9_hasName) (maxL := 3) (ret := (some .boolean)) (by decide +kernel) rfl kX_len ?_
  intro p e s m below meth c X hP
  obtain ⟨⟨hx, hb, hml, hown, hts⟩, hr, hlk, hK, hN, hZ⟩ := id X
  have hD : ∀ σ, va_D (AW B 346) (wW cy B kX σ) := AW_D kX_len
  have hS : va_S (AW B 346) s.heap s.heap [] := va_S.rf
  have hl := lv_entry ([.ref (B + v0), .int v1]) (n := 3) (Nat.le_of_ble_eq_true rfl)
  rw [lg_entry_eq]
  generalize (lg_sl ([.ref (B + v0), .int v1]) ++ List.replicate (3 - (lg_sl ([.ref (B + v0), .int v1])).length) Slot.unset).toArray = ls at hl ⊢
  have hl : lv_has ls 3 [(0, .ref (B + v0)), (1, .int v1)] := hl
  unfold wX9_hasName at h
  refine lv_iconst (v := (0 : Int32)) hx hb dX9_hasName_0 (by decide) ?_
  refine lv_istore_n (lv' := [(2, .int (0 : Int32)), (0, .ref (B + v0)), (1, .int v1)]) hx hb dX9_hasName_1 rfl hl (by decide) rfl (fun ls hl => ?_)
  obtain ⟨j, h⟩ := h
  exact tX9_hasName_2 X j _ _ _ _ h0 h _ _ _ hP hS (lv_sub hl [1, 2, 0] rfl)

theorem hd_X9_numberOf : yX9_numberOf.cls = RX9 ∧ yX9_numberOf.cls ≠ "java/lang/invoke/MethodHandle" ∧ yX9_numberOf.cls ≠ "java/lang/invoke/VarHandle" ∧ (parseMethodDescriptor yX9_numberOf.desc).map (fun d => d.parameters.length) = some 2 := by decide +kernel
set_option maxRecDepth 100000 in
set_option maxHeartbeats 4000000 in
theorem tX9_numberOf_2 {p : Program} {l : Launch} {e : Env} {s : State} {m : MethodId} {av : Array Value} {below : List Frame} {meth : Method} {c : Code} {D : va_G} {cy : Nat → ClassId} {B : Nat} (X : kC p s m av meth c cX9_numberOf 4 (some .int) WALL RX9 D cy (AW B 346)) {post : Int32 → St → Prop} : ∀ (n : Nat) (v0 : Nat) (v1 : Int32) (v2 : Int32) (v3 : Int32) (σ : St), kX[v0]? = some 9 → wX9_numberOf_2 post n v0 v1 v2 v3 σ → ∀ (H : Heap) (locs : List Loc) (ls : Array Slot), va_P D vwCl (wW cy B kX σ) H → va_S (AW B 346) s.heap H locs → lv_has ls 4 [(0, .ref (B + v0)), (1, .int v1), (2, .int v2), (3, .int v3)] → W p l e (rmD 0) s m av below meth c H locs 0 0 (MQ below (va_Qi post (BW D cy B kX) (AW B 346)) av s 0 0 (AW B 346)) (F0 m 2 ls []) := by
  obtain ⟨⟨hx, hb, hml, hown, hts⟩, hr, hlk, hK, hN, hZ⟩ := id X
  have hD : ∀ σ, va_D (AW B 346) (wW cy B kX σ) := AW_D kX_len
  intro n
  induction n with
  | zero => intro v0 v1 v2 v3 σ h0 h; exact absurd h id
  | succ n ih =>
    intro v0 v1 v2 v3 σ h0 h H locs ls hP hS hl
    rw [wX9_numberOf_2] at h
    refine lv_iload_n hx hb dX9_numberOf_2 rfl (lv_at hl 3 rfl) ?_
    refine lv_aload_n hx hb dX9_numberOf_3 rfl (lv_at hl 0 rfl) ?_
    refine rk_get X hP (C := RX9) (T := TX9) (N := 10) (ci := 9) wix_9 h0 rfl rfl 6 (by decide) (wi_10 _ (List.mem_of_getElem? (i := 8) rfl)) rfl rfl dX9_numberOf_4 ?_
    refine lv_icmp_ge (tgt := 43) hx hb dX9_numberOf_7 (by decide) (fun c1 => ?_) (fun c1 => ?_)
    · have h := h.1 c1
      refine lv_iconst (v := (-1 : Int32)) hx hb dX9_numberOf_43 (by decide) ?_
      exact rk_iret X rfl kX_len h hP hS dX9_numberOf_44
    · have h := h.2 c1
      refine lv_aload_n hx hb dX9_numberOf_10 rfl (lv_at hl 0 rfl) ?_
      refine rk_get X hP (C := RX9) (T := TX9) (N := 10) (ci := 9) wix_9 h0 rfl rfl 7 (by decide) (wi_11 _ (List.mem_of_getElem? (i := 23) rfl)) rfl rfl dX9_numberOf_11 ?_
      refine lv_iload_n hx hb dX9_numberOf_14 rfl (lv_at hl 3 rfl) ?_
      obtain ⟨b1, h⟩ := h
      refine rk_iald X hP (n := 19) (klX_X9_7 h0) (fun _ _ => rfl) b1 dX9_numberOf_15 ?_
      refine lv_iload_n hx hb dX9_numberOf_16 rfl (lv_at hl 1 rfl) ?_
      refine lv_icmp_ne (tgt := 37) hx hb dX9_numberOf_17 (by decide) (fun c2 => ?_) (fun c2 => ?_)
      · have h := h.1 c2
        obtain ⟨x1, ex1⟩ : ∃ y : Int32, y = v3 + (1 : Int32) := ⟨_, rfl⟩
        have h := h x1 ex1
        refine lv_iinc (v := x1) (lv' := [(3, .int x1), (0, .ref (B + v0)), (1, .int v1), (2, .int v2)]) hx hb dX9_numberOf_37 hl (k := 3) rfl (by rw [ex1]; rfl) (by decide) rfl (fun ls hl => ?_)
        refine lv_goto (tgt := 2) hx hb dX9_numberOf_40 (by decide) ?_
        exact ih _ _ _ _ _ h0 h _ _ _ hP hS (lv_sub hl [1, 2, 3, 0] rfl)
      · have h := h.2 c2
        refine lv_aload_n hx hb dX9_numberOf_20 rfl (lv_at hl 0 rfl) ?_
        refine rk_get X hP (C := RX9) (T := TX9) (N := 10) (ci := 9) wix_9 h0 rfl rfl 8 (by decide) (wi_12 _ (List.mem_of_getElem? (i := 9) rfl)) rfl rfl dX9_numberOf_21 ?_
        refine lv_iload_n hx hb dX9_numberOf_24 rfl (lv_at hl 3 rfl) ?_
        obtain ⟨b2, h⟩ := h
        refine rk_iald X hP (n := 19) (klX_X9_8 h0) (fun _ _ => rfl) b2 dX9_numberOf_25 ?_
        refine lv_iload_n hx hb dX9_numberOf_26 rfl (lv_at hl 2 rfl) ?_
        refine lv_icmp_ne (tgt := 37) hx hb dX9_numberOf_27 (by decide) (fun c3 => ?_) (fun c3 => ?_)
        · have h := h.1 c3
          obtain ⟨x2, ex2⟩ : ∃ y : Int32, y = v3 + (1 : Int32) := ⟨_, rfl⟩
          have h := h x2 ex2
          refine lv_iinc (v := x2) (lv' := [(3, .int x2), (0, .ref (B + v0)), (1, .int v1), (2, .int v2)]) hx hb dX9_numberOf_37 hl (k := 3) rfl (by rw [ex2]; rfl) (by decide) rfl (fun ls hl => ?_)
          refine lv_goto (tgt := 2) hx hb dX9_numberOf_40 (by decide) ?_
          exact ih _ _ _ _ _ h0 h _ _ _ hP hS (lv_sub hl [1, 2, 3, 0] rfl)
        · have h := h.2 c3
          refine lv_aload_n hx hb dX9_numberOf_30 rfl (lv_at hl 0 rfl) ?_
          refine rk_get X hP (C := RX9) (T := TX9) (N := 10) (ci := 9) wix_9 h0 rfl rfl 9 (by decide) (wi_12 _ (List.mem_of_getElem? (i := 10) rfl)) rfl rfl dX9_numberOf_31 ?_
          refine lv_iload_n hx hb dX9_numberOf_34 rfl (lv_at hl 3 rfl) ?_
          obtain ⟨b3, h⟩ := h
          refine rk_iald X hP (n := 19) (klX_X9_9 h0) (fun _ _ => rfl) b3 dX9_numberOf_35 ?_
          exact rk_iret X rfl kX_len h hP hS dX9_numberOf_36
set_option maxRecDepth 100000 in
set_option maxHeartbeats 4000000 in
theorem mX9_numberOf (l : Launch) (D : va_G) (cy : Nat → ClassId) (B : Nat) (v0 : Nat) (v1 : Int32) (v2 : Int32) (σ : St) (h0 : kX[v0]? = some 9) {post : Int32 → St → Prop} (h : wX9_numberOf v0 v1 v2 σ post) : Met l yX9_numberOf (Cond.code yX9_numberOf cX9_numberOf 4 (some .int) :: WALL) (rmD 0) (PcW D cy B kX σ [.ref (B + v0), .int v1, .int v2]) (va_Qi post (BW D cy B kX) (AW B 346)) 0 0 (AW B 346) := by
  refine Met.ofK (cc := cX9_numberOf) (maxL := 4) (ret := (some .int)) (by decide +kernel) rfl kX_len ?_
  intro p e s m below meth c X hP
  obtain ⟨⟨hx, hb, hml, hown, hts⟩, hr, hlk, hK, hN, hZ⟩ := id X
  have hD : ∀ σ, va_D (AW B 346) (wW cy B kX σ) := AW_D kX_len
  have hS : va_S (AW B 346) s.heap s.heap [] := va_S.rf
  have hl := lv_entry ([.ref (B + v0), .int v1, .int v2]) (n := 4) (Nat.le_of_ble_eq_true rfl)
  rw [lg_entry_eq]
  generalize (lg_sl ([.ref (B + v0), .int v1, .int v2]) ++ List.replicate (4 - (lg_sl ([.ref (B + v0), .int v1, .int v2])).length) Slot.unset).toArray = ls at hl ⊢
  have hl : lv_has ls 4 [(0, .ref (B + v0)), (1, .int v1), (2, .int v2)] := hl
  unfold wX9_numberOf at h
  refine lv_iconst (v := (0 : Int32)) hx hb dX9_numberOf_0 (by decide) ?_
  refine lv_istore_n (lv' := [(3, .int (0 : Int32)), (0, .ref (B + v0)), (1, .int v1), (2, .int v2)]) hx hb dX9_numberOf_1 rfl hl (by decide) rfl (fun ls hl => ?_)
  obtain ⟨j, h⟩ := h
  exact tX9_numberOf_2 X j _ _ _ _ _ h0 h _ _ _ hP hS (lv_sub hl [1, 2, 3, 0] rfl)
