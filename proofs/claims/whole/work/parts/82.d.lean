theorem hd_X11_laysBased : yX11_laysBased.cls = RX11 ∧ yX11_laysBased.cls ≠ "java/lang/invoke/MethodHandle" ∧ yX11_laysBased.cls ≠ "java/lang/invoke/VarHandle" ∧ (parseMethodDescriptor yX11_laysBased.desc).map (fun d => d.parameters.length) = some 5 := by decide +kernel
set_option maxRecDepth 100000 in
set_option maxHeartbeats 4000000 in
theorem tX11_laysBased_8 {p : Program} {l : Launch} {e : Env} {s : State} {m : MethodId} {av : Array Value} {below : List Frame} {meth : Method} {c : Code} {D : va_G} {cy : Nat → ClassId} {B : Nat} (X : kC p s m av meth c cX11_laysBased 7 none WALL RX11 D cy (AW B 26)) {post : St → Prop} : ∀ (n : Nat) (v0 : Nat) (v2 : Int32) (v3 : Int32) (v4 : Int32) (v5 : Int32) (v6 : Int32) (σ : St), kM[v0]? = some 11 → wX11_laysBased_8 post n v0 v2 v3 v4 v5 v6 σ → ∀ (H : Heap) (locs : List Loc) (ls : Array Slot), va_P D vwCl (wW cy B kM σ) H → va_S (AW B 26) s.heap H locs → lv_has ls 7 [(0, .ref (B + v0)), (2, .int v2), (3, .int v3), (4, .int v4), (5, .int v5), (6, .int v6)] → W p l e (rmD 2) s m av below meth c H locs 0 0 (MQ below (va_Qv post (BW D cy B kM) (AW B 26)) av s 0 0 (AW B 26)) (F0 m 8 ls []) := by
  obtain ⟨⟨hx, hb, hml, hown, hts⟩, hr, hlk, hK, hN, hZ⟩ := id X
  have hD : ∀ σ, va_D (AW B 26) (wW cy B kM σ) := AW_D kM_len
  intro n
  induction n with
  | zero => intro v0 v2 v3 v4 v5 v6 σ h0 h; exact absurd h id
  | succ n ih =>
    intro v0 v2 v3 v4 v5 v6 σ h0 h H locs ls hP hS hl
    rw [wX11_laysBased_8] at h
    refine lv_iload hx hb dX11_laysBased_8 (lv_at hl 5 rfl) ?_
    refine lv_aload_n hx hb dX11_laysBased_10 rfl (lv_at hl 0 rfl) ?_
    refine rk_get X hP (C := RX11) (T := TX11) (N := 44) (ci := 11) wix_11 h0 rfl rfl 36 (by decide) (wi_35 _ (List.mem_of_getElem? (i := 12) rfl)) rfl rfl dX11_laysBased_11 ?_
    refine lv_icmp_ge (tgt := 44) hx hb dX11_laysBased_14 (by decide) (fun c1 => ?_) (fun c1 => ?_)
    · have h := h.1 c1
      exact rk_vret X kM_len h hP hS dX11_laysBased_44
    · have h := h.2 c1
      refine lv_aload_n hx hb dX11_laysBased_17 rfl (lv_at hl 0 rfl) ?_
      refine lv_aload_n hx hb dX11_laysBased_18 rfl (lv_at hl 0 rfl) ?_
      refine rk_get X hP (C := RX11) (T := TX11) (N := 44) (ci := 11) wix_11 h0 rfl rfl 35 (by decide) (wi_29 _ (List.mem_of_getElem? (i := 17) rfl)) rfl rfl dX11_laysBased_19 ?_
      refine lv_iconst (v := (0 : Int32)) hx hb dX11_laysBased_22 (by decide) ?_
      refine lv_aload_n hx hb dX11_laysBased_23 rfl (lv_at hl 0 rfl) ?_
      refine rk_get X hP (C := RX11) (T := TX11) (N := 44) (ci := 11) wix_11 h0 rfl rfl 36 (by decide) (wi_35 _ (List.mem_of_getElem? (i := 12) rfl)) rfl rfl dX11_laysBased_24 ?_
      refine lv_iload hx hb dX11_laysBased_27 (lv_at hl 5 rfl) ?_
      refine lv_iload_n hx hb dX11_laysBased_29 rfl (lv_at hl 1 rfl) ?_
      refine lv_iload_n hx hb dX11_laysBased_30 rfl (lv_at hl 2 rfl) ?_
      refine lv_iload hx hb dX11_laysBased_31 (lv_at hl 3 rfl) ?_
      refine lv_iload hx hb dX11_laysBased_33 (lv_at hl 4 rfl) ?_
      refine rk_callv (va_runV (As := [.ref (B + (v0 + 20)), .int (0 : Int32), .int (σ.1 v0 36), .int v6, .int v2, .int v3, .int v4, .int v5]) (rest := []) X.1 (mX11_changes l D cy B 16 (by decide) v0 (v0 + 20) (0 : Int32) (σ.1 v0 36) v6 v2 v3 v4 v5 σ h0 (klM_X11_35 h0) h) (cwV 8 hts (gW_V (wi_37 _ (List.mem_of_getElem? (i := 21) rfl)) (wi_37 _ (List.mem_of_getElem? (i := 22) rfl)) (wi_37 _ (List.mem_of_getElem? (i := 23) rfl)) (wi_30 _ (List.mem_of_getElem? (i := 9) rfl)) (wi_37 _ (List.mem_of_getElem? (i := 19) rfl))) rfl rfl rfl hd_X11_changes ⟨Nat.le_of_ble_eq_true rfl, Nat.le_of_ble_eq_true rfl⟩) (rk_preV X hS hP h0 rfl rfl [.ref (B + (v0 + 20)), .int (0 : Int32), .int (σ.1 v0 36), .int v6, .int v2, .int v3, .int v4, .int v5]) rfl rfl hl.1 rfl (lv_room (Nat.le_of_ble_eq_true rfl)) dX11_laysBased_35 ⟨Nat.zero_le _, Nat.zero_le _⟩) hS (fun _ h => h) (fun s1 H locs h hP hS => ?_)
      obtain ⟨x1, ex1⟩ : ∃ y : Int32, y = v6 + (1 : Int32) := ⟨_, rfl⟩
      have h := h x1 ex1
      refine lv_iinc (v := x1) (lv' := [(6, .int x1), (0, .ref (B + v0)), (2, .int v2), (3, .int v3), (4, .int v4), (5, .int v5)]) hx hb dX11_laysBased_38 hl (k := 5) rfl (by rw [ex1]; rfl) (by decide) rfl (fun ls hl => ?_)
      refine lv_goto (tgt := 8) hx hb dX11_laysBased_41 (by decide) ?_
      exact ih _ _ _ _ _ _ _ h0 h _ _ _ hP hS (lv_sub hl [1, 2, 3, 4, 5, 0] rfl)
set_option maxRecDepth 100000 in
set_option maxHeartbeats 4000000 in
theorem mX11_laysBased (l : Launch) (D : va_G) (cy : Nat → ClassId) (B : Nat) (v0 : Nat) (v1 : Int32) (v2 : Int32) (v3 : Int32) (v4 : Int32) (v5 : Int32) (σ : St) (h0 : kM[v0]? = some 11) {post : St → Prop} (h : wX11_laysBased v0 v1 v2 v3 v4 v5 σ post) : Met l yX11_laysBased (Cond.code yX11_laysBased cX11_laysBased 7 none :: WALL) (rmD 2) (PcW D cy B kM σ [.ref (B + v0), .int v1, .int v2, .int v3, .int v4, .int v5]) (va_Qv post (BW D cy B kM) (AW B 26)) 0 0 (AW B 26) := by
  refine Met.ofK (cc := cX11_laysBased) (maxL := 7) (ret := none) (by decide +kernel) rfl kM_len ?_
  intro p e s m below meth c X hP
  obtain ⟨⟨hx, hb, hml, hown, hts⟩, hr, hlk, hK, hN, hZ⟩ := id X
  have hD : ∀ σ, va_D (AW B 26) (wW cy B kM σ) := AW_D kM_len
  have hS : va_S (AW B 26) s.heap s.heap [] := va_S.rf
  have hl := lv_entry ([.ref (B + v0), .int v1, .int v2, .int v3, .int v4, .int v5]) (n := 7) (Nat.le_of_ble_eq_true rfl)
  rw [lg_entry_eq]
  generalize (lg_sl ([.ref (B + v0), .int v1, .int v2, .int v3, .int v4, .int v5]) ++ List.replicate (7 - (lg_sl ([.ref (B + v0), .int v1, .int v2, .int v3, .int v4, .int v5])).length) Slot.unset).toArray = ls at hl ⊢
  have hl : lv_has ls 7 [(0, .ref (B + v0)), (1, .int v1), (2, .int v2), (3, .int v3), (4, .int v4), (5, .int v5)] := hl
  unfold wX11_laysBased at h
  refine lv_aload_n hx hb dX11_laysBased_0 rfl (lv_at hl 0 rfl) ?_
  refine lv_iload_n hx hb dX11_laysBased_1 rfl (lv_at hl 1 rfl) ?_
  refine rk_callv (va_runV (As := [.int v1]) (rest := []) X.1 (mX11_laysTable l D cy B v0 v1 σ h0 h) (cwV 1 hts (gW_V (wi_36 _ (List.mem_of_getElem? (i := 7) rfl)) (wi_36 _ (List.mem_of_getElem? (i := 8) rfl)) (wi_36 _ (List.mem_of_getElem? (i := 9) rfl)) (wi_30 _ (List.mem_of_getElem? (i := 9) rfl)) (wi_35 _ (List.mem_of_getElem? (i := 11) rfl))) rfl rfl rfl hd_X11_laysTable ⟨Nat.le_of_ble_eq_true rfl, Nat.le_of_ble_eq_true rfl⟩) (rk_preV X hS hP h0 rfl rfl [.int v1]) rfl rfl hl.1 rfl (lv_room (Nat.le_of_ble_eq_true rfl)) dX11_laysBased_2 ⟨Nat.zero_le _, Nat.zero_le _⟩) hS (fun _ h => h) (fun s1 H locs h hP hS => ?_)
  refine lv_iconst (v := (0 : Int32)) hx hb dX11_laysBased_5 (by decide) ?_
  refine lv_istore (lv' := [(6, .int (0 : Int32)), (0, .ref (B + v0)), (1, .int v1), (2, .int v2), (3, .int v3), (4, .int v4), (5, .int v5)]) hx hb dX11_laysBased_6 hl (by decide) rfl (fun ls hl => ?_)
  obtain ⟨j, h⟩ := h
  exact tX11_laysBased_8 X j _ _ _ _ _ _ _ h0 h _ _ _ hP hS (lv_sub hl [1, 3, 4, 5, 6, 0] rfl)

theorem hd_X11_laysBasedBy : yX11_laysBasedBy.cls = RX11 ∧ yX11_laysBasedBy.cls ≠ "java/lang/invoke/MethodHandle" ∧ yX11_laysBasedBy.cls ≠ "java/lang/invoke/VarHandle" ∧ (parseMethodDescriptor yX11_laysBasedBy.desc).map (fun d => d.parameters.length) = some 2 := by decide +kernel
set_option maxRecDepth 100000 in
set_option maxHeartbeats 4000000 in
theorem mX11_laysBasedBy (l : Launch) (D : va_G) (cy : Nat → ClassId) (B : Nat) (v0 : Nat) (v1 : Int32) (v2 : Int32) (σ : St) (h0 : kM[v0]? = some 11) {post : St → Prop} (h : wX11_laysBasedBy v0 v1 v2 σ post) : Met l yX11_laysBasedBy (Cond.code yX11_laysBasedBy cX11_laysBasedBy 3 none :: WALL) (rmD 3) (PcW D cy B kM σ [.ref (B + v0), .int v1, .int v2]) (va_Qv post (BW D cy B kM) (AW B 26)) 0 0 (AW B 26) := by
  refine Met.ofK (cc := cX11_laysBasedBy) (maxL := 3) (ret := none) (by decide +kernel) rfl kM_len ?_
  intro p e s m below meth c X hP
  obtain ⟨⟨hx, hb, hml, hown, hts⟩, hr, hlk, hK, hN, hZ⟩ := id X
  have hD : ∀ σ, va_D (AW B 26) (wW cy B kM σ) := AW_D kM_len
  have hS : va_S (AW B 26) s.heap s.heap [] := va_S.rf
  have hl := lv_entry ([.ref (B + v0), .int v1, .int v2]) (n := 3) (Nat.le_of_ble_eq_true rfl)
  rw [lg_entry_eq]
  generalize (lg_sl ([.ref (B + v0), .int v1, .int v2]) ++ List.replicate (3 - (lg_sl ([.ref (B + v0), .int v1, .int v2])).length) Slot.unset).toArray = ls at hl ⊢
  have hl : lv_has ls 3 [(0, .ref (B + v0)), (1, .int v1), (2, .int v2)] := hl
  unfold wX11_laysBasedBy at h
  refine lv_aload_n hx hb dX11_laysBasedBy_0 rfl (lv_at hl 0 rfl) ?_
  refine lv_iload_n hx hb dX11_laysBasedBy_1 rfl (lv_at hl 1 rfl) ?_
  refine lv_aload_n hx hb dX11_laysBasedBy_2 rfl (lv_at hl 0 rfl) ?_
  refine rk_get X hP (C := RX11) (T := TX11) (N := 44) (ci := 11) wix_11 h0 rfl rfl 22 (by decide) (wi_29 _ (List.mem_of_getElem? (i := 8) rfl)) rfl rfl dX11_laysBasedBy_3 ?_
  refine lv_iconst (v := (4 : Int32)) hx hb dX11_laysBasedBy_6 (by decide) ?_
  refine lv_iload_n hx hb dX11_laysBasedBy_7 rfl (lv_at hl 2 rfl) ?_
  refine lv_imul hx hb dX11_laysBasedBy_8 ?_
  refine lv_topi (fun x1 ex1 => ?_)
  have h := h x1 ex1
  obtain ⟨b1, h⟩ := h
  refine rk_iald X hP (n := 40) (klM_X11_22 h0) (fun _ _ => rfl) b1 dX11_laysBasedBy_9 ?_
  refine lv_aload_n hx hb dX11_laysBasedBy_10 rfl (lv_at hl 0 rfl) ?_
  refine rk_get X hP (C := RX11) (T := TX11) (N := 44) (ci := 11) wix_11 h0 rfl rfl 22 (by decide) (wi_29 _ (List.mem_of_getElem? (i := 8) rfl)) rfl rfl dX11_laysBasedBy_11 ?_
  refine lv_iconst (v := (4 : Int32)) hx hb dX11_laysBasedBy_14 (by decide) ?_
  refine lv_iload_n hx hb dX11_laysBasedBy_15 rfl (lv_at hl 2 rfl) ?_
  refine lv_imul hx hb dX11_laysBasedBy_16 ?_
  refine lv_iconst (v := (1 : Int32)) hx hb dX11_laysBasedBy_17 (by decide) ?_
  refine lv_iadd hx hb dX11_laysBasedBy_18 ?_
  refine lv_topi (fun x2 ex2 => ?_)
  have h := h x2 ex2
  obtain ⟨b2, h⟩ := h
  refine rk_iald X hP (n := 40) (klM_X11_22 h0) (fun _ _ => rfl) b2 dX11_laysBasedBy_19 ?_
  refine lv_aload_n hx hb dX11_laysBasedBy_20 rfl (lv_at hl 0 rfl) ?_
  refine rk_get X hP (C := RX11) (T := TX11) (N := 44) (ci := 11) wix_11 h0 rfl rfl 22 (by decide) (wi_29 _ (List.mem_of_getElem? (i := 8) rfl)) rfl rfl dX11_laysBasedBy_21 ?_
  refine lv_iconst (v := (4 : Int32)) hx hb dX11_laysBasedBy_24 (by decide) ?_
  refine lv_iload_n hx hb dX11_laysBasedBy_25 rfl (lv_at hl 2 rfl) ?_
  refine lv_imul hx hb dX11_laysBasedBy_26 ?_
  refine lv_iconst (v := (2 : Int32)) hx hb dX11_laysBasedBy_27 (by decide) ?_
  refine lv_iadd hx hb dX11_laysBasedBy_28 ?_
  refine lv_topi (fun x3 ex3 => ?_)
  have h := h x3 ex3
  obtain ⟨b3, h⟩ := h
  refine rk_iald X hP (n := 40) (klM_X11_22 h0) (fun _ _ => rfl) b3 dX11_laysBasedBy_29 ?_
  refine lv_aload_n hx hb dX11_laysBasedBy_30 rfl (lv_at hl 0 rfl) ?_
  refine rk_get X hP (C := RX11) (T := TX11) (N := 44) (ci := 11) wix_11 h0 rfl rfl 22 (by decide) (wi_29 _ (List.mem_of_getElem? (i := 8) rfl)) rfl rfl dX11_laysBasedBy_31 ?_
  refine lv_iconst (v := (4 : Int32)) hx hb dX11_laysBasedBy_34 (by decide) ?_
  refine lv_iload_n hx hb dX11_laysBasedBy_35 rfl (lv_at hl 2 rfl) ?_
  refine lv_imul hx hb dX11_laysBasedBy_36 ?_
  refine lv_iconst (v := (3 : Int32)) hx hb dX11_laysBasedBy_37 (by decide) ?_
  refine lv_iadd hx hb dX11_laysBasedBy_38 ?_
  refine lv_topi (fun x4 ex4 => ?_)
  have h := h x4 ex4
  obtain ⟨b4, h⟩ := h
  refine rk_iald X hP (n := 40) (klM_X11_22 h0) (fun _ _ => rfl) b4 dX11_laysBasedBy_39 ?_
  refine rk_callv (va_runV (As := [.int v1, .int (σ.1 (v0 + 11) x1.toNatClampNeg), .int (σ.1 (v0 + 11) x2.toNatClampNeg), .int (σ.1 (v0 + 11) x3.toNatClampNeg), .int (σ.1 (v0 + 11) x4.toNatClampNeg)]) (rest := []) X.1 (mX11_laysBased l D cy B v0 v1 (σ.1 (v0 + 11) x1.toNatClampNeg) (σ.1 (v0 + 11) x2.toNatClampNeg) (σ.1 (v0 + 11) x3.toNatClampNeg) (σ.1 (v0 + 11) x4.toNatClampNeg) σ h0 h) (cwV 5 hts (gW_V (wi_38 _ (List.mem_of_getElem? (i := 0) rfl)) (wi_38 _ (List.mem_of_getElem? (i := 1) rfl)) (wi_38 _ (List.mem_of_getElem? (i := 2) rfl)) (wi_30 _ (List.mem_of_getElem? (i := 9) rfl)) (wi_37 _ (List.mem_of_getElem? (i := 20) rfl))) rfl rfl rfl hd_X11_laysBased ⟨Nat.le_of_ble_eq_true rfl, Nat.le_of_ble_eq_true rfl⟩) (rk_preV X hS hP h0 rfl rfl [.int v1, .int (σ.1 (v0 + 11) x1.toNatClampNeg), .int (σ.1 (v0 + 11) x2.toNatClampNeg), .int (σ.1 (v0 + 11) x3.toNatClampNeg), .int (σ.1 (v0 + 11) x4.toNatClampNeg)]) rfl rfl hl.1 rfl (lv_room (Nat.le_of_ble_eq_true rfl)) dX11_laysBasedBy_40 ⟨Nat.zero_le _, Nat.zero_le _⟩) hS (fun _ h => h) (fun s1 H locs h hP hS => ?_)
  exact rk_vret X kM_len h hP hS dX11_laysBasedBy_43

theorem hd_X11_based : yX11_based.cls = RX11 ∧ yX11_based.cls ≠ "java/lang/invoke/MethodHandle" ∧ yX11_based.cls ≠ "java/lang/invoke/VarHandle" ∧ (parseMethodDescriptor yX11_based.desc).map (fun d => d.parameters.length) = some 3 := by decide +kernel
set_option maxRecDepth 100000 in
set_option maxHeartbeats 4000000 in
theorem mX11_based (l : Launch) (D : va_G) (cy : Nat → ClassId) (B : Nat) (v0 : Nat) (v1 : Int32) (v2 : Int32) (v3 : Int32) (σ : St) (h0 : kM[v0]? = some 11) {post : Int32 → St → Prop} (h : wX11_based v0 v1 v2 v3 σ post) : Met l yX11_based (Cond.code yX11_based cX11_based 4 (some .int) :: WALL) (rmD 4) (PcW D cy B kM σ [.ref (B + v0), .int v1, .int v2, .int v3]) (va_Qi post (BW D cy B kM) (AW B 26)) 0 0 (AW B 26) := by
  refine Met.ofK (cc := cX11_based) (maxL := 4) (ret := (some .int)) (by decide +kernel) rfl kM_len ?_
  intro p e s m below meth c X hP
  obtain ⟨⟨hx, hb, hml, hown, hts⟩, hr, hlk, hK, hN, hZ⟩ := id X
  have hD : ∀ σ, va_D (AW B 26) (wW cy B kM σ) := AW_D kM_len
  have hS : va_S (AW B 26) s.heap s.heap [] := va_S.rf
  have hl := lv_entry ([.ref (B + v0), .int v1, .int v2, .int v3]) (n := 4) (Nat.le_of_ble_eq_true rfl)
  rw [lg_entry_eq]
  generalize (lg_sl ([.ref (B + v0), .int v1, .int v2, .int v3]) ++ List.replicate (4 - (lg_sl ([.ref (B + v0), .int v1, .int v2, .int v3])).length) Slot.unset).toArray = ls at hl ⊢
  have hl : lv_has ls 4 [(0, .ref (B + v0)), (1, .int v1), (2, .int v2), (3, .int v3)] := hl
  unfold wX11_based at h
  refine lv_aload_n hx hb dX11_based_0 rfl (lv_at hl 0 rfl) ?_
  refine lv_iconst (v := (0 : Int32)) hx hb dX11_based_1 (by decide) ?_
  refine rk_puti X hP hD hS (C := RX11) (T := TX11) (N := 44) (ci := 11) wix_11 h0 rfl rfl tyX11 tyX11_ok nmX11 0 (by decide) (wi_30 _ (List.mem_of_getElem? (i := 1) rfl)) rfl rfl (by decide +kernel) (Nat.le_of_ble_eq_true rfl) rfl dX11_based_2 (fun H locs hP hS => ?_)
  obtain ⟨s1, es1⟩ : ∃ z : St, z = u1 σ v0 0 (0 : Int32) := ⟨_, rfl⟩
  rw [← es1] at hP
  have h := h s1 es1
  refine lv_aload_n hx hb dX11_based_5 rfl (lv_at hl 0 rfl) ?_
  refine lv_iload_n hx hb dX11_based_6 rfl (lv_at hl 1 rfl) ?_
  refine rk_callz (va_runV (As := [.int v1]) (rest := []) X.1 (mX11_isTable l D cy B v0 v1 s1 h0 h) (cwV 1 hts (gW_V (wi_35 _ (List.mem_of_getElem? (i := 14) rfl)) (wi_35 _ (List.mem_of_getElem? (i := 15) rfl)) (wi_35 _ (List.mem_of_getElem? (i := 16) rfl)) (wi_30 _ (List.mem_of_getElem? (i := 9) rfl)) (wi_35 _ (List.mem_of_getElem? (i := 5) rfl))) rfl rfl rfl hd_X11_isTable ⟨Nat.le_of_ble_eq_true rfl, Nat.le_of_ble_eq_true rfl⟩) (rk_preV X hS hP h0 rfl rfl [.int v1]) rfl rfl hl.1 rfl (lv_room (Nat.le_of_ble_eq_true rfl)) dX11_based_7 ⟨Nat.zero_le _, Nat.zero_le _⟩) hS (fun _ h => h) (fun r1 s2 H locs h hP hS => ?_)
  refine lv_if_eq (tgt := 41) hx hb dX11_based_10 (by decide) (fun c1 => ?_) (fun c1 => ?_)
  · have h := h.1 (b2i_f c1)
    refine lv_iconst (v := (-1 : Int32)) hx hb dX11_based_41 (by decide) ?_
    exact rk_iret X rfl kM_len h hP hS dX11_based_42
  · have h := h.2 (b2i_t c1)
    refine lv_aload_n hx hb dX11_based_13 rfl (lv_at hl 0 rfl) ?_
    refine lv_iload_n hx hb dX11_based_14 rfl (lv_at hl 2 rfl) ?_
    refine rk_callz (va_runV (As := [.int v2]) (rest := []) X.1 (mX11_isBase l D cy B v0 v2 s2 h0 h) (cwV 1 hts (gW_V (wi_37 _ (List.mem_of_getElem? (i := 13) rfl)) (wi_37 _ (List.mem_of_getElem? (i := 14) rfl)) (wi_37 _ (List.mem_of_getElem? (i := 15) rfl)) (wi_30 _ (List.mem_of_getElem? (i := 9) rfl)) (wi_35 _ (List.mem_of_getElem? (i := 6) rfl))) rfl rfl rfl hd_X11_isBase ⟨Nat.le_of_ble_eq_true rfl, Nat.le_of_ble_eq_true rfl⟩) (rk_preV X hS hP h0 rfl rfl [.int v2]) rfl rfl hl.1 rfl (lv_room (Nat.le_of_ble_eq_true rfl)) dX11_based_15 ⟨Nat.zero_le _, Nat.zero_le _⟩) hS (fun _ h => h) (fun r2 s3 H locs h hP hS => ?_)
    refine lv_if_eq (tgt := 41) hx hb dX11_based_18 (by decide) (fun c2 => ?_) (fun c2 => ?_)
    · have h := h.1 (b2i_f c2)
      refine lv_iconst (v := (-1 : Int32)) hx hb dX11_based_41 (by decide) ?_
      exact rk_iret X rfl kM_len h hP hS dX11_based_42
    · have h := h.2 (b2i_t c2)
      refine lv_iload_n hx hb dX11_based_21 rfl (lv_at hl 3 rfl) ?_
      refine lv_i2l hx hb dX11_based_22 rfl ?_
      refine lv_lconst (v := (0 : Int64)) hx hb dX11_based_23 (by decide) ?_
      refine lv_iconst (v := (1 : Int32)) hx hb dX11_based_24 (by decide) ?_
      refine lv_aload_n hx hb dX11_based_25 rfl (lv_at hl 0 rfl) ?_
      refine rk_get X hP (C := RX11) (T := TX11) (N := 44) (ci := 11) wix_11 h0 rfl rfl 20 (by decide) (wi_29 _ (List.mem_of_getElem? (i := 6) rfl)) rfl rfl dX11_based_26 ?_
      refine lv_iload_n hx hb dX11_based_29 rfl (lv_at hl 1 rfl) ?_
      obtain ⟨b1, h⟩ := h
      refine rk_iald X hP (n := 16) (klM_X11_20 h0) (fun _ _ => rfl) b1 dX11_based_30 ?_
      refine lv_ishl hx hb dX11_based_31 ?_
      refine lv_iconst (v := (1 : Int32)) hx hb dX11_based_32 (by decide) ?_
      refine lv_isub hx hb dX11_based_33 ?_
      refine lv_i2l hx hb dX11_based_34 rfl ?_
      refine rk_callz (va_runS (As := [.long (v3.toInt64), .long (0 : Int64), .long ((((1 : Int32) <<< ((s3.1 (v0 + 9) v1.toNatClampNeg) &&& 31)) - (1 : Int32)).toInt64)]) (rest := []) X.1 (mX11_within l D cy B (v3.toInt64) (0 : Int64) ((((1 : Int32) <<< ((s3.1 (v0 + 9) v1.toNatClampNeg) &&& 31)) - (1 : Int32)).toInt64) s3 h) (va_cwS 3 hts (gW_S (wi_31 _ (List.mem_of_getElem? (i := 2) rfl)) (wi_31 _ (List.mem_of_getElem? (i := 3) rfl)) (wi_30 _ (List.mem_of_getElem? (i := 9) rfl)) (wi_30 _ (List.mem_of_getElem? (i := 2) rfl))) rfl rfl rfl hd_X11_within ⟨Nat.le_of_ble_eq_true rfl, Nat.le_of_ble_eq_true rfl⟩) (rk_preS X hS hP [.long (v3.toInt64), .long (0 : Int64), .long ((((1 : Int32) <<< ((s3.1 (v0 + 9) v1.toNatClampNeg) &&& 31)) - (1 : Int32)).toInt64)]) rfl rfl hl.1 rfl (lv_room (Nat.le_of_ble_eq_true rfl)) dX11_based_35 ⟨Nat.zero_le _, Nat.zero_le _⟩) hS (fun _ h => h) (fun r3 s4 H locs h hP hS => ?_)
      refine lv_if_ne (tgt := 43) hx hb dX11_based_38 (by decide) (fun c3 => ?_) (fun c3 => ?_)
      · have h := h.1 (b2i_t c3)
        refine lv_aload_n hx hb dX11_based_43 rfl (lv_at hl 0 rfl) ?_
        refine lv_iload_n hx hb dX11_based_44 rfl (lv_at hl 1 rfl) ?_
        refine lv_iload_n hx hb dX11_based_45 rfl (lv_at hl 2 rfl) ?_
        refine rk_callv (va_runV (As := [.int v1, .int v2]) (rest := []) X.1 (mX11_laysBasedBy l D cy B v0 v1 v2 s4 h0 h) (cwV 2 hts (gW_V (wi_38 _ (List.mem_of_getElem? (i := 4) rfl)) (wi_38 _ (List.mem_of_getElem? (i := 5) rfl)) (wi_38 _ (List.mem_of_getElem? (i := 6) rfl)) (wi_30 _ (List.mem_of_getElem? (i := 9) rfl)) (wi_38 _ (List.mem_of_getElem? (i := 3) rfl))) rfl rfl rfl hd_X11_laysBasedBy ⟨Nat.le_of_ble_eq_true rfl, Nat.le_of_ble_eq_true rfl⟩) (rk_preV X hS hP h0 rfl rfl [.int v1, .int v2]) rfl rfl hl.1 rfl (lv_room (Nat.le_of_ble_eq_true rfl)) dX11_based_46 ⟨Nat.zero_le _, Nat.zero_le _⟩) hS (fun _ h => h) (fun s5 H locs h hP hS => ?_)
        refine lv_aload_n hx hb dX11_based_49 rfl (lv_at hl 0 rfl) ?_
        refine rk_get X hP (C := RX11) (T := TX11) (N := 44) (ci := 11) wix_11 h0 rfl rfl 35 (by decide) (wi_29 _ (List.mem_of_getElem? (i := 17) rfl)) rfl rfl dX11_based_50 ?_
        refine lv_iload_n hx hb dX11_based_53 rfl (lv_at hl 3 rfl) ?_
        obtain ⟨b2, h⟩ := h
        refine rk_iald X hP (n := 16) (klM_X11_35 h0) (fun _ _ => rfl) b2 dX11_based_54 ?_
        exact rk_iret X rfl kM_len h hP hS dX11_based_55
      · have h := h.2 (b2i_f c3)
        refine lv_iconst (v := (-1 : Int32)) hx hb dX11_based_41 (by decide) ?_
        exact rk_iret X rfl kM_len h hP hS dX11_based_42

theorem hd_X11_fits : yX11_fits.cls = RX11 ∧ yX11_fits.cls ≠ "java/lang/invoke/MethodHandle" ∧ yX11_fits.cls ≠ "java/lang/invoke/VarHandle" ∧ (parseMethodDescriptor yX11_fits.desc).map (fun d => d.parameters.length) = some 2 := by decide +kernel
set_option maxRecDepth 100000 in
set_option maxHeartbeats 4000000 in
theorem mX11_fits (l : Launch) (D : va_G) (cy : Nat → ClassId) (B : Nat) (v0 : Nat) (v1 : Int32) (v2 : Int32) (σ : St) (h0 : kM[v0]? = some 11) {post : Int32 → St → Prop} (h : wX11_fits v0 v1 v2 σ post) : Met l yX11_fits (Cond.code yX11_fits cX11_fits 3 (some .int) :: WALL) (rmD 4) (PcW D cy B kM σ [.ref (B + v0), .int v1, .int v2]) (va_Qi post (BW D cy B kM) (AW B 26)) 0 0 (AW B 26) := by
  refine Met.ofK (cc := cX11_fits) (maxL := 3) (ret := (some .int)) (by decide +kernel) rfl kM_len ?_
  intro p e s m below meth c X hP
  obtain ⟨⟨hx, hb, hml, hown, hts⟩, hr, hlk, hK, hN, hZ⟩ := id X
  have hD : ∀ σ, va_D (AW B 26) (wW cy B kM σ) := AW_D kM_len
  have hS : va_S (AW B 26) s.heap s.heap [] := va_S.rf
  have hl := lv_entry ([.ref (B + v0), .int v1, .int v2]) (n := 3) (Nat.le_of_ble_eq_true rfl)
  rw [lg_entry_eq]
  generalize (lg_sl ([.ref (B + v0), .int v1, .int v2]) ++ List.replicate (3 - (lg_sl ([.ref (B + v0), .int v1, .int v2])).length) Slot.unset).toArray = ls at hl ⊢
  have hl : lv_has ls 3 [(0, .ref (B + v0)), (1, .int v1), (2, .int v2)] := hl
  unfold wX11_fits at h
  refine lv_aload_n hx hb dX11_fits_0 rfl (lv_at hl 0 rfl) ?_
  refine lv_iconst (v := (0 : Int32)) hx hb dX11_fits_1 (by decide) ?_
  refine rk_puti X hP hD hS (C := RX11) (T := TX11) (N := 44) (ci := 11) wix_11 h0 rfl rfl tyX11 tyX11_ok nmX11 0 (by decide) (wi_30 _ (List.mem_of_getElem? (i := 1) rfl)) rfl rfl (by decide +kernel) (Nat.le_of_ble_eq_true rfl) rfl dX11_fits_2 (fun H locs hP hS => ?_)
  obtain ⟨s1, es1⟩ : ∃ z : St, z = u1 σ v0 0 (0 : Int32) := ⟨_, rfl⟩
  rw [← es1] at hP
  have h := h s1 es1
  refine lv_aload_n hx hb dX11_fits_5 rfl (lv_at hl 0 rfl) ?_
  refine lv_iload_n hx hb dX11_fits_6 rfl (lv_at hl 1 rfl) ?_
  refine rk_callz (va_runV (As := [.int v1]) (rest := []) X.1 (mX11_isTable l D cy B v0 v1 s1 h0 h) (cwV 1 hts (gW_V (wi_35 _ (List.mem_of_getElem? (i := 14) rfl)) (wi_35 _ (List.mem_of_getElem? (i := 15) rfl)) (wi_35 _ (List.mem_of_getElem? (i := 16) rfl)) (wi_30 _ (List.mem_of_getElem? (i := 9) rfl)) (wi_35 _ (List.mem_of_getElem? (i := 5) rfl))) rfl rfl rfl hd_X11_isTable ⟨Nat.le_of_ble_eq_true rfl, Nat.le_of_ble_eq_true rfl⟩) (rk_preV X hS hP h0 rfl rfl [.int v1]) rfl rfl hl.1 rfl (lv_room (Nat.le_of_ble_eq_true rfl)) dX11_fits_7 ⟨Nat.zero_le _, Nat.zero_le _⟩) hS (fun _ h => h) (fun r1 s2 H locs h hP hS => ?_)
  refine lv_if_eq (tgt := 21) hx hb dX11_fits_10 (by decide) (fun c1 => ?_) (fun c1 => ?_)
  · have h := h.1 (b2i_f c1)
    refine lv_iconst (v := (-1 : Int32)) hx hb dX11_fits_21 (by decide) ?_
    exact rk_iret X rfl kM_len h hP hS dX11_fits_22
  · have h := h.2 (b2i_t c1)
    refine lv_aload_n hx hb dX11_fits_13 rfl (lv_at hl 0 rfl) ?_
    refine lv_iload_n hx hb dX11_fits_14 rfl (lv_at hl 2 rfl) ?_
    refine rk_callz (va_runV (As := [.int v2]) (rest := []) X.1 (mX11_isBase l D cy B v0 v2 s2 h0 h) (cwV 1 hts (gW_V (wi_37 _ (List.mem_of_getElem? (i := 13) rfl)) (wi_37 _ (List.mem_of_getElem? (i := 14) rfl)) (wi_37 _ (List.mem_of_getElem? (i := 15) rfl)) (wi_30 _ (List.mem_of_getElem? (i := 9) rfl)) (wi_35 _ (List.mem_of_getElem? (i := 6) rfl))) rfl rfl rfl hd_X11_isBase ⟨Nat.le_of_ble_eq_true rfl, Nat.le_of_ble_eq_true rfl⟩) (rk_preV X hS hP h0 rfl rfl [.int v2]) rfl rfl hl.1 rfl (lv_room (Nat.le_of_ble_eq_true rfl)) dX11_fits_15 ⟨Nat.zero_le _, Nat.zero_le _⟩) hS (fun _ h => h) (fun r2 s3 H locs h hP hS => ?_)
    refine lv_if_ne (tgt := 23) hx hb dX11_fits_18 (by decide) (fun c2 => ?_) (fun c2 => ?_)
    · have h := h.1 (b2i_t c2)
      refine lv_aload_n hx hb dX11_fits_23 rfl (lv_at hl 0 rfl) ?_
      refine lv_iload_n hx hb dX11_fits_24 rfl (lv_at hl 1 rfl) ?_
      refine lv_iload_n hx hb dX11_fits_25 rfl (lv_at hl 2 rfl) ?_
      refine rk_callv (va_runV (As := [.int v1, .int v2]) (rest := []) X.1 (mX11_laysBasedBy l D cy B v0 v1 v2 s3 h0 h) (cwV 2 hts (gW_V (wi_38 _ (List.mem_of_getElem? (i := 4) rfl)) (wi_38 _ (List.mem_of_getElem? (i := 5) rfl)) (wi_38 _ (List.mem_of_getElem? (i := 6) rfl)) (wi_30 _ (List.mem_of_getElem? (i := 9) rfl)) (wi_38 _ (List.mem_of_getElem? (i := 3) rfl))) rfl rfl rfl hd_X11_laysBasedBy ⟨Nat.le_of_ble_eq_true rfl, Nat.le_of_ble_eq_true rfl⟩) (rk_preV X hS hP h0 rfl rfl [.int v1, .int v2]) rfl rfl hl.1 rfl (lv_room (Nat.le_of_ble_eq_true rfl)) dX11_fits_26 ⟨Nat.zero_le _, Nat.zero_le _⟩) hS (fun _ h => h) (fun s4 H locs h hP hS => ?_)
      refine lv_aload_n hx hb dX11_fits_29 rfl (lv_at hl 0 rfl) ?_
      refine rk_callz (va_runV (As := []) (rest := []) X.1 (mX11_isMadeHere l D cy B v0 s4 h0 h) (cwV 0 hts (gW_V (wi_36 _ (List.mem_of_getElem? (i := 12) rfl)) (wi_36 _ (List.mem_of_getElem? (i := 13) rfl)) (wi_36 _ (List.mem_of_getElem? (i := 14) rfl)) (wi_30 _ (List.mem_of_getElem? (i := 9) rfl)) (wi_36 _ (List.mem_of_getElem? (i := 0) rfl))) rfl rfl rfl hd_X11_isMadeHere ⟨Nat.le_of_ble_eq_true rfl, Nat.le_of_ble_eq_true rfl⟩) (rk_preV X hS hP h0 rfl rfl []) rfl rfl hl.1 rfl (lv_room (Nat.le_of_ble_eq_true rfl)) dX11_fits_30 ⟨Nat.zero_le _, Nat.zero_le _⟩) hS (fun _ h => h) (fun r3 s5 H locs h hP hS => ?_)
      refine lv_if_eq (tgt := 40) hx hb dX11_fits_33 (by decide) (fun c3 => ?_) (fun c3 => ?_)
      · have h := h.1 (b2i_f c3)
        refine lv_iconst (v := (0 : Int32)) hx hb dX11_fits_40 (by decide) ?_
        exact rk_iret X rfl kM_len h hP hS dX11_fits_41
      · have h := h.2 (b2i_t c3)
        refine lv_iconst (v := (1 : Int32)) hx hb dX11_fits_36 (by decide) ?_
        refine lv_goto (tgt := 41) hx hb dX11_fits_37 (by decide) ?_
        exact rk_iret X rfl kM_len h hP hS dX11_fits_41
    · have h := h.2 (b2i_f c2)
      refine lv_iconst (v := (-1 : Int32)) hx hb dX11_fits_21 (by decide) ?_
      exact rk_iret X rfl kM_len h hP hS dX11_fits_22

theorem hd_X11_first : yX11_first.cls = RX11 ∧ yX11_first.cls ≠ "java/lang/invoke/MethodHandle" ∧ yX11_first.cls ≠ "java/lang/invoke/VarHandle" ∧ (parseMethodDescriptor yX11_first.desc).map (fun d => d.parameters.length) = some 1 := by decide +kernel
set_option maxRecDepth 100000 in
set_option maxHeartbeats 4000000 in
theorem tX11_first_17 {p : Program} {l : Launch} {e : Env} {s : State} {m : MethodId} {av : Array Value} {below : List Frame} {meth : Method} {c : Code} {D : va_G} {cy : Nat → ClassId} {B : Nat} (X : kC p s m av meth c cX11_first 3 (some .int) WALL RX11 D cy (AW B 26)) {post : Int32 → St → Prop} : ∀ (n : Nat) (v0 : Nat) (v1 : Int32) (v2 : Int32) (σ : St), kM[v0]? = some 11 → wX11_first_17 post n v0 v1 v2 σ → ∀ (H : Heap) (locs : List Loc) (ls : Array Slot), va_P D vwCl (wW cy B kM σ) H → va_S (AW B 26) s.heap H locs → lv_has ls 3 [(0, .ref (B + v0)), (1, .int v1), (2, .int v2)] → W p l e (rmD 4) s m av below meth c H locs 0 0 (MQ below (va_Qi post (BW D cy B kM) (AW B 26)) av s 0 0 (AW B 26)) (F0 m 17 ls []) := by
  obtain ⟨⟨hx, hb, hml, hown, hts⟩, hr, hlk, hK, hN, hZ⟩ := id X
  have hD : ∀ σ, va_D (AW B 26) (wW cy B kM σ) := AW_D kM_len
  intro n
  induction n with
  | zero => intro v0 v1 v2 σ h0 h; exact absurd h id
  | succ n ih =>
    intro v0 v1 v2 σ h0 h H locs ls hP hS hl
    rw [wX11_first_17] at h
    refine lv_iload_n hx hb dX11_first_17 rfl (lv_at hl 2 rfl) ?_
    refine lv_aload_n hx hb dX11_first_18 rfl (lv_at hl 0 rfl) ?_
    refine rk_get X hP (C := RX11) (T := TX11) (N := 44) (ci := 11) wix_11 h0 rfl rfl 15 (by decide) (wi_29 _ (List.mem_of_getElem? (i := 0) rfl)) rfl rfl dX11_first_19 ?_
    refine lv_iconst (v := (0 : Int32)) hx hb dX11_first_22 (by decide) ?_
    have b1 : vp_in (0 : Int32) 2 := by unfold vp_in; decide
    refine rk_iald X hP (n := 2) (klM_X11_15 h0) (fun _ _ => rfl) b1 dX11_first_23 ?_
    refine lv_icmp_ge (tgt := 48) hx hb dX11_first_24 (by decide) (fun c1 => ?_) (fun c1 => ?_)
    · have h := h.1 c1
      refine lv_bipush (v := (-2 : Int32)) hx hb dX11_first_48 (by decide) ?_
      exact rk_iret X rfl kM_len h hP hS dX11_first_50
    · have h := h.2 c1
      refine lv_aload_n hx hb dX11_first_27 rfl (lv_at hl 0 rfl) ?_
      refine lv_iload_n hx hb dX11_first_28 rfl (lv_at hl 1 rfl) ?_
      refine lv_iload_n hx hb dX11_first_29 rfl (lv_at hl 2 rfl) ?_
      refine rk_callv (va_runV (As := [.int v1, .int v2]) (rest := []) X.1 (mX11_laysBasedBy l D cy B v0 v1 v2 σ h0 h) (cwV 2 hts (gW_V (wi_38 _ (List.mem_of_getElem? (i := 4) rfl)) (wi_38 _ (List.mem_of_getElem? (i := 5) rfl)) (wi_38 _ (List.mem_of_getElem? (i := 6) rfl)) (wi_30 _ (List.mem_of_getElem? (i := 9) rfl)) (wi_38 _ (List.mem_of_getElem? (i := 3) rfl))) rfl rfl rfl hd_X11_laysBasedBy ⟨Nat.le_of_ble_eq_true rfl, Nat.le_of_ble_eq_true rfl⟩) (rk_preV X hS hP h0 rfl rfl [.int v1, .int v2]) rfl rfl hl.1 rfl (lv_room (Nat.le_of_ble_eq_true rfl)) dX11_first_30 ⟨Nat.zero_le _, Nat.zero_le _⟩) hS (fun _ h => h) (fun s1 H locs h hP hS => ?_)
      refine lv_aload_n hx hb dX11_first_33 rfl (lv_at hl 0 rfl) ?_
      refine rk_callz (va_runV (As := []) (rest := []) X.1 (mX11_isMadeHere l D cy B v0 s1 h0 h) (cwV 0 hts (gW_V (wi_36 _ (List.mem_of_getElem? (i := 12) rfl)) (wi_36 _ (List.mem_of_getElem? (i := 13) rfl)) (wi_36 _ (List.mem_of_getElem? (i := 14) rfl)) (wi_30 _ (List.mem_of_getElem? (i := 9) rfl)) (wi_36 _ (List.mem_of_getElem? (i := 0) rfl))) rfl rfl rfl hd_X11_isMadeHere ⟨Nat.le_of_ble_eq_true rfl, Nat.le_of_ble_eq_true rfl⟩) (rk_preV X hS hP h0 rfl rfl []) rfl rfl hl.1 rfl (lv_room (Nat.le_of_ble_eq_true rfl)) dX11_first_34 ⟨Nat.zero_le _, Nat.zero_le _⟩) hS (fun _ h => h) (fun r1 s2 H locs h hP hS => ?_)
      refine lv_if_eq (tgt := 42) hx hb dX11_first_37 (by decide) (fun c2 => ?_) (fun c2 => ?_)
      · have h := h.1 (b2i_f c2)
        obtain ⟨x1, ex1⟩ : ∃ y : Int32, y = v2 + (1 : Int32) := ⟨_, rfl⟩
        have h := h x1 ex1
        refine lv_iinc (v := x1) (lv' := [(2, .int x1), (0, .ref (B + v0)), (1, .int v1)]) hx hb dX11_first_42 hl (k := 2) rfl (by rw [ex1]; rfl) (by decide) rfl (fun ls hl => ?_)
        refine lv_goto (tgt := 17) hx hb dX11_first_45 (by decide) ?_
        exact ih _ _ _ _ h0 h _ _ _ hP hS (lv_sub hl [1, 2, 0] rfl)
      · have h := h.2 (b2i_t c2)
        refine lv_iload_n hx hb dX11_first_40 rfl (lv_at hl 2 rfl) ?_
        exact rk_iret X rfl kM_len h hP hS dX11_first_41
set_option maxRecDepth 100000 in
set_option maxHeartbeats 4000000 in
theorem mX11_first (l : Launch) (D : va_G) (cy : Nat → ClassId) (B : Nat) (v0 : Nat) (v1 : Int32) (σ : St) (h0 : kM[v0]? = some 11) {post : Int32 → St → Prop} (h : wX11_first v0 v1 σ post) : Met l yX11_first (Cond.code yX11_first cX11_first 3 (some .int) :: WALL) (rmD 4) (PcW D cy B kM σ [.ref (B + v0), .int v1]) (va_Qi post (BW D cy B kM) (AW B 26)) 0 0 (AW B 26) := by
  refine Met.ofK (cc := cX11_first) (maxL := 3) (ret := (some .int)) (by decide +kernel) rfl kM_len ?_
  intro p e s m below meth c X hP
  obtain ⟨⟨hx, hb, hml, hown, hts⟩, hr, hlk, hK, hN, hZ⟩ := id X
  have hD : ∀ σ, va_D (AW B 26) (wW cy B kM σ) := AW_D kM_len
  have hS : va_S (AW B 26) s.heap s.heap [] := va_S.rf
  have hl := lv_entry ([.ref (B + v0), .int v1]) (n := 3) (Nat.le_of_ble_eq_true rfl)
  rw [lg_entry_eq]
  generalize (lg_sl ([.ref (B + v0), .int v1]) ++ List.replicate (3 - (lg_sl ([.ref (B + v0), .int v1])).length) Slot.unset).toArray = ls at hl ⊢
  have hl : lv_has ls 3 [(0, .ref (B + v0)), (1, .int v1)] := hl
  unfold wX11_first at h
  refine lv_aload_n hx hb dX11_first_0 rfl (lv_at hl 0 rfl) ?_
  refine lv_iconst (v := (0 : Int32)) hx hb dX11_first_1 (by decide) ?_
  refine rk_puti X hP hD hS (C := RX11) (T := TX11) (N := 44) (ci := 11) wix_11 h0 rfl rfl tyX11 tyX11_ok nmX11 0 (by decide) (wi_30 _ (List.mem_of_getElem? (i := 1) rfl)) rfl rfl (by decide +kernel) (Nat.le_of_ble_eq_true rfl) rfl dX11_first_2 (fun H locs hP hS => ?_)
  obtain ⟨s1, es1⟩ : ∃ z : St, z = u1 σ v0 0 (0 : Int32) := ⟨_, rfl⟩
  rw [← es1] at hP
  have h := h s1 es1
  refine lv_aload_n hx hb dX11_first_5 rfl (lv_at hl 0 rfl) ?_
  refine lv_iload_n hx hb dX11_first_6 rfl (lv_at hl 1 rfl) ?_
  refine rk_callz (va_runV (As := [.int v1]) (rest := []) X.1 (mX11_isTable l D cy B v0 v1 s1 h0 h) (cwV 1 hts (gW_V (wi_35 _ (List.mem_of_getElem? (i := 14) rfl)) (wi_35 _ (List.mem_of_getElem? (i := 15) rfl)) (wi_35 _ (List.mem_of_getElem? (i := 16) rfl)) (wi_30 _ (List.mem_of_getElem? (i := 9) rfl)) (wi_35 _ (List.mem_of_getElem? (i := 5) rfl))) rfl rfl rfl hd_X11_isTable ⟨Nat.le_of_ble_eq_true rfl, Nat.le_of_ble_eq_true rfl⟩) (rk_preV X hS hP h0 rfl rfl [.int v1]) rfl rfl hl.1 rfl (lv_room (Nat.le_of_ble_eq_true rfl)) dX11_first_7 ⟨Nat.zero_le _, Nat.zero_le _⟩) hS (fun _ h => h) (fun r1 s2 H locs h hP hS => ?_)
  refine lv_if_ne (tgt := 15) hx hb dX11_first_10 (by decide) (fun c1 => ?_) (fun c1 => ?_)
  · have h := h.1 (b2i_t c1)
    refine lv_iconst (v := (0 : Int32)) hx hb dX11_first_15 (by decide) ?_
    refine lv_istore_n (lv' := [(2, .int (0 : Int32)), (0, .ref (B + v0)), (1, .int v1)]) hx hb dX11_first_16 rfl hl (by decide) rfl (fun ls hl => ?_)
    obtain ⟨j, h⟩ := h
    exact tX11_first_17 X j _ _ _ _ h0 h _ _ _ hP hS (lv_sub hl [1, 2, 0] rfl)
  · have h := h.2 (b2i_f c1)
    refine lv_iconst (v := (-1 : Int32)) hx hb dX11_first_13 (by decide) ?_
    exact rk_iret X rfl kM_len h hP hS dX11_first_14

theorem hd_X11_seek : yX11_seek.cls = RX11 ∧ yX11_seek.cls ≠ "java/lang/invoke/MethodHandle" ∧ yX11_seek.cls ≠ "java/lang/invoke/VarHandle" ∧ (parseMethodDescriptor yX11_seek.desc).map (fun d => d.parameters.length) = some 1 := by decide +kernel
set_option maxRecDepth 100000 in
set_option maxHeartbeats 4000000 in
theorem tX11_seek_27 {p : Program} {l : Launch} {e : Env} {s : State} {m : MethodId} {av : Array Value} {below : List Frame} {meth : Method} {c : Code} {D : va_G} {cy : Nat → ClassId} {B : Nat} (X : kC p s m av meth c cX11_seek 4 (some .int) WALL RX11 D cy (AW B 26)) {post : Int32 → St → Prop} {R17 : Nat → Int32 → Int32 → St → Prop} (hR17 : ∀ (v0 : Nat) (v1 : Int32) (v2 : Int32) (σ : St), kM[v0]? = some 11 → R17 v0 v1 v2 σ → ∀ (H : Heap) (locs : List Loc) (ls : Array Slot), va_P D vwCl (wW cy B kM σ) H → va_S (AW B 26) s.heap H locs → lv_has ls 4 [(0, .ref (B + v0)), (1, .int v1), (2, .int v2)] → W p l e (rmD 3) s m av below meth c H locs 0 0 (MQ below (va_Qi post (BW D cy B kM) (AW B 26)) av s 0 0 (AW B 26)) (F0 m 17 ls [])) : ∀ (n : Nat) (v0 : Nat) (v1 : Int32) (v2 : Int32) (v3 : Int32) (σ : St), kM[v0]? = some 11 → wX11_seek_27 post R17 n v0 v1 v2 v3 σ → ∀ (H : Heap) (locs : List Loc) (ls : Array Slot), va_P D vwCl (wW cy B kM σ) H → va_S (AW B 26) s.heap H locs → lv_has ls 4 [(0, .ref (B + v0)), (1, .int v1), (2, .int v2), (3, .int v3)] → W p l e (rmD 3) s m av below meth c H locs 0 0 (MQ below (va_Qi post (BW D cy B kM) (AW B 26)) av s 0 0 (AW B 26)) (F0 m 27 ls []) := by
  obtain ⟨⟨hx, hb, hml, hown, hts⟩, hr, hlk, hK, hN, hZ⟩ := id X
  have hD : ∀ σ, va_D (AW B 26) (wW cy B kM σ) := AW_D kM_len
  intro n
  induction n with
  | zero => intro v0 v1 v2 v3 σ h0 h; exact absurd h id
  | succ n ih =>
    intro v0 v1 v2 v3 σ h0 h H locs ls hP hS hl
    rw [wX11_seek_27] at h
    refine lv_iload_n hx hb dX11_seek_27 rfl (lv_at hl 3 rfl) ?_
    refine lv_aload_n hx hb dX11_seek_28 rfl (lv_at hl 0 rfl) ?_
    refine rk_calli (va_runV (As := []) (rest := [.int v3]) X.1 (mX11_p l D cy B v0 σ h0 h) (cwV 0 hts (gW_V (wi_35 _ (List.mem_of_getElem? (i := 21) rfl)) (wi_35 _ (List.mem_of_getElem? (i := 22) rfl)) (wi_35 _ (List.mem_of_getElem? (i := 23) rfl)) (wi_30 _ (List.mem_of_getElem? (i := 9) rfl)) (wi_35 _ (List.mem_of_getElem? (i := 4) rfl))) rfl rfl rfl hd_X11_p ⟨Nat.le_of_ble_eq_true rfl, Nat.le_of_ble_eq_true rfl⟩) (rk_preV X hS hP h0 rfl rfl []) rfl rfl hl.1 rfl (lv_room (Nat.le_of_ble_eq_true rfl)) dX11_seek_29 ⟨Nat.zero_le _, Nat.zero_le _⟩) hS (fun _ h => h) (fun r1 s1 H locs h hP hS => ?_)
    refine lv_icmp_ge (tgt := 74) hx hb dX11_seek_32 (by decide) (fun c1 => ?_) (fun c1 => ?_)
    · have h := h.1 c1
      obtain ⟨x1, ex1⟩ : ∃ y : Int32, y = v2 + (1 : Int32) := ⟨_, rfl⟩
      have h := h x1 ex1
      refine lv_iinc (v := x1) (lv' := [(2, .int x1), (0, .ref (B + v0)), (1, .int v1), (3, .int v3)]) hx hb dX11_seek_74 hl (k := 2) rfl (by rw [ex1]; rfl) (by decide) rfl (fun ls hl => ?_)
      refine lv_goto (tgt := 17) hx hb dX11_seek_77 (by decide) ?_
      exact hR17 _ _ _ _ h0 h _ _ _ hP hS (lv_sub hl [1, 2, 0] rfl)
    · have h := h.2 c1
      refine lv_iload_n hx hb dX11_seek_35 rfl (lv_at hl 2 rfl) ?_
      refine lv_iload_n hx hb dX11_seek_36 rfl (lv_at hl 3 rfl) ?_
      refine lv_icmp_ne (tgt := 43) hx hb dX11_seek_37 (by decide) (fun c2 => ?_) (fun c2 => ?_)
      · have h := h.1 c2
        refine lv_aload_n hx hb dX11_seek_43 rfl (lv_at hl 0 rfl) ?_
        refine lv_iload_n hx hb dX11_seek_44 rfl (lv_at hl 1 rfl) ?_
        refine lv_iconst (v := (1 : Int32)) hx hb dX11_seek_45 (by decide) ?_
        refine lv_iconst (v := (1 : Int32)) hx hb dX11_seek_46 (by decide) ?_
        refine lv_iload_n hx hb dX11_seek_47 rfl (lv_at hl 2 rfl) ?_
        refine lv_iload_n hx hb dX11_seek_48 rfl (lv_at hl 3 rfl) ?_
        refine rk_callv (va_runV (As := [.int v1, .int (1 : Int32), .int (1 : Int32), .int v2, .int v3]) (rest := []) X.1 (mX11_laysBased l D cy B v0 v1 (1 : Int32) (1 : Int32) v2 v3 s1 h0 h) (cwV 5 hts (gW_V (wi_38 _ (List.mem_of_getElem? (i := 0) rfl)) (wi_38 _ (List.mem_of_getElem? (i := 1) rfl)) (wi_38 _ (List.mem_of_getElem? (i := 2) rfl)) (wi_30 _ (List.mem_of_getElem? (i := 9) rfl)) (wi_37 _ (List.mem_of_getElem? (i := 20) rfl))) rfl rfl rfl hd_X11_laysBased ⟨Nat.le_of_ble_eq_true rfl, Nat.le_of_ble_eq_true rfl⟩) (rk_preV X hS hP h0 rfl rfl [.int v1, .int (1 : Int32), .int (1 : Int32), .int v2, .int v3]) rfl rfl hl.1 rfl (lv_room (Nat.le_of_ble_eq_true rfl)) dX11_seek_49 ⟨Nat.zero_le _, Nat.zero_le _⟩) hS (fun _ h => h) (fun s2 H locs h hP hS => ?_)
        refine lv_aload_n hx hb dX11_seek_52 rfl (lv_at hl 0 rfl) ?_
        refine rk_callz (va_runV (As := []) (rest := []) X.1 (mX11_isMadeHere l D cy B v0 s2 h0 h) (cwV 0 hts (gW_V (wi_36 _ (List.mem_of_getElem? (i := 12) rfl)) (wi_36 _ (List.mem_of_getElem? (i := 13) rfl)) (wi_36 _ (List.mem_of_getElem? (i := 14) rfl)) (wi_30 _ (List.mem_of_getElem? (i := 9) rfl)) (wi_36 _ (List.mem_of_getElem? (i := 0) rfl))) rfl rfl rfl hd_X11_isMadeHere ⟨Nat.le_of_ble_eq_true rfl, Nat.le_of_ble_eq_true rfl⟩) (rk_preV X hS hP h0 rfl rfl []) rfl rfl hl.1 rfl (lv_room (Nat.le_of_ble_eq_true rfl)) dX11_seek_53 ⟨Nat.zero_le _, Nat.zero_le _⟩) hS (fun _ h => h) (fun r2 s3 H locs h hP hS => ?_)
        refine lv_if_eq (tgt := 68) hx hb dX11_seek_56 (by decide) (fun c3 => ?_) (fun c3 => ?_)
        · have h := h.1 (b2i_f c3)
          obtain ⟨x2, ex2⟩ : ∃ y : Int32, y = v3 + (1 : Int32) := ⟨_, rfl⟩
          have h := h x2 ex2
          refine lv_iinc (v := x2) (lv' := [(3, .int x2), (0, .ref (B + v0)), (1, .int v1), (2, .int v2)]) hx hb dX11_seek_68 hl (k := 3) rfl (by rw [ex2]; rfl) (by decide) rfl (fun ls hl => ?_)
          refine lv_goto (tgt := 27) hx hb dX11_seek_71 (by decide) ?_
          exact ih _ _ _ _ _ h0 h _ _ _ hP hS (lv_sub hl [1, 2, 3, 0] rfl)
        · have h := h.2 (b2i_t c3)
          refine lv_aload_n hx hb dX11_seek_59 rfl (lv_at hl 0 rfl) ?_
          refine rk_calli (va_runV (As := []) (rest := []) X.1 (mX11_p l D cy B v0 s3 h0 h) (cwV 0 hts (gW_V (wi_35 _ (List.mem_of_getElem? (i := 21) rfl)) (wi_35 _ (List.mem_of_getElem? (i := 22) rfl)) (wi_35 _ (List.mem_of_getElem? (i := 23) rfl)) (wi_30 _ (List.mem_of_getElem? (i := 9) rfl)) (wi_35 _ (List.mem_of_getElem? (i := 4) rfl))) rfl rfl rfl hd_X11_p ⟨Nat.le_of_ble_eq_true rfl, Nat.le_of_ble_eq_true rfl⟩) (rk_preV X hS hP h0 rfl rfl []) rfl rfl hl.1 rfl (lv_room (Nat.le_of_ble_eq_true rfl)) dX11_seek_60 ⟨Nat.zero_le _, Nat.zero_le _⟩) hS (fun _ h => h) (fun r3 s4 H locs h hP hS => ?_)
          refine lv_iload_n hx hb dX11_seek_63 rfl (lv_at hl 2 rfl) ?_
          refine lv_imul hx hb dX11_seek_64 ?_
          refine lv_iload_n hx hb dX11_seek_65 rfl (lv_at hl 3 rfl) ?_
          refine lv_iadd hx hb dX11_seek_66 ?_
          exact rk_iret X rfl kM_len h hP hS dX11_seek_67
      · have h := h.2 c2
        refine lv_goto (tgt := 68) hx hb dX11_seek_40 (by decide) ?_
        obtain ⟨x3, ex3⟩ : ∃ y : Int32, y = v3 + (1 : Int32) := ⟨_, rfl⟩
        have h := h x3 ex3
        refine lv_iinc (v := x3) (lv' := [(3, .int x3), (0, .ref (B + v0)), (1, .int v1), (2, .int v2)]) hx hb dX11_seek_68 hl (k := 3) rfl (by rw [ex3]; rfl) (by decide) rfl (fun ls hl => ?_)
        refine lv_goto (tgt := 27) hx hb dX11_seek_71 (by decide) ?_
        exact ih _ _ _ _ _ h0 h _ _ _ hP hS (lv_sub hl [1, 2, 3, 0] rfl)
set_option maxRecDepth 100000 in
set_option maxHeartbeats 4000000 in
theorem tX11_seek_17 {p : Program} {l : Launch} {e : Env} {s : State} {m : MethodId} {av : Array Value} {below : List Frame} {meth : Method} {c : Code} {D : va_G} {cy : Nat → ClassId} {B : Nat} (X : kC p s m av meth c cX11_seek 4 (some .int) WALL RX11 D cy (AW B 26)) {post : Int32 → St → Prop} : ∀ (n : Nat) (v0 : Nat) (v1 : Int32) (v2 : Int32) (σ : St), kM[v0]? = some 11 → wX11_seek_17 post n v0 v1 v2 σ → ∀ (H : Heap) (locs : List Loc) (ls : Array Slot), va_P D vwCl (wW cy B kM σ) H → va_S (AW B 26) s.heap H locs → lv_has ls 4 [(0, .ref (B + v0)), (1, .int v1), (2, .int v2)] → W p l e (rmD 3) s m av below meth c H locs 0 0 (MQ below (va_Qi post (BW D cy B kM) (AW B 26)) av s 0 0 (AW B 26)) (F0 m 17 ls []) := by
  obtain ⟨⟨hx, hb, hml, hown, hts⟩, hr, hlk, hK, hN, hZ⟩ := id X
  have hD : ∀ σ, va_D (AW B 26) (wW cy B kM σ) := AW_D kM_len
  intro n
  induction n with
  | zero => intro v0 v1 v2 σ h0 h; exact absurd h id
  | succ n ih =>
    intro v0 v1 v2 σ h0 h H locs ls hP hS hl
    rw [wX11_seek_17] at h
    refine lv_iload_n hx hb dX11_seek_17 rfl (lv_at hl 2 rfl) ?_
    refine lv_aload_n hx hb dX11_seek_18 rfl (lv_at hl 0 rfl) ?_
    refine rk_calli (va_runV (As := []) (rest := [.int v2]) X.1 (mX11_p l D cy B v0 σ h0 h) (cwV 0 hts (gW_V (wi_35 _ (List.mem_of_getElem? (i := 21) rfl)) (wi_35 _ (List.mem_of_getElem? (i := 22) rfl)) (wi_35 _ (List.mem_of_getElem? (i := 23) rfl)) (wi_30 _ (List.mem_of_getElem? (i := 9) rfl)) (wi_35 _ (List.mem_of_getElem? (i := 4) rfl))) rfl rfl rfl hd_X11_p ⟨Nat.le_of_ble_eq_true rfl, Nat.le_of_ble_eq_true rfl⟩) (rk_preV X hS hP h0 rfl rfl []) rfl rfl hl.1 rfl (lv_room (Nat.le_of_ble_eq_true rfl)) dX11_seek_19 ⟨Nat.zero_le _, Nat.zero_le _⟩) hS (fun _ h => h) (fun r1 s1 H locs h hP hS => ?_)
    refine lv_icmp_ge (tgt := 80) hx hb dX11_seek_22 (by decide) (fun c1 => ?_) (fun c1 => ?_)
    · have h := h.1 c1
      refine lv_bipush (v := (-2 : Int32)) hx hb dX11_seek_80 (by decide) ?_
      exact rk_iret X rfl kM_len h hP hS dX11_seek_82
    · have h := h.2 c1
      refine lv_iconst (v := (0 : Int32)) hx hb dX11_seek_25 (by decide) ?_
      refine lv_istore_n (lv' := [(3, .int (0 : Int32)), (0, .ref (B + v0)), (1, .int v1), (2, .int v2)]) hx hb dX11_seek_26 rfl hl (by decide) rfl (fun ls hl => ?_)
      obtain ⟨j, h⟩ := h
      exact tX11_seek_27 X ih j _ _ _ _ _ h0 h _ _ _ hP hS (lv_sub hl [1, 2, 3, 0] rfl)
set_option maxRecDepth 100000 in
set_option maxHeartbeats 4000000 in
theorem mX11_seek (l : Launch) (D : va_G) (cy : Nat → ClassId) (B : Nat) (v0 : Nat) (v1 : Int32) (σ : St) (h0 : kM[v0]? = some 11) {post : Int32 → St → Prop} (h : wX11_seek v0 v1 σ post) : Met l yX11_seek (Cond.code yX11_seek cX11_seek 4 (some .int) :: WALL) (rmD 3) (PcW D cy B kM σ [.ref (B + v0), .int v1]) (va_Qi post (BW D cy B kM) (AW B 26)) 0 0 (AW B 26) := by
  refine Met.ofK (cc := cX11_seek) (maxL := 4) (ret := (some .int)) (by decide +kernel) rfl kM_len ?_
  intro p e s m below meth c X hP
  obtain ⟨⟨hx, hb, hml, hown, hts⟩, hr, hlk, hK, hN, hZ⟩ := id X
  have hD : ∀ σ, va_D (AW B 26) (wW cy B kM σ) := AW_D kM_len
  have hS : va_S (AW B 26) s.heap s.heap [] := va_S.rf
  have hl := lv_entry ([.ref (B + v0), .int v1]) (n := 4) (Nat.le_of_ble_eq_true rfl)
  rw [lg_entry_eq]
  generalize (lg_sl ([.ref (B + v0), .int v1]) ++ List.replicate (4 - (lg_sl ([.ref (B + v0), .int v1])).length) Slot.unset).toArray = ls at hl ⊢
  have hl : lv_has ls 4 [(0, .ref (B + v0)), (1, .int v1)] := hl
  unfold wX11_seek at h
  refine lv_aload_n hx hb dX11_seek_0 rfl (lv_at hl 0 rfl) ?_
  refine lv_iconst (v := (0 : Int32)) hx hb dX11_seek_1 (by decide) ?_
  refine rk_puti X hP hD hS (C := RX11) (T := TX11) (N := 44) (ci := 11) wix_11 h0 rfl rfl tyX11 tyX11_ok nmX11 0 (by decide) (wi_30 _ (List.mem_of_getElem? (i := 1) rfl)) rfl rfl (by decide +kernel) (Nat.le_of_ble_eq_true rfl) rfl dX11_seek_2 (fun H locs hP hS => ?_)
  obtain ⟨s1, es1⟩ : ∃ z : St, z = u1 σ v0 0 (0 : Int32) := ⟨_, rfl⟩
  rw [← es1] at hP
  have h := h s1 es1
  refine lv_aload_n hx hb dX11_seek_5 rfl (lv_at hl 0 rfl) ?_
  refine lv_iload_n hx hb dX11_seek_6 rfl (lv_at hl 1 rfl) ?_
  refine rk_callz (va_runV (As := [.int v1]) (rest := []) X.1 (mX11_isTable l D cy B v0 v1 s1 h0 h) (cwV 1 hts (gW_V (wi_35 _ (List.mem_of_getElem? (i := 14) rfl)) (wi_35 _ (List.mem_of_getElem? (i := 15) rfl)) (wi_35 _ (List.mem_of_getElem? (i := 16) rfl)) (wi_30 _ (List.mem_of_getElem? (i := 9) rfl)) (wi_35 _ (List.mem_of_getElem? (i := 5) rfl))) rfl rfl rfl hd_X11_isTable ⟨Nat.le_of_ble_eq_true rfl, Nat.le_of_ble_eq_true rfl⟩) (rk_preV X hS hP h0 rfl rfl [.int v1]) rfl rfl hl.1 rfl (lv_room (Nat.le_of_ble_eq_true rfl)) dX11_seek_7 ⟨Nat.zero_le _, Nat.zero_le _⟩) hS (fun _ h => h) (fun r1 s2 H locs h hP hS => ?_)
  refine lv_if_ne (tgt := 15) hx hb dX11_seek_10 (by decide) (fun c1 => ?_) (fun c1 => ?_)
  · have h := h.1 (b2i_t c1)
    refine lv_iconst (v := (0 : Int32)) hx hb dX11_seek_15 (by decide) ?_
    refine lv_istore_n (lv' := [(2, .int (0 : Int32)), (0, .ref (B + v0)), (1, .int v1)]) hx hb dX11_seek_16 rfl hl (by decide) rfl (fun ls hl => ?_)
    obtain ⟨j, h⟩ := h
    exact tX11_seek_17 X j _ _ _ _ h0 h _ _ _ hP hS (lv_sub hl [1, 2, 0] rfl)
  · have h := h.2 (b2i_f c1)
    refine lv_iconst (v := (-1 : Int32)) hx hb dX11_seek_13 (by decide) ?_
    exact rk_iret X rfl kM_len h hP hS dX11_seek_14

theorem hd_X11_node : yX11_node.cls = RX11 ∧ yX11_node.cls ≠ "java/lang/invoke/MethodHandle" ∧ yX11_node.cls ≠ "java/lang/invoke/VarHandle" ∧ (parseMethodDescriptor yX11_node.desc).map (fun d => d.parameters.length) = some 2 := by decide +kernel
set_option maxRecDepth 100000 in
set_option maxHeartbeats 4000000 in
theorem mX11_node (l : Launch) (D : va_G) (cy : Nat → ClassId) (B : Nat) (v0 : Nat) (v1 : Int32) (v2 : Int32) (σ : St) (h0 : kM[v0]? = some 11) {post : Int32 → St → Prop} (h : wX11_node v0 v1 v2 σ post) : Met l yX11_node (Cond.code yX11_node cX11_node 3 (some .int) :: WALL) (rmD 2) (PcW D cy B kM σ [.ref (B + v0), .int v1, .int v2]) (va_Qi post (BW D cy B kM) (AW B 26)) 0 0 (AW B 26) := by
  refine Met.ofK (cc := cX11_node) (maxL := 3) (ret := (some .int)) (by decide +kernel) rfl kM_len ?_
  intro p e s m below meth c X hP
  obtain ⟨⟨hx, hb, hml, hown, hts⟩, hr, hlk, hK, hN, hZ⟩ := id X
  have hD : ∀ σ, va_D (AW B 26) (wW cy B kM σ) := AW_D kM_len
  have hS : va_S (AW B 26) s.heap s.heap [] := va_S.rf
  have hl := lv_entry ([.ref (B + v0), .int v1, .int v2]) (n := 3) (Nat.le_of_ble_eq_true rfl)
  rw [lg_entry_eq]
  generalize (lg_sl ([.ref (B + v0), .int v1, .int v2]) ++ List.replicate (3 - (lg_sl ([.ref (B + v0), .int v1, .int v2])).length) Slot.unset).toArray = ls at hl ⊢
  have hl : lv_has ls 3 [(0, .ref (B + v0)), (1, .int v1), (2, .int v2)] := hl
  unfold wX11_node at h
  refine lv_aload_n hx hb dX11_node_0 rfl (lv_at hl 0 rfl) ?_
  refine lv_iconst (v := (0 : Int32)) hx hb dX11_node_1 (by decide) ?_
  refine rk_puti X hP hD hS (C := RX11) (T := TX11) (N := 44) (ci := 11) wix_11 h0 rfl rfl tyX11 tyX11_ok nmX11 0 (by decide) (wi_30 _ (List.mem_of_getElem? (i := 1) rfl)) rfl rfl (by decide +kernel) (Nat.le_of_ble_eq_true rfl) rfl dX11_node_2 (fun H locs hP hS => ?_)
  obtain ⟨s1, es1⟩ : ∃ z : St, z = u1 σ v0 0 (0 : Int32) := ⟨_, rfl⟩
  rw [← es1] at hP
  have h := h s1 es1
  refine lv_aload_n hx hb dX11_node_5 rfl (lv_at hl 0 rfl) ?_
  refine lv_iload_n hx hb dX11_node_6 rfl (lv_at hl 1 rfl) ?_
  refine rk_callz (va_runV (As := [.int v1]) (rest := []) X.1 (mX11_isNode l D cy B v0 v1 s1 h0 h) (cwV 1 hts (gW_V (wi_38 _ (List.mem_of_getElem? (i := 12) rfl)) (wi_38 _ (List.mem_of_getElem? (i := 13) rfl)) (wi_38 _ (List.mem_of_getElem? (i := 14) rfl)) (wi_30 _ (List.mem_of_getElem? (i := 9) rfl)) (wi_35 _ (List.mem_of_getElem? (i := 7) rfl))) rfl rfl rfl hd_X11_isNode ⟨Nat.le_of_ble_eq_true rfl, Nat.le_of_ble_eq_true rfl⟩) (rk_preV X hS hP h0 rfl rfl [.int v1]) rfl rfl hl.1 rfl (lv_room (Nat.le_of_ble_eq_true rfl)) dX11_node_7 ⟨Nat.zero_le _, Nat.zero_le _⟩) hS (fun _ h => h) (fun r1 s2 H locs h hP hS => ?_)
  refine lv_if_ne (tgt := 16) hx hb dX11_node_10 (by decide) (fun c1 => ?_) (fun c1 => ?_)
  · have h := h.1 (b2i_t c1)
    refine lv_iload_n hx hb dX11_node_16 rfl (lv_at hl 2 rfl) ?_
    refine lv_iconst (v := (-1 : Int32)) hx hb dX11_node_17 (by decide) ?_
    refine lv_icmp_ne (tgt := 29) hx hb dX11_node_18 (by decide) (fun c2 => ?_) (fun c2 => ?_)
    · have h := h.1 c2
      refine lv_iload_n hx hb dX11_node_29 rfl (lv_at hl 2 rfl) ?_
      refine lv_i2l hx hb dX11_node_30 rfl ?_
      refine lv_lconst (v := (0 : Int64)) hx hb dX11_node_31 (by decide) ?_
      refine lv_iconst (v := (1 : Int32)) hx hb dX11_node_32 (by decide) ?_
      refine lv_aload_n hx hb dX11_node_33 rfl (lv_at hl 0 rfl) ?_
      refine lv_iload_n hx hb dX11_node_34 rfl (lv_at hl 1 rfl) ?_
      refine rk_calli (va_runV (As := [.int v1]) (rest := [.int (1 : Int32), .long (0 : Int64), .long (v2.toInt64)]) X.1 (mX11_legsAt l D cy B v0 v1 s2 h0 h) (cwV 1 hts (gW_V (wi_38 _ (List.mem_of_getElem? (i := 15) rfl)) (wi_38 _ (List.mem_of_getElem? (i := 16) rfl)) (wi_38 _ (List.mem_of_getElem? (i := 17) rfl)) (wi_30 _ (List.mem_of_getElem? (i := 9) rfl)) (wi_35 _ (List.mem_of_getElem? (i := 9) rfl))) rfl rfl rfl hd_X11_legsAt ⟨Nat.le_of_ble_eq_true rfl, Nat.le_of_ble_eq_true rfl⟩) (rk_preV X hS hP h0 rfl rfl [.int v1]) rfl rfl hl.1 rfl (lv_room (Nat.le_of_ble_eq_true rfl)) dX11_node_35 ⟨Nat.zero_le _, Nat.zero_le _⟩) hS (fun _ h => h) (fun r2 s3 H locs h hP hS => ?_)
      refine lv_ishl hx hb dX11_node_38 ?_
      refine lv_iconst (v := (1 : Int32)) hx hb dX11_node_39 (by decide) ?_
      refine lv_isub hx hb dX11_node_40 ?_
      refine lv_i2l hx hb dX11_node_41 rfl ?_
      refine rk_callz (va_runS (As := [.long (v2.toInt64), .long (0 : Int64), .long ((((1 : Int32) <<< (r2 &&& 31)) - (1 : Int32)).toInt64)]) (rest := []) X.1 (mX11_within l D cy B (v2.toInt64) (0 : Int64) ((((1 : Int32) <<< (r2 &&& 31)) - (1 : Int32)).toInt64) s3 h) (va_cwS 3 hts (gW_S (wi_31 _ (List.mem_of_getElem? (i := 2) rfl)) (wi_31 _ (List.mem_of_getElem? (i := 3) rfl)) (wi_30 _ (List.mem_of_getElem? (i := 9) rfl)) (wi_30 _ (List.mem_of_getElem? (i := 2) rfl))) rfl rfl rfl hd_X11_within ⟨Nat.le_of_ble_eq_true rfl, Nat.le_of_ble_eq_true rfl⟩) (rk_preS X hS hP [.long (v2.toInt64), .long (0 : Int64), .long ((((1 : Int32) <<< (r2 &&& 31)) - (1 : Int32)).toInt64)]) rfl rfl hl.1 rfl (lv_room (Nat.le_of_ble_eq_true rfl)) dX11_node_42 ⟨Nat.zero_le _, Nat.zero_le _⟩) hS (fun _ h => h) (fun r3 s4 H locs h hP hS => ?_)
      refine lv_if_eq (tgt := 62) hx hb dX11_node_45 (by decide) (fun c3 => ?_) (fun c3 => ?_)
      · have h := h.1 (b2i_f c3)
        refine lv_bipush (v := (-2 : Int32)) hx hb dX11_node_62 (by decide) ?_
        exact rk_iret X rfl kM_len h hP hS dX11_node_64
      · have h := h.2 (b2i_t c3)
        refine lv_aload_n hx hb dX11_node_48 rfl (lv_at hl 0 rfl) ?_
        refine rk_get X hP (C := RX11) (T := TX11) (N := 44) (ci := 11) wix_11 h0 rfl rfl 30 (by decide) (wi_29 _ (List.mem_of_getElem? (i := 13) rfl)) rfl rfl dX11_node_49 ?_
        refine lv_bipush (v := (16 : Int32)) hx hb dX11_node_52 (by decide) ?_
        refine lv_iload_n hx hb dX11_node_54 rfl (lv_at hl 1 rfl) ?_
        refine lv_imul hx hb dX11_node_55 ?_
        refine lv_iload_n hx hb dX11_node_56 rfl (lv_at hl 2 rfl) ?_
        refine lv_iadd hx hb dX11_node_57 ?_
        refine lv_topi (fun x1 ex1 => ?_)
        have h := h x1 ex1
        obtain ⟨b1, h⟩ := h
        refine rk_iald X hP (n := 117) (klM_X11_30 h0) (fun _ _ => rfl) b1 dX11_node_58 ?_
        refine lv_goto (tgt := 64) hx hb dX11_node_59 (by decide) ?_
        exact rk_iret X rfl kM_len h hP hS dX11_node_64
    · have h := h.2 c2
      refine lv_aload_n hx hb dX11_node_21 rfl (lv_at hl 0 rfl) ?_
      refine lv_iload_n hx hb dX11_node_22 rfl (lv_at hl 1 rfl) ?_
      refine rk_calli (va_runV (As := [.int v1]) (rest := []) X.1 (mX11_legsAt l D cy B v0 v1 s2 h0 h) (cwV 1 hts (gW_V (wi_38 _ (List.mem_of_getElem? (i := 15) rfl)) (wi_38 _ (List.mem_of_getElem? (i := 16) rfl)) (wi_38 _ (List.mem_of_getElem? (i := 17) rfl)) (wi_30 _ (List.mem_of_getElem? (i := 9) rfl)) (wi_35 _ (List.mem_of_getElem? (i := 9) rfl))) rfl rfl rfl hd_X11_legsAt ⟨Nat.le_of_ble_eq_true rfl, Nat.le_of_ble_eq_true rfl⟩) (rk_preV X hS hP h0 rfl rfl [.int v1]) rfl rfl hl.1 rfl (lv_room (Nat.le_of_ble_eq_true rfl)) dX11_node_23 ⟨Nat.zero_le _, Nat.zero_le _⟩) hS (fun _ h => h) (fun r4 s5 H locs h hP hS => ?_)
      refine lv_goto (tgt := 64) hx hb dX11_node_26 (by decide) ?_
      exact rk_iret X rfl kM_len h hP hS dX11_node_64
  · have h := h.2 (b2i_f c1)
    refine lv_bipush (v := (-2 : Int32)) hx hb dX11_node_13 (by decide) ?_
    exact rk_iret X rfl kM_len h hP hS dX11_node_15

theorem hd_X11_wire : yX11_wire.cls = RX11 ∧ yX11_wire.cls ≠ "java/lang/invoke/MethodHandle" ∧ yX11_wire.cls ≠ "java/lang/invoke/VarHandle" ∧ (parseMethodDescriptor yX11_wire.desc).map (fun d => d.parameters.length) = some 2 := by decide +kernel
set_option maxRecDepth 100000 in
set_option maxHeartbeats 4000000 in
theorem tX11_wire_26 {p : Program} {l : Launch} {e : Env} {s : State} {m : MethodId} {av : Array Value} {below : List Frame} {meth : Method} {c : Code} {D : va_G} {cy : Nat → ClassId} {B : Nat} (X : kC p s m av meth c cX11_wire 4 (some .int) WALL RX11 D cy (AW B 26)) {post : Int32 → St → Prop} : ∀ (v0 : Nat) (v1 : Int32) (v2 : Int32) (t0 : Nat) (t1 : Int32) (σ : St), kM[v0]? = some 11 → kM[t0]? = some 11 → wX11_wire_26 post v0 v1 v2 t0 t1 σ → ∀ (H : Heap) (locs : List Loc) (ls : Array Slot), va_P D vwCl (wW cy B kM σ) H → va_S (AW B 26) s.heap H locs → lv_has ls 4 [(0, .ref (B + v0)), (1, .int v1), (2, .int v2)] → W p l e (rmD 2) s m av below meth c H locs 0 0 (MQ below (va_Qi post (BW D cy B kM) (AW B 26)) av s 0 0 (AW B 26)) (F0 m 26 ls [.int t1, .ref (B + t0)]) := by
  obtain ⟨⟨hx, hb, hml, hown, hts⟩, hr, hlk, hK, hN, hZ⟩ := id X
  have hD : ∀ σ, va_D (AW B 26) (wW cy B kM σ) := AW_D kM_len
  intro v0 v1 v2 t0 t1 σ h0 g0 h H locs ls hP hS hl
  unfold wX11_wire_26 at h
  refine rk_puti X hP hD hS (C := RX11) (T := TX11) (N := 44) (ci := 11) wix_11 g0 rfl rfl tyX11 tyX11_ok nmX11 0 (by decide) (wi_30 _ (List.mem_of_getElem? (i := 1) rfl)) rfl rfl (by decide +kernel) (Nat.le_of_ble_eq_true rfl) rfl dX11_wire_26 (fun H locs hP hS => ?_)
  obtain ⟨s1, es1⟩ : ∃ z : St, z = u1 σ t0 0 t1 := ⟨_, rfl⟩
  rw [← es1] at hP
  have h := h s1 es1
  refine lv_aload_n hx hb dX11_wire_29 rfl (lv_at hl 0 rfl) ?_
  refine rk_get X hP (C := RX11) (T := TX11) (N := 44) (ci := 11) wix_11 h0 rfl rfl 0 (by decide) (wi_30 _ (List.mem_of_getElem? (i := 1) rfl)) rfl rfl dX11_wire_30 ?_
  refine lv_iconst (v := (1 : Int32)) hx hb dX11_wire_33 (by decide) ?_
  refine lv_icmp_ne (tgt := 39) hx hb dX11_wire_34 (by decide) (fun c1 => ?_) (fun c1 => ?_)
  · have h := h.1 c1
    refine lv_aload_n hx hb dX11_wire_39 rfl (lv_at hl 0 rfl) ?_
    refine rk_get X hP (C := RX11) (T := TX11) (N := 44) (ci := 11) wix_11 h0 rfl rfl 30 (by decide) (wi_29 _ (List.mem_of_getElem? (i := 13) rfl)) rfl rfl dX11_wire_40 ?_
    refine lv_bipush (v := (96 : Int32)) hx hb dX11_wire_43 (by decide) ?_
    refine lv_iconst (v := (2 : Int32)) hx hb dX11_wire_45 (by decide) ?_
    refine lv_iload_n hx hb dX11_wire_46 rfl (lv_at hl 1 rfl) ?_
    refine lv_imul hx hb dX11_wire_47 ?_
    refine lv_iadd hx hb dX11_wire_48 ?_
    refine lv_iload_n hx hb dX11_wire_49 rfl (lv_at hl 2 rfl) ?_
    refine lv_iconst (v := (2 : Int32)) hx hb dX11_wire_50 (by decide) ?_
    refine lv_idiv hx hb dX11_wire_51 (by decide) ?_
    refine lv_iadd hx hb dX11_wire_52 ?_
    refine lv_topi (fun x1 ex1 => ?_)
    have h := h x1 ex1
    obtain ⟨b1, h⟩ := h
    refine rk_iald X hP (n := 117) (klM_X11_30 h0) (fun _ _ => rfl) b1 dX11_wire_53 ?_
    refine lv_topi (fun x2 ex2 => ?_)
    have h := h x2 ex2
    refine lv_istore_n (lv' := [(3, .int x2), (0, .ref (B + v0)), (1, .int v1), (2, .int v2)]) hx hb dX11_wire_54 rfl hl (by decide) rfl (fun ls hl => ?_)
    refine lv_iload_n hx hb dX11_wire_55 rfl (lv_at hl 3 rfl) ?_
    refine lv_iconst (v := (2 : Int32)) hx hb dX11_wire_56 (by decide) ?_
    refine lv_irem hx hb dX11_wire_57 (by decide) ?_
    refine lv_if_ne (tgt := 67) hx hb dX11_wire_58 (by decide) (fun c2 => ?_) (fun c2 => ?_)
    · have h := h.1 c2
      refine lv_iload_n hx hb dX11_wire_67 rfl (lv_at hl 0 rfl) ?_
      refine lv_iconst (v := (4 : Int32)) hx hb dX11_wire_68 (by decide) ?_
      refine lv_irem hx hb dX11_wire_69 (by decide) ?_
      exact rk_iret X rfl kM_len h hP hS dX11_wire_70
    · have h := h.2 c2
      refine lv_iload_n hx hb dX11_wire_61 rfl (lv_at hl 0 rfl) ?_
      refine lv_iconst (v := (4 : Int32)) hx hb dX11_wire_62 (by decide) ?_
      refine lv_idiv hx hb dX11_wire_63 (by decide) ?_
      refine lv_goto (tgt := 70) hx hb dX11_wire_64 (by decide) ?_
      exact rk_iret X rfl kM_len h hP hS dX11_wire_70
  · have h := h.2 c1
    refine lv_iconst (v := (0 : Int32)) hx hb dX11_wire_37 (by decide) ?_
    exact rk_iret X rfl kM_len h hP hS dX11_wire_38
set_option maxRecDepth 100000 in
set_option maxHeartbeats 4000000 in
theorem tX11_wire_25 {p : Program} {l : Launch} {e : Env} {s : State} {m : MethodId} {av : Array Value} {below : List Frame} {meth : Method} {c : Code} {D : va_G} {cy : Nat → ClassId} {B : Nat} (X : kC p s m av meth c cX11_wire 4 (some .int) WALL RX11 D cy (AW B 26)) {post : Int32 → St → Prop} : ∀ (v0 : Nat) (v1 : Int32) (v2 : Int32) (t0 : Nat) (σ : St), kM[v0]? = some 11 → kM[t0]? = some 11 → wX11_wire_25 post v0 v1 v2 t0 σ → ∀ (H : Heap) (locs : List Loc) (ls : Array Slot), va_P D vwCl (wW cy B kM σ) H → va_S (AW B 26) s.heap H locs → lv_has ls 4 [(0, .ref (B + v0)), (1, .int v1), (2, .int v2)] → W p l e (rmD 2) s m av below meth c H locs 0 0 (MQ below (va_Qi post (BW D cy B kM) (AW B 26)) av s 0 0 (AW B 26)) (F0 m 25 ls [.ref (B + t0)]) := by
  obtain ⟨⟨hx, hb, hml, hown, hts⟩, hr, hlk, hK, hN, hZ⟩ := id X
  have hD : ∀ σ, va_D (AW B 26) (wW cy B kM σ) := AW_D kM_len
  intro v0 v1 v2 t0 σ h0 g0 h H locs ls hP hS hl
  unfold wX11_wire_25 at h
  refine lv_iconst (v := (1 : Int32)) hx hb dX11_wire_25 (by decide) ?_
  exact tX11_wire_26 X _ _ _ _ _ _ h0 g0 h _ _ _ hP hS (lv_sub hl [0, 1, 2] rfl)
set_option maxRecDepth 100000 in
set_option maxHeartbeats 4000000 in
theorem mX11_wire (l : Launch) (D : va_G) (cy : Nat → ClassId) (B : Nat) (v0 : Nat) (v1 : Int32) (v2 : Int32) (σ : St) (h0 : kM[v0]? = some 11) {post : Int32 → St → Prop} (h : wX11_wire v0 v1 v2 σ post) : Met l yX11_wire (Cond.code yX11_wire cX11_wire 4 (some .int) :: WALL) (rmD 2) (PcW D cy B kM σ [.ref (B + v0), .int v1, .int v2]) (va_Qi post (BW D cy B kM) (AW B 26)) 0 0 (AW B 26) := by
  refine Met.ofK (cc := cX11_wire) (maxL := 4) (ret := (some .int)) (by decide +kernel) rfl kM_len ?_
  intro p e s m below meth c X hP
  obtain ⟨⟨hx, hb, hml, hown, hts⟩, hr, hlk, hK, hN, hZ⟩ := id X
  have hD : ∀ σ, va_D (AW B 26) (wW cy B kM σ) := AW_D kM_len
  have hS : va_S (AW B 26) s.heap s.heap [] := va_S.rf
  have hl := lv_entry ([.ref (B + v0), .int v1, .int v2]) (n := 4) (Nat.le_of_ble_eq_true rfl)
  rw [lg_entry_eq]
  generalize (lg_sl ([.ref (B + v0), .int v1, .int v2]) ++ List.replicate (4 - (lg_sl ([.ref (B + v0), .int v1, .int v2])).length) Slot.unset).toArray = ls at hl ⊢
  have hl : lv_has ls 4 [(0, .ref (B + v0)), (1, .int v1), (2, .int v2)] := hl
  unfold wX11_wire at h
  refine lv_aload_n hx hb dX11_wire_0 rfl (lv_at hl 0 rfl) ?_
  refine lv_aload_n hx hb dX11_wire_1 rfl (lv_at hl 0 rfl) ?_
  refine lv_iload_n hx hb dX11_wire_2 rfl (lv_at hl 1 rfl) ?_
  refine rk_callz (va_runV (As := [.int v1]) (rest := [.ref (B + v0)]) X.1 (mX11_isWire l D cy B v0 v1 σ h0 h) (cwV 1 hts (gW_V (wi_38 _ (List.mem_of_getElem? (i := 19) rfl)) (wi_38 _ (List.mem_of_getElem? (i := 20) rfl)) (wi_38 _ (List.mem_of_getElem? (i := 21) rfl)) (wi_30 _ (List.mem_of_getElem? (i := 9) rfl)) (wi_35 _ (List.mem_of_getElem? (i := 8) rfl))) rfl rfl rfl hd_X11_isWire ⟨Nat.le_of_ble_eq_true rfl, Nat.le_of_ble_eq_true rfl⟩) (rk_preV X hS hP h0 rfl rfl [.int v1]) rfl rfl hl.1 rfl (lv_room (Nat.le_of_ble_eq_true rfl)) dX11_wire_3 ⟨Nat.zero_le _, Nat.zero_le _⟩) hS (fun _ h => h) (fun r1 s1 H locs h hP hS => ?_)
  refine lv_if_eq (tgt := 25) hx hb dX11_wire_6 (by decide) (fun c1 => ?_) (fun c1 => ?_)
  · have h := h.1 (b2i_f c1)
    exact tX11_wire_25 X _ _ _ _ _ h0 h0 h _ _ _ hP hS (lv_sub hl [0, 1, 2] rfl)
  · have h := h.2 (b2i_t c1)
    refine lv_iload_n hx hb dX11_wire_9 rfl (lv_at hl 2 rfl) ?_
    refine lv_i2l hx hb dX11_wire_10 rfl ?_
    refine lv_lconst (v := (0 : Int64)) hx hb dX11_wire_11 (by decide) ?_
    refine lv_ldc2 (v := (3 : Int64)) hx hb hown (hts (.constantLong RX11 240 (3 : Int64)) (wi_34 _ (List.mem_of_getElem? (i := 12) rfl))) dX11_wire_12 ?_
    refine rk_callz (va_runS (As := [.long (v2.toInt64), .long (0 : Int64), .long (3 : Int64)]) (rest := [.ref (B + v0)]) X.1 (mX11_within l D cy B (v2.toInt64) (0 : Int64) (3 : Int64) s1 h) (va_cwS 3 hts (gW_S (wi_31 _ (List.mem_of_getElem? (i := 2) rfl)) (wi_31 _ (List.mem_of_getElem? (i := 3) rfl)) (wi_30 _ (List.mem_of_getElem? (i := 9) rfl)) (wi_30 _ (List.mem_of_getElem? (i := 2) rfl))) rfl rfl rfl hd_X11_within ⟨Nat.le_of_ble_eq_true rfl, Nat.le_of_ble_eq_true rfl⟩) (rk_preS X hS hP [.long (v2.toInt64), .long (0 : Int64), .long (3 : Int64)]) rfl rfl hl.1 rfl (lv_room (Nat.le_of_ble_eq_true rfl)) dX11_wire_15 ⟨Nat.zero_le _, Nat.zero_le _⟩) hS (fun _ h => h) (fun r2 s2 H locs h hP hS => ?_)
    refine lv_if_eq (tgt := 25) hx hb dX11_wire_18 (by decide) (fun c2 => ?_) (fun c2 => ?_)
    · have h := h.1 (b2i_f c2)
      exact tX11_wire_25 X _ _ _ _ _ h0 h0 h _ _ _ hP hS (lv_sub hl [0, 1, 2] rfl)
    · have h := h.2 (b2i_t c2)
      refine lv_iconst (v := (0 : Int32)) hx hb dX11_wire_21 (by decide) ?_
      refine lv_goto (tgt := 26) hx hb dX11_wire_22 (by decide) ?_
      exact tX11_wire_26 X _ _ _ _ _ _ h0 h0 h _ _ _ hP hS (lv_sub hl [0, 1, 2] rfl)

theorem hd_X11_wireAt : yX11_wireAt.cls = RX11 ∧ yX11_wireAt.cls ≠ "java/lang/invoke/MethodHandle" ∧ yX11_wireAt.cls ≠ "java/lang/invoke/VarHandle" ∧ (parseMethodDescriptor yX11_wireAt.desc).map (fun d => d.parameters.length) = some 1 := by decide +kernel
set_option maxRecDepth 100000 in
set_option maxHeartbeats 4000000 in
theorem tX11_wireAt_2 {p : Program} {l : Launch} {e : Env} {s : State} {m : MethodId} {av : Array Value} {below : List Frame} {meth : Method} {c : Code} {D : va_G} {cy : Nat → ClassId} {B : Nat} (X : kC p s m av meth c cX11_wireAt 3 (some .int) WALL RX11 D cy (AW B 26)) {post : Int32 → St → Prop} : ∀ (n : Nat) (v0 : Nat) (v1 : Int32) (v2 : Int32) (σ : St), kM[v0]? = some 11 → wX11_wireAt_2 post n v0 v1 v2 σ → ∀ (H : Heap) (locs : List Loc) (ls : Array Slot), va_P D vwCl (wW cy B kM σ) H → va_S (AW B 26) s.heap H locs → lv_has ls 3 [(0, .ref (B + v0)), (1, .int v1), (2, .int v2)] → W p l e (rmD 0) s m av below meth c H locs 0 0 (MQ below (va_Qi post (BW D cy B kM) (AW B 26)) av s 0 0 (AW B 26)) (F0 m 2 ls []) := by
  obtain ⟨⟨hx, hb, hml, hown, hts⟩, hr, hlk, hK, hN, hZ⟩ := id X
  have hD : ∀ σ, va_D (AW B 26) (wW cy B kM σ) := AW_D kM_len
  intro n
  induction n with
  | zero => intro v0 v1 v2 σ h0 h; exact absurd h id
  | succ n ih =>
    intro v0 v1 v2 σ h0 h H locs ls hP hS hl
    rw [wX11_wireAt_2] at h
    refine lv_iload_n hx hb dX11_wireAt_2 rfl (lv_at hl 2 rfl) ?_
    refine lv_iconst (v := (2 : Int32)) hx hb dX11_wireAt_3 (by decide) ?_
    refine lv_aload_n hx hb dX11_wireAt_4 rfl (lv_at hl 0 rfl) ?_
    refine rk_get X hP (C := RX11) (T := TX11) (N := 44) (ci := 11) wix_11 h0 rfl rfl 30 (by decide) (wi_29 _ (List.mem_of_getElem? (i := 13) rfl)) rfl rfl dX11_wireAt_5 ?_
    refine lv_bipush (v := (116 : Int32)) hx hb dX11_wireAt_8 (by decide) ?_
    have b1 : vp_in (116 : Int32) 117 := by unfold vp_in; decide
    refine rk_iald X hP (n := 117) (klM_X11_30 h0) (fun _ _ => rfl) b1 dX11_wireAt_10 ?_
    refine lv_imul hx hb dX11_wireAt_11 ?_
    refine lv_icmp_ge (tgt := 38) hx hb dX11_wireAt_12 (by decide) (fun c1 => ?_) (fun c1 => ?_)
    · have h := h.1 c1
      refine lv_iconst (v := (-1 : Int32)) hx hb dX11_wireAt_38 (by decide) ?_
      exact rk_iret X rfl kM_len h hP hS dX11_wireAt_39
    · have h := h.2 c1
      refine lv_aload_n hx hb dX11_wireAt_15 rfl (lv_at hl 0 rfl) ?_
      refine rk_get X hP (C := RX11) (T := TX11) (N := 44) (ci := 11) wix_11 h0 rfl rfl 30 (by decide) (wi_29 _ (List.mem_of_getElem? (i := 13) rfl)) rfl rfl dX11_wireAt_16 ?_
      refine lv_bipush (v := (96 : Int32)) hx hb dX11_wireAt_19 (by decide) ?_
      refine lv_iload_n hx hb dX11_wireAt_21 rfl (lv_at hl 2 rfl) ?_
      refine lv_iadd hx hb dX11_wireAt_22 ?_
      refine lv_topi (fun x1 ex1 => ?_)
      have h := h x1 ex1
      obtain ⟨b2, h⟩ := h
      refine rk_iald X hP (n := 117) (klM_X11_30 h0) (fun _ _ => rfl) b2 dX11_wireAt_23 ?_
      refine lv_iload_n hx hb dX11_wireAt_24 rfl (lv_at hl 1 rfl) ?_
      refine lv_icmp_ne (tgt := 32) hx hb dX11_wireAt_25 (by decide) (fun c2 => ?_) (fun c2 => ?_)
      · have h := h.1 c2
        obtain ⟨x2, ex2⟩ : ∃ y : Int32, y = v2 + (1 : Int32) := ⟨_, rfl⟩
        have h := h x2 ex2
        refine lv_iinc (v := x2) (lv' := [(2, .int x2), (0, .ref (B + v0)), (1, .int v1)]) hx hb dX11_wireAt_32 hl (k := 2) rfl (by rw [ex2]; rfl) (by decide) rfl (fun ls hl => ?_)
        refine lv_goto (tgt := 2) hx hb dX11_wireAt_35 (by decide) ?_
        exact ih _ _ _ _ h0 h _ _ _ hP hS (lv_sub hl [1, 2, 0] rfl)
      · have h := h.2 c2
        refine lv_iload_n hx hb dX11_wireAt_28 rfl (lv_at hl 2 rfl) ?_
        refine lv_iconst (v := (2 : Int32)) hx hb dX11_wireAt_29 (by decide) ?_
        refine lv_idiv hx hb dX11_wireAt_30 (by decide) ?_
        exact rk_iret X rfl kM_len h hP hS dX11_wireAt_31
set_option maxRecDepth 100000 in
set_option maxHeartbeats 4000000 in
theorem mX11_wireAt (l : Launch) (D : va_G) (cy : Nat → ClassId) (B : Nat) (v0 : Nat) (v1 : Int32) (σ : St) (h0 : kM[v0]? = some 11) {post : Int32 → St → Prop} (h : wX11_wireAt v0 v1 σ post) : Met l yX11_wireAt (Cond.code yX11_wireAt cX11_wireAt 3 (some .int) :: WALL) (rmD 0) (PcW D cy B kM σ [.ref (B + v0), .int v1]) (va_Qi post (BW D cy B kM) (AW B 26)) 0 0 (AW B 26) := by
  refine Met.ofK (cc := cX11_wireAt) (maxL := 3) (ret := (some .int)) (by decide +kernel) rfl kM_len ?_
  intro p e s m below meth c X hP
  obtain ⟨⟨hx, hb, hml, hown, hts⟩, hr, hlk, hK, hN, hZ⟩ := id X
  have hD : ∀ σ, va_D (AW B 26) (wW cy B kM σ) := AW_D kM_len
  have hS : va_S (AW B 26) s.heap s.heap [] := va_S.rf
  have hl := lv_entry ([.ref (B + v0), .int v1]) (n := 3) (Nat.le_of_ble_eq_true rfl)
  rw [lg_entry_eq]
  generalize (lg_sl ([.ref (B + v0), .int v1]) ++ List.replicate (3 - (lg_sl ([.ref (B + v0), .int v1])).length) Slot.unset).toArray = ls at hl ⊢
  have hl : lv_has ls 3 [(0, .ref (B + v0)), (1, .int v1)] := hl
  unfold wX11_wireAt at h
  refine lv_iconst (v := (0 : Int32)) hx hb dX11_wireAt_0 (by decide) ?_
  refine lv_istore_n (lv' := [(2, .int (0 : Int32)), (0, .ref (B + v0)), (1, .int v1)]) hx hb dX11_wireAt_1 rfl hl (by decide) rfl (fun ls hl => ?_)
  obtain ⟨j, h⟩ := h
  exact tX11_wireAt_2 X j _ _ _ _ h0 h _ _ _ hP hS (lv_sub hl [1, 2, 0] rfl)

theorem hd_X11_laysOpen : yX11_laysOpen.cls = RX11 ∧ yX11_laysOpen.cls ≠ "java/lang/invoke/MethodHandle" ∧ yX11_laysOpen.cls ≠ "java/lang/invoke/VarHandle" ∧ (parseMethodDescriptor yX11_laysOpen.desc).map (fun d => d.parameters.length) = some 0 := by decide +kernel
set_option maxRecDepth 100000 in
set_option maxHeartbeats 4000000 in
theorem tX11_laysOpen_19 {p : Program} {l : Launch} {e : Env} {s : State} {m : MethodId} {av : Array Value} {below : List Frame} {meth : Method} {c : Code} {D : va_G} {cy : Nat → ClassId} {B : Nat} (X : kC p s m av meth c cX11_laysOpen 3 none WALL RX11 D cy (AW B 26)) {post : St → Prop} {R7 : Nat → Int32 → St → Prop} (hR7 : ∀ (v0 : Nat) (v1 : Int32) (σ : St), kM[v0]? = some 11 → R7 v0 v1 σ → ∀ (H : Heap) (locs : List Loc) (ls : Array Slot), va_P D vwCl (wW cy B kM σ) H → va_S (AW B 26) s.heap H locs → lv_has ls 3 [(0, .ref (B + v0)), (1, .int v1)] → W p l e (rmD 1) s m av below meth c H locs 0 0 (MQ below (va_Qv post (BW D cy B kM) (AW B 26)) av s 0 0 (AW B 26)) (F0 m 7 ls [])) : ∀ (n : Nat) (v0 : Nat) (v1 : Int32) (v2 : Int32) (σ : St), kM[v0]? = some 11 → wX11_laysOpen_19 post R7 n v0 v1 v2 σ → ∀ (H : Heap) (locs : List Loc) (ls : Array Slot), va_P D vwCl (wW cy B kM σ) H → va_S (AW B 26) s.heap H locs → lv_has ls 3 [(0, .ref (B + v0)), (1, .int v1), (2, .int v2)] → W p l e (rmD 1) s m av below meth c H locs 0 0 (MQ below (va_Qv post (BW D cy B kM) (AW B 26)) av s 0 0 (AW B 26)) (F0 m 19 ls []) := by
  obtain ⟨⟨hx, hb, hml, hown, hts⟩, hr, hlk, hK, hN, hZ⟩ := id X
  have hD : ∀ σ, va_D (AW B 26) (wW cy B kM σ) := AW_D kM_len
  intro n
  induction n with
  | zero => intro v0 v1 v2 σ h0 h; exact absurd h id
  | succ n ih =>
    intro v0 v1 v2 σ h0 h H locs ls hP hS hl
    rw [wX11_laysOpen_19] at h
    refine lv_iload_n hx hb dX11_laysOpen_19 rfl (lv_at hl 2 rfl) ?_
    refine lv_aload_n hx hb dX11_laysOpen_20 rfl (lv_at hl 0 rfl) ?_
    refine lv_iload_n hx hb dX11_laysOpen_21 rfl (lv_at hl 1 rfl) ?_
    refine rk_calli (va_runV (As := [.int v1]) (rest := [.int v2]) X.1 (mX11_legsAt l D cy B v0 v1 σ h0 h) (cwV 1 hts (gW_V (wi_38 _ (List.mem_of_getElem? (i := 15) rfl)) (wi_38 _ (List.mem_of_getElem? (i := 16) rfl)) (wi_38 _ (List.mem_of_getElem? (i := 17) rfl)) (wi_30 _ (List.mem_of_getElem? (i := 9) rfl)) (wi_35 _ (List.mem_of_getElem? (i := 9) rfl))) rfl rfl rfl hd_X11_legsAt ⟨Nat.le_of_ble_eq_true rfl, Nat.le_of_ble_eq_true rfl⟩) (rk_preV X hS hP h0 rfl rfl [.int v1]) rfl rfl hl.1 rfl (lv_room (Nat.le_of_ble_eq_true rfl)) dX11_laysOpen_22 ⟨Nat.zero_le _, Nat.zero_le _⟩) hS (fun _ h => h) (fun r1 s1 H locs h hP hS => ?_)
    refine lv_icmp_ge (tgt := 73) hx hb dX11_laysOpen_25 (by decide) (fun c1 => ?_) (fun c1 => ?_)
    · have h := h.1 c1
      obtain ⟨x1, ex1⟩ : ∃ y : Int32, y = v1 + (1 : Int32) := ⟨_, rfl⟩
      have h := h x1 ex1
      refine lv_iinc (v := x1) (lv' := [(1, .int x1), (0, .ref (B + v0)), (2, .int v2)]) hx hb dX11_laysOpen_73 hl (k := 1) rfl (by rw [ex1]; rfl) (by decide) rfl (fun ls hl => ?_)
      refine lv_goto (tgt := 7) hx hb dX11_laysOpen_76 (by decide) ?_
      exact hR7 _ _ _ h0 h _ _ _ hP hS (lv_sub hl [1, 0] rfl)
    · have h := h.2 c1
      refine lv_aload_n hx hb dX11_laysOpen_28 rfl (lv_at hl 0 rfl) ?_
      refine lv_iconst (v := (4 : Int32)) hx hb dX11_laysOpen_29 (by decide) ?_
      refine lv_iload_n hx hb dX11_laysOpen_30 rfl (lv_at hl 1 rfl) ?_
      refine lv_imul hx hb dX11_laysOpen_31 ?_
      refine lv_iload_n hx hb dX11_laysOpen_32 rfl (lv_at hl 2 rfl) ?_
      refine lv_iadd hx hb dX11_laysOpen_33 ?_
      refine rk_calli (va_runV (As := [.int (((4 : Int32) * v1) + v2)]) (rest := []) X.1 (mX11_wireAt l D cy B v0 (((4 : Int32) * v1) + v2) s1 h0 h) (cwV 1 hts (gW_V (wi_39 _ (List.mem_of_getElem? (i := 1) rfl)) (wi_39 _ (List.mem_of_getElem? (i := 2) rfl)) (wi_39 _ (List.mem_of_getElem? (i := 3) rfl)) (wi_30 _ (List.mem_of_getElem? (i := 9) rfl)) (wi_38 _ (List.mem_of_getElem? (i := 22) rfl))) rfl rfl rfl hd_X11_wireAt ⟨Nat.le_of_ble_eq_true rfl, Nat.le_of_ble_eq_true rfl⟩) (rk_preV X hS hP h0 rfl rfl [.int (((4 : Int32) * v1) + v2)]) rfl rfl hl.1 rfl (lv_room (Nat.le_of_ble_eq_true rfl)) dX11_laysOpen_34 ⟨Nat.zero_le _, Nat.zero_le _⟩) hS (fun _ h => h) (fun r2 s2 H locs h hP hS => ?_)
      refine lv_if_lt (tgt := 43) hx hb dX11_laysOpen_37 (by decide) (fun c2 => ?_) (fun c2 => ?_)
      · have h := h.1 c2
        refine lv_aload_n hx hb dX11_laysOpen_43 rfl (lv_at hl 0 rfl) ?_
        refine rk_get X hP (C := RX11) (T := TX11) (N := 44) (ci := 11) wix_11 h0 rfl rfl 38 (by decide) (wi_29 _ (List.mem_of_getElem? (i := 19) rfl)) rfl rfl dX11_laysOpen_44 ?_
        refine lv_aload_n hx hb dX11_laysOpen_47 rfl (lv_at hl 0 rfl) ?_
        refine rk_get X hP (C := RX11) (T := TX11) (N := 44) (ci := 11) wix_11 h0 rfl rfl 39 (by decide) (wi_39 _ (List.mem_of_getElem? (i := 0) rfl)) rfl rfl dX11_laysOpen_48 ?_
        refine lv_iconst (v := (4 : Int32)) hx hb dX11_laysOpen_51 (by decide) ?_
        refine lv_iload_n hx hb dX11_laysOpen_52 rfl (lv_at hl 1 rfl) ?_
        refine lv_imul hx hb dX11_laysOpen_53 ?_
        refine lv_iload_n hx hb dX11_laysOpen_54 rfl (lv_at hl 2 rfl) ?_
        refine lv_iadd hx hb dX11_laysOpen_55 ?_
        obtain ⟨b1, h⟩ := h
        refine rk_iast X hP hD hS (n := 24) (klM_X11_38 h0) (fun _ _ => rfl) b1 dX11_laysOpen_56 (fun H locs hP hS => ?_)
        obtain ⟨s3, es3⟩ : ∃ z : St, z = u1 s2 (v0 + 22) (s2.1 v0 39).toNatClampNeg (((4 : Int32) * v1) + v2) := ⟨_, rfl⟩
        rw [← es3] at hP
        have h := h s3 es3
        refine lv_aload_n hx hb dX11_laysOpen_57 rfl (lv_at hl 0 rfl) ?_
        refine lv_dup hx hb dX11_laysOpen_58 rfl ?_
        refine rk_get X hP (C := RX11) (T := TX11) (N := 44) (ci := 11) wix_11 h0 rfl rfl 39 (by decide) (wi_39 _ (List.mem_of_getElem? (i := 0) rfl)) rfl rfl dX11_laysOpen_59 ?_
        refine lv_iconst (v := (1 : Int32)) hx hb dX11_laysOpen_62 (by decide) ?_
        refine lv_iadd hx hb dX11_laysOpen_63 ?_
        refine rk_puti X hP hD hS (C := RX11) (T := TX11) (N := 44) (ci := 11) wix_11 h0 rfl rfl tyX11 tyX11_ok nmX11 39 (by decide) (wi_39 _ (List.mem_of_getElem? (i := 0) rfl)) rfl rfl (by decide +kernel) (Nat.le_of_ble_eq_true rfl) rfl dX11_laysOpen_64 (fun H locs hP hS => ?_)
        obtain ⟨s4, es4⟩ : ∃ z : St, z = u1 s3 v0 39 ((s3.1 v0 39) + (1 : Int32)) := ⟨_, rfl⟩
        rw [← es4] at hP
        have h := h s4 es4
        obtain ⟨x2, ex2⟩ : ∃ y : Int32, y = v2 + (1 : Int32) := ⟨_, rfl⟩
        have h := h x2 ex2
        refine lv_iinc (v := x2) (lv' := [(2, .int x2), (0, .ref (B + v0)), (1, .int v1)]) hx hb dX11_laysOpen_67 hl (k := 2) rfl (by rw [ex2]; rfl) (by decide) rfl (fun ls hl => ?_)
        refine lv_goto (tgt := 19) hx hb dX11_laysOpen_70 (by decide) ?_
        exact ih _ _ _ _ h0 h _ _ _ hP hS (lv_sub hl [1, 2, 0] rfl)
      · have h := h.2 c2
        refine lv_goto (tgt := 67) hx hb dX11_laysOpen_40 (by decide) ?_
        obtain ⟨x3, ex3⟩ : ∃ y : Int32, y = v2 + (1 : Int32) := ⟨_, rfl⟩
        have h := h x3 ex3
        refine lv_iinc (v := x3) (lv' := [(2, .int x3), (0, .ref (B + v0)), (1, .int v1)]) hx hb dX11_laysOpen_67 hl (k := 2) rfl (by rw [ex3]; rfl) (by decide) rfl (fun ls hl => ?_)
        refine lv_goto (tgt := 19) hx hb dX11_laysOpen_70 (by decide) ?_
        exact ih _ _ _ _ h0 h _ _ _ hP hS (lv_sub hl [1, 2, 0] rfl)
set_option maxRecDepth 100000 in
set_option maxHeartbeats 4000000 in
theorem tX11_laysOpen_7 {p : Program} {l : Launch} {e : Env} {s : State} {m : MethodId} {av : Array Value} {below : List Frame} {meth : Method} {c : Code} {D : va_G} {cy : Nat → ClassId} {B : Nat} (X : kC p s m av meth c cX11_laysOpen 3 none WALL RX11 D cy (AW B 26)) {post : St → Prop} : ∀ (n : Nat) (v0 : Nat) (v1 : Int32) (σ : St), kM[v0]? = some 11 → wX11_laysOpen_7 post n v0 v1 σ → ∀ (H : Heap) (locs : List Loc) (ls : Array Slot), va_P D vwCl (wW cy B kM σ) H → va_S (AW B 26) s.heap H locs → lv_has ls 3 [(0, .ref (B + v0)), (1, .int v1)] → W p l e (rmD 1) s m av below meth c H locs 0 0 (MQ below (va_Qv post (BW D cy B kM) (AW B 26)) av s 0 0 (AW B 26)) (F0 m 7 ls []) := by
  obtain ⟨⟨hx, hb, hml, hown, hts⟩, hr, hlk, hK, hN, hZ⟩ := id X
  have hD : ∀ σ, va_D (AW B 26) (wW cy B kM σ) := AW_D kM_len
  intro n
  induction n with
  | zero => intro v0 v1 σ h0 h; exact absurd h id
  | succ n ih =>
    intro v0 v1 σ h0 h H locs ls hP hS hl
    rw [wX11_laysOpen_7] at h
    refine lv_iload_n hx hb dX11_laysOpen_7 rfl (lv_at hl 1 rfl) ?_
    refine lv_aload_n hx hb dX11_laysOpen_8 rfl (lv_at hl 0 rfl) ?_
    refine rk_get X hP (C := RX11) (T := TX11) (N := 44) (ci := 11) wix_11 h0 rfl rfl 16 (by decide) (wi_29 _ (List.mem_of_getElem? (i := 1) rfl)) rfl rfl dX11_laysOpen_9 ?_
    refine lv_iconst (v := (0 : Int32)) hx hb dX11_laysOpen_12 (by decide) ?_
    have b1 : vp_in (0 : Int32) 2 := by unfold vp_in; decide
    refine rk_iald X hP (n := 2) (klM_X11_16 h0) (fun _ _ => rfl) b1 dX11_laysOpen_13 ?_
    refine lv_icmp_ge (tgt := 79) hx hb dX11_laysOpen_14 (by decide) (fun c1 => ?_) (fun c1 => ?_)
    · have h := h.1 c1
      exact rk_vret X kM_len h hP hS dX11_laysOpen_79
    · have h := h.2 c1
      refine lv_iconst (v := (0 : Int32)) hx hb dX11_laysOpen_17 (by decide) ?_
      refine lv_istore_n (lv' := [(2, .int (0 : Int32)), (0, .ref (B + v0)), (1, .int v1)]) hx hb dX11_laysOpen_18 rfl hl (by decide) rfl (fun ls hl => ?_)
      obtain ⟨j, h⟩ := h
      exact tX11_laysOpen_19 X ih j _ _ _ _ h0 h _ _ _ hP hS (lv_sub hl [1, 2, 0] rfl)
set_option maxRecDepth 100000 in
set_option maxHeartbeats 4000000 in
theorem mX11_laysOpen (l : Launch) (D : va_G) (cy : Nat → ClassId) (B : Nat) (v0 : Nat) (σ : St) (h0 : kM[v0]? = some 11) {post : St → Prop} (h : wX11_laysOpen v0 σ post) : Met l yX11_laysOpen (Cond.code yX11_laysOpen cX11_laysOpen 3 none :: WALL) (rmD 1) (PcW D cy B kM σ [.ref (B + v0)]) (va_Qv post (BW D cy B kM) (AW B 26)) 0 0 (AW B 26) := by
  refine Met.ofK (cc := cX11_laysOpen) (maxL := 3) (ret := none) (by decide +kernel) rfl kM_len ?_
  intro p e s m below meth c X hP
  obtain ⟨⟨hx, hb, hml, hown, hts⟩, hr, hlk, hK, hN, hZ⟩ := id X
  have hD : ∀ σ, va_D (AW B 26) (wW cy B kM σ) := AW_D kM_len
  have hS : va_S (AW B 26) s.heap s.heap [] := va_S.rf
  have hl := lv_entry ([.ref (B + v0)]) (n := 3) (Nat.le_of_ble_eq_true rfl)
  rw [lg_entry_eq]
  generalize (lg_sl ([.ref (B + v0)]) ++ List.replicate (3 - (lg_sl ([.ref (B + v0)])).length) Slot.unset).toArray = ls at hl ⊢
  have hl : lv_has ls 3 [(0, .ref (B + v0))] := hl
  unfold wX11_laysOpen at h
  refine lv_aload_n hx hb dX11_laysOpen_0 rfl (lv_at hl 0 rfl) ?_
  refine lv_iconst (v := (0 : Int32)) hx hb dX11_laysOpen_1 (by decide) ?_
  refine rk_puti X hP hD hS (C := RX11) (T := TX11) (N := 44) (ci := 11) wix_11 h0 rfl rfl tyX11 tyX11_ok nmX11 39 (by decide) (wi_39 _ (List.mem_of_getElem? (i := 0) rfl)) rfl rfl (by decide +kernel) (Nat.le_of_ble_eq_true rfl) rfl dX11_laysOpen_2 (fun H locs hP hS => ?_)
  obtain ⟨s1, es1⟩ : ∃ z : St, z = u1 σ v0 39 (0 : Int32) := ⟨_, rfl⟩
  rw [← es1] at hP
  have h := h s1 es1
  refine lv_iconst (v := (0 : Int32)) hx hb dX11_laysOpen_5 (by decide) ?_
  refine lv_istore_n (lv' := [(1, .int (0 : Int32)), (0, .ref (B + v0))]) hx hb dX11_laysOpen_6 rfl hl (by decide) rfl (fun ls hl => ?_)
  obtain ⟨j, h⟩ := h
  exact tX11_laysOpen_7 X j _ _ _ h0 h _ _ _ hP hS (lv_sub hl [1, 0] rfl)

theorem hd_X11_open : yX11_open.cls = RX11 ∧ yX11_open.cls ≠ "java/lang/invoke/MethodHandle" ∧ yX11_open.cls ≠ "java/lang/invoke/VarHandle" ∧ (parseMethodDescriptor yX11_open.desc).map (fun d => d.parameters.length) = some 1 := by decide +kernel
set_option maxRecDepth 100000 in
set_option maxHeartbeats 4000000 in
theorem mX11_open (l : Launch) (D : va_G) (cy : Nat → ClassId) (B : Nat) (v0 : Nat) (v1 : Int32) (σ : St) (h0 : kM[v0]? = some 11) {post : Int32 → St → Prop} (h : wX11_open v0 v1 σ post) : Met l yX11_open (Cond.code yX11_open cX11_open 2 (some .int) :: WALL) (rmD 2) (PcW D cy B kM σ [.ref (B + v0), .int v1]) (va_Qi post (BW D cy B kM) (AW B 26)) 0 0 (AW B 26) := by
  refine Met.ofK (cc := cX11_open) (maxL := 2) (ret := (some .int)) (by decide +kernel) rfl kM_len ?_
  intro p e s m below meth c X hP
  obtain ⟨⟨hx, hb, hml, hown, hts⟩, hr, hlk, hK, hN, hZ⟩ := id X
  have hD : ∀ σ, va_D (AW B 26) (wW cy B kM σ) := AW_D kM_len
  have hS : va_S (AW B 26) s.heap s.heap [] := va_S.rf
  have hl := lv_entry ([.ref (B + v0), .int v1]) (n := 2) (Nat.le_of_ble_eq_true rfl)
  rw [lg_entry_eq]
  generalize (lg_sl ([.ref (B + v0), .int v1]) ++ List.replicate (2 - (lg_sl ([.ref (B + v0), .int v1])).length) Slot.unset).toArray = ls at hl ⊢
  have hl : lv_has ls 2 [(0, .ref (B + v0)), (1, .int v1)] := hl
  unfold wX11_open at h
  refine lv_aload_n hx hb dX11_open_0 rfl (lv_at hl 0 rfl) ?_
  refine lv_iconst (v := (0 : Int32)) hx hb dX11_open_1 (by decide) ?_
  refine rk_puti X hP hD hS (C := RX11) (T := TX11) (N := 44) (ci := 11) wix_11 h0 rfl rfl tyX11 tyX11_ok nmX11 0 (by decide) (wi_30 _ (List.mem_of_getElem? (i := 1) rfl)) rfl rfl (by decide +kernel) (Nat.le_of_ble_eq_true rfl) rfl dX11_open_2 (fun H locs hP hS => ?_)
  obtain ⟨s1, es1⟩ : ∃ z : St, z = u1 σ v0 0 (0 : Int32) := ⟨_, rfl⟩
  rw [← es1] at hP
  have h := h s1 es1
  refine lv_aload_n hx hb dX11_open_5 rfl (lv_at hl 0 rfl) ?_
  refine rk_callv (va_runV (As := []) (rest := []) X.1 (mX11_laysOpen l D cy B v0 s1 h0 h) (cwV 0 hts (gW_V (wi_39 _ (List.mem_of_getElem? (i := 5) rfl)) (wi_39 _ (List.mem_of_getElem? (i := 6) rfl)) (wi_39 _ (List.mem_of_getElem? (i := 7) rfl)) (wi_30 _ (List.mem_of_getElem? (i := 9) rfl)) (wi_38 _ (List.mem_of_getElem? (i := 23) rfl))) rfl rfl rfl hd_X11_laysOpen ⟨Nat.le_of_ble_eq_true rfl, Nat.le_of_ble_eq_true rfl⟩) (rk_preV X hS hP h0 rfl rfl []) rfl rfl hl.1 rfl (lv_room (Nat.le_of_ble_eq_true rfl)) dX11_open_6 ⟨Nat.zero_le _, Nat.zero_le _⟩) hS (fun _ h => h) (fun s2 H locs h hP hS => ?_)
  refine lv_iload_n hx hb dX11_open_9 rfl (lv_at hl 1 rfl) ?_
  refine lv_iconst (v := (-1 : Int32)) hx hb dX11_open_10 (by decide) ?_
  refine lv_icmp_ne (tgt := 21) hx hb dX11_open_11 (by decide) (fun c1 => ?_) (fun c1 => ?_)
  · have h := h.1 c1
    refine lv_iload_n hx hb dX11_open_21 rfl (lv_at hl 1 rfl) ?_
    refine lv_i2l hx hb dX11_open_22 rfl ?_
    refine lv_lconst (v := (0 : Int64)) hx hb dX11_open_23 (by decide) ?_
    refine lv_aload_n hx hb dX11_open_24 rfl (lv_at hl 0 rfl) ?_
    refine rk_get X hP (C := RX11) (T := TX11) (N := 44) (ci := 11) wix_11 h0 rfl rfl 39 (by decide) (wi_39 _ (List.mem_of_getElem? (i := 0) rfl)) rfl rfl dX11_open_25 ?_
    refine lv_iconst (v := (1 : Int32)) hx hb dX11_open_28 (by decide) ?_
    refine lv_isub hx hb dX11_open_29 ?_
    refine lv_i2l hx hb dX11_open_30 rfl ?_
    refine rk_callz (va_runS (As := [.long (v1.toInt64), .long (0 : Int64), .long (((s2.1 v0 39) - (1 : Int32)).toInt64)]) (rest := []) X.1 (mX11_within l D cy B (v1.toInt64) (0 : Int64) (((s2.1 v0 39) - (1 : Int32)).toInt64) s2 h) (va_cwS 3 hts (gW_S (wi_31 _ (List.mem_of_getElem? (i := 2) rfl)) (wi_31 _ (List.mem_of_getElem? (i := 3) rfl)) (wi_30 _ (List.mem_of_getElem? (i := 9) rfl)) (wi_30 _ (List.mem_of_getElem? (i := 2) rfl))) rfl rfl rfl hd_X11_within ⟨Nat.le_of_ble_eq_true rfl, Nat.le_of_ble_eq_true rfl⟩) (rk_preS X hS hP [.long (v1.toInt64), .long (0 : Int64), .long (((s2.1 v0 39) - (1 : Int32)).toInt64)]) rfl rfl hl.1 rfl (lv_room (Nat.le_of_ble_eq_true rfl)) dX11_open_31 ⟨Nat.zero_le _, Nat.zero_le _⟩) hS (fun _ h => h) (fun r1 s3 H locs h hP hS => ?_)
    refine lv_if_eq (tgt := 60) hx hb dX11_open_34 (by decide) (fun c2 => ?_) (fun c2 => ?_)
    · have h := h.1 (b2i_f c2)
      refine lv_bipush (v := (-2 : Int32)) hx hb dX11_open_60 (by decide) ?_
      exact rk_iret X rfl kM_len h hP hS dX11_open_62
    · have h := h.2 (b2i_t c2)
      refine lv_aload_n hx hb dX11_open_37 rfl (lv_at hl 0 rfl) ?_
      refine rk_get X hP (C := RX11) (T := TX11) (N := 44) (ci := 11) wix_11 h0 rfl rfl 38 (by decide) (wi_29 _ (List.mem_of_getElem? (i := 19) rfl)) rfl rfl dX11_open_38 ?_
      refine lv_iload_n hx hb dX11_open_41 rfl (lv_at hl 1 rfl) ?_
      obtain ⟨b1, h⟩ := h
      refine rk_iald X hP (n := 24) (klM_X11_38 h0) (fun _ _ => rfl) b1 dX11_open_42 ?_
      refine lv_iconst (v := (4 : Int32)) hx hb dX11_open_43 (by decide) ?_
      refine lv_idiv hx hb dX11_open_44 (by decide) ?_
      refine lv_bipush (v := (10 : Int32)) hx hb dX11_open_45 (by decide) ?_
      refine lv_imul hx hb dX11_open_47 ?_
      refine lv_aload_n hx hb dX11_open_48 rfl (lv_at hl 0 rfl) ?_
      refine rk_get X hP (C := RX11) (T := TX11) (N := 44) (ci := 11) wix_11 h0 rfl rfl 38 (by decide) (wi_29 _ (List.mem_of_getElem? (i := 19) rfl)) rfl rfl dX11_open_49 ?_
      refine lv_iload_n hx hb dX11_open_52 rfl (lv_at hl 1 rfl) ?_
      obtain ⟨b2, h⟩ := h
      refine rk_iald X hP (n := 24) (klM_X11_38 h0) (fun _ _ => rfl) b2 dX11_open_53 ?_
      refine lv_iconst (v := (4 : Int32)) hx hb dX11_open_54 (by decide) ?_
      refine lv_irem hx hb dX11_open_55 (by decide) ?_
      refine lv_iadd hx hb dX11_open_56 ?_
      refine lv_goto (tgt := 62) hx hb dX11_open_57 (by decide) ?_
      exact rk_iret X rfl kM_len h hP hS dX11_open_62
  · have h := h.2 c1
    refine lv_aload_n hx hb dX11_open_14 rfl (lv_at hl 0 rfl) ?_
    refine rk_get X hP (C := RX11) (T := TX11) (N := 44) (ci := 11) wix_11 h0 rfl rfl 39 (by decide) (wi_39 _ (List.mem_of_getElem? (i := 0) rfl)) rfl rfl dX11_open_15 ?_
    refine lv_goto (tgt := 62) hx hb dX11_open_18 (by decide) ?_
    exact rk_iret X rfl kM_len h hP hS dX11_open_62

theorem hd_X11_setsWires : yX11_setsWires.cls = RX11 ∧ yX11_setsWires.cls ≠ "java/lang/invoke/MethodHandle" ∧ yX11_setsWires.cls ≠ "java/lang/invoke/VarHandle" ∧ (parseMethodDescriptor yX11_setsWires.desc).map (fun d => d.parameters.length) = some 1 := by decide +kernel
set_option maxRecDepth 100000 in
set_option maxHeartbeats 4000000 in
theorem tX11_setsWires_2 {p : Program} {l : Launch} {e : Env} {s : State} {m : MethodId} {av : Array Value} {below : List Frame} {meth : Method} {c : Code} {D : va_G} {cy : Nat → ClassId} {B : Nat} (X : kC p s m av meth c cX11_setsWires 3 none WALL RX11 D cy (AW B 26)) {post : St → Prop} : ∀ (n : Nat) (v0 : Nat) (v1 : Int32) (v2 : Int32) (σ : St), kM[v0]? = some 11 → wX11_setsWires_2 post n v0 v1 v2 σ → ∀ (H : Heap) (locs : List Loc) (ls : Array Slot), va_P D vwCl (wW cy B kM σ) H → va_S (AW B 26) s.heap H locs → lv_has ls 3 [(0, .ref (B + v0)), (1, .int v1), (2, .int v2)] → W p l e (rmD 0) s m av below meth c H locs 0 0 (MQ below (va_Qv post (BW D cy B kM) (AW B 26)) av s 0 0 (AW B 26)) (F0 m 2 ls []) := by
  obtain ⟨⟨hx, hb, hml, hown, hts⟩, hr, hlk, hK, hN, hZ⟩ := id X
  have hD : ∀ σ, va_D (AW B 26) (wW cy B kM σ) := AW_D kM_len
  intro n
  induction n with
  | zero => intro v0 v1 v2 σ h0 h; exact absurd h id
  | succ n ih =>
    intro v0 v1 v2 σ h0 h H locs ls hP hS hl
    rw [wX11_setsWires_2] at h
    refine lv_iload_n hx hb dX11_setsWires_2 rfl (lv_at hl 2 rfl) ?_
    refine lv_aload_n hx hb dX11_setsWires_3 rfl (lv_at hl 0 rfl) ?_
    refine rk_get X hP (C := RX11) (T := TX11) (N := 44) (ci := 11) wix_11 h0 rfl rfl 30 (by decide) (wi_29 _ (List.mem_of_getElem? (i := 13) rfl)) rfl rfl dX11_setsWires_4 ?_
    refine lv_bipush (v := (116 : Int32)) hx hb dX11_setsWires_7 (by decide) ?_
    have b1 : vp_in (116 : Int32) 117 := by unfold vp_in; decide
    refine rk_iald X hP (n := 117) (klM_X11_30 h0) (fun _ _ => rfl) b1 dX11_setsWires_9 ?_
    refine lv_icmp_ge (tgt := 63) hx hb dX11_setsWires_10 (by decide) (fun c1 => ?_) (fun c1 => ?_)
    · have h := h.1 c1
      exact rk_vret X kM_len h hP hS dX11_setsWires_63
    · have h := h.2 c1
      refine lv_aload_n hx hb dX11_setsWires_13 rfl (lv_at hl 0 rfl) ?_
      refine rk_get X hP (C := RX11) (T := TX11) (N := 44) (ci := 11) wix_11 h0 rfl rfl 40 (by decide) (wi_29 _ (List.mem_of_getElem? (i := 20) rfl)) rfl rfl dX11_setsWires_14 ?_
      refine lv_aload_n hx hb dX11_setsWires_17 rfl (lv_at hl 0 rfl) ?_
      refine rk_get X hP (C := RX11) (T := TX11) (N := 44) (ci := 11) wix_11 h0 rfl rfl 30 (by decide) (wi_29 _ (List.mem_of_getElem? (i := 13) rfl)) rfl rfl dX11_setsWires_18 ?_
      refine lv_bipush (v := (96 : Int32)) hx hb dX11_setsWires_21 (by decide) ?_
      refine lv_iconst (v := (2 : Int32)) hx hb dX11_setsWires_23 (by decide) ?_
      refine lv_iload_n hx hb dX11_setsWires_24 rfl (lv_at hl 2 rfl) ?_
      refine lv_imul hx hb dX11_setsWires_25 ?_
      refine lv_iadd hx hb dX11_setsWires_26 ?_
      refine lv_topi (fun x1 ex1 => ?_)
      have h := h x1 ex1
      obtain ⟨b2, h⟩ := h
      refine rk_iald X hP (n := 117) (klM_X11_30 h0) (fun _ _ => rfl) b2 dX11_setsWires_27 ?_
      refine lv_iload_n hx hb dX11_setsWires_28 rfl (lv_at hl 1 rfl) ?_
      refine lv_iload_n hx hb dX11_setsWires_29 rfl (lv_at hl 2 rfl) ?_
      refine lv_ishr hx hb dX11_setsWires_30 ?_
      refine lv_iconst (v := (1 : Int32)) hx hb dX11_setsWires_31 (by decide) ?_
      refine lv_iand hx hb dX11_setsWires_32 ?_
      obtain ⟨b3, h⟩ := h
      refine rk_iast X hP hD hS (n := 24) (klM_X11_40 h0) (fun _ _ => rfl) b3 dX11_setsWires_33 (fun H locs hP hS => ?_)
      obtain ⟨s1, es1⟩ : ∃ z : St, z = u1 σ (v0 + 23) (σ.1 (v0 + 16) x1.toNatClampNeg).toNatClampNeg ((v1 >>> (v2 &&& 31)) &&& (1 : Int32)) := ⟨_, rfl⟩
      rw [← es1] at hP
      have h := h s1 es1
      refine lv_aload_n hx hb dX11_setsWires_34 rfl (lv_at hl 0 rfl) ?_
      refine rk_get X hP (C := RX11) (T := TX11) (N := 44) (ci := 11) wix_11 h0 rfl rfl 40 (by decide) (wi_29 _ (List.mem_of_getElem? (i := 20) rfl)) rfl rfl dX11_setsWires_35 ?_
      refine lv_aload_n hx hb dX11_setsWires_38 rfl (lv_at hl 0 rfl) ?_
      refine rk_get X hP (C := RX11) (T := TX11) (N := 44) (ci := 11) wix_11 h0 rfl rfl 30 (by decide) (wi_29 _ (List.mem_of_getElem? (i := 13) rfl)) rfl rfl dX11_setsWires_39 ?_
      refine lv_bipush (v := (96 : Int32)) hx hb dX11_setsWires_42 (by decide) ?_
      refine lv_iconst (v := (2 : Int32)) hx hb dX11_setsWires_44 (by decide) ?_
      refine lv_iload_n hx hb dX11_setsWires_45 rfl (lv_at hl 2 rfl) ?_
      refine lv_imul hx hb dX11_setsWires_46 ?_
      refine lv_iadd hx hb dX11_setsWires_47 ?_
      refine lv_iconst (v := (1 : Int32)) hx hb dX11_setsWires_48 (by decide) ?_
      refine lv_iadd hx hb dX11_setsWires_49 ?_
      refine lv_topi (fun x2 ex2 => ?_)
      have h := h x2 ex2
      obtain ⟨b4, h⟩ := h
      refine rk_iald X hP (n := 117) (klM_X11_30 h0) (fun _ _ => rfl) b4 dX11_setsWires_50 ?_
      refine lv_iload_n hx hb dX11_setsWires_51 rfl (lv_at hl 1 rfl) ?_
      refine lv_iload_n hx hb dX11_setsWires_52 rfl (lv_at hl 2 rfl) ?_
      refine lv_ishr hx hb dX11_setsWires_53 ?_
      refine lv_iconst (v := (1 : Int32)) hx hb dX11_setsWires_54 (by decide) ?_
      refine lv_iand hx hb dX11_setsWires_55 ?_
      obtain ⟨b5, h⟩ := h
      refine rk_iast X hP hD hS (n := 24) (klM_X11_40 h0) (fun _ _ => rfl) b5 dX11_setsWires_56 (fun H locs hP hS => ?_)
      obtain ⟨s2, es2⟩ : ∃ z : St, z = u1 s1 (v0 + 23) (s1.1 (v0 + 16) x2.toNatClampNeg).toNatClampNeg ((v1 >>> (v2 &&& 31)) &&& (1 : Int32)) := ⟨_, rfl⟩
      rw [← es2] at hP
      have h := h s2 es2
      obtain ⟨x3, ex3⟩ : ∃ y : Int32, y = v2 + (1 : Int32) := ⟨_, rfl⟩
      have h := h x3 ex3
      refine lv_iinc (v := x3) (lv' := [(2, .int x3), (0, .ref (B + v0)), (1, .int v1)]) hx hb dX11_setsWires_57 hl (k := 2) rfl (by rw [ex3]; rfl) (by decide) rfl (fun ls hl => ?_)
      refine lv_goto (tgt := 2) hx hb dX11_setsWires_60 (by decide) ?_
      exact ih _ _ _ _ h0 h _ _ _ hP hS (lv_sub hl [1, 2, 0] rfl)
set_option maxRecDepth 100000 in
set_option maxHeartbeats 4000000 in
theorem mX11_setsWires (l : Launch) (D : va_G) (cy : Nat → ClassId) (B : Nat) (v0 : Nat) (v1 : Int32) (σ : St) (h0 : kM[v0]? = some 11) {post : St → Prop} (h : wX11_setsWires v0 v1 σ post) : Met l yX11_setsWires (Cond.code yX11_setsWires cX11_setsWires 3 none :: WALL) (rmD 0) (PcW D cy B kM σ [.ref (B + v0), .int v1]) (va_Qv post (BW D cy B kM) (AW B 26)) 0 0 (AW B 26) := by
  refine Met.ofK (cc := cX11_setsWires) (maxL := 3) (ret := none) (by decide +kernel) rfl kM_len ?_
  intro p e s m below meth c X hP
  obtain ⟨⟨hx, hb, hml, hown, hts⟩, hr, hlk, hK, hN, hZ⟩ := id X
  have hD : ∀ σ, va_D (AW B 26) (wW cy B kM σ) := AW_D kM_len
  have hS : va_S (AW B 26) s.heap s.heap [] := va_S.rf
  have hl := lv_entry ([.ref (B + v0), .int v1]) (n := 3) (Nat.le_of_ble_eq_true rfl)
  rw [lg_entry_eq]
  generalize (lg_sl ([.ref (B + v0), .int v1]) ++ List.replicate (3 - (lg_sl ([.ref (B + v0), .int v1])).length) Slot.unset).toArray = ls at hl ⊢
  have hl : lv_has ls 3 [(0, .ref (B + v0)), (1, .int v1)] := hl
  unfold wX11_setsWires at h
  refine lv_iconst (v := (0 : Int32)) hx hb dX11_setsWires_0 (by decide) ?_
  refine lv_istore_n (lv' := [(2, .int (0 : Int32)), (0, .ref (B + v0)), (1, .int v1)]) hx hb dX11_setsWires_1 rfl hl (by decide) rfl (fun ls hl => ?_)
  obtain ⟨j, h⟩ := h
  exact tX11_setsWires_2 X j _ _ _ _ h0 h _ _ _ hP hS (lv_sub hl [1, 2, 0] rfl)

theorem hd_X11_valueOf : yX11_valueOf.cls = RX11 ∧ yX11_valueOf.cls ≠ "java/lang/invoke/MethodHandle" ∧ yX11_valueOf.cls ≠ "java/lang/invoke/VarHandle" ∧ (parseMethodDescriptor yX11_valueOf.desc).map (fun d => d.parameters.length) = some 1 := by decide +kernel
set_option maxRecDepth 100000 in
set_option maxHeartbeats 4000000 in
theorem tX11_valueOf_103 {p : Program} {l : Launch} {e : Env} {s : State} {m : MethodId} {av : Array Value} {below : List Frame} {meth : Method} {c : Code} {D : va_G} {cy : Nat → ClassId} {B : Nat} (X : kC p s m av meth c cX11_valueOf 6 (some .int) WALL RX11 D cy (AW B 26)) {post : Int32 → St → Prop} {R4 : Nat → Int32 → Int32 → Int32 → St → Prop} (hR4 : ∀ (v0 : Nat) (v1 : Int32) (v2 : Int32) (v3 : Int32) (σ : St), kM[v0]? = some 11 → R4 v0 v1 v2 v3 σ → ∀ (H : Heap) (locs : List Loc) (ls : Array Slot), va_P D vwCl (wW cy B kM σ) H → va_S (AW B 26) s.heap H locs → lv_has ls 6 [(0, .ref (B + v0)), (1, .int v1), (2, .int v2), (3, .int v3)] → W p l e (rmD 1) s m av below meth c H locs 0 0 (MQ below (va_Qi post (BW D cy B kM) (AW B 26)) av s 0 0 (AW B 26)) (F0 m 4 ls [])) : ∀ (v0 : Nat) (v1 : Int32) (v3 : Int32) (t0 : Int32) (t1 : Int32) (σ : St), kM[v0]? = some 11 → wX11_valueOf_103 post R4 v0 v1 v3 t0 t1 σ → ∀ (H : Heap) (locs : List Loc) (ls : Array Slot), va_P D vwCl (wW cy B kM σ) H → va_S (AW B 26) s.heap H locs → lv_has ls 6 [(0, .ref (B + v0)), (1, .int v1), (3, .int v3)] → W p l e (rmD 1) s m av below meth c H locs 0 0 (MQ below (va_Qi post (BW D cy B kM) (AW B 26)) av s 0 0 (AW B 26)) (F0 m 103 ls [.int t1, .int t0]) := by
  obtain ⟨⟨hx, hb, hml, hown, hts⟩, hr, hlk, hK, hN, hZ⟩ := id X
  have hD : ∀ σ, va_D (AW B 26) (wW cy B kM σ) := AW_D kM_len
  intro v0 v1 v3 t0 t1 σ h0 h H locs ls hP hS hl
  unfold wX11_valueOf_103 at h
  refine lv_iadd hx hb dX11_valueOf_103 ?_
  refine lv_topi (fun x1 ex1 => ?_)
  have h := h x1 ex1
  refine lv_istore_n (lv' := [(2, .int x1), (0, .ref (B + v0)), (1, .int v1), (3, .int v3)]) hx hb dX11_valueOf_104 rfl hl (by decide) rfl (fun ls hl => ?_)
  obtain ⟨x2, ex2⟩ : ∃ y : Int32, y = v3 + (1 : Int32) := ⟨_, rfl⟩
  have h := h x2 ex2
  refine lv_iinc (v := x2) (lv' := [(3, .int x2), (2, .int x1), (0, .ref (B + v0)), (1, .int v1)]) hx hb dX11_valueOf_105 hl (k := 3) rfl (by rw [ex2]; rfl) (by decide) rfl (fun ls hl => ?_)
  refine lv_goto (tgt := 4) hx hb dX11_valueOf_108 (by decide) ?_
  exact hR4 _ _ _ _ _ h0 h _ _ _ hP hS (lv_sub hl [2, 3, 1, 0] rfl)
set_option maxRecDepth 100000 in
set_option maxHeartbeats 4000000 in
theorem tX11_valueOf_73 {p : Program} {l : Launch} {e : Env} {s : State} {m : MethodId} {av : Array Value} {below : List Frame} {meth : Method} {c : Code} {D : va_G} {cy : Nat → ClassId} {B : Nat} (X : kC p s m av meth c cX11_valueOf 6 (some .int) WALL RX11 D cy (AW B 26)) {post : Int32 → St → Prop} {R4 : Nat → Int32 → Int32 → Int32 → St → Prop} (hR4 : ∀ (v0 : Nat) (v1 : Int32) (v2 : Int32) (v3 : Int32) (σ : St), kM[v0]? = some 11 → R4 v0 v1 v2 v3 σ → ∀ (H : Heap) (locs : List Loc) (ls : Array Slot), va_P D vwCl (wW cy B kM σ) H → va_S (AW B 26) s.heap H locs → lv_has ls 6 [(0, .ref (B + v0)), (1, .int v1), (2, .int v2), (3, .int v3)] → W p l e (rmD 1) s m av below meth c H locs 0 0 (MQ below (va_Qi post (BW D cy B kM) (AW B 26)) av s 0 0 (AW B 26)) (F0 m 4 ls [])) {R21 : Nat → Int32 → Int32 → Int32 → Int32 → Int32 → St → Prop} (hR21 : ∀ (v0 : Nat) (v1 : Int32) (v2 : Int32) (v3 : Int32) (v4 : Int32) (v5 : Int32) (σ : St), kM[v0]? = some 11 → R21 v0 v1 v2 v3 v4 v5 σ → ∀ (H : Heap) (locs : List Loc) (ls : Array Slot), va_P D vwCl (wW cy B kM σ) H → va_S (AW B 26) s.heap H locs → lv_has ls 6 [(0, .ref (B + v0)), (1, .int v1), (2, .int v2), (3, .int v3), (4, .int v4), (5, .int v5)] → W p l e (rmD 1) s m av below meth c H locs 0 0 (MQ below (va_Qi post (BW D cy B kM) (AW B 26)) av s 0 0 (AW B 26)) (F0 m 21 ls [])) : ∀ (v0 : Nat) (v1 : Int32) (v2 : Int32) (v3 : Int32) (v5 : Int32) (t0 : Int32) (t1 : Int32) (σ : St), kM[v0]? = some 11 → wX11_valueOf_73 post R4 R21 v0 v1 v2 v3 v5 t0 t1 σ → ∀ (H : Heap) (locs : List Loc) (ls : Array Slot), va_P D vwCl (wW cy B kM σ) H → va_S (AW B 26) s.heap H locs → lv_has ls 6 [(0, .ref (B + v0)), (1, .int v1), (2, .int v2), (3, .int v3), (5, .int v5)] → W p l e (rmD 1) s m av below meth c H locs 0 0 (MQ below (va_Qi post (BW D cy B kM) (AW B 26)) av s 0 0 (AW B 26)) (F0 m 73 ls [.int t1, .int t0]) := by
  obtain ⟨⟨hx, hb, hml, hown, hts⟩, hr, hlk, hK, hN, hZ⟩ := id X
  have hD : ∀ σ, va_D (AW B 26) (wW cy B kM σ) := AW_D kM_len
  intro v0 v1 v2 v3 v5 t0 t1 σ h0 h H locs ls hP hS hl
  unfold wX11_valueOf_73 at h
  refine lv_iand hx hb dX11_valueOf_73 ?_
  refine lv_topi (fun x1 ex1 => ?_)
  have h := h x1 ex1
  refine lv_istore (lv' := [(4, .int x1), (0, .ref (B + v0)), (1, .int v1), (2, .int v2), (3, .int v3), (5, .int v5)]) hx hb dX11_valueOf_74 hl (by decide) rfl (fun ls hl => ?_)
  obtain ⟨x2, ex2⟩ : ∃ y : Int32, y = v5 + (1 : Int32) := ⟨_, rfl⟩
  have h := h x2 ex2
  refine lv_iinc (v := x2) (lv' := [(5, .int x2), (4, .int x1), (0, .ref (B + v0)), (1, .int v1), (2, .int v2), (3, .int v3)]) hx hb dX11_valueOf_76 hl (k := 5) rfl (by rw [ex2]; rfl) (by decide) rfl (fun ls hl => ?_)
  refine lv_goto (tgt := 21) hx hb dX11_valueOf_79 (by decide) ?_
  exact hR21 _ _ _ _ _ _ _ h0 h _ _ _ hP hS (lv_sub hl [2, 3, 4, 5, 1, 0] rfl)
set_option maxRecDepth 100000 in
set_option maxHeartbeats 4000000 in
theorem tX11_valueOf_68 {p : Program} {l : Launch} {e : Env} {s : State} {m : MethodId} {av : Array Value} {below : List Frame} {meth : Method} {c : Code} {D : va_G} {cy : Nat → ClassId} {B : Nat} (X : kC p s m av meth c cX11_valueOf 6 (some .int) WALL RX11 D cy (AW B 26)) {post : Int32 → St → Prop} {R4 : Nat → Int32 → Int32 → Int32 → St → Prop} (hR4 : ∀ (v0 : Nat) (v1 : Int32) (v2 : Int32) (v3 : Int32) (σ : St), kM[v0]? = some 11 → R4 v0 v1 v2 v3 σ → ∀ (H : Heap) (locs : List Loc) (ls : Array Slot), va_P D vwCl (wW cy B kM σ) H → va_S (AW B 26) s.heap H locs → lv_has ls 6 [(0, .ref (B + v0)), (1, .int v1), (2, .int v2), (3, .int v3)] → W p l e (rmD 1) s m av below meth c H locs 0 0 (MQ below (va_Qi post (BW D cy B kM) (AW B 26)) av s 0 0 (AW B 26)) (F0 m 4 ls [])) {R21 : Nat → Int32 → Int32 → Int32 → Int32 → Int32 → St → Prop} (hR21 : ∀ (v0 : Nat) (v1 : Int32) (v2 : Int32) (v3 : Int32) (v4 : Int32) (v5 : Int32) (σ : St), kM[v0]? = some 11 → R21 v0 v1 v2 v3 v4 v5 σ → ∀ (H : Heap) (locs : List Loc) (ls : Array Slot), va_P D vwCl (wW cy B kM σ) H → va_S (AW B 26) s.heap H locs → lv_has ls 6 [(0, .ref (B + v0)), (1, .int v1), (2, .int v2), (3, .int v3), (4, .int v4), (5, .int v5)] → W p l e (rmD 1) s m av below meth c H locs 0 0 (MQ below (va_Qi post (BW D cy B kM) (AW B 26)) av s 0 0 (AW B 26)) (F0 m 21 ls [])) : ∀ (v0 : Nat) (v1 : Int32) (v2 : Int32) (v3 : Int32) (v5 : Int32) (t0 : Int32) (σ : St), kM[v0]? = some 11 → wX11_valueOf_68 post R4 R21 v0 v1 v2 v3 v5 t0 σ → ∀ (H : Heap) (locs : List Loc) (ls : Array Slot), va_P D vwCl (wW cy B kM σ) H → va_S (AW B 26) s.heap H locs → lv_has ls 6 [(0, .ref (B + v0)), (1, .int v1), (2, .int v2), (3, .int v3), (5, .int v5)] → W p l e (rmD 1) s m av below meth c H locs 0 0 (MQ below (va_Qi post (BW D cy B kM) (AW B 26)) av s 0 0 (AW B 26)) (F0 m 68 ls [.int t0]) := by
  obtain ⟨⟨hx, hb, hml, hown, hts⟩, hr, hlk, hK, hN, hZ⟩ := id X
  have hD : ∀ σ, va_D (AW B 26) (wW cy B kM σ) := AW_D kM_len
  intro v0 v1 v2 v3 v5 t0 σ h0 h H locs ls hP hS hl
  unfold wX11_valueOf_68 at h
  refine lv_iconst (v := (1 : Int32)) hx hb dX11_valueOf_68 (by decide) ?_
  refine lv_goto (tgt := 73) hx hb dX11_valueOf_69 (by decide) ?_
  exact tX11_valueOf_73 X hR4 hR21 _ _ _ _ _ _ _ _ h0 h _ _ _ hP hS (lv_sub hl [0, 1, 2, 3, 4] rfl)
set_option maxRecDepth 100000 in
set_option maxHeartbeats 4000000 in
theorem tX11_valueOf_21 {p : Program} {l : Launch} {e : Env} {s : State} {m : MethodId} {av : Array Value} {below : List Frame} {meth : Method} {c : Code} {D : va_G} {cy : Nat → ClassId} {B : Nat} (X : kC p s m av meth c cX11_valueOf 6 (some .int) WALL RX11 D cy (AW B 26)) {post : Int32 → St → Prop} {R4 : Nat → Int32 → Int32 → Int32 → St → Prop} (hR4 : ∀ (v0 : Nat) (v1 : Int32) (v2 : Int32) (v3 : Int32) (σ : St), kM[v0]? = some 11 → R4 v0 v1 v2 v3 σ → ∀ (H : Heap) (locs : List Loc) (ls : Array Slot), va_P D vwCl (wW cy B kM σ) H → va_S (AW B 26) s.heap H locs → lv_has ls 6 [(0, .ref (B + v0)), (1, .int v1), (2, .int v2), (3, .int v3)] → W p l e (rmD 1) s m av below meth c H locs 0 0 (MQ below (va_Qi post (BW D cy B kM) (AW B 26)) av s 0 0 (AW B 26)) (F0 m 4 ls [])) : ∀ (n : Nat) (v0 : Nat) (v1 : Int32) (v2 : Int32) (v3 : Int32) (v4 : Int32) (v5 : Int32) (σ : St), kM[v0]? = some 11 → wX11_valueOf_21 post R4 n v0 v1 v2 v3 v4 v5 σ → ∀ (H : Heap) (locs : List Loc) (ls : Array Slot), va_P D vwCl (wW cy B kM σ) H → va_S (AW B 26) s.heap H locs → lv_has ls 6 [(0, .ref (B + v0)), (1, .int v1), (2, .int v2), (3, .int v3), (4, .int v4), (5, .int v5)] → W p l e (rmD 1) s m av below meth c H locs 0 0 (MQ below (va_Qi post (BW D cy B kM) (AW B 26)) av s 0 0 (AW B 26)) (F0 m 21 ls []) := by
  obtain ⟨⟨hx, hb, hml, hown, hts⟩, hr, hlk, hK, hN, hZ⟩ := id X
  have hD : ∀ σ, va_D (AW B 26) (wW cy B kM σ) := AW_D kM_len
  intro n
  induction n with
  | zero => intro v0 v1 v2 v3 v4 v5 σ h0 h; exact absurd h id
  | succ n ih =>
    intro v0 v1 v2 v3 v4 v5 σ h0 h H locs ls hP hS hl
    rw [wX11_valueOf_21] at h
    refine lv_iload hx hb dX11_valueOf_21 (lv_at hl 5 rfl) ?_
    refine lv_aload_n hx hb dX11_valueOf_23 rfl (lv_at hl 0 rfl) ?_
    refine lv_iload_n hx hb dX11_valueOf_24 rfl (lv_at hl 1 rfl) ?_
    refine rk_calli (va_runV (As := [.int v1]) (rest := [.int v5]) X.1 (mX11_legsAt l D cy B v0 v1 σ h0 h) (cwV 1 hts (gW_V (wi_38 _ (List.mem_of_getElem? (i := 15) rfl)) (wi_38 _ (List.mem_of_getElem? (i := 16) rfl)) (wi_38 _ (List.mem_of_getElem? (i := 17) rfl)) (wi_30 _ (List.mem_of_getElem? (i := 9) rfl)) (wi_35 _ (List.mem_of_getElem? (i := 9) rfl))) rfl rfl rfl hd_X11_legsAt ⟨Nat.le_of_ble_eq_true rfl, Nat.le_of_ble_eq_true rfl⟩) (rk_preV X hS hP h0 rfl rfl [.int v1]) rfl rfl hl.1 rfl (lv_room (Nat.le_of_ble_eq_true rfl)) dX11_valueOf_25 ⟨Nat.zero_le _, Nat.zero_le _⟩) hS (fun _ h => h) (fun r1 s1 H locs h hP hS => ?_)
    refine lv_icmp_ge (tgt := 82) hx hb dX11_valueOf_28 (by decide) (fun c1 => ?_) (fun c1 => ?_)
    · have h := h.1 c1
      refine lv_iload_n hx hb dX11_valueOf_82 rfl (lv_at hl 2 rfl) ?_
      refine lv_iload hx hb dX11_valueOf_83 (lv_at hl 4 rfl) ?_
      refine lv_if_eq (tgt := 102) hx hb dX11_valueOf_85 (by decide) (fun c2 => ?_) (fun c2 => ?_)
      · have h := h.1 c2
        refine lv_iconst (v := (0 : Int32)) hx hb dX11_valueOf_102 (by decide) ?_
        exact tX11_valueOf_103 X hR4 _ _ _ _ _ _ h0 h _ _ _ hP hS (lv_sub hl [0, 1, 3] rfl)
      · have h := h.2 c2
        refine lv_aload_n hx hb dX11_valueOf_88 rfl (lv_at hl 0 rfl) ?_
        refine rk_get X hP (C := RX11) (T := TX11) (N := 44) (ci := 11) wix_11 h0 rfl rfl 30 (by decide) (wi_29 _ (List.mem_of_getElem? (i := 13) rfl)) rfl rfl dX11_valueOf_89 ?_
        refine lv_bipush (v := (16 : Int32)) hx hb dX11_valueOf_92 (by decide) ?_
        refine lv_iload_n hx hb dX11_valueOf_94 rfl (lv_at hl 1 rfl) ?_
        refine lv_imul hx hb dX11_valueOf_95 ?_
        refine lv_iload_n hx hb dX11_valueOf_96 rfl (lv_at hl 3 rfl) ?_
        refine lv_iadd hx hb dX11_valueOf_97 ?_
        refine lv_topi (fun x1 ex1 => ?_)
        have h := h x1 ex1
        obtain ⟨b1, h⟩ := h
        refine rk_iald X hP (n := 117) (klM_X11_30 h0) (fun _ _ => rfl) b1 dX11_valueOf_98 ?_
        refine lv_goto (tgt := 103) hx hb dX11_valueOf_99 (by decide) ?_
        exact tX11_valueOf_103 X hR4 _ _ _ _ _ _ h0 h _ _ _ hP hS (lv_sub hl [0, 1, 3] rfl)
    · have h := h.2 c1
      refine lv_iload hx hb dX11_valueOf_31 (lv_at hl 4 rfl) ?_
      refine lv_aload_n hx hb dX11_valueOf_33 rfl (lv_at hl 0 rfl) ?_
      refine rk_get X hP (C := RX11) (T := TX11) (N := 44) (ci := 11) wix_11 h0 rfl rfl 40 (by decide) (wi_29 _ (List.mem_of_getElem? (i := 20) rfl)) rfl rfl dX11_valueOf_34 ?_
      refine lv_iconst (v := (4 : Int32)) hx hb dX11_valueOf_37 (by decide) ?_
      refine lv_iload_n hx hb dX11_valueOf_38 rfl (lv_at hl 1 rfl) ?_
      refine lv_imul hx hb dX11_valueOf_39 ?_
      refine lv_iload hx hb dX11_valueOf_40 (lv_at hl 5 rfl) ?_
      refine lv_iadd hx hb dX11_valueOf_42 ?_
      refine lv_topi (fun x2 ex2 => ?_)
      have h := h x2 ex2
      obtain ⟨b2, h⟩ := h
      refine rk_iald X hP (n := 24) (klM_X11_40 h0) (fun _ _ => rfl) b2 dX11_valueOf_43 ?_
      refine lv_iconst (v := (2 : Int32)) hx hb dX11_valueOf_44 (by decide) ?_
      refine lv_icmp_eq (tgt := 68) hx hb dX11_valueOf_45 (by decide) (fun c3 => ?_) (fun c3 => ?_)
      · have h := h.1 c3
        exact tX11_valueOf_68 X hR4 ih _ _ _ _ _ _ _ h0 h _ _ _ hP hS (lv_sub hl [0, 1, 2, 3, 5] rfl)
      · have h := h.2 c3
        refine lv_aload_n hx hb dX11_valueOf_48 rfl (lv_at hl 0 rfl) ?_
        refine rk_get X hP (C := RX11) (T := TX11) (N := 44) (ci := 11) wix_11 h0 rfl rfl 40 (by decide) (wi_29 _ (List.mem_of_getElem? (i := 20) rfl)) rfl rfl dX11_valueOf_49 ?_
        refine lv_iconst (v := (4 : Int32)) hx hb dX11_valueOf_52 (by decide) ?_
        refine lv_iload_n hx hb dX11_valueOf_53 rfl (lv_at hl 1 rfl) ?_
        refine lv_imul hx hb dX11_valueOf_54 ?_
        refine lv_iload hx hb dX11_valueOf_55 (lv_at hl 5 rfl) ?_
        refine lv_iadd hx hb dX11_valueOf_57 ?_
        refine lv_topi (fun x3 ex3 => ?_)
        have h := h x3 ex3
        obtain ⟨b3, h⟩ := h
        refine rk_iald X hP (n := 24) (klM_X11_40 h0) (fun _ _ => rfl) b3 dX11_valueOf_58 ?_
        refine lv_iload_n hx hb dX11_valueOf_59 rfl (lv_at hl 3 rfl) ?_
        refine lv_iload hx hb dX11_valueOf_60 (lv_at hl 5 rfl) ?_
        refine lv_ishr hx hb dX11_valueOf_62 ?_
        refine lv_iconst (v := (1 : Int32)) hx hb dX11_valueOf_63 (by decide) ?_
        refine lv_iand hx hb dX11_valueOf_64 ?_
        refine lv_icmp_ne (tgt := 72) hx hb dX11_valueOf_65 (by decide) (fun c4 => ?_) (fun c4 => ?_)
        · have h := h.1 c4
          refine lv_iconst (v := (0 : Int32)) hx hb dX11_valueOf_72 (by decide) ?_
          exact tX11_valueOf_73 X hR4 ih _ _ _ _ _ _ _ _ h0 h _ _ _ hP hS (lv_sub hl [0, 1, 2, 3, 5] rfl)
        · have h := h.2 c4
          exact tX11_valueOf_68 X hR4 ih _ _ _ _ _ _ _ h0 h _ _ _ hP hS (lv_sub hl [0, 1, 2, 3, 5] rfl)
set_option maxRecDepth 100000 in
set_option maxHeartbeats 4000000 in
theorem tX11_valueOf_4 {p : Program} {l : Launch} {e : Env} {s : State} {m : MethodId} {av : Array Value} {below : List Frame} {meth : Method} {c : Code} {D : va_G} {cy : Nat → ClassId} {B : Nat} (X : kC p s m av meth c cX11_valueOf 6 (some .int) WALL RX11 D cy (AW B 26)) {post : Int32 → St → Prop} : ∀ (n : Nat) (v0 : Nat) (v1 : Int32) (v2 : Int32) (v3 : Int32) (σ : St), kM[v0]? = some 11 → wX11_valueOf_4 post n v0 v1 v2 v3 σ → ∀ (H : Heap) (locs : List Loc) (ls : Array Slot), va_P D vwCl (wW cy B kM σ) H → va_S (AW B 26) s.heap H locs → lv_has ls 6 [(0, .ref (B + v0)), (1, .int v1), (2, .int v2), (3, .int v3)] → W p l e (rmD 1) s m av below meth c H locs 0 0 (MQ below (va_Qi post (BW D cy B kM) (AW B 26)) av s 0 0 (AW B 26)) (F0 m 4 ls []) := by
  obtain ⟨⟨hx, hb, hml, hown, hts⟩, hr, hlk, hK, hN, hZ⟩ := id X
  have hD : ∀ σ, va_D (AW B 26) (wW cy B kM σ) := AW_D kM_len
  intro n
  induction n with
  | zero => intro v0 v1 v2 v3 σ h0 h; exact absurd h id
  | succ n ih =>
    intro v0 v1 v2 v3 σ h0 h H locs ls hP hS hl
    rw [wX11_valueOf_4] at h
    refine lv_iload_n hx hb dX11_valueOf_4 rfl (lv_at hl 3 rfl) ?_
    refine lv_iconst (v := (1 : Int32)) hx hb dX11_valueOf_5 (by decide) ?_
    refine lv_aload_n hx hb dX11_valueOf_6 rfl (lv_at hl 0 rfl) ?_
    refine lv_iload_n hx hb dX11_valueOf_7 rfl (lv_at hl 1 rfl) ?_
    refine rk_calli (va_runV (As := [.int v1]) (rest := [.int (1 : Int32), .int v3]) X.1 (mX11_legsAt l D cy B v0 v1 σ h0 h) (cwV 1 hts (gW_V (wi_38 _ (List.mem_of_getElem? (i := 15) rfl)) (wi_38 _ (List.mem_of_getElem? (i := 16) rfl)) (wi_38 _ (List.mem_of_getElem? (i := 17) rfl)) (wi_30 _ (List.mem_of_getElem? (i := 9) rfl)) (wi_35 _ (List.mem_of_getElem? (i := 9) rfl))) rfl rfl rfl hd_X11_legsAt ⟨Nat.le_of_ble_eq_true rfl, Nat.le_of_ble_eq_true rfl⟩) (rk_preV X hS hP h0 rfl rfl [.int v1]) rfl rfl hl.1 rfl (lv_room (Nat.le_of_ble_eq_true rfl)) dX11_valueOf_8 ⟨Nat.zero_le _, Nat.zero_le _⟩) hS (fun _ h => h) (fun r1 s1 H locs h hP hS => ?_)
    refine lv_ishl hx hb dX11_valueOf_11 ?_
    refine lv_icmp_ge (tgt := 111) hx hb dX11_valueOf_12 (by decide) (fun c1 => ?_) (fun c1 => ?_)
    · have h := h.1 c1
      refine lv_iload_n hx hb dX11_valueOf_111 rfl (lv_at hl 2 rfl) ?_
      refine lv_aload_n hx hb dX11_valueOf_112 rfl (lv_at hl 0 rfl) ?_
      refine rk_calli (va_runV (As := []) (rest := [.int v2]) X.1 (mX11_p l D cy B v0 s1 h0 h) (cwV 0 hts (gW_V (wi_35 _ (List.mem_of_getElem? (i := 21) rfl)) (wi_35 _ (List.mem_of_getElem? (i := 22) rfl)) (wi_35 _ (List.mem_of_getElem? (i := 23) rfl)) (wi_30 _ (List.mem_of_getElem? (i := 9) rfl)) (wi_35 _ (List.mem_of_getElem? (i := 4) rfl))) rfl rfl rfl hd_X11_p ⟨Nat.le_of_ble_eq_true rfl, Nat.le_of_ble_eq_true rfl⟩) (rk_preV X hS hP h0 rfl rfl []) rfl rfl hl.1 rfl (lv_room (Nat.le_of_ble_eq_true rfl)) dX11_valueOf_113 ⟨Nat.zero_le _, Nat.zero_le _⟩) hS (fun _ h => h) (fun r2 s2 H locs h hP hS => ?_)
      obtain ⟨z1, h⟩ := h
      refine lv_irem hx hb dX11_valueOf_116 z1 ?_
      exact rk_iret X rfl kM_len h hP hS dX11_valueOf_117
    · have h := h.2 c1
      refine lv_iconst (v := (1 : Int32)) hx hb dX11_valueOf_15 (by decide) ?_
      refine lv_istore (lv' := [(4, .int (1 : Int32)), (0, .ref (B + v0)), (1, .int v1), (2, .int v2), (3, .int v3)]) hx hb dX11_valueOf_16 hl (by decide) rfl (fun ls hl => ?_)
      refine lv_iconst (v := (0 : Int32)) hx hb dX11_valueOf_18 (by decide) ?_
      refine lv_istore (lv' := [(5, .int (0 : Int32)), (4, .int (1 : Int32)), (0, .ref (B + v0)), (1, .int v1), (2, .int v2), (3, .int v3)]) hx hb dX11_valueOf_19 hl (by decide) rfl (fun ls hl => ?_)
      obtain ⟨j, h⟩ := h
      exact tX11_valueOf_21 X ih j _ _ _ _ _ _ _ h0 h _ _ _ hP hS (lv_sub hl [2, 3, 4, 5, 1, 0] rfl)
set_option maxRecDepth 100000 in
set_option maxHeartbeats 4000000 in
theorem mX11_valueOf (l : Launch) (D : va_G) (cy : Nat → ClassId) (B : Nat) (v0 : Nat) (v1 : Int32) (σ : St) (h0 : kM[v0]? = some 11) {post : Int32 → St → Prop} (h : wX11_valueOf v0 v1 σ post) : Met l yX11_valueOf (Cond.code yX11_valueOf cX11_valueOf 6 (some .int) :: WALL) (rmD 1) (PcW D cy B kM σ [.ref (B + v0), .int v1]) (va_Qi post (BW D cy B kM) (AW B 26)) 0 0 (AW B 26) := by
  refine Met.ofK (cc := cX11_valueOf) (maxL := 6) (ret := (some .int)) (by decide +kernel) rfl kM_len ?_
  intro p e s m below meth c X hP
  obtain ⟨⟨hx, hb, hml, hown, hts⟩, hr, hlk, hK, hN, hZ⟩ := id X
  have hD : ∀ σ, va_D (AW B 26) (wW cy B kM σ) := AW_D kM_len
  have hS : va_S (AW B 26) s.heap s.heap [] := va_S.rf
  have hl := lv_entry ([.ref (B + v0), .int v1]) (n := 6) (Nat.le_of_ble_eq_true rfl)
  rw [lg_entry_eq]
  generalize (lg_sl ([.ref (B + v0), .int v1]) ++ List.replicate (6 - (lg_sl ([.ref (B + v0), .int v1])).length) Slot.unset).toArray = ls at hl ⊢
  have hl : lv_has ls 6 [(0, .ref (B + v0)), (1, .int v1)] := hl
  unfold wX11_valueOf at h
  refine lv_iconst (v := (0 : Int32)) hx hb dX11_valueOf_0 (by decide) ?_
  refine lv_istore_n (lv' := [(2, .int (0 : Int32)), (0, .ref (B + v0)), (1, .int v1)]) hx hb dX11_valueOf_1 rfl hl (by decide) rfl (fun ls hl => ?_)
  refine lv_iconst (v := (0 : Int32)) hx hb dX11_valueOf_2 (by decide) ?_
  refine lv_istore_n (lv' := [(3, .int (0 : Int32)), (2, .int (0 : Int32)), (0, .ref (B + v0)), (1, .int v1)]) hx hb dX11_valueOf_3 rfl hl (by decide) rfl (fun ls hl => ?_)
  obtain ⟨j, h⟩ := h
  exact tX11_valueOf_4 X j _ _ _ _ _ h0 h _ _ _ hP hS (lv_sub hl [2, 3, 1, 0] rfl)

theorem hd_X11_product : yX11_product.cls = RX11 ∧ yX11_product.cls ≠ "java/lang/invoke/MethodHandle" ∧ yX11_product.cls ≠ "java/lang/invoke/VarHandle" ∧ (parseMethodDescriptor yX11_product.desc).map (fun d => d.parameters.length) = some 1 := by decide +kernel
set_option maxRecDepth 100000 in
set_option maxHeartbeats 4000000 in
theorem tX11_product_39 {p : Program} {l : Launch} {e : Env} {s : State} {m : MethodId} {av : Array Value} {below : List Frame} {meth : Method} {c : Code} {D : va_G} {cy : Nat → ClassId} {B : Nat} (X : kC p s m av meth c cX11_product 4 (some .int) WALL RX11 D cy (AW B 26)) {post : Int32 → St → Prop} {R4 : Nat → Int32 → Int32 → Int32 → St → Prop} (hR4 : ∀ (v0 : Nat) (v1 : Int32) (v2 : Int32) (v3 : Int32) (σ : St), kM[v0]? = some 11 → R4 v0 v1 v2 v3 σ → ∀ (H : Heap) (locs : List Loc) (ls : Array Slot), va_P D vwCl (wW cy B kM σ) H → va_S (AW B 26) s.heap H locs → lv_has ls 4 [(0, .ref (B + v0)), (1, .int v1), (2, .int v2), (3, .int v3)] → W p l e (rmD 2) s m av below meth c H locs 0 0 (MQ below (va_Qi post (BW D cy B kM) (AW B 26)) av s 0 0 (AW B 26)) (F0 m 4 ls [])) : ∀ (v0 : Nat) (v1 : Int32) (v3 : Int32) (t0 : Int32) (σ : St), kM[v0]? = some 11 → wX11_product_39 post R4 v0 v1 v3 t0 σ → ∀ (H : Heap) (locs : List Loc) (ls : Array Slot), va_P D vwCl (wW cy B kM σ) H → va_S (AW B 26) s.heap H locs → lv_has ls 4 [(0, .ref (B + v0)), (1, .int v1), (3, .int v3)] → W p l e (rmD 2) s m av below meth c H locs 0 0 (MQ below (va_Qi post (BW D cy B kM) (AW B 26)) av s 0 0 (AW B 26)) (F0 m 39 ls [.int t0]) := by
  obtain ⟨⟨hx, hb, hml, hown, hts⟩, hr, hlk, hK, hN, hZ⟩ := id X
  have hD : ∀ σ, va_D (AW B 26) (wW cy B kM σ) := AW_D kM_len
  intro v0 v1 v3 t0 σ h0 h H locs ls hP hS hl
  unfold wX11_product_39 at h
  refine lv_istore_n (lv' := [(2, .int t0), (0, .ref (B + v0)), (1, .int v1), (3, .int v3)]) hx hb dX11_product_39 rfl hl (by decide) rfl (fun ls hl => ?_)
  obtain ⟨x1, ex1⟩ : ∃ y : Int32, y = v3 + (1 : Int32) := ⟨_, rfl⟩
  have h := h x1 ex1
  refine lv_iinc (v := x1) (lv' := [(3, .int x1), (2, .int t0), (0, .ref (B + v0)), (1, .int v1)]) hx hb dX11_product_40 hl (k := 3) rfl (by rw [ex1]; rfl) (by decide) rfl (fun ls hl => ?_)
  refine lv_goto (tgt := 4) hx hb dX11_product_43 (by decide) ?_
  exact hR4 _ _ _ _ _ h0 h _ _ _ hP hS (lv_sub hl [2, 3, 1, 0] rfl)
set_option maxRecDepth 100000 in
set_option maxHeartbeats 4000000 in
theorem tX11_product_4 {p : Program} {l : Launch} {e : Env} {s : State} {m : MethodId} {av : Array Value} {below : List Frame} {meth : Method} {c : Code} {D : va_G} {cy : Nat → ClassId} {B : Nat} (X : kC p s m av meth c cX11_product 4 (some .int) WALL RX11 D cy (AW B 26)) {post : Int32 → St → Prop} : ∀ (n : Nat) (v0 : Nat) (v1 : Int32) (v2 : Int32) (v3 : Int32) (σ : St), kM[v0]? = some 11 → wX11_product_4 post n v0 v1 v2 v3 σ → ∀ (H : Heap) (locs : List Loc) (ls : Array Slot), va_P D vwCl (wW cy B kM σ) H → va_S (AW B 26) s.heap H locs → lv_has ls 4 [(0, .ref (B + v0)), (1, .int v1), (2, .int v2), (3, .int v3)] → W p l e (rmD 2) s m av below meth c H locs 0 0 (MQ below (va_Qi post (BW D cy B kM) (AW B 26)) av s 0 0 (AW B 26)) (F0 m 4 ls []) := by
  obtain ⟨⟨hx, hb, hml, hown, hts⟩, hr, hlk, hK, hN, hZ⟩ := id X
  have hD : ∀ σ, va_D (AW B 26) (wW cy B kM σ) := AW_D kM_len
  intro n
  induction n with
  | zero => intro v0 v1 v2 v3 σ h0 h; exact absurd h id
  | succ n ih =>
    intro v0 v1 v2 v3 σ h0 h H locs ls hP hS hl
    rw [wX11_product_4] at h
    refine lv_iload_n hx hb dX11_product_4 rfl (lv_at hl 3 rfl) ?_
    refine lv_aload_n hx hb dX11_product_5 rfl (lv_at hl 0 rfl) ?_
    refine rk_get X hP (C := RX11) (T := TX11) (N := 44) (ci := 11) wix_11 h0 rfl rfl 16 (by decide) (wi_29 _ (List.mem_of_getElem? (i := 1) rfl)) rfl rfl dX11_product_6 ?_
    refine lv_iconst (v := (0 : Int32)) hx hb dX11_product_9 (by decide) ?_
    have b1 : vp_in (0 : Int32) 2 := by unfold vp_in; decide
    refine rk_iald X hP (n := 2) (klM_X11_16 h0) (fun _ _ => rfl) b1 dX11_product_10 ?_
    refine lv_icmp_ge (tgt := 46) hx hb dX11_product_11 (by decide) (fun c1 => ?_) (fun c1 => ?_)
    · have h := h.1 c1
      refine lv_iload_n hx hb dX11_product_46 rfl (lv_at hl 2 rfl) ?_
      exact rk_iret X rfl kM_len h hP hS dX11_product_47
    · have h := h.2 c1
      refine lv_iload_n hx hb dX11_product_14 rfl (lv_at hl 1 rfl) ?_
      refine lv_iload_n hx hb dX11_product_15 rfl (lv_at hl 3 rfl) ?_
      refine lv_ishr hx hb dX11_product_16 ?_
      refine lv_iconst (v := (1 : Int32)) hx hb dX11_product_17 (by decide) ?_
      refine lv_iand hx hb dX11_product_18 ?_
      refine lv_iconst (v := (1 : Int32)) hx hb dX11_product_19 (by decide) ?_
      refine lv_icmp_ne (tgt := 38) hx hb dX11_product_20 (by decide) (fun c2 => ?_) (fun c2 => ?_)
      · have h := h.1 c2
        refine lv_iload_n hx hb dX11_product_38 rfl (lv_at hl 2 rfl) ?_
        exact tX11_product_39 X ih _ _ _ _ _ h0 h _ _ _ hP hS (lv_sub hl [0, 1, 3] rfl)
      · have h := h.2 c2
        refine lv_iload_n hx hb dX11_product_23 rfl (lv_at hl 2 rfl) ?_
        refine lv_aload_n hx hb dX11_product_24 rfl (lv_at hl 0 rfl) ?_
        refine lv_iload_n hx hb dX11_product_25 rfl (lv_at hl 3 rfl) ?_
        refine rk_calli (va_runV (As := [.int v3]) (rest := [.int v2]) X.1 (mX11_valueOf l D cy B v0 v3 σ h0 h) (cwV 1 hts (gW_V (wi_39 _ (List.mem_of_getElem? (i := 11) rfl)) (wi_39 _ (List.mem_of_getElem? (i := 12) rfl)) (wi_39 _ (List.mem_of_getElem? (i := 13) rfl)) (wi_30 _ (List.mem_of_getElem? (i := 9) rfl)) (wi_39 _ (List.mem_of_getElem? (i := 9) rfl))) rfl rfl rfl hd_X11_valueOf ⟨Nat.le_of_ble_eq_true rfl, Nat.le_of_ble_eq_true rfl⟩) (rk_preV X hS hP h0 rfl rfl [.int v3]) rfl rfl hl.1 rfl (lv_room (Nat.le_of_ble_eq_true rfl)) dX11_product_26 ⟨Nat.zero_le _, Nat.zero_le _⟩) hS (fun _ h => h) (fun r1 s1 H locs h hP hS => ?_)
        refine lv_imul hx hb dX11_product_29 ?_
        refine lv_aload_n hx hb dX11_product_30 rfl (lv_at hl 0 rfl) ?_
        refine rk_calli (va_runV (As := []) (rest := [.int (v2 * r1)]) X.1 (mX11_p l D cy B v0 s1 h0 h) (cwV 0 hts (gW_V (wi_35 _ (List.mem_of_getElem? (i := 21) rfl)) (wi_35 _ (List.mem_of_getElem? (i := 22) rfl)) (wi_35 _ (List.mem_of_getElem? (i := 23) rfl)) (wi_30 _ (List.mem_of_getElem? (i := 9) rfl)) (wi_35 _ (List.mem_of_getElem? (i := 4) rfl))) rfl rfl rfl hd_X11_p ⟨Nat.le_of_ble_eq_true rfl, Nat.le_of_ble_eq_true rfl⟩) (rk_preV X hS hP h0 rfl rfl []) rfl rfl hl.1 rfl (lv_room (Nat.le_of_ble_eq_true rfl)) dX11_product_31 ⟨Nat.zero_le _, Nat.zero_le _⟩) hS (fun _ h => h) (fun r2 s2 H locs h hP hS => ?_)
        obtain ⟨z1, h⟩ := h
        refine lv_irem hx hb dX11_product_34 z1 ?_
        refine lv_goto (tgt := 39) hx hb dX11_product_35 (by decide) ?_
        exact tX11_product_39 X ih _ _ _ _ _ h0 h _ _ _ hP hS (lv_sub hl [0, 1, 3] rfl)
set_option maxRecDepth 100000 in
set_option maxHeartbeats 4000000 in
theorem mX11_product (l : Launch) (D : va_G) (cy : Nat → ClassId) (B : Nat) (v0 : Nat) (v1 : Int32) (σ : St) (h0 : kM[v0]? = some 11) {post : Int32 → St → Prop} (h : wX11_product v0 v1 σ post) : Met l yX11_product (Cond.code yX11_product cX11_product 4 (some .int) :: WALL) (rmD 2) (PcW D cy B kM σ [.ref (B + v0), .int v1]) (va_Qi post (BW D cy B kM) (AW B 26)) 0 0 (AW B 26) := by
  refine Met.ofK (cc := cX11_product) (maxL := 4) (ret := (some .int)) (by decide +kernel) rfl kM_len ?_
  intro p e s m below meth c X hP
  obtain ⟨⟨hx, hb, hml, hown, hts⟩, hr, hlk, hK, hN, hZ⟩ := id X
  have hD : ∀ σ, va_D (AW B 26) (wW cy B kM σ) := AW_D kM_len
  have hS : va_S (AW B 26) s.heap s.heap [] := va_S.rf
  have hl := lv_entry ([.ref (B + v0), .int v1]) (n := 4) (Nat.le_of_ble_eq_true rfl)
  rw [lg_entry_eq]
  generalize (lg_sl ([.ref (B + v0), .int v1]) ++ List.replicate (4 - (lg_sl ([.ref (B + v0), .int v1])).length) Slot.unset).toArray = ls at hl ⊢
  have hl : lv_has ls 4 [(0, .ref (B + v0)), (1, .int v1)] := hl
  unfold wX11_product at h
  refine lv_iconst (v := (1 : Int32)) hx hb dX11_product_0 (by decide) ?_
  refine lv_istore_n (lv' := [(2, .int (1 : Int32)), (0, .ref (B + v0)), (1, .int v1)]) hx hb dX11_product_1 rfl hl (by decide) rfl (fun ls hl => ?_)
  refine lv_iconst (v := (0 : Int32)) hx hb dX11_product_2 (by decide) ?_
  refine lv_istore_n (lv' := [(3, .int (0 : Int32)), (2, .int (1 : Int32)), (0, .ref (B + v0)), (1, .int v1)]) hx hb dX11_product_3 rfl hl (by decide) rfl (fun ls hl => ?_)
  obtain ⟨j, h⟩ := h
  exact tX11_product_4 X j _ _ _ _ _ h0 h _ _ _ hP hS (lv_sub hl [2, 3, 1, 0] rfl)

theorem hd_X11_allNodes : yX11_allNodes.cls = RX11 ∧ yX11_allNodes.cls ≠ "java/lang/invoke/MethodHandle" ∧ yX11_allNodes.cls ≠ "java/lang/invoke/VarHandle" ∧ (parseMethodDescriptor yX11_allNodes.desc).map (fun d => d.parameters.length) = some 0 := by decide +kernel
set_option maxRecDepth 100000 in
set_option maxHeartbeats 4000000 in
theorem mX11_allNodes (l : Launch) (D : va_G) (cy : Nat → ClassId) (B : Nat) (v0 : Nat) (σ : St) (h0 : kM[v0]? = some 11) {post : Int32 → St → Prop} (h : wX11_allNodes v0 σ post) : Met l yX11_allNodes (Cond.code yX11_allNodes cX11_allNodes 1 (some .int) :: WALL) (rmD 0) (PcW D cy B kM σ [.ref (B + v0)]) (va_Qi post (BW D cy B kM) (AW B 26)) 0 0 (AW B 26) := by
  refine Met.ofK (cc := cX11_allNodes) (maxL := 1) (ret := (some .int)) (by decide +kernel) rfl kM_len ?_
  intro p e s m below meth c X hP
  obtain ⟨⟨hx, hb, hml, hown, hts⟩, hr, hlk, hK, hN, hZ⟩ := id X
  have hD : ∀ σ, va_D (AW B 26) (wW cy B kM σ) := AW_D kM_len
  have hS : va_S (AW B 26) s.heap s.heap [] := va_S.rf
  have hl := lv_entry ([.ref (B + v0)]) (n := 1) (Nat.le_of_ble_eq_true rfl)
  rw [lg_entry_eq]
  generalize (lg_sl ([.ref (B + v0)]) ++ List.replicate (1 - (lg_sl ([.ref (B + v0)])).length) Slot.unset).toArray = ls at hl ⊢
  have hl : lv_has ls 1 [(0, .ref (B + v0))] := hl
  unfold wX11_allNodes at h
  refine lv_iconst (v := (1 : Int32)) hx hb dX11_allNodes_0 (by decide) ?_
  refine lv_aload_n hx hb dX11_allNodes_1 rfl (lv_at hl 0 rfl) ?_
  refine rk_get X hP (C := RX11) (T := TX11) (N := 44) (ci := 11) wix_11 h0 rfl rfl 16 (by decide) (wi_29 _ (List.mem_of_getElem? (i := 1) rfl)) rfl rfl dX11_allNodes_2 ?_
  refine lv_iconst (v := (0 : Int32)) hx hb dX11_allNodes_5 (by decide) ?_
  have b1 : vp_in (0 : Int32) 2 := by unfold vp_in; decide
  refine rk_iald X hP (n := 2) (klM_X11_16 h0) (fun _ _ => rfl) b1 dX11_allNodes_6 ?_
  refine lv_ishl hx hb dX11_allNodes_7 ?_
  refine lv_iconst (v := (1 : Int32)) hx hb dX11_allNodes_8 (by decide) ?_
  refine lv_isub hx hb dX11_allNodes_9 ?_
  exact rk_iret X rfl kM_len h hP hS dX11_allNodes_10

theorem hd_X11_laysIndex : yX11_laysIndex.cls = RX11 ∧ yX11_laysIndex.cls ≠ "java/lang/invoke/MethodHandle" ∧ yX11_laysIndex.cls ≠ "java/lang/invoke/VarHandle" ∧ (parseMethodDescriptor yX11_laysIndex.desc).map (fun d => d.parameters.length) = some 1 := by decide +kernel
set_option maxRecDepth 100000 in
set_option maxHeartbeats 4000000 in
theorem tX11_laysIndex_26 {p : Program} {l : Launch} {e : Env} {s : State} {m : MethodId} {av : Array Value} {below : List Frame} {meth : Method} {c : Code} {D : va_G} {cy : Nat → ClassId} {B : Nat} (X : kC p s m av meth c cX11_laysIndex 3 (some .boolean) WALL RX11 D cy (AW B 26)) {post : Bool → St → Prop} : ∀ (n : Nat) (v0 : Nat) (v1 : Int32) (v2 : Int32) (σ : St), kM[v0]? = some 11 → wX11_laysIndex_26 post n v0 v1 v2 σ → ∀ (H : Heap) (locs : List Loc) (ls : Array Slot), va_P D vwCl (wW cy B kM σ) H → va_S (AW B 26) s.heap H locs → lv_has ls 3 [(0, .ref (B + v0)), (1, .int v1), (2, .int v2)] → W p l e (rmD 2) s m av below meth c H locs 0 0 (MQ below (Qz post D cy B kM 26) av s 0 0 (AW B 26)) (F0 m 26 ls []) := by
  obtain ⟨⟨hx, hb, hml, hown, hts⟩, hr, hlk, hK, hN, hZ⟩ := id X
  have hD : ∀ σ, va_D (AW B 26) (wW cy B kM σ) := AW_D kM_len
  intro n
  induction n with
  | zero => intro v0 v1 v2 σ h0 h; exact absurd h id
  | succ n ih =>
    intro v0 v1 v2 σ h0 h H locs ls hP hS hl
    rw [wX11_laysIndex_26] at h
    refine lv_iload_n hx hb dX11_laysIndex_26 rfl (lv_at hl 2 rfl) ?_
    refine lv_aload_n hx hb dX11_laysIndex_27 rfl (lv_at hl 0 rfl) ?_
    refine rk_get X hP (C := RX11) (T := TX11) (N := 44) (ci := 11) wix_11 h0 rfl rfl 39 (by decide) (wi_39 _ (List.mem_of_getElem? (i := 0) rfl)) rfl rfl dX11_laysIndex_28 ?_
    refine lv_icmp_ge (tgt := 56) hx hb dX11_laysIndex_31 (by decide) (fun c1 => ?_) (fun c1 => ?_)
    · have h := h.1 c1
      refine lv_iconst (v := (1 : Int32)) hx hb dX11_laysIndex_56 (by decide) ?_
      exact rk_zret X kM_len true h hP hS dX11_laysIndex_57
    · have h := h.2 c1
      refine lv_aload_n hx hb dX11_laysIndex_34 rfl (lv_at hl 0 rfl) ?_
      refine rk_get X hP (C := RX11) (T := TX11) (N := 44) (ci := 11) wix_11 h0 rfl rfl 40 (by decide) (wi_29 _ (List.mem_of_getElem? (i := 20) rfl)) rfl rfl dX11_laysIndex_35 ?_
      refine lv_aload_n hx hb dX11_laysIndex_38 rfl (lv_at hl 0 rfl) ?_
      refine rk_get X hP (C := RX11) (T := TX11) (N := 44) (ci := 11) wix_11 h0 rfl rfl 38 (by decide) (wi_29 _ (List.mem_of_getElem? (i := 19) rfl)) rfl rfl dX11_laysIndex_39 ?_
      refine lv_iload_n hx hb dX11_laysIndex_42 rfl (lv_at hl 2 rfl) ?_
      obtain ⟨b1, h⟩ := h
      refine rk_iald X hP (n := 24) (klM_X11_38 h0) (fun _ _ => rfl) b1 dX11_laysIndex_43 ?_
      refine lv_iload_n hx hb dX11_laysIndex_44 rfl (lv_at hl 1 rfl) ?_
      refine lv_iload_n hx hb dX11_laysIndex_45 rfl (lv_at hl 2 rfl) ?_
      refine lv_ishr hx hb dX11_laysIndex_46 ?_
      refine lv_iconst (v := (1 : Int32)) hx hb dX11_laysIndex_47 (by decide) ?_
      refine lv_iand hx hb dX11_laysIndex_48 ?_
      obtain ⟨b2, h⟩ := h
      refine rk_iast X hP hD hS (n := 24) (klM_X11_40 h0) (fun _ _ => rfl) b2 dX11_laysIndex_49 (fun H locs hP hS => ?_)
      obtain ⟨s1, es1⟩ : ∃ z : St, z = u1 σ (v0 + 23) (σ.1 (v0 + 22) v2.toNatClampNeg).toNatClampNeg ((v1 >>> (v2 &&& 31)) &&& (1 : Int32)) := ⟨_, rfl⟩
      rw [← es1] at hP
      have h := h s1 es1
      obtain ⟨x1, ex1⟩ : ∃ y : Int32, y = v2 + (1 : Int32) := ⟨_, rfl⟩
      have h := h x1 ex1
      refine lv_iinc (v := x1) (lv' := [(2, .int x1), (0, .ref (B + v0)), (1, .int v1)]) hx hb dX11_laysIndex_50 hl (k := 2) rfl (by rw [ex1]; rfl) (by decide) rfl (fun ls hl => ?_)
      refine lv_goto (tgt := 26) hx hb dX11_laysIndex_53 (by decide) ?_
      exact ih _ _ _ _ h0 h _ _ _ hP hS (lv_sub hl [1, 2, 0] rfl)
set_option maxRecDepth 100000 in
set_option maxHeartbeats 4000000 in
theorem mX11_laysIndex (l : Launch) (D : va_G) (cy : Nat → ClassId) (B : Nat) (v0 : Nat) (v1 : Int32) (σ : St) (h0 : kM[v0]? = some 11) {post : Bool → St → Prop} (h : wX11_laysIndex v0 v1 σ post) : Met l yX11_laysIndex (Cond.code yX11_laysIndex cX11_laysIndex 3 (some .boolean) :: WALL) (rmD 2) (PcW D cy B kM σ [.ref (B + v0), .int v1]) (Qz post D cy B kM 26) 0 0 (AW B 26) := by
  refine Met.ofK (cc := cX11_laysIndex) (maxL := 3) (ret := (some .boolean)) (by decide +kernel) rfl kM_len ?_
  intro p e s m below meth c X hP
  obtain ⟨⟨hx, hb, hml, hown, hts⟩, hr, hlk, hK, hN, hZ⟩ := id X
  have hD : ∀ σ, va_D (AW B 26) (wW cy B kM σ) := AW_D kM_len
  have hS : va_S (AW B 26) s.heap s.heap [] := va_S.rf
  have hl := lv_entry ([.ref (B + v0), .int v1]) (n := 3) (Nat.le_of_ble_eq_true rfl)
  rw [lg_entry_eq]
  generalize (lg_sl ([.ref (B + v0), .int v1]) ++ List.replicate (3 - (lg_sl ([.ref (B + v0), .int v1])).length) Slot.unset).toArray = ls at hl ⊢
  have hl : lv_has ls 3 [(0, .ref (B + v0)), (1, .int v1)] := hl
  unfold wX11_laysIndex at h
  refine lv_aload_n hx hb dX11_laysIndex_0 rfl (lv_at hl 0 rfl) ?_
  refine rk_callv (va_runV (As := []) (rest := []) X.1 (mX11_laysOpen l D cy B v0 σ h0 h) (cwV 0 hts (gW_V (wi_39 _ (List.mem_of_getElem? (i := 5) rfl)) (wi_39 _ (List.mem_of_getElem? (i := 6) rfl)) (wi_39 _ (List.mem_of_getElem? (i := 7) rfl)) (wi_30 _ (List.mem_of_getElem? (i := 9) rfl)) (wi_38 _ (List.mem_of_getElem? (i := 23) rfl))) rfl rfl rfl hd_X11_laysOpen ⟨Nat.le_of_ble_eq_true rfl, Nat.le_of_ble_eq_true rfl⟩) (rk_preV X hS hP h0 rfl rfl []) rfl rfl hl.1 rfl (lv_room (Nat.le_of_ble_eq_true rfl)) dX11_laysIndex_1 ⟨Nat.zero_le _, Nat.zero_le _⟩) hS (fun _ h => h) (fun s1 H locs h hP hS => ?_)
  refine lv_iload_n hx hb dX11_laysIndex_4 rfl (lv_at hl 1 rfl) ?_
  refine lv_i2l hx hb dX11_laysIndex_5 rfl ?_
  refine lv_lconst (v := (0 : Int64)) hx hb dX11_laysIndex_6 (by decide) ?_
  refine lv_iconst (v := (1 : Int32)) hx hb dX11_laysIndex_7 (by decide) ?_
  refine lv_aload_n hx hb dX11_laysIndex_8 rfl (lv_at hl 0 rfl) ?_
  refine rk_get X hP (C := RX11) (T := TX11) (N := 44) (ci := 11) wix_11 h0 rfl rfl 39 (by decide) (wi_39 _ (List.mem_of_getElem? (i := 0) rfl)) rfl rfl dX11_laysIndex_9 ?_
  refine lv_ishl hx hb dX11_laysIndex_12 ?_
  refine lv_iconst (v := (1 : Int32)) hx hb dX11_laysIndex_13 (by decide) ?_
  refine lv_isub hx hb dX11_laysIndex_14 ?_
  refine lv_i2l hx hb dX11_laysIndex_15 rfl ?_
  refine rk_callz (va_runS (As := [.long (v1.toInt64), .long (0 : Int64), .long ((((1 : Int32) <<< ((s1.1 v0 39) &&& 31)) - (1 : Int32)).toInt64)]) (rest := []) X.1 (mX11_within l D cy B (v1.toInt64) (0 : Int64) ((((1 : Int32) <<< ((s1.1 v0 39) &&& 31)) - (1 : Int32)).toInt64) s1 h) (va_cwS 3 hts (gW_S (wi_31 _ (List.mem_of_getElem? (i := 2) rfl)) (wi_31 _ (List.mem_of_getElem? (i := 3) rfl)) (wi_30 _ (List.mem_of_getElem? (i := 9) rfl)) (wi_30 _ (List.mem_of_getElem? (i := 2) rfl))) rfl rfl rfl hd_X11_within ⟨Nat.le_of_ble_eq_true rfl, Nat.le_of_ble_eq_true rfl⟩) (rk_preS X hS hP [.long (v1.toInt64), .long (0 : Int64), .long ((((1 : Int32) <<< ((s1.1 v0 39) &&& 31)) - (1 : Int32)).toInt64)]) rfl rfl hl.1 rfl (lv_room (Nat.le_of_ble_eq_true rfl)) dX11_laysIndex_16 ⟨Nat.zero_le _, Nat.zero_le _⟩) hS (fun _ h => h) (fun r1 s2 H locs h hP hS => ?_)
  refine lv_if_ne (tgt := 24) hx hb dX11_laysIndex_19 (by decide) (fun c1 => ?_) (fun c1 => ?_)
  · have h := h.1 (b2i_t c1)
    refine lv_iconst (v := (0 : Int32)) hx hb dX11_laysIndex_24 (by decide) ?_
    refine lv_istore_n (lv' := [(2, .int (0 : Int32)), (0, .ref (B + v0)), (1, .int v1)]) hx hb dX11_laysIndex_25 rfl hl (by decide) rfl (fun ls hl => ?_)
    obtain ⟨j, h⟩ := h
    exact tX11_laysIndex_26 X j _ _ _ _ h0 h _ _ _ hP hS (lv_sub hl [1, 2, 0] rfl)
  · have h := h.2 (b2i_f c1)
    refine lv_iconst (v := (0 : Int32)) hx hb dX11_laysIndex_22 (by decide) ?_
    exact rk_zret X kM_len false h hP hS dX11_laysIndex_23

theorem hd_X11_summed : yX11_summed.cls = RX11 ∧ yX11_summed.cls ≠ "java/lang/invoke/MethodHandle" ∧ yX11_summed.cls ≠ "java/lang/invoke/VarHandle" ∧ (parseMethodDescriptor yX11_summed.desc).map (fun d => d.parameters.length) = some 1 := by decide +kernel
set_option maxRecDepth 100000 in
set_option maxHeartbeats 4000000 in
theorem tX11_summed_60 {p : Program} {l : Launch} {e : Env} {s : State} {m : MethodId} {av : Array Value} {below : List Frame} {meth : Method} {c : Code} {D : va_G} {cy : Nat → ClassId} {B : Nat} (X : kC p s m av meth c cX11_summed 5 (some .int) WALL RX11 D cy (AW B 26)) {post : Int32 → St → Prop} {R4 : Nat → Int32 → Int32 → Int32 → St → Prop} (hR4 : ∀ (v0 : Nat) (v1 : Int32) (v2 : Int32) (v3 : Int32) (σ : St), kM[v0]? = some 11 → R4 v0 v1 v2 v3 σ → ∀ (H : Heap) (locs : List Loc) (ls : Array Slot), va_P D vwCl (wW cy B kM σ) H → va_S (AW B 26) s.heap H locs → lv_has ls 5 [(0, .ref (B + v0)), (1, .int v1), (2, .int v2), (3, .int v3)] → W p l e (rmD 3) s m av below meth c H locs 0 0 (MQ below (va_Qi post (BW D cy B kM) (AW B 26)) av s 0 0 (AW B 26)) (F0 m 4 ls [])) : ∀ (v0 : Nat) (v1 : Int32) (v3 : Int32) (t0 : Int32) (σ : St), kM[v0]? = some 11 → wX11_summed_60 post R4 v0 v1 v3 t0 σ → ∀ (H : Heap) (locs : List Loc) (ls : Array Slot), va_P D vwCl (wW cy B kM σ) H → va_S (AW B 26) s.heap H locs → lv_has ls 5 [(0, .ref (B + v0)), (1, .int v1), (3, .int v3)] → W p l e (rmD 3) s m av below meth c H locs 0 0 (MQ below (va_Qi post (BW D cy B kM) (AW B 26)) av s 0 0 (AW B 26)) (F0 m 60 ls [.int t0]) := by
  obtain ⟨⟨hx, hb, hml, hown, hts⟩, hr, hlk, hK, hN, hZ⟩ := id X
  have hD : ∀ σ, va_D (AW B 26) (wW cy B kM σ) := AW_D kM_len
  intro v0 v1 v3 t0 σ h0 h H locs ls hP hS hl
  unfold wX11_summed_60 at h
  refine lv_istore_n (lv' := [(2, .int t0), (0, .ref (B + v0)), (1, .int v1), (3, .int v3)]) hx hb dX11_summed_60 rfl hl (by decide) rfl (fun ls hl => ?_)
  obtain ⟨x1, ex1⟩ : ∃ y : Int32, y = v3 + (1 : Int32) := ⟨_, rfl⟩
  have h := h x1 ex1
  refine lv_iinc (v := x1) (lv' := [(3, .int x1), (2, .int t0), (0, .ref (B + v0)), (1, .int v1)]) hx hb dX11_summed_61 hl (k := 3) rfl (by rw [ex1]; rfl) (by decide) rfl (fun ls hl => ?_)
  refine lv_goto (tgt := 4) hx hb dX11_summed_64 (by decide) ?_
  exact hR4 _ _ _ _ _ h0 h _ _ _ hP hS (lv_sub hl [2, 3, 1, 0] rfl)
set_option maxRecDepth 100000 in
set_option maxHeartbeats 4000000 in
theorem tX11_summed_47 {p : Program} {l : Launch} {e : Env} {s : State} {m : MethodId} {av : Array Value} {below : List Frame} {meth : Method} {c : Code} {D : va_G} {cy : Nat → ClassId} {B : Nat} (X : kC p s m av meth c cX11_summed 5 (some .int) WALL RX11 D cy (AW B 26)) {post : Int32 → St → Prop} {R4 : Nat → Int32 → Int32 → Int32 → St → Prop} (hR4 : ∀ (v0 : Nat) (v1 : Int32) (v2 : Int32) (v3 : Int32) (σ : St), kM[v0]? = some 11 → R4 v0 v1 v2 v3 σ → ∀ (H : Heap) (locs : List Loc) (ls : Array Slot), va_P D vwCl (wW cy B kM σ) H → va_S (AW B 26) s.heap H locs → lv_has ls 5 [(0, .ref (B + v0)), (1, .int v1), (2, .int v2), (3, .int v3)] → W p l e (rmD 3) s m av below meth c H locs 0 0 (MQ below (va_Qi post (BW D cy B kM) (AW B 26)) av s 0 0 (AW B 26)) (F0 m 4 ls [])) : ∀ (v0 : Nat) (v1 : Int32) (v3 : Int32) (t0 : Int32) (t1 : Int32) (σ : St), kM[v0]? = some 11 → wX11_summed_47 post R4 v0 v1 v3 t0 t1 σ → ∀ (H : Heap) (locs : List Loc) (ls : Array Slot), va_P D vwCl (wW cy B kM σ) H → va_S (AW B 26) s.heap H locs → lv_has ls 5 [(0, .ref (B + v0)), (1, .int v1), (3, .int v3)] → W p l e (rmD 3) s m av below meth c H locs 0 0 (MQ below (va_Qi post (BW D cy B kM) (AW B 26)) av s 0 0 (AW B 26)) (F0 m 47 ls [.int t1, .int t0]) := by
  obtain ⟨⟨hx, hb, hml, hown, hts⟩, hr, hlk, hK, hN, hZ⟩ := id X
  have hD : ∀ σ, va_D (AW B 26) (wW cy B kM σ) := AW_D kM_len
  intro v0 v1 v3 t0 t1 σ h0 h H locs ls hP hS hl
  unfold wX11_summed_47 at h
  refine lv_iadd hx hb dX11_summed_47 ?_
  refine lv_goto (tgt := 60) hx hb dX11_summed_48 (by decide) ?_
  exact tX11_summed_60 X hR4 _ _ _ _ _ h0 h _ _ _ hP hS (lv_sub hl [0, 1, 2] rfl)
set_option maxRecDepth 100000 in
set_option maxHeartbeats 4000000 in
theorem tX11_summed_4 {p : Program} {l : Launch} {e : Env} {s : State} {m : MethodId} {av : Array Value} {below : List Frame} {meth : Method} {c : Code} {D : va_G} {cy : Nat → ClassId} {B : Nat} (X : kC p s m av meth c cX11_summed 5 (some .int) WALL RX11 D cy (AW B 26)) {post : Int32 → St → Prop} : ∀ (n : Nat) (v0 : Nat) (v1 : Int32) (v2 : Int32) (v3 : Int32) (σ : St), kM[v0]? = some 11 → wX11_summed_4 post n v0 v1 v2 v3 σ → ∀ (H : Heap) (locs : List Loc) (ls : Array Slot), va_P D vwCl (wW cy B kM σ) H → va_S (AW B 26) s.heap H locs → lv_has ls 5 [(0, .ref (B + v0)), (1, .int v1), (2, .int v2), (3, .int v3)] → W p l e (rmD 3) s m av below meth c H locs 0 0 (MQ below (va_Qi post (BW D cy B kM) (AW B 26)) av s 0 0 (AW B 26)) (F0 m 4 ls []) := by
  obtain ⟨⟨hx, hb, hml, hown, hts⟩, hr, hlk, hK, hN, hZ⟩ := id X
  have hD : ∀ σ, va_D (AW B 26) (wW cy B kM σ) := AW_D kM_len
  intro n
  induction n with
  | zero => intro v0 v1 v2 v3 σ h0 h; exact absurd h id
  | succ n ih =>
    intro v0 v1 v2 v3 σ h0 h H locs ls hP hS hl
    rw [wX11_summed_4] at h
    refine lv_iload_n hx hb dX11_summed_4 rfl (lv_at hl 3 rfl) ?_
    refine lv_iconst (v := (1 : Int32)) hx hb dX11_summed_5 (by decide) ?_
    refine lv_aload_n hx hb dX11_summed_6 rfl (lv_at hl 0 rfl) ?_
    refine rk_get X hP (C := RX11) (T := TX11) (N := 44) (ci := 11) wix_11 h0 rfl rfl 30 (by decide) (wi_29 _ (List.mem_of_getElem? (i := 13) rfl)) rfl rfl dX11_summed_7 ?_
    refine lv_bipush (v := (116 : Int32)) hx hb dX11_summed_10 (by decide) ?_
    have b1 : vp_in (116 : Int32) 117 := by unfold vp_in; decide
    refine rk_iald X hP (n := 117) (klM_X11_30 h0) (fun _ _ => rfl) b1 dX11_summed_12 ?_
    refine lv_ishl hx hb dX11_summed_13 ?_
    refine lv_icmp_ge (tgt := 67) hx hb dX11_summed_14 (by decide) (fun c1 => ?_) (fun c1 => ?_)
    · have h := h.1 c1
      refine lv_iload_n hx hb dX11_summed_67 rfl (lv_at hl 2 rfl) ?_
      exact rk_iret X rfl kM_len h hP hS dX11_summed_68
    · have h := h.2 c1
      refine lv_aload_n hx hb dX11_summed_17 rfl (lv_at hl 0 rfl) ?_
      refine lv_iload_n hx hb dX11_summed_18 rfl (lv_at hl 3 rfl) ?_
      refine rk_callv (va_runV (As := [.int v3]) (rest := []) X.1 (mX11_setsWires l D cy B v0 v3 σ h0 h) (cwV 1 hts (gW_V (wi_39 _ (List.mem_of_getElem? (i := 16) rfl)) (wi_39 _ (List.mem_of_getElem? (i := 17) rfl)) (wi_39 _ (List.mem_of_getElem? (i := 18) rfl)) (wi_30 _ (List.mem_of_getElem? (i := 9) rfl)) (wi_39 _ (List.mem_of_getElem? (i := 8) rfl))) rfl rfl rfl hd_X11_setsWires ⟨Nat.le_of_ble_eq_true rfl, Nat.le_of_ble_eq_true rfl⟩) (rk_preV X hS hP h0 rfl rfl [.int v3]) rfl rfl hl.1 rfl (lv_room (Nat.le_of_ble_eq_true rfl)) dX11_summed_19 ⟨Nat.zero_le _, Nat.zero_le _⟩) hS (fun _ h => h) (fun s1 H locs h hP hS => ?_)
      refine lv_aload_n hx hb dX11_summed_22 rfl (lv_at hl 0 rfl) ?_
      refine lv_aload_n hx hb dX11_summed_23 rfl (lv_at hl 0 rfl) ?_
      refine rk_calli (va_runV (As := []) (rest := [.ref (B + v0)]) X.1 (mX11_allNodes l D cy B v0 s1 h0 h) (cwV 0 hts (gW_V (wi_39 _ (List.mem_of_getElem? (i := 19) rfl)) (wi_39 _ (List.mem_of_getElem? (i := 20) rfl)) (wi_39 _ (List.mem_of_getElem? (i := 21) rfl)) (wi_30 _ (List.mem_of_getElem? (i := 9) rfl)) (wi_39 _ (List.mem_of_getElem? (i := 14) rfl))) rfl rfl rfl hd_X11_allNodes ⟨Nat.le_of_ble_eq_true rfl, Nat.le_of_ble_eq_true rfl⟩) (rk_preV X hS hP h0 rfl rfl []) rfl rfl hl.1 rfl (lv_room (Nat.le_of_ble_eq_true rfl)) dX11_summed_24 ⟨Nat.zero_le _, Nat.zero_le _⟩) hS (fun _ h => h) (fun r1 s2 H locs h hP hS => ?_)
      refine rk_calli (va_runV (As := [.int r1]) (rest := []) X.1 (mX11_product l D cy B v0 r1 s2 h0 h) (cwV 1 hts (gW_V (wi_39 _ (List.mem_of_getElem? (i := 22) rfl)) (wi_39 _ (List.mem_of_getElem? (i := 23) rfl)) (wi_40 _ (List.mem_of_getElem? (i := 0) rfl)) (wi_30 _ (List.mem_of_getElem? (i := 9) rfl)) (wi_39 _ (List.mem_of_getElem? (i := 10) rfl))) rfl rfl rfl hd_X11_product ⟨Nat.le_of_ble_eq_true rfl, Nat.le_of_ble_eq_true rfl⟩) (rk_preV X hS hP h0 rfl rfl [.int r1]) rfl rfl hl.1 rfl (lv_room (Nat.le_of_ble_eq_true rfl)) dX11_summed_27 ⟨Nat.zero_le _, Nat.zero_le _⟩) hS (fun _ h => h) (fun r2 s3 H locs h hP hS => ?_)
      refine lv_istore (lv' := [(4, .int r2), (0, .ref (B + v0)), (1, .int v1), (2, .int v2), (3, .int v3)]) hx hb dX11_summed_30 hl (by decide) rfl (fun ls hl => ?_)
      refine lv_iload_n hx hb dX11_summed_32 rfl (lv_at hl 2 rfl) ?_
      refine lv_if_eq (tgt := 51) hx hb dX11_summed_33 (by decide) (fun c2 => ?_) (fun c2 => ?_)
      · have h := h.1 c2
        refine lv_iload_n hx hb dX11_summed_51 rfl (lv_at hl 3 rfl) ?_
        refine lv_iload hx hb dX11_summed_52 (lv_at hl 0 rfl) ?_
        refine lv_iadd hx hb dX11_summed_54 ?_
        refine lv_aload_n hx hb dX11_summed_55 rfl (lv_at hl 1 rfl) ?_
        refine rk_calli (va_runV (As := []) (rest := [.int (v2 + r2)]) X.1 (mX11_p l D cy B v0 s3 h0 h) (cwV 0 hts (gW_V (wi_35 _ (List.mem_of_getElem? (i := 21) rfl)) (wi_35 _ (List.mem_of_getElem? (i := 22) rfl)) (wi_35 _ (List.mem_of_getElem? (i := 23) rfl)) (wi_30 _ (List.mem_of_getElem? (i := 9) rfl)) (wi_35 _ (List.mem_of_getElem? (i := 4) rfl))) rfl rfl rfl hd_X11_p ⟨Nat.le_of_ble_eq_true rfl, Nat.le_of_ble_eq_true rfl⟩) (rk_preV X hS hP h0 rfl rfl []) rfl rfl hl.1 rfl (lv_room (Nat.le_of_ble_eq_true rfl)) dX11_summed_56 ⟨Nat.zero_le _, Nat.zero_le _⟩) hS (fun _ h => h) (fun r3 s4 H locs h hP hS => ?_)
        obtain ⟨z1, h⟩ := h
        refine lv_irem hx hb dX11_summed_59 z1 ?_
        exact tX11_summed_60 X ih _ _ _ _ _ h0 h _ _ _ hP hS (lv_sub hl [1, 2, 4] rfl)
      · have h := h.2 c2
        refine lv_iload_n hx hb dX11_summed_36 rfl (lv_at hl 3 rfl) ?_
        refine lv_iload hx hb dX11_summed_37 (lv_at hl 0 rfl) ?_
        refine lv_if_ne (tgt := 46) hx hb dX11_summed_39 (by decide) (fun c3 => ?_) (fun c3 => ?_)
        · have h := h.1 c3
          refine lv_iconst (v := (1 : Int32)) hx hb dX11_summed_46 (by decide) ?_
          exact tX11_summed_47 X ih _ _ _ _ _ _ h0 h _ _ _ hP hS (lv_sub hl [1, 2, 4] rfl)
        · have h := h.2 c3
          refine lv_iconst (v := (0 : Int32)) hx hb dX11_summed_42 (by decide) ?_
          refine lv_goto (tgt := 47) hx hb dX11_summed_43 (by decide) ?_
          exact tX11_summed_47 X ih _ _ _ _ _ _ h0 h _ _ _ hP hS (lv_sub hl [1, 2, 4] rfl)
set_option maxRecDepth 100000 in
set_option maxHeartbeats 4000000 in
theorem mX11_summed (l : Launch) (D : va_G) (cy : Nat → ClassId) (B : Nat) (v0 : Nat) (v1 : Int32) (σ : St) (h0 : kM[v0]? = some 11) {post : Int32 → St → Prop} (h : wX11_summed v0 v1 σ post) : Met l yX11_summed (Cond.code yX11_summed cX11_summed 5 (some .int) :: WALL) (rmD 3) (PcW D cy B kM σ [.ref (B + v0), .int v1]) (va_Qi post (BW D cy B kM) (AW B 26)) 0 0 (AW B 26) := by
  refine Met.ofK (cc := cX11_summed) (maxL := 5) (ret := (some .int)) (by decide +kernel) rfl kM_len ?_
  intro p e s m below meth c X hP
  obtain ⟨⟨hx, hb, hml, hown, hts⟩, hr, hlk, hK, hN, hZ⟩ := id X
  have hD : ∀ σ, va_D (AW B 26) (wW cy B kM σ) := AW_D kM_len
  have hS : va_S (AW B 26) s.heap s.heap [] := va_S.rf
  have hl := lv_entry ([.ref (B + v0), .int v1]) (n := 5) (Nat.le_of_ble_eq_true rfl)
  rw [lg_entry_eq]
  generalize (lg_sl ([.ref (B + v0), .int v1]) ++ List.replicate (5 - (lg_sl ([.ref (B + v0), .int v1])).length) Slot.unset).toArray = ls at hl ⊢
  have hl : lv_has ls 5 [(0, .ref (B + v0)), (1, .int v1)] := hl
  unfold wX11_summed at h
  refine lv_iconst (v := (0 : Int32)) hx hb dX11_summed_0 (by decide) ?_
  refine lv_istore_n (lv' := [(2, .int (0 : Int32)), (0, .ref (B + v0)), (1, .int v1)]) hx hb dX11_summed_1 rfl hl (by decide) rfl (fun ls hl => ?_)
  refine lv_iconst (v := (0 : Int32)) hx hb dX11_summed_2 (by decide) ?_
  refine lv_istore_n (lv' := [(3, .int (0 : Int32)), (2, .int (0 : Int32)), (0, .ref (B + v0)), (1, .int v1)]) hx hb dX11_summed_3 rfl hl (by decide) rfl (fun ls hl => ?_)
  obtain ⟨j, h⟩ := h
  exact tX11_summed_4 X j _ _ _ _ _ h0 h _ _ _ hP hS (lv_sub hl [2, 3, 1, 0] rfl)
