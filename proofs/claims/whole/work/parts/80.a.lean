theorem hd_J6_bitCount_0f7a4 : yJ6_bitCount_0f7a4.cls ≠ "java/lang/invoke/MethodHandle" ∧ yJ6_bitCount_0f7a4.cls ≠ "java/lang/invoke/VarHandle" ∧ (parseMethodDescriptor yJ6_bitCount_0f7a4.desc).map (fun d => d.parameters.length) = some 1 := by decide +kernel
set_option maxRecDepth 100000 in
set_option maxHeartbeats 4000000 in
theorem mJ6_bitCount_0f7a4 (l : Launch) (D : va_G) (cy : Nat → ClassId) (B : Nat) (v0 : Int32) (σ : St) {post : Int32 → St → Prop} (h : wJ6_bitCount_0f7a4 v0 σ post) : Met l yJ6_bitCount_0f7a4 (Cond.code yJ6_bitCount_0f7a4 cJ6_bitCount_0f7a4 1 (some .int) :: WALL) (rmD 0) (PcW D cy B kX σ [.int v0]) (va_Qi post (BW D cy B kX) (AW B 346)) 0 0 (AW B 346) := by
  refine Met.ofK (cc := cJ6_bitCount_0f7a4) (maxL := 1) (ret := (some .int)) (by decide +kernel) rfl kX_len ?_
  intro p e s m below meth c X hP
  obtain ⟨⟨hx, hb, hml, hown, hts⟩, hr, hlk, hK, hN, hZ⟩ := id X
  have hD : ∀ σ, va_D (AW B 346) (wW cy B kX σ) := AW_D kX_len
  have hS : va_S (AW B 346) s.heap s.heap [] := va_S.rf
  have hl := lv_entry ([.int v0]) (n := 1) (Nat.le_of_ble_eq_true rfl)
  rw [lg_entry_eq]
  generalize (lg_sl ([.int v0]) ++ List.replicate (1 - (lg_sl ([.int v0])).length) Slot.unset).toArray = ls at hl ⊢
  have hl : lv_has ls 1 [(0, .int v0)] := hl
  unfold wJ6_bitCount_0f7a4 at h
  refine lv_iload_n hx hb dJ6_bitCount_0f7a4_0 rfl (lv_at hl 0 rfl) ?_
  refine lv_iload_n hx hb dJ6_bitCount_0f7a4_1 rfl (lv_at hl 0 rfl) ?_
  refine lv_iconst (v := (1 : Int32)) hx hb dJ6_bitCount_0f7a4_2 (by decide) ?_
  refine lv_iushr hx hb dJ6_bitCount_0f7a4_3 rfl ?_
  refine lv_ldcw (v := (1431655765 : Int32)) hx hb hown (hts (.constant RJ6 265 (1431655765 : Int32)) (wi_3 _ (List.mem_of_getElem? (i := 20) rfl))) dJ6_bitCount_0f7a4_4 ?_
  refine lv_iand hx hb dJ6_bitCount_0f7a4_7 ?_
  refine lv_isub hx hb dJ6_bitCount_0f7a4_8 ?_
  refine lv_topi (fun x1 ex1 => ?_)
  have h := h x1 ex1
  refine lv_istore_n (lv' := [(0, .int x1)]) hx hb dJ6_bitCount_0f7a4_9 rfl hl (by decide) rfl (fun ls hl => ?_)
  refine lv_iload_n hx hb dJ6_bitCount_0f7a4_10 rfl (lv_at hl 0 rfl) ?_
  refine lv_ldcw (v := (858993459 : Int32)) hx hb hown (hts (.constant RJ6 266 (858993459 : Int32)) (wi_3 _ (List.mem_of_getElem? (i := 21) rfl))) dJ6_bitCount_0f7a4_11 ?_
  refine lv_iand hx hb dJ6_bitCount_0f7a4_14 ?_
  refine lv_iload_n hx hb dJ6_bitCount_0f7a4_15 rfl (lv_at hl 0 rfl) ?_
  refine lv_iconst (v := (2 : Int32)) hx hb dJ6_bitCount_0f7a4_16 (by decide) ?_
  refine lv_iushr hx hb dJ6_bitCount_0f7a4_17 rfl ?_
  refine lv_ldcw (v := (858993459 : Int32)) hx hb hown (hts (.constant RJ6 266 (858993459 : Int32)) (wi_3 _ (List.mem_of_getElem? (i := 21) rfl))) dJ6_bitCount_0f7a4_18 ?_
  refine lv_iand hx hb dJ6_bitCount_0f7a4_21 ?_
  refine lv_iadd hx hb dJ6_bitCount_0f7a4_22 ?_
  refine lv_topi (fun x2 ex2 => ?_)
  have h := h x2 ex2
  refine lv_istore_n (lv' := [(0, .int x2)]) hx hb dJ6_bitCount_0f7a4_23 rfl hl (by decide) rfl (fun ls hl => ?_)
  refine lv_iload_n hx hb dJ6_bitCount_0f7a4_24 rfl (lv_at hl 0 rfl) ?_
  refine lv_iload_n hx hb dJ6_bitCount_0f7a4_25 rfl (lv_at hl 0 rfl) ?_
  refine lv_iconst (v := (4 : Int32)) hx hb dJ6_bitCount_0f7a4_26 (by decide) ?_
  refine lv_iushr hx hb dJ6_bitCount_0f7a4_27 rfl ?_
  refine lv_iadd hx hb dJ6_bitCount_0f7a4_28 ?_
  refine lv_ldcw (v := (252645135 : Int32)) hx hb hown (hts (.constant RJ6 267 (252645135 : Int32)) (wi_3 _ (List.mem_of_getElem? (i := 22) rfl))) dJ6_bitCount_0f7a4_29 ?_
  refine lv_iand hx hb dJ6_bitCount_0f7a4_32 ?_
  refine lv_topi (fun x3 ex3 => ?_)
  have h := h x3 ex3
  refine lv_istore_n (lv' := [(0, .int x3)]) hx hb dJ6_bitCount_0f7a4_33 rfl hl (by decide) rfl (fun ls hl => ?_)
  refine lv_iload_n hx hb dJ6_bitCount_0f7a4_34 rfl (lv_at hl 0 rfl) ?_
  refine lv_iload_n hx hb dJ6_bitCount_0f7a4_35 rfl (lv_at hl 0 rfl) ?_
  refine lv_bipush (v := (8 : Int32)) hx hb dJ6_bitCount_0f7a4_36 (by decide) ?_
  refine lv_iushr hx hb dJ6_bitCount_0f7a4_38 rfl ?_
  refine lv_iadd hx hb dJ6_bitCount_0f7a4_39 ?_
  refine lv_topi (fun x4 ex4 => ?_)
  have h := h x4 ex4
  refine lv_istore_n (lv' := [(0, .int x4)]) hx hb dJ6_bitCount_0f7a4_40 rfl hl (by decide) rfl (fun ls hl => ?_)
  refine lv_iload_n hx hb dJ6_bitCount_0f7a4_41 rfl (lv_at hl 0 rfl) ?_
  refine lv_iload_n hx hb dJ6_bitCount_0f7a4_42 rfl (lv_at hl 0 rfl) ?_
  refine lv_bipush (v := (16 : Int32)) hx hb dJ6_bitCount_0f7a4_43 (by decide) ?_
  refine lv_iushr hx hb dJ6_bitCount_0f7a4_45 rfl ?_
  refine lv_iadd hx hb dJ6_bitCount_0f7a4_46 ?_
  refine lv_topi (fun x5 ex5 => ?_)
  have h := h x5 ex5
  refine lv_istore_n (lv' := [(0, .int x5)]) hx hb dJ6_bitCount_0f7a4_47 rfl hl (by decide) rfl (fun ls hl => ?_)
  refine lv_iload_n hx hb dJ6_bitCount_0f7a4_48 rfl (lv_at hl 0 rfl) ?_
  refine lv_bipush (v := (63 : Int32)) hx hb dJ6_bitCount_0f7a4_49 (by decide) ?_
  refine lv_iand hx hb dJ6_bitCount_0f7a4_51 ?_
  exact rk_iret X rfl kX_len h hP hS dJ6_bitCount_0f7a4_52

theorem hd_J6_numberOfTrailingZeros_0f7a4 : yJ6_numberOfTrailingZeros_0f7a4.cls ≠ "java/lang/invoke/MethodHandle" ∧ yJ6_numberOfTrailingZeros_0f7a4.cls ≠ "java/lang/invoke/VarHandle" ∧ (parseMethodDescriptor yJ6_numberOfTrailingZeros_0f7a4.desc).map (fun d => d.parameters.length) = some 1 := by decide +kernel
set_option maxRecDepth 100000 in
set_option maxHeartbeats 4000000 in
theorem tJ6_numberOfTrailingZeros_0f7a4_74 {p : Program} {l : Launch} {e : Env} {s : State} {m : MethodId} {av : Array Value} {below : List Frame} {meth : Method} {c : Code} {D : va_G} {cy : Nat → ClassId} {B : Nat} (X : kC p s m av meth c cJ6_numberOfTrailingZeros_0f7a4 2 (some .int) WALL RJ6 D cy (AW B 346)) {post : Int32 → St → Prop} : ∀ (v0 : Int32) (v1 : Int32) (σ : St), wJ6_numberOfTrailingZeros_0f7a4_74 post v0 v1 σ → ∀ (H : Heap) (locs : List Loc) (ls : Array Slot), va_P D vwCl (wW cy B kX σ) H → va_S (AW B 346) s.heap H locs → lv_has ls 2 [(0, .int v0), (1, .int v1)] → W p l e (rmD 0) s m av below meth c H locs 0 0 (MQ below (va_Qi post (BW D cy B kX) (AW B 346)) av s 0 0 (AW B 346)) (F0 m 74 ls []) := by
  obtain ⟨⟨hx, hb, hml, hown, hts⟩, hr, hlk, hK, hN, hZ⟩ := id X
  have hD : ∀ σ, va_D (AW B 346) (wW cy B kX σ) := AW_D kX_len
  intro v0 v1 σ h H locs ls hP hS hl
  unfold wJ6_numberOfTrailingZeros_0f7a4_74 at h
  refine lv_iload_n hx hb dJ6_numberOfTrailingZeros_0f7a4_74 rfl (lv_at hl 1 rfl) ?_
  refine lv_iload_n hx hb dJ6_numberOfTrailingZeros_0f7a4_75 rfl (lv_at hl 0 rfl) ?_
  refine lv_iconst (v := (1 : Int32)) hx hb dJ6_numberOfTrailingZeros_0f7a4_76 (by decide) ?_
  refine lv_iushr hx hb dJ6_numberOfTrailingZeros_0f7a4_77 rfl ?_
  refine lv_iadd hx hb dJ6_numberOfTrailingZeros_0f7a4_78 ?_
  exact rk_iret X rfl kX_len h hP hS dJ6_numberOfTrailingZeros_0f7a4_79
set_option maxRecDepth 100000 in
set_option maxHeartbeats 4000000 in
theorem tJ6_numberOfTrailingZeros_0f7a4_62 {p : Program} {l : Launch} {e : Env} {s : State} {m : MethodId} {av : Array Value} {below : List Frame} {meth : Method} {c : Code} {D : va_G} {cy : Nat → ClassId} {B : Nat} (X : kC p s m av meth c cJ6_numberOfTrailingZeros_0f7a4 2 (some .int) WALL RJ6 D cy (AW B 346)) {post : Int32 → St → Prop} : ∀ (v0 : Int32) (v1 : Int32) (σ : St), wJ6_numberOfTrailingZeros_0f7a4_62 post v0 v1 σ → ∀ (H : Heap) (locs : List Loc) (ls : Array Slot), va_P D vwCl (wW cy B kX σ) H → va_S (AW B 346) s.heap H locs → lv_has ls 2 [(0, .int v0), (1, .int v1)] → W p l e (rmD 0) s m av below meth c H locs 0 0 (MQ below (va_Qi post (BW D cy B kX) (AW B 346)) av s 0 0 (AW B 346)) (F0 m 62 ls []) := by
  obtain ⟨⟨hx, hb, hml, hown, hts⟩, hr, hlk, hK, hN, hZ⟩ := id X
  have hD : ∀ σ, va_D (AW B 346) (wW cy B kX σ) := AW_D kX_len
  intro v0 v1 σ h H locs ls hP hS hl
  unfold wJ6_numberOfTrailingZeros_0f7a4_62 at h
  refine lv_iload_n hx hb dJ6_numberOfTrailingZeros_0f7a4_62 rfl (lv_at hl 0 rfl) ?_
  refine lv_iconst (v := (4 : Int32)) hx hb dJ6_numberOfTrailingZeros_0f7a4_63 (by decide) ?_
  refine lv_icmp_le (tgt := 74) hx hb dJ6_numberOfTrailingZeros_0f7a4_64 (by decide) (fun c1 => ?_) (fun c1 => ?_)
  · have h := h.1 c1
    exact tJ6_numberOfTrailingZeros_0f7a4_74 X _ _ _ h _ _ _ hP hS (lv_sub hl [0, 1] rfl)
  · have h := h.2 c1
    obtain ⟨x1, ex1⟩ : ∃ y : Int32, y = v1 + (2 : Int32) := ⟨_, rfl⟩
    have h := h x1 ex1
    refine lv_iinc (v := x1) (lv' := [(1, .int x1), (0, .int v0)]) hx hb dJ6_numberOfTrailingZeros_0f7a4_67 hl (k := 1) rfl (by rw [ex1]; rfl) (by decide) rfl (fun ls hl => ?_)
    refine lv_iload_n hx hb dJ6_numberOfTrailingZeros_0f7a4_70 rfl (lv_at hl 1 rfl) ?_
    refine lv_iconst (v := (2 : Int32)) hx hb dJ6_numberOfTrailingZeros_0f7a4_71 (by decide) ?_
    refine lv_iushr hx hb dJ6_numberOfTrailingZeros_0f7a4_72 rfl ?_
    refine lv_topi (fun x2 ex2 => ?_)
    have h := h x2 ex2
    refine lv_istore_n (lv' := [(0, .int x2), (1, .int x1)]) hx hb dJ6_numberOfTrailingZeros_0f7a4_73 rfl hl (by decide) rfl (fun ls hl => ?_)
    exact tJ6_numberOfTrailingZeros_0f7a4_74 X _ _ _ h _ _ _ hP hS (lv_sub hl [0, 1] rfl)
set_option maxRecDepth 100000 in
set_option maxHeartbeats 4000000 in
theorem tJ6_numberOfTrailingZeros_0f7a4_49 {p : Program} {l : Launch} {e : Env} {s : State} {m : MethodId} {av : Array Value} {below : List Frame} {meth : Method} {c : Code} {D : va_G} {cy : Nat → ClassId} {B : Nat} (X : kC p s m av meth c cJ6_numberOfTrailingZeros_0f7a4 2 (some .int) WALL RJ6 D cy (AW B 346)) {post : Int32 → St → Prop} : ∀ (v0 : Int32) (v1 : Int32) (σ : St), wJ6_numberOfTrailingZeros_0f7a4_49 post v0 v1 σ → ∀ (H : Heap) (locs : List Loc) (ls : Array Slot), va_P D vwCl (wW cy B kX σ) H → va_S (AW B 346) s.heap H locs → lv_has ls 2 [(0, .int v0), (1, .int v1)] → W p l e (rmD 0) s m av below meth c H locs 0 0 (MQ below (va_Qi post (BW D cy B kX) (AW B 346)) av s 0 0 (AW B 346)) (F0 m 49 ls []) := by
  obtain ⟨⟨hx, hb, hml, hown, hts⟩, hr, hlk, hK, hN, hZ⟩ := id X
  have hD : ∀ σ, va_D (AW B 346) (wW cy B kX σ) := AW_D kX_len
  intro v0 v1 σ h H locs ls hP hS hl
  unfold wJ6_numberOfTrailingZeros_0f7a4_49 at h
  refine lv_iload_n hx hb dJ6_numberOfTrailingZeros_0f7a4_49 rfl (lv_at hl 0 rfl) ?_
  refine lv_bipush (v := (16 : Int32)) hx hb dJ6_numberOfTrailingZeros_0f7a4_50 (by decide) ?_
  refine lv_icmp_le (tgt := 62) hx hb dJ6_numberOfTrailingZeros_0f7a4_52 (by decide) (fun c1 => ?_) (fun c1 => ?_)
  · have h := h.1 c1
    exact tJ6_numberOfTrailingZeros_0f7a4_62 X _ _ _ h _ _ _ hP hS (lv_sub hl [0, 1] rfl)
  · have h := h.2 c1
    obtain ⟨x1, ex1⟩ : ∃ y : Int32, y = v1 + (4 : Int32) := ⟨_, rfl⟩
    have h := h x1 ex1
    refine lv_iinc (v := x1) (lv' := [(1, .int x1), (0, .int v0)]) hx hb dJ6_numberOfTrailingZeros_0f7a4_55 hl (k := 1) rfl (by rw [ex1]; rfl) (by decide) rfl (fun ls hl => ?_)
    refine lv_iload_n hx hb dJ6_numberOfTrailingZeros_0f7a4_58 rfl (lv_at hl 1 rfl) ?_
    refine lv_iconst (v := (4 : Int32)) hx hb dJ6_numberOfTrailingZeros_0f7a4_59 (by decide) ?_
    refine lv_iushr hx hb dJ6_numberOfTrailingZeros_0f7a4_60 rfl ?_
    refine lv_topi (fun x2 ex2 => ?_)
    have h := h x2 ex2
    refine lv_istore_n (lv' := [(0, .int x2), (1, .int x1)]) hx hb dJ6_numberOfTrailingZeros_0f7a4_61 rfl hl (by decide) rfl (fun ls hl => ?_)
    exact tJ6_numberOfTrailingZeros_0f7a4_62 X _ _ _ h _ _ _ hP hS (lv_sub hl [0, 1] rfl)
set_option maxRecDepth 100000 in
set_option maxHeartbeats 4000000 in
theorem tJ6_numberOfTrailingZeros_0f7a4_34 {p : Program} {l : Launch} {e : Env} {s : State} {m : MethodId} {av : Array Value} {below : List Frame} {meth : Method} {c : Code} {D : va_G} {cy : Nat → ClassId} {B : Nat} (X : kC p s m av meth c cJ6_numberOfTrailingZeros_0f7a4 2 (some .int) WALL RJ6 D cy (AW B 346)) {post : Int32 → St → Prop} : ∀ (v0 : Int32) (v1 : Int32) (σ : St), wJ6_numberOfTrailingZeros_0f7a4_34 post v0 v1 σ → ∀ (H : Heap) (locs : List Loc) (ls : Array Slot), va_P D vwCl (wW cy B kX σ) H → va_S (AW B 346) s.heap H locs → lv_has ls 2 [(0, .int v0), (1, .int v1)] → W p l e (rmD 0) s m av below meth c H locs 0 0 (MQ below (va_Qi post (BW D cy B kX) (AW B 346)) av s 0 0 (AW B 346)) (F0 m 34 ls []) := by
  obtain ⟨⟨hx, hb, hml, hown, hts⟩, hr, hlk, hK, hN, hZ⟩ := id X
  have hD : ∀ σ, va_D (AW B 346) (wW cy B kX σ) := AW_D kX_len
  intro v0 v1 σ h H locs ls hP hS hl
  unfold wJ6_numberOfTrailingZeros_0f7a4_34 at h
  refine lv_iload_n hx hb dJ6_numberOfTrailingZeros_0f7a4_34 rfl (lv_at hl 0 rfl) ?_
  refine lv_sipush (v := (256 : Int32)) hx hb dJ6_numberOfTrailingZeros_0f7a4_35 (by decide) ?_
  refine lv_icmp_le (tgt := 49) hx hb dJ6_numberOfTrailingZeros_0f7a4_38 (by decide) (fun c1 => ?_) (fun c1 => ?_)
  · have h := h.1 c1
    exact tJ6_numberOfTrailingZeros_0f7a4_49 X _ _ _ h _ _ _ hP hS (lv_sub hl [0, 1] rfl)
  · have h := h.2 c1
    obtain ⟨x1, ex1⟩ : ∃ y : Int32, y = v1 + (8 : Int32) := ⟨_, rfl⟩
    have h := h x1 ex1
    refine lv_iinc (v := x1) (lv' := [(1, .int x1), (0, .int v0)]) hx hb dJ6_numberOfTrailingZeros_0f7a4_41 hl (k := 1) rfl (by rw [ex1]; rfl) (by decide) rfl (fun ls hl => ?_)
    refine lv_iload_n hx hb dJ6_numberOfTrailingZeros_0f7a4_44 rfl (lv_at hl 1 rfl) ?_
    refine lv_bipush (v := (8 : Int32)) hx hb dJ6_numberOfTrailingZeros_0f7a4_45 (by decide) ?_
    refine lv_iushr hx hb dJ6_numberOfTrailingZeros_0f7a4_47 rfl ?_
    refine lv_topi (fun x2 ex2 => ?_)
    have h := h x2 ex2
    refine lv_istore_n (lv' := [(0, .int x2), (1, .int x1)]) hx hb dJ6_numberOfTrailingZeros_0f7a4_48 rfl hl (by decide) rfl (fun ls hl => ?_)
    exact tJ6_numberOfTrailingZeros_0f7a4_49 X _ _ _ h _ _ _ hP hS (lv_sub hl [0, 1] rfl)
set_option maxRecDepth 100000 in
set_option maxHeartbeats 4000000 in
theorem mJ6_numberOfTrailingZeros_0f7a4 (l : Launch) (D : va_G) (cy : Nat → ClassId) (B : Nat) (v0 : Int32) (σ : St) {post : Int32 → St → Prop} (h : wJ6_numberOfTrailingZeros_0f7a4 v0 σ post) : Met l yJ6_numberOfTrailingZeros_0f7a4 (Cond.code yJ6_numberOfTrailingZeros_0f7a4 cJ6_numberOfTrailingZeros_0f7a4 2 (some .int) :: WALL) (rmD 0) (PcW D cy B kX σ [.int v0]) (va_Qi post (BW D cy B kX) (AW B 346)) 0 0 (AW B 346) := by
  refine Met.ofK (cc := cJ6_numberOfTrailingZeros_0f7a4) (maxL := 2) (ret := (some .int)) (by decide +kernel) rfl kX_len ?_
  intro p e s m below meth c X hP
  obtain ⟨⟨hx, hb, hml, hown, hts⟩, hr, hlk, hK, hN, hZ⟩ := id X
  have hD : ∀ σ, va_D (AW B 346) (wW cy B kX σ) := AW_D kX_len
  have hS : va_S (AW B 346) s.heap s.heap [] := va_S.rf
  have hl := lv_entry ([.int v0]) (n := 2) (Nat.le_of_ble_eq_true rfl)
  rw [lg_entry_eq]
  generalize (lg_sl ([.int v0]) ++ List.replicate (2 - (lg_sl ([.int v0])).length) Slot.unset).toArray = ls at hl ⊢
  have hl : lv_has ls 2 [(0, .int v0)] := hl
  unfold wJ6_numberOfTrailingZeros_0f7a4 at h
  refine lv_iload_n hx hb dJ6_numberOfTrailingZeros_0f7a4_0 rfl (lv_at hl 0 rfl) ?_
  refine lv_iconst (v := (-1 : Int32)) hx hb dJ6_numberOfTrailingZeros_0f7a4_1 (by decide) ?_
  refine lv_ixor hx hb dJ6_numberOfTrailingZeros_0f7a4_2 ?_
  refine lv_iload_n hx hb dJ6_numberOfTrailingZeros_0f7a4_3 rfl (lv_at hl 0 rfl) ?_
  refine lv_iconst (v := (1 : Int32)) hx hb dJ6_numberOfTrailingZeros_0f7a4_4 (by decide) ?_
  refine lv_isub hx hb dJ6_numberOfTrailingZeros_0f7a4_5 ?_
  refine lv_iand hx hb dJ6_numberOfTrailingZeros_0f7a4_6 ?_
  refine lv_topi (fun x1 ex1 => ?_)
  have h := h x1 ex1
  refine lv_istore_n (lv' := [(0, .int x1)]) hx hb dJ6_numberOfTrailingZeros_0f7a4_7 rfl hl (by decide) rfl (fun ls hl => ?_)
  refine lv_iload_n hx hb dJ6_numberOfTrailingZeros_0f7a4_8 rfl (lv_at hl 0 rfl) ?_
  refine lv_if_gt (tgt := 17) hx hb dJ6_numberOfTrailingZeros_0f7a4_9 (by decide) (fun c1 => ?_) (fun c1 => ?_)
  · have h := h.1 c1
    refine lv_iconst (v := (1 : Int32)) hx hb dJ6_numberOfTrailingZeros_0f7a4_17 (by decide) ?_
    refine lv_istore_n (lv' := [(1, .int (1 : Int32)), (0, .int x1)]) hx hb dJ6_numberOfTrailingZeros_0f7a4_18 rfl hl (by decide) rfl (fun ls hl => ?_)
    refine lv_iload_n hx hb dJ6_numberOfTrailingZeros_0f7a4_19 rfl (lv_at hl 1 rfl) ?_
    refine lv_ldcw (v := (65536 : Int32)) hx hb hown (hts (.constant RJ6 264 (65536 : Int32)) (wi_18 _ (List.mem_of_getElem? (i := 3) rfl))) dJ6_numberOfTrailingZeros_0f7a4_20 ?_
    refine lv_icmp_le (tgt := 34) hx hb dJ6_numberOfTrailingZeros_0f7a4_23 (by decide) (fun c2 => ?_) (fun c2 => ?_)
    · have h := h.1 c2
      exact tJ6_numberOfTrailingZeros_0f7a4_34 X _ _ _ h _ _ _ hP hS (lv_sub hl [1, 0] rfl)
    · have h := h.2 c2
      obtain ⟨x2, ex2⟩ : ∃ y : Int32, y = (1 : Int32) + (16 : Int32) := ⟨_, rfl⟩
      have h := h x2 ex2
      refine lv_iinc (v := x2) (lv' := [(1, .int x2), (0, .int x1)]) hx hb dJ6_numberOfTrailingZeros_0f7a4_26 hl (k := 0) rfl (by rw [ex2]; rfl) (by decide) rfl (fun ls hl => ?_)
      refine lv_iload_n hx hb dJ6_numberOfTrailingZeros_0f7a4_29 rfl (lv_at hl 1 rfl) ?_
      refine lv_bipush (v := (16 : Int32)) hx hb dJ6_numberOfTrailingZeros_0f7a4_30 (by decide) ?_
      refine lv_iushr hx hb dJ6_numberOfTrailingZeros_0f7a4_32 rfl ?_
      refine lv_topi (fun x3 ex3 => ?_)
      have h := h x3 ex3
      refine lv_istore_n (lv' := [(0, .int x3), (1, .int x2)]) hx hb dJ6_numberOfTrailingZeros_0f7a4_33 rfl hl (by decide) rfl (fun ls hl => ?_)
      exact tJ6_numberOfTrailingZeros_0f7a4_34 X _ _ _ h _ _ _ hP hS (lv_sub hl [0, 1] rfl)
  · have h := h.2 c1
    refine lv_iload_n hx hb dJ6_numberOfTrailingZeros_0f7a4_12 rfl (lv_at hl 0 rfl) ?_
    refine lv_bipush (v := (32 : Int32)) hx hb dJ6_numberOfTrailingZeros_0f7a4_13 (by decide) ?_
    refine lv_iand hx hb dJ6_numberOfTrailingZeros_0f7a4_15 ?_
    exact rk_iret X rfl kX_len h hP hS dJ6_numberOfTrailingZeros_0f7a4_16

theorem hd_J9_floorMod_7cf53 : yJ9_floorMod_7cf53.cls ≠ "java/lang/invoke/MethodHandle" ∧ yJ9_floorMod_7cf53.cls ≠ "java/lang/invoke/VarHandle" ∧ (parseMethodDescriptor yJ9_floorMod_7cf53.desc).map (fun d => d.parameters.length) = some 2 := by decide +kernel
set_option maxRecDepth 100000 in
set_option maxHeartbeats 4000000 in
theorem mJ9_floorMod_7cf53 (l : Launch) (D : va_G) (cy : Nat → ClassId) (B : Nat) (v0 : Int32) (v1 : Int32) (σ : St) {post : Int32 → St → Prop} (h : wJ9_floorMod_7cf53 v0 v1 σ post) : Met l yJ9_floorMod_7cf53 (Cond.code yJ9_floorMod_7cf53 cJ9_floorMod_7cf53 3 (some .int) :: WALL) (rmD 0) (PcW D cy B kX σ [.int v0, .int v1]) (va_Qi post (BW D cy B kX) (AW B 346)) 0 0 (AW B 346) := by
  refine Met.ofK (cc := cJ9_floorMod_7cf53) (maxL := 3) (ret := (some .int)) (by decide +kernel) rfl kX_len ?_
  intro p e s m below meth c X hP
  obtain ⟨⟨hx, hb, hml, hown, hts⟩, hr, hlk, hK, hN, hZ⟩ := id X
  have hD : ∀ σ, va_D (AW B 346) (wW cy B kX σ) := AW_D kX_len
  have hS : va_S (AW B 346) s.heap s.heap [] := va_S.rf
  have hl := lv_entry ([.int v0, .int v1]) (n := 3) (Nat.le_of_ble_eq_true rfl)
  rw [lg_entry_eq]
  generalize (lg_sl ([.int v0, .int v1]) ++ List.replicate (3 - (lg_sl ([.int v0, .int v1])).length) Slot.unset).toArray = ls at hl ⊢
  have hl : lv_has ls 3 [(0, .int v0), (1, .int v1)] := hl
  unfold wJ9_floorMod_7cf53 at h
  refine lv_iload_n hx hb dJ9_floorMod_7cf53_0 rfl (lv_at hl 0 rfl) ?_
  refine lv_iload_n hx hb dJ9_floorMod_7cf53_1 rfl (lv_at hl 1 rfl) ?_
  obtain ⟨z1, h⟩ := h
  refine lv_irem hx hb dJ9_floorMod_7cf53_2 z1 ?_
  refine lv_topi (fun x1 ex1 => ?_)
  have h := h x1 ex1
  refine lv_istore_n (lv' := [(2, .int x1), (0, .int v0), (1, .int v1)]) hx hb dJ9_floorMod_7cf53_3 rfl hl (by decide) rfl (fun ls hl => ?_)
  refine lv_iload_n hx hb dJ9_floorMod_7cf53_4 rfl (lv_at hl 1 rfl) ?_
  refine lv_iload_n hx hb dJ9_floorMod_7cf53_5 rfl (lv_at hl 2 rfl) ?_
  refine lv_ixor hx hb dJ9_floorMod_7cf53_6 ?_
  refine lv_if_ge (tgt := 18) hx hb dJ9_floorMod_7cf53_7 (by decide) (fun c1 => ?_) (fun c1 => ?_)
  · have h := h.1 c1
    refine lv_iload_n hx hb dJ9_floorMod_7cf53_18 rfl (lv_at hl 0 rfl) ?_
    exact rk_iret X rfl kX_len h hP hS dJ9_floorMod_7cf53_19
  · have h := h.2 c1
    refine lv_iload_n hx hb dJ9_floorMod_7cf53_10 rfl (lv_at hl 0 rfl) ?_
    refine lv_if_eq (tgt := 18) hx hb dJ9_floorMod_7cf53_11 (by decide) (fun c2 => ?_) (fun c2 => ?_)
    · have h := h.1 c2
      refine lv_iload_n hx hb dJ9_floorMod_7cf53_18 rfl (lv_at hl 0 rfl) ?_
      exact rk_iret X rfl kX_len h hP hS dJ9_floorMod_7cf53_19
    · have h := h.2 c2
      refine lv_iload_n hx hb dJ9_floorMod_7cf53_14 rfl (lv_at hl 0 rfl) ?_
      refine lv_iload_n hx hb dJ9_floorMod_7cf53_15 rfl (lv_at hl 2 rfl) ?_
      refine lv_iadd hx hb dJ9_floorMod_7cf53_16 ?_
      exact rk_iret X rfl kX_len h hP hS dJ9_floorMod_7cf53_17

theorem hd_X10_mod : yX10_mod.cls ≠ "java/lang/invoke/MethodHandle" ∧ yX10_mod.cls ≠ "java/lang/invoke/VarHandle" ∧ (parseMethodDescriptor yX10_mod.desc).map (fun d => d.parameters.length) = some 2 := by decide +kernel
set_option maxRecDepth 100000 in
set_option maxHeartbeats 4000000 in
theorem mX10_mod (l : Launch) (D : va_G) (cy : Nat → ClassId) (B : Nat) (v0 : Int32) (v1 : Int32) (σ : St) {post : Int32 → St → Prop} (h : wX10_mod v0 v1 σ post) : Met l yX10_mod (Cond.code yX10_mod cX10_mod 2 (some .int) :: WALL) (rmD 1) (PcW D cy B kX σ [.int v0, .int v1]) (va_Qi post (BW D cy B kX) (AW B 346)) 0 0 (AW B 346) := by
  refine Met.ofK (cc := cX10_mod) (maxL := 2) (ret := (some .int)) (by decide +kernel) rfl kX_len ?_
  intro p e s m below meth c X hP
  obtain ⟨⟨hx, hb, hml, hown, hts⟩, hr, hlk, hK, hN, hZ⟩ := id X
  have hD : ∀ σ, va_D (AW B 346) (wW cy B kX σ) := AW_D kX_len
  have hS : va_S (AW B 346) s.heap s.heap [] := va_S.rf
  have hl := lv_entry ([.int v0, .int v1]) (n := 2) (Nat.le_of_ble_eq_true rfl)
  rw [lg_entry_eq]
  generalize (lg_sl ([.int v0, .int v1]) ++ List.replicate (2 - (lg_sl ([.int v0, .int v1])).length) Slot.unset).toArray = ls at hl ⊢
  have hl : lv_has ls 2 [(0, .int v0), (1, .int v1)] := hl
  unfold wX10_mod at h
  refine lv_iload_n hx hb dX10_mod_0 rfl (lv_at hl 1 rfl) ?_
  refine lv_if_le (tgt := 12) hx hb dX10_mod_1 (by decide) (fun c1 => ?_) (fun c1 => ?_)
  · have h := h.1 c1
    refine lv_iconst (v := (0 : Int32)) hx hb dX10_mod_12 (by decide) ?_
    exact rk_iret X rfl kX_len h hP hS dX10_mod_13
  · have h := h.2 c1
    refine lv_iload_n hx hb dX10_mod_4 rfl (lv_at hl 0 rfl) ?_
    refine lv_iload_n hx hb dX10_mod_5 rfl (lv_at hl 1 rfl) ?_
    refine rk_calli (va_runS (As := [.int v0, .int v1]) (rest := []) X.1 (mJ9_floorMod_7cf53 l D cy B v0 v1 σ h) (va_cwS 2 hts (gW_S (wi_2 _ (List.mem_of_getElem? (i := 3) rfl)) (wi_2 _ (List.mem_of_getElem? (i := 4) rfl)) (wi_2 _ (List.mem_of_getElem? (i := 5) rfl)) (wi_2 _ (List.mem_of_getElem? (i := 1) rfl))) rfl rfl rfl hd_J9_floorMod_7cf53 ⟨Nat.le_of_ble_eq_true rfl, Nat.le_of_ble_eq_true rfl⟩) (rk_preS X hS hP [.int v0, .int v1]) rfl rfl hl.1 rfl (lv_room (Nat.le_of_ble_eq_true rfl)) dX10_mod_6 ⟨Nat.zero_le _, Nat.zero_le _⟩) hS (fun _ h => h) (fun r1 s1 H locs h hP hS => ?_)
    refine lv_goto (tgt := 13) hx hb dX10_mod_9 (by decide) ?_
    exact rk_iret X rfl kX_len h hP hS dX10_mod_13

theorem hd_X7_size : yX7_size.cls = RX7 ∧ yX7_size.cls ≠ "java/lang/invoke/MethodHandle" ∧ yX7_size.cls ≠ "java/lang/invoke/VarHandle" ∧ (parseMethodDescriptor yX7_size.desc).map (fun d => d.parameters.length) = some 0 := by decide +kernel
set_option maxRecDepth 100000 in
set_option maxHeartbeats 4000000 in
theorem mX7_size (l : Launch) (D : va_G) (cy : Nat → ClassId) (B : Nat) (v0 : Nat) (σ : St) (h0 : kX[v0]? = some 7) {post : Int32 → St → Prop} (h : wX7_size v0 σ post) : Met l yX7_size (Cond.code yX7_size cX7_size 1 (some .int) :: WALL) (rmD 0) (PcW D cy B kX σ [.ref (B + v0)]) (va_Qi post (BW D cy B kX) (AW B 346)) 0 0 (AW B 346) := by
  refine Met.ofK (cc := cX7_size) (maxL := 1) (ret := (some .int)) (by decide +kernel) rfl kX_len ?_
  intro p e s m below meth c X hP
  obtain ⟨⟨hx, hb, hml, hown, hts⟩, hr, hlk, hK, hN, hZ⟩ := id X
  have hD : ∀ σ, va_D (AW B 346) (wW cy B kX σ) := AW_D kX_len
  have hS : va_S (AW B 346) s.heap s.heap [] := va_S.rf
  have hl := lv_entry ([.ref (B + v0)]) (n := 1) (Nat.le_of_ble_eq_true rfl)
  rw [lg_entry_eq]
  generalize (lg_sl ([.ref (B + v0)]) ++ List.replicate (1 - (lg_sl ([.ref (B + v0)])).length) Slot.unset).toArray = ls at hl ⊢
  have hl : lv_has ls 1 [(0, .ref (B + v0))] := hl
  unfold wX7_size at h
  refine lv_iconst (v := (1 : Int32)) hx hb dX7_size_0 (by decide) ?_
  refine lv_aload_n hx hb dX7_size_1 rfl (lv_at hl 0 rfl) ?_
  refine rk_get X hP (C := RX7) (T := TX7) (N := 2) (ci := 7) wix_7 h0 rfl rfl 0 (by decide) (wi_0 _ (List.mem_of_getElem? (i := 4) rfl)) rfl rfl dX7_size_2 ?_
  refine lv_ishl hx hb dX7_size_5 ?_
  exact rk_iret X rfl kX_len h hP hS dX7_size_6

theorem hd_X7_hasIndex : yX7_hasIndex.cls = RX7 ∧ yX7_hasIndex.cls ≠ "java/lang/invoke/MethodHandle" ∧ yX7_hasIndex.cls ≠ "java/lang/invoke/VarHandle" ∧ (parseMethodDescriptor yX7_hasIndex.desc).map (fun d => d.parameters.length) = some 1 := by decide +kernel
set_option maxRecDepth 100000 in
set_option maxHeartbeats 4000000 in
theorem mX7_hasIndex (l : Launch) (D : va_G) (cy : Nat → ClassId) (B : Nat) (v0 : Nat) (v1 : Int32) (σ : St) (h0 : kX[v0]? = some 7) {post : Bool → St → Prop} (h : wX7_hasIndex v0 v1 σ post) : Met l yX7_hasIndex (Cond.code yX7_hasIndex cX7_hasIndex 2 (some .boolean) :: WALL) (rmD 1) (PcW D cy B kX σ [.ref (B + v0), .int v1]) (Qz post D cy B kX 346) 0 0 (AW B 346) := by
  refine Met.ofK (cc := cX7_hasIndex) (maxL := 2) (ret := (some .boolean)) (by decide +kernel) rfl kX_len ?_
  intro p e s m below meth c X hP
  obtain ⟨⟨hx, hb, hml, hown, hts⟩, hr, hlk, hK, hN, hZ⟩ := id X
  have hD : ∀ σ, va_D (AW B 346) (wW cy B kX σ) := AW_D kX_len
  have hS : va_S (AW B 346) s.heap s.heap [] := va_S.rf
  have hl := lv_entry ([.ref (B + v0), .int v1]) (n := 2) (Nat.le_of_ble_eq_true rfl)
  rw [lg_entry_eq]
  generalize (lg_sl ([.ref (B + v0), .int v1]) ++ List.replicate (2 - (lg_sl ([.ref (B + v0), .int v1])).length) Slot.unset).toArray = ls at hl ⊢
  have hl : lv_has ls 2 [(0, .ref (B + v0)), (1, .int v1)] := hl
  unfold wX7_hasIndex at h
  refine lv_iload_n hx hb dX7_hasIndex_0 rfl (lv_at hl 1 rfl) ?_
  refine lv_if_lt (tgt := 16) hx hb dX7_hasIndex_1 (by decide) (fun c1 => ?_) (fun c1 => ?_)
  · have h := h.1 c1
    refine lv_iconst (v := (0 : Int32)) hx hb dX7_hasIndex_16 (by decide) ?_
    exact rk_zret X kX_len false h hP hS dX7_hasIndex_17
  · have h := h.2 c1
    refine lv_iload_n hx hb dX7_hasIndex_4 rfl (lv_at hl 1 rfl) ?_
    refine lv_aload_n hx hb dX7_hasIndex_5 rfl (lv_at hl 0 rfl) ?_
    refine rk_calli (va_runV (As := []) (rest := [.int v1]) X.1 (mX7_size l D cy B v0 σ h0 h) (cwV 0 hts (gW_V (wi_16 _ (List.mem_of_getElem? (i := 3) rfl)) (wi_3 _ (List.mem_of_getElem? (i := 12) rfl)) (wi_3 _ (List.mem_of_getElem? (i := 13) rfl)) (wi_0 _ (List.mem_of_getElem? (i := 15) rfl)) (wi_3 _ (List.mem_of_getElem? (i := 4) rfl))) rfl rfl rfl hd_X7_size ⟨Nat.le_of_ble_eq_true rfl, Nat.le_of_ble_eq_true rfl⟩) (rk_preV X hS hP h0 rfl rfl []) rfl rfl hl.1 rfl (lv_room (Nat.le_of_ble_eq_true rfl)) dX7_hasIndex_6 ⟨Nat.zero_le _, Nat.zero_le _⟩) hS (fun _ h => h) (fun r1 s1 H locs h hP hS => ?_)
    refine lv_icmp_ge (tgt := 16) hx hb dX7_hasIndex_9 (by decide) (fun c2 => ?_) (fun c2 => ?_)
    · have h := h.1 c2
      refine lv_iconst (v := (0 : Int32)) hx hb dX7_hasIndex_16 (by decide) ?_
      exact rk_zret X kX_len false h hP hS dX7_hasIndex_17
    · have h := h.2 c2
      refine lv_iconst (v := (1 : Int32)) hx hb dX7_hasIndex_12 (by decide) ?_
      refine lv_goto (tgt := 17) hx hb dX7_hasIndex_13 (by decide) ?_
      exact rk_zret X kX_len true h hP hS dX7_hasIndex_17

theorem hd_X7_copyFrom : yX7_copyFrom.cls = RX7 ∧ yX7_copyFrom.cls ≠ "java/lang/invoke/MethodHandle" ∧ yX7_copyFrom.cls ≠ "java/lang/invoke/VarHandle" ∧ (parseMethodDescriptor yX7_copyFrom.desc).map (fun d => d.parameters.length) = some 1 := by decide +kernel
set_option maxRecDepth 100000 in
set_option maxHeartbeats 4000000 in
theorem mX7_copyFrom (l : Launch) (D : va_G) (cy : Nat → ClassId) (B : Nat) (v0 : Nat) (v1 : Nat) (σ : St) (h0 : kX[v0]? = some 7) (h1 : kX[v1]? = some 7) {post : St → Prop} (h : wX7_copyFrom v0 v1 σ post) : Met l yX7_copyFrom (Cond.code yX7_copyFrom cX7_copyFrom 2 none :: WALL) (rmD 2) (PcW D cy B kX σ [.ref (B + v0), .ref (B + v1)]) (va_Qv post (BW D cy B kX) (AW B 346)) 0 0 (AW B 346) := by
  refine Met.ofK (cc := cX7_copyFrom) (maxL := 2) (ret := none) (by decide +kernel) rfl kX_len ?_
  intro p e s m below meth c X hP
  obtain ⟨⟨hx, hb, hml, hown, hts⟩, hr, hlk, hK, hN, hZ⟩ := id X
  have hD : ∀ σ, va_D (AW B 346) (wW cy B kX σ) := AW_D kX_len
  have hS : va_S (AW B 346) s.heap s.heap [] := va_S.rf
  have hl := lv_entry ([.ref (B + v0), .ref (B + v1)]) (n := 2) (Nat.le_of_ble_eq_true rfl)
  rw [lg_entry_eq]
  generalize (lg_sl ([.ref (B + v0), .ref (B + v1)]) ++ List.replicate (2 - (lg_sl ([.ref (B + v0), .ref (B + v1)])).length) Slot.unset).toArray = ls at hl ⊢
  have hl : lv_has ls 2 [(0, .ref (B + v0)), (1, .ref (B + v1))] := hl
  unfold wX7_copyFrom at h
  refine lv_aload_n hx hb dX7_copyFrom_0 rfl (lv_at hl 0 rfl) ?_
  refine lv_aload_n hx hb dX7_copyFrom_1 rfl (lv_at hl 1 rfl) ?_
  refine rk_get X hP (C := RX7) (T := TX7) (N := 2) (ci := 7) wix_7 h1 rfl rfl 0 (by decide) (wi_0 _ (List.mem_of_getElem? (i := 4) rfl)) rfl rfl dX7_copyFrom_2 ?_
  refine rk_puti X hP hD hS (C := RX7) (T := TX7) (N := 2) (ci := 7) wix_7 h0 rfl rfl tyX7 tyX7_ok nmX7 0 (by decide) (wi_0 _ (List.mem_of_getElem? (i := 4) rfl)) rfl rfl (by decide +kernel) (Nat.le_of_ble_eq_true rfl) rfl dX7_copyFrom_5 (fun H locs hP hS => ?_)
  obtain ⟨s1, es1⟩ : ∃ z : St, z = u1 σ v0 0 (σ.1 v1 0) := ⟨_, rfl⟩
  rw [← es1] at hP
  have h := h s1 es1
  refine lv_aload_n hx hb dX7_copyFrom_8 rfl (lv_at hl 1 rfl) ?_
  refine rk_get X hP (C := RX7) (T := TX7) (N := 2) (ci := 7) wix_7 h1 rfl rfl 1 (by decide) (wi_0 _ (List.mem_of_getElem? (i := 6) rfl)) rfl rfl dX7_copyFrom_9 ?_
  refine lv_iconst (v := (0 : Int32)) hx hb dX7_copyFrom_12 (by decide) ?_
  refine lv_aload_n hx hb dX7_copyFrom_13 rfl (lv_at hl 0 rfl) ?_
  refine rk_get X hP (C := RX7) (T := TX7) (N := 2) (ci := 7) wix_7 h0 rfl rfl 1 (by decide) (wi_0 _ (List.mem_of_getElem? (i := 6) rfl)) rfl rfl dX7_copyFrom_14 ?_
  refine lv_iconst (v := (0 : Int32)) hx hb dX7_copyFrom_17 (by decide) ?_
  refine lv_bipush (v := (16 : Int32)) hx hb dX7_copyFrom_18 (by decide) ?_
  have b1 : (¬ (0 : Int32) < 0) ∧ (¬ (0 : Int32) < 0) ∧ (¬ (16 : Int32) < 0) ∧ (0 : Int32).toNatClampNeg + (16 : Int32).toNatClampNeg ≤ 16 ∧ (0 : Int32).toNatClampNeg + (16 : Int32).toNatClampNeg ≤ 16 := by decide
  refine rk_copyi X hl.1 hP hD hS (wi_1 _ (List.mem_of_getElem? (i := 5) rfl)) (wi_1 _ (List.mem_of_getElem? (i := 6) rfl)) (wi_1 _ (List.mem_of_getElem? (i := 7) rfl)) (wi_1 _ (List.mem_of_getElem? (i := 8) rfl)) (n0 := 16) (n1 := 16) (klX_X7_1 h1) (fun _ _ => rfl) (klX_X7_1 h0) (fun _ _ => rfl) b1 (Nat.le_of_ble_eq_true rfl) (Nat.le_of_ble_eq_true rfl) dX7_copyFrom_20 (fun H locs hP hS => ?_)
  obtain ⟨s2, es2⟩ : ∃ z : St, z = r1 s1 (v0 + 1) (va_cpy (s1.1 (v1 + 1)) (s1.1 (v0 + 1)) (0 : Int32).toNatClampNeg (0 : Int32).toNatClampNeg (16 : Int32).toNatClampNeg) := ⟨_, rfl⟩
  rw [← es2] at hP
  have h := h s2 es2
  exact rk_vret X kX_len h hP hS dX7_copyFrom_23

theorem hd_X7_parityKind : yX7_parityKind.cls = RX7 ∧ yX7_parityKind.cls ≠ "java/lang/invoke/MethodHandle" ∧ yX7_parityKind.cls ≠ "java/lang/invoke/VarHandle" ∧ (parseMethodDescriptor yX7_parityKind.desc).map (fun d => d.parameters.length) = some 0 := by decide +kernel
set_option maxRecDepth 100000 in
set_option maxHeartbeats 4000000 in
theorem tX7_parityKind_68 {p : Program} {l : Launch} {e : Env} {s : State} {m : MethodId} {av : Array Value} {below : List Frame} {meth : Method} {c : Code} {D : va_G} {cy : Nat → ClassId} {B : Nat} (X : kC p s m av meth c cX7_parityKind 5 (some .int) WALL RX7 D cy (AW B 346)) {post : Int32 → St → Prop} {R6 : Nat → Int32 → Int32 → Int32 → St → Prop} (hR6 : ∀ (v0 : Nat) (v1 : Int32) (v2 : Int32) (v3 : Int32) (σ : St), kX[v0]? = some 7 → R6 v0 v1 v2 v3 σ → ∀ (H : Heap) (locs : List Loc) (ls : Array Slot), va_P D vwCl (wW cy B kX σ) H → va_S (AW B 346) s.heap H locs → lv_has ls 5 [(0, .ref (B + v0)), (1, .int v1), (2, .int v2), (3, .int v3)] → W p l e (rmD 1) s m av below meth c H locs 0 0 (MQ below (va_Qi post (BW D cy B kX) (AW B 346)) av s 0 0 (AW B 346)) (F0 m 6 ls [])) : ∀ (v0 : Nat) (v1 : Int32) (v3 : Int32) (t0 : Int32) (σ : St), kX[v0]? = some 7 → wX7_parityKind_68 post R6 v0 v1 v3 t0 σ → ∀ (H : Heap) (locs : List Loc) (ls : Array Slot), va_P D vwCl (wW cy B kX σ) H → va_S (AW B 346) s.heap H locs → lv_has ls 5 [(0, .ref (B + v0)), (1, .int v1), (3, .int v3)] → W p l e (rmD 1) s m av below meth c H locs 0 0 (MQ below (va_Qi post (BW D cy B kX) (AW B 346)) av s 0 0 (AW B 346)) (F0 m 68 ls [.int t0]) := by
  obtain ⟨⟨hx, hb, hml, hown, hts⟩, hr, hlk, hK, hN, hZ⟩ := id X
  have hD : ∀ σ, va_D (AW B 346) (wW cy B kX σ) := AW_D kX_len
  intro v0 v1 v3 t0 σ h0 h H locs ls hP hS hl
  unfold wX7_parityKind_68 at h
  refine lv_istore_n (lv' := [(2, .int t0), (0, .ref (B + v0)), (1, .int v1), (3, .int v3)]) hx hb dX7_parityKind_68 rfl hl (by decide) rfl (fun ls hl => ?_)
  obtain ⟨x1, ex1⟩ : ∃ y : Int32, y = v3 + (1 : Int32) := ⟨_, rfl⟩
  have h := h x1 ex1
  refine lv_iinc (v := x1) (lv' := [(3, .int x1), (2, .int t0), (0, .ref (B + v0)), (1, .int v1)]) hx hb dX7_parityKind_69 hl (k := 3) rfl (by rw [ex1]; rfl) (by decide) rfl (fun ls hl => ?_)
  refine lv_goto (tgt := 6) hx hb dX7_parityKind_72 (by decide) ?_
  exact hR6 _ _ _ _ _ h0 h _ _ _ hP hS (lv_sub hl [2, 3, 1, 0] rfl)
set_option maxRecDepth 100000 in
set_option maxHeartbeats 4000000 in
theorem tX7_parityKind_63 {p : Program} {l : Launch} {e : Env} {s : State} {m : MethodId} {av : Array Value} {below : List Frame} {meth : Method} {c : Code} {D : va_G} {cy : Nat → ClassId} {B : Nat} (X : kC p s m av meth c cX7_parityKind 5 (some .int) WALL RX7 D cy (AW B 346)) {post : Int32 → St → Prop} {R6 : Nat → Int32 → Int32 → Int32 → St → Prop} (hR6 : ∀ (v0 : Nat) (v1 : Int32) (v2 : Int32) (v3 : Int32) (σ : St), kX[v0]? = some 7 → R6 v0 v1 v2 v3 σ → ∀ (H : Heap) (locs : List Loc) (ls : Array Slot), va_P D vwCl (wW cy B kX σ) H → va_S (AW B 346) s.heap H locs → lv_has ls 5 [(0, .ref (B + v0)), (1, .int v1), (2, .int v2), (3, .int v3)] → W p l e (rmD 1) s m av below meth c H locs 0 0 (MQ below (va_Qi post (BW D cy B kX) (AW B 346)) av s 0 0 (AW B 346)) (F0 m 6 ls [])) : ∀ (v0 : Nat) (v1 : Int32) (v3 : Int32) (σ : St), kX[v0]? = some 7 → wX7_parityKind_63 post R6 v0 v1 v3 σ → ∀ (H : Heap) (locs : List Loc) (ls : Array Slot), va_P D vwCl (wW cy B kX σ) H → va_S (AW B 346) s.heap H locs → lv_has ls 5 [(0, .ref (B + v0)), (1, .int v1), (3, .int v3)] → W p l e (rmD 1) s m av below meth c H locs 0 0 (MQ below (va_Qi post (BW D cy B kX) (AW B 346)) av s 0 0 (AW B 346)) (F0 m 63 ls []) := by
  obtain ⟨⟨hx, hb, hml, hown, hts⟩, hr, hlk, hK, hN, hZ⟩ := id X
  have hD : ∀ σ, va_D (AW B 346) (wW cy B kX σ) := AW_D kX_len
  intro v0 v1 v3 σ h0 h H locs ls hP hS hl
  unfold wX7_parityKind_63 at h
  refine lv_iconst (v := (1 : Int32)) hx hb dX7_parityKind_63 (by decide) ?_
  refine lv_goto (tgt := 68) hx hb dX7_parityKind_64 (by decide) ?_
  exact tX7_parityKind_68 X hR6 _ _ _ _ _ h0 h _ _ _ hP hS (lv_sub hl [0, 1, 2] rfl)
set_option maxRecDepth 100000 in
set_option maxHeartbeats 4000000 in
theorem tX7_parityKind_53 {p : Program} {l : Launch} {e : Env} {s : State} {m : MethodId} {av : Array Value} {below : List Frame} {meth : Method} {c : Code} {D : va_G} {cy : Nat → ClassId} {B : Nat} (X : kC p s m av meth c cX7_parityKind 5 (some .int) WALL RX7 D cy (AW B 346)) {post : Int32 → St → Prop} {R6 : Nat → Int32 → Int32 → Int32 → St → Prop} (hR6 : ∀ (v0 : Nat) (v1 : Int32) (v2 : Int32) (v3 : Int32) (σ : St), kX[v0]? = some 7 → R6 v0 v1 v2 v3 σ → ∀ (H : Heap) (locs : List Loc) (ls : Array Slot), va_P D vwCl (wW cy B kX σ) H → va_S (AW B 346) s.heap H locs → lv_has ls 5 [(0, .ref (B + v0)), (1, .int v1), (2, .int v2), (3, .int v3)] → W p l e (rmD 1) s m av below meth c H locs 0 0 (MQ below (va_Qi post (BW D cy B kX) (AW B 346)) av s 0 0 (AW B 346)) (F0 m 6 ls [])) : ∀ (v0 : Nat) (v2 : Int32) (v3 : Int32) (v4 : Int32) (t0 : Int32) (σ : St), kX[v0]? = some 7 → wX7_parityKind_53 post R6 v0 v2 v3 v4 t0 σ → ∀ (H : Heap) (locs : List Loc) (ls : Array Slot), va_P D vwCl (wW cy B kX σ) H → va_S (AW B 346) s.heap H locs → lv_has ls 5 [(0, .ref (B + v0)), (2, .int v2), (3, .int v3), (4, .int v4)] → W p l e (rmD 1) s m av below meth c H locs 0 0 (MQ below (va_Qi post (BW D cy B kX) (AW B 346)) av s 0 0 (AW B 346)) (F0 m 53 ls [.int t0]) := by
  obtain ⟨⟨hx, hb, hml, hown, hts⟩, hr, hlk, hK, hN, hZ⟩ := id X
  have hD : ∀ σ, va_D (AW B 346) (wW cy B kX σ) := AW_D kX_len
  intro v0 v2 v3 v4 t0 σ h0 h H locs ls hP hS hl
  unfold wX7_parityKind_53 at h
  refine lv_istore_n (lv' := [(1, .int t0), (0, .ref (B + v0)), (2, .int v2), (3, .int v3), (4, .int v4)]) hx hb dX7_parityKind_53 rfl hl (by decide) rfl (fun ls hl => ?_)
  refine lv_iload_n hx hb dX7_parityKind_54 rfl (lv_at hl 2 rfl) ?_
  refine lv_if_ne (tgt := 63) hx hb dX7_parityKind_55 (by decide) (fun c1 => ?_) (fun c1 => ?_)
  · have h := h.1 c1
    exact tX7_parityKind_63 X hR6 _ _ _ _ h0 h _ _ _ hP hS (lv_sub hl [1, 0, 3] rfl)
  · have h := h.2 c1
    refine lv_iload hx hb dX7_parityKind_58 (lv_at hl 4 rfl) ?_
    refine lv_if_ne (tgt := 67) hx hb dX7_parityKind_60 (by decide) (fun c2 => ?_) (fun c2 => ?_)
    · have h := h.1 c2
      refine lv_iconst (v := (0 : Int32)) hx hb dX7_parityKind_67 (by decide) ?_
      exact tX7_parityKind_68 X hR6 _ _ _ _ _ h0 h _ _ _ hP hS (lv_sub hl [1, 0, 3] rfl)
    · have h := h.2 c2
      exact tX7_parityKind_63 X hR6 _ _ _ _ h0 h _ _ _ hP hS (lv_sub hl [1, 0, 3] rfl)
set_option maxRecDepth 100000 in
set_option maxHeartbeats 4000000 in
theorem tX7_parityKind_48 {p : Program} {l : Launch} {e : Env} {s : State} {m : MethodId} {av : Array Value} {below : List Frame} {meth : Method} {c : Code} {D : va_G} {cy : Nat → ClassId} {B : Nat} (X : kC p s m av meth c cX7_parityKind 5 (some .int) WALL RX7 D cy (AW B 346)) {post : Int32 → St → Prop} {R6 : Nat → Int32 → Int32 → Int32 → St → Prop} (hR6 : ∀ (v0 : Nat) (v1 : Int32) (v2 : Int32) (v3 : Int32) (σ : St), kX[v0]? = some 7 → R6 v0 v1 v2 v3 σ → ∀ (H : Heap) (locs : List Loc) (ls : Array Slot), va_P D vwCl (wW cy B kX σ) H → va_S (AW B 346) s.heap H locs → lv_has ls 5 [(0, .ref (B + v0)), (1, .int v1), (2, .int v2), (3, .int v3)] → W p l e (rmD 1) s m av below meth c H locs 0 0 (MQ below (va_Qi post (BW D cy B kX) (AW B 346)) av s 0 0 (AW B 346)) (F0 m 6 ls [])) : ∀ (v0 : Nat) (v2 : Int32) (v3 : Int32) (v4 : Int32) (σ : St), kX[v0]? = some 7 → wX7_parityKind_48 post R6 v0 v2 v3 v4 σ → ∀ (H : Heap) (locs : List Loc) (ls : Array Slot), va_P D vwCl (wW cy B kX σ) H → va_S (AW B 346) s.heap H locs → lv_has ls 5 [(0, .ref (B + v0)), (2, .int v2), (3, .int v3), (4, .int v4)] → W p l e (rmD 1) s m av below meth c H locs 0 0 (MQ below (va_Qi post (BW D cy B kX) (AW B 346)) av s 0 0 (AW B 346)) (F0 m 48 ls []) := by
  obtain ⟨⟨hx, hb, hml, hown, hts⟩, hr, hlk, hK, hN, hZ⟩ := id X
  have hD : ∀ σ, va_D (AW B 346) (wW cy B kX σ) := AW_D kX_len
  intro v0 v2 v3 v4 σ h0 h H locs ls hP hS hl
  unfold wX7_parityKind_48 at h
  refine lv_iconst (v := (1 : Int32)) hx hb dX7_parityKind_48 (by decide) ?_
  refine lv_goto (tgt := 53) hx hb dX7_parityKind_49 (by decide) ?_
  exact tX7_parityKind_53 X hR6 _ _ _ _ _ _ h0 h _ _ _ hP hS (lv_sub hl [0, 1, 2, 3] rfl)
set_option maxRecDepth 100000 in
set_option maxHeartbeats 4000000 in
theorem tX7_parityKind_37 {p : Program} {l : Launch} {e : Env} {s : State} {m : MethodId} {av : Array Value} {below : List Frame} {meth : Method} {c : Code} {D : va_G} {cy : Nat → ClassId} {B : Nat} (X : kC p s m av meth c cX7_parityKind 5 (some .int) WALL RX7 D cy (AW B 346)) {post : Int32 → St → Prop} {R6 : Nat → Int32 → Int32 → Int32 → St → Prop} (hR6 : ∀ (v0 : Nat) (v1 : Int32) (v2 : Int32) (v3 : Int32) (σ : St), kX[v0]? = some 7 → R6 v0 v1 v2 v3 σ → ∀ (H : Heap) (locs : List Loc) (ls : Array Slot), va_P D vwCl (wW cy B kX σ) H → va_S (AW B 346) s.heap H locs → lv_has ls 5 [(0, .ref (B + v0)), (1, .int v1), (2, .int v2), (3, .int v3)] → W p l e (rmD 1) s m av below meth c H locs 0 0 (MQ below (va_Qi post (BW D cy B kX) (AW B 346)) av s 0 0 (AW B 346)) (F0 m 6 ls [])) : ∀ (v0 : Nat) (v1 : Int32) (v2 : Int32) (v3 : Int32) (t0 : Int32) (σ : St), kX[v0]? = some 7 → wX7_parityKind_37 post R6 v0 v1 v2 v3 t0 σ → ∀ (H : Heap) (locs : List Loc) (ls : Array Slot), va_P D vwCl (wW cy B kX σ) H → va_S (AW B 346) s.heap H locs → lv_has ls 5 [(0, .ref (B + v0)), (1, .int v1), (2, .int v2), (3, .int v3)] → W p l e (rmD 1) s m av below meth c H locs 0 0 (MQ below (va_Qi post (BW D cy B kX) (AW B 346)) av s 0 0 (AW B 346)) (F0 m 37 ls [.int t0]) := by
  obtain ⟨⟨hx, hb, hml, hown, hts⟩, hr, hlk, hK, hN, hZ⟩ := id X
  have hD : ∀ σ, va_D (AW B 346) (wW cy B kX σ) := AW_D kX_len
  intro v0 v1 v2 v3 t0 σ h0 h H locs ls hP hS hl
  unfold wX7_parityKind_37 at h
  refine lv_istore (lv' := [(4, .int t0), (0, .ref (B + v0)), (1, .int v1), (2, .int v2), (3, .int v3)]) hx hb dX7_parityKind_37 hl (by decide) rfl (fun ls hl => ?_)
  refine lv_iload_n hx hb dX7_parityKind_39 rfl (lv_at hl 2 rfl) ?_
  refine lv_if_ne (tgt := 48) hx hb dX7_parityKind_40 (by decide) (fun c1 => ?_) (fun c1 => ?_)
  · have h := h.1 c1
    exact tX7_parityKind_48 X hR6 _ _ _ _ _ h0 h _ _ _ hP hS (lv_sub hl [1, 3, 4, 0] rfl)
  · have h := h.2 c1
    refine lv_iload hx hb dX7_parityKind_43 (lv_at hl 0 rfl) ?_
    refine lv_if_eq (tgt := 52) hx hb dX7_parityKind_45 (by decide) (fun c2 => ?_) (fun c2 => ?_)
    · have h := h.1 c2
      refine lv_iconst (v := (0 : Int32)) hx hb dX7_parityKind_52 (by decide) ?_
      exact tX7_parityKind_53 X hR6 _ _ _ _ _ _ h0 h _ _ _ hP hS (lv_sub hl [1, 3, 4, 0] rfl)
    · have h := h.2 c2
      exact tX7_parityKind_48 X hR6 _ _ _ _ _ h0 h _ _ _ hP hS (lv_sub hl [1, 3, 4, 0] rfl)
set_option maxRecDepth 100000 in
set_option maxHeartbeats 4000000 in
theorem tX7_parityKind_6 {p : Program} {l : Launch} {e : Env} {s : State} {m : MethodId} {av : Array Value} {below : List Frame} {meth : Method} {c : Code} {D : va_G} {cy : Nat → ClassId} {B : Nat} (X : kC p s m av meth c cX7_parityKind 5 (some .int) WALL RX7 D cy (AW B 346)) {post : Int32 → St → Prop} : ∀ (n : Nat) (v0 : Nat) (v1 : Int32) (v2 : Int32) (v3 : Int32) (σ : St), kX[v0]? = some 7 → wX7_parityKind_6 post n v0 v1 v2 v3 σ → ∀ (H : Heap) (locs : List Loc) (ls : Array Slot), va_P D vwCl (wW cy B kX σ) H → va_S (AW B 346) s.heap H locs → lv_has ls 5 [(0, .ref (B + v0)), (1, .int v1), (2, .int v2), (3, .int v3)] → W p l e (rmD 1) s m av below meth c H locs 0 0 (MQ below (va_Qi post (BW D cy B kX) (AW B 346)) av s 0 0 (AW B 346)) (F0 m 6 ls []) := by
  obtain ⟨⟨hx, hb, hml, hown, hts⟩, hr, hlk, hK, hN, hZ⟩ := id X
  have hD : ∀ σ, va_D (AW B 346) (wW cy B kX σ) := AW_D kX_len
  intro n
  induction n with
  | zero => intro v0 v1 v2 v3 σ h0 h; exact absurd h id
  | succ n ih =>
    intro v0 v1 v2 v3 σ h0 h H locs ls hP hS hl
    rw [wX7_parityKind_6] at h
    refine lv_iload_n hx hb dX7_parityKind_6 rfl (lv_at hl 3 rfl) ?_
    refine lv_aload_n hx hb dX7_parityKind_7 rfl (lv_at hl 0 rfl) ?_
    refine rk_calli (va_runV (As := []) (rest := [.int v3]) X.1 (mX7_size l D cy B v0 σ h0 h) (cwV 0 hts (gW_V (wi_16 _ (List.mem_of_getElem? (i := 3) rfl)) (wi_3 _ (List.mem_of_getElem? (i := 12) rfl)) (wi_3 _ (List.mem_of_getElem? (i := 13) rfl)) (wi_0 _ (List.mem_of_getElem? (i := 15) rfl)) (wi_3 _ (List.mem_of_getElem? (i := 4) rfl))) rfl rfl rfl hd_X7_size ⟨Nat.le_of_ble_eq_true rfl, Nat.le_of_ble_eq_true rfl⟩) (rk_preV X hS hP h0 rfl rfl []) rfl rfl hl.1 rfl (lv_room (Nat.le_of_ble_eq_true rfl)) dX7_parityKind_8 ⟨Nat.zero_le _, Nat.zero_le _⟩) hS (fun _ h => h) (fun r1 s1 H locs h hP hS => ?_)
    refine lv_icmp_ge (tgt := 75) hx hb dX7_parityKind_11 (by decide) (fun c1 => ?_) (fun c1 => ?_)
    · have h := h.1 c1
      refine lv_iload_n hx hb dX7_parityKind_75 rfl (lv_at hl 1 rfl) ?_
      refine lv_if_eq (tgt := 89) hx hb dX7_parityKind_76 (by decide) (fun c2 => ?_) (fun c2 => ?_)
      · have h := h.1 c2
        refine lv_iload_n hx hb dX7_parityKind_89 rfl (lv_at hl 2 rfl) ?_
        refine lv_if_eq (tgt := 97) hx hb dX7_parityKind_90 (by decide) (fun c3 => ?_) (fun c3 => ?_)
        · have h := h.1 c3
          refine lv_iconst (v := (2 : Int32)) hx hb dX7_parityKind_97 (by decide) ?_
          exact rk_iret X rfl kX_len h hP hS dX7_parityKind_98
        · have h := h.2 c3
          refine lv_iconst (v := (1 : Int32)) hx hb dX7_parityKind_93 (by decide) ?_
          refine lv_goto (tgt := 98) hx hb dX7_parityKind_94 (by decide) ?_
          exact rk_iret X rfl kX_len h hP hS dX7_parityKind_98
      · have h := h.2 c2
        refine lv_iload_n hx hb dX7_parityKind_79 rfl (lv_at hl 2 rfl) ?_
        refine lv_if_eq (tgt := 87) hx hb dX7_parityKind_80 (by decide) (fun c4 => ?_) (fun c4 => ?_)
        · have h := h.1 c4
          refine lv_iconst (v := (0 : Int32)) hx hb dX7_parityKind_87 (by decide) ?_
          exact rk_iret X rfl kX_len h hP hS dX7_parityKind_88
        · have h := h.2 c4
          refine lv_iconst (v := (3 : Int32)) hx hb dX7_parityKind_83 (by decide) ?_
          refine lv_goto (tgt := 88) hx hb dX7_parityKind_84 (by decide) ?_
          exact rk_iret X rfl kX_len h hP hS dX7_parityKind_88
    · have h := h.2 c1
      refine lv_aload_n hx hb dX7_parityKind_14 rfl (lv_at hl 0 rfl) ?_
      refine rk_get X hP (C := RX7) (T := TX7) (N := 2) (ci := 7) wix_7 h0 rfl rfl 1 (by decide) (wi_0 _ (List.mem_of_getElem? (i := 6) rfl)) rfl rfl dX7_parityKind_15 ?_
      refine lv_iload_n hx hb dX7_parityKind_18 rfl (lv_at hl 3 rfl) ?_
      obtain ⟨b1, h⟩ := h
      refine rk_iald X hP (n := 16) (klX_X7_1 h0) (fun _ _ => rfl) b1 dX7_parityKind_19 ?_
      refine lv_if_eq (tgt := 69) hx hb dX7_parityKind_20 (by decide) (fun c5 => ?_) (fun c5 => ?_)
      · have h := h.1 c5
        obtain ⟨x1, ex1⟩ : ∃ y : Int32, y = v3 + (1 : Int32) := ⟨_, rfl⟩
        have h := h x1 ex1
        refine lv_iinc (v := x1) (lv' := [(3, .int x1), (0, .ref (B + v0)), (1, .int v1), (2, .int v2)]) hx hb dX7_parityKind_69 hl (k := 3) rfl (by rw [ex1]; rfl) (by decide) rfl (fun ls hl => ?_)
        refine lv_goto (tgt := 6) hx hb dX7_parityKind_72 (by decide) ?_
        exact ih _ _ _ _ _ h0 h _ _ _ hP hS (lv_sub hl [1, 2, 3, 0] rfl)
      · have h := h.2 c5
        refine lv_iload_n hx hb dX7_parityKind_23 rfl (lv_at hl 3 rfl) ?_
        refine rk_calli (va_runS (As := [.int v3]) (rest := []) X.1 (mJ6_bitCount_0f7a4 l D cy B v3 s1 h) (va_cwS 1 hts (gW_S (wi_16 _ (List.mem_of_getElem? (i := 5) rfl)) (wi_4 _ (List.mem_of_getElem? (i := 4) rfl)) (wi_4 _ (List.mem_of_getElem? (i := 5) rfl)) (wi_3 _ (List.mem_of_getElem? (i := 19) rfl))) rfl rfl rfl hd_J6_bitCount_0f7a4 ⟨Nat.le_of_ble_eq_true rfl, Nat.le_of_ble_eq_true rfl⟩) (rk_preS X hS hP [.int v3]) rfl rfl hl.1 rfl (lv_room (Nat.le_of_ble_eq_true rfl)) dX7_parityKind_24 ⟨Nat.zero_le _, Nat.zero_le _⟩) hS (fun _ h => h) (fun r2 s2 H locs h hP hS => ?_)
        refine lv_iconst (v := (2 : Int32)) hx hb dX7_parityKind_27 (by decide) ?_
        refine lv_irem hx hb dX7_parityKind_28 (by decide) ?_
        refine lv_if_ne (tgt := 36) hx hb dX7_parityKind_29 (by decide) (fun c6 => ?_) (fun c6 => ?_)
        · have h := h.1 c6
          refine lv_iconst (v := (0 : Int32)) hx hb dX7_parityKind_36 (by decide) ?_
          exact tX7_parityKind_37 X ih _ _ _ _ _ _ h0 h _ _ _ hP hS (lv_sub hl [0, 1, 2, 3] rfl)
        · have h := h.2 c6
          refine lv_iconst (v := (1 : Int32)) hx hb dX7_parityKind_32 (by decide) ?_
          refine lv_goto (tgt := 37) hx hb dX7_parityKind_33 (by decide) ?_
          exact tX7_parityKind_37 X ih _ _ _ _ _ _ h0 h _ _ _ hP hS (lv_sub hl [0, 1, 2, 3] rfl)
set_option maxRecDepth 100000 in
set_option maxHeartbeats 4000000 in
theorem mX7_parityKind (l : Launch) (D : va_G) (cy : Nat → ClassId) (B : Nat) (v0 : Nat) (σ : St) (h0 : kX[v0]? = some 7) {post : Int32 → St → Prop} (h : wX7_parityKind v0 σ post) : Met l yX7_parityKind (Cond.code yX7_parityKind cX7_parityKind 5 (some .int) :: WALL) (rmD 1) (PcW D cy B kX σ [.ref (B + v0)]) (va_Qi post (BW D cy B kX) (AW B 346)) 0 0 (AW B 346) := by
  refine Met.ofK (cc := cX7_parityKind) (maxL := 5) (ret := (some .int)) (by decide +kernel) rfl kX_len ?_
  intro p e s m below meth c X hP
  obtain ⟨⟨hx, hb, hml, hown, hts⟩, hr, hlk, hK, hN, hZ⟩ := id X
  have hD : ∀ σ, va_D (AW B 346) (wW cy B kX σ) := AW_D kX_len
  have hS : va_S (AW B 346) s.heap s.heap [] := va_S.rf
  have hl := lv_entry ([.ref (B + v0)]) (n := 5) (Nat.le_of_ble_eq_true rfl)
  rw [lg_entry_eq]
  generalize (lg_sl ([.ref (B + v0)]) ++ List.replicate (5 - (lg_sl ([.ref (B + v0)])).length) Slot.unset).toArray = ls at hl ⊢
  have hl : lv_has ls 5 [(0, .ref (B + v0))] := hl
  unfold wX7_parityKind at h
  refine lv_iconst (v := (0 : Int32)) hx hb dX7_parityKind_0 (by decide) ?_
  refine lv_istore_n (lv' := [(1, .int (0 : Int32)), (0, .ref (B + v0))]) hx hb dX7_parityKind_1 rfl hl (by decide) rfl (fun ls hl => ?_)
  refine lv_iconst (v := (0 : Int32)) hx hb dX7_parityKind_2 (by decide) ?_
  refine lv_istore_n (lv' := [(2, .int (0 : Int32)), (1, .int (0 : Int32)), (0, .ref (B + v0))]) hx hb dX7_parityKind_3 rfl hl (by decide) rfl (fun ls hl => ?_)
  refine lv_iconst (v := (0 : Int32)) hx hb dX7_parityKind_4 (by decide) ?_
  refine lv_istore_n (lv' := [(3, .int (0 : Int32)), (2, .int (0 : Int32)), (1, .int (0 : Int32)), (0, .ref (B + v0))]) hx hb dX7_parityKind_5 rfl hl (by decide) rfl (fun ls hl => ?_)
  obtain ⟨j, h⟩ := h
  exact tX7_parityKind_6 X j _ _ _ _ _ h0 h _ _ _ hP hS (lv_sub hl [3, 2, 1, 0] rfl)

theorem hd_X7_rule : yX7_rule.cls = RX7 ∧ yX7_rule.cls ≠ "java/lang/invoke/MethodHandle" ∧ yX7_rule.cls ≠ "java/lang/invoke/VarHandle" ∧ (parseMethodDescriptor yX7_rule.desc).map (fun d => d.parameters.length) = some 2 := by decide +kernel
set_option maxRecDepth 100000 in
set_option maxHeartbeats 4000000 in
theorem mX7_rule (l : Launch) (D : va_G) (cy : Nat → ClassId) (B : Nat) (v0 : Nat) (v1 : Int32) (v2 : Int32) (σ : St) (h0 : kX[v0]? = some 7) {post : Int32 → St → Prop} (h : wX7_rule v0 v1 v2 σ post) : Met l yX7_rule (Cond.code yX7_rule cX7_rule 4 (some .int) :: WALL) (rmD 2) (PcW D cy B kX σ [.ref (B + v0), .int v1, .int v2]) (va_Qi post (BW D cy B kX) (AW B 346)) 0 0 (AW B 346) := by
  refine Met.ofK (cc := cX7_rule) (maxL := 4) (ret := (some .int)) (by decide +kernel) rfl kX_len ?_
  intro p e s m below meth c X hP
  obtain ⟨⟨hx, hb, hml, hown, hts⟩, hr, hlk, hK, hN, hZ⟩ := id X
  have hD : ∀ σ, va_D (AW B 346) (wW cy B kX σ) := AW_D kX_len
  have hS : va_S (AW B 346) s.heap s.heap [] := va_S.rf
  have hl := lv_entry ([.ref (B + v0), .int v1, .int v2]) (n := 4) (Nat.le_of_ble_eq_true rfl)
  rw [lg_entry_eq]
  generalize (lg_sl ([.ref (B + v0), .int v1, .int v2]) ++ List.replicate (4 - (lg_sl ([.ref (B + v0), .int v1, .int v2])).length) Slot.unset).toArray = ls at hl ⊢
  have hl : lv_has ls 4 [(0, .ref (B + v0)), (1, .int v1), (2, .int v2)] := hl
  unfold wX7_rule at h
  refine lv_aload_n hx hb dX7_rule_0 rfl (lv_at hl 0 rfl) ?_
  refine rk_get X hP (C := RX7) (T := TX7) (N := 2) (ci := 7) wix_7 h0 rfl rfl 1 (by decide) (wi_0 _ (List.mem_of_getElem? (i := 6) rfl)) rfl rfl dX7_rule_1 ?_
  refine lv_astore_n (lv' := [(3, .ref (B + (v0 + 1))), (0, .ref (B + v0)), (1, .int v1), (2, .int v2)]) hx hb dX7_rule_4 rfl hl (by decide) rfl (fun ls hl => ?_)
  refine lv_iload_n hx hb dX7_rule_5 rfl (lv_at hl 2 rfl) ?_
  refine lv_if_eq (tgt := 50) hx hb dX7_rule_6 (by decide) (fun c1 => ?_) (fun c1 => ?_)
  · have h := h.1 c1
    refine lv_aload_n hx hb dX7_rule_50 rfl (lv_at hl 0 rfl) ?_
    refine lv_iconst (v := (0 : Int32)) hx hb dX7_rule_51 (by decide) ?_
    have b1 : vp_in (0 : Int32) 16 := by unfold vp_in; decide
    refine rk_iald X hP (n := 16) (klX_X7_1 h0) (fun _ _ => rfl) b1 dX7_rule_52 ?_
    refine lv_aload_n hx hb dX7_rule_53 rfl (lv_at hl 0 rfl) ?_
    refine lv_bipush (v := (15 : Int32)) hx hb dX7_rule_54 (by decide) ?_
    have b2 : vp_in (15 : Int32) 16 := by unfold vp_in; decide
    refine rk_iald X hP (n := 16) (klX_X7_1 h0) (fun _ _ => rfl) b2 dX7_rule_56 ?_
    refine lv_imul hx hb dX7_rule_57 ?_
    refine lv_aload_n hx hb dX7_rule_58 rfl (lv_at hl 0 rfl) ?_
    refine lv_iconst (v := (3 : Int32)) hx hb dX7_rule_59 (by decide) ?_
    have b3 : vp_in (3 : Int32) 16 := by unfold vp_in; decide
    refine rk_iald X hP (n := 16) (klX_X7_1 h0) (fun _ _ => rfl) b3 dX7_rule_60 ?_
    refine lv_aload_n hx hb dX7_rule_61 rfl (lv_at hl 0 rfl) ?_
    refine lv_bipush (v := (12 : Int32)) hx hb dX7_rule_62 (by decide) ?_
    have b4 : vp_in (12 : Int32) 16 := by unfold vp_in; decide
    refine rk_iald X hP (n := 16) (klX_X7_1 h0) (fun _ _ => rfl) b4 dX7_rule_64 ?_
    refine lv_imul hx hb dX7_rule_65 ?_
    refine lv_isub hx hb dX7_rule_66 ?_
    refine lv_aload_n hx hb dX7_rule_67 rfl (lv_at hl 0 rfl) ?_
    refine lv_iconst (v := (5 : Int32)) hx hb dX7_rule_68 (by decide) ?_
    have b5 : vp_in (5 : Int32) 16 := by unfold vp_in; decide
    refine rk_iald X hP (n := 16) (klX_X7_1 h0) (fun _ _ => rfl) b5 dX7_rule_69 ?_
    refine lv_aload_n hx hb dX7_rule_70 rfl (lv_at hl 0 rfl) ?_
    refine lv_bipush (v := (10 : Int32)) hx hb dX7_rule_71 (by decide) ?_
    have b6 : vp_in (10 : Int32) 16 := by unfold vp_in; decide
    refine rk_iald X hP (n := 16) (klX_X7_1 h0) (fun _ _ => rfl) b6 dX7_rule_73 ?_
    refine lv_imul hx hb dX7_rule_74 ?_
    refine lv_iadd hx hb dX7_rule_75 ?_
    refine lv_aload_n hx hb dX7_rule_76 rfl (lv_at hl 0 rfl) ?_
    refine lv_bipush (v := (6 : Int32)) hx hb dX7_rule_77 (by decide) ?_
    have b7 : vp_in (6 : Int32) 16 := by unfold vp_in; decide
    refine rk_iald X hP (n := 16) (klX_X7_1 h0) (fun _ _ => rfl) b7 dX7_rule_79 ?_
    refine lv_aload_n hx hb dX7_rule_80 rfl (lv_at hl 0 rfl) ?_
    refine lv_bipush (v := (9 : Int32)) hx hb dX7_rule_81 (by decide) ?_
    have b8 : vp_in (9 : Int32) 16 := by unfold vp_in; decide
    refine rk_iald X hP (n := 16) (klX_X7_1 h0) (fun _ _ => rfl) b8 dX7_rule_83 ?_
    refine lv_imul hx hb dX7_rule_84 ?_
    refine lv_isub hx hb dX7_rule_85 ?_
    refine lv_iload_n hx hb dX7_rule_86 rfl (lv_at hl 3 rfl) ?_
    refine rk_calli (va_runSN (As := [.int (((((σ.1 (v0 + 1) (0 : Int32).toNatClampNeg) * (σ.1 (v0 + 1) (15 : Int32).toNatClampNeg)) - ((σ.1 (v0 + 1) (3 : Int32).toNatClampNeg) * (σ.1 (v0 + 1) (12 : Int32).toNatClampNeg))) + ((σ.1 (v0 + 1) (5 : Int32).toNatClampNeg) * (σ.1 (v0 + 1) (10 : Int32).toNatClampNeg))) - ((σ.1 (v0 + 1) (6 : Int32).toNatClampNeg) * (σ.1 (v0 + 1) (9 : Int32).toNatClampNeg))), .int v2]) (rest := []) X.1 (mX10_mod l D cy B (((((σ.1 (v0 + 1) (0 : Int32).toNatClampNeg) * (σ.1 (v0 + 1) (15 : Int32).toNatClampNeg)) - ((σ.1 (v0 + 1) (3 : Int32).toNatClampNeg) * (σ.1 (v0 + 1) (12 : Int32).toNatClampNeg))) + ((σ.1 (v0 + 1) (5 : Int32).toNatClampNeg) * (σ.1 (v0 + 1) (10 : Int32).toNatClampNeg))) - ((σ.1 (v0 + 1) (6 : Int32).toNatClampNeg) * (σ.1 (v0 + 1) (9 : Int32).toNatClampNeg))) v2 σ h) ⟨va_cnB 2 hts (gW_C (wi_2 _ (List.mem_of_getElem? (i := 2) rfl))) rfl rfl rfl hN.2.2.2.1 (hts _ (wi_2 _ (List.mem_of_getElem? (i := 8) rfl))) hd_X10_mod ⟨Nat.le_of_ble_eq_true rfl, Nat.le_of_ble_eq_true rfl⟩, hts _ (wi_2 _ (List.mem_of_getElem? (i := 7) rfl)), trivial⟩ (rk_preS X hS hP [.int (((((σ.1 (v0 + 1) (0 : Int32).toNatClampNeg) * (σ.1 (v0 + 1) (15 : Int32).toNatClampNeg)) - ((σ.1 (v0 + 1) (3 : Int32).toNatClampNeg) * (σ.1 (v0 + 1) (12 : Int32).toNatClampNeg))) + ((σ.1 (v0 + 1) (5 : Int32).toNatClampNeg) * (σ.1 (v0 + 1) (10 : Int32).toNatClampNeg))) - ((σ.1 (v0 + 1) (6 : Int32).toNatClampNeg) * (σ.1 (v0 + 1) (9 : Int32).toNatClampNeg))), .int v2]) rfl rfl hl.1 rfl (lv_room (Nat.le_of_ble_eq_true rfl)) dX7_rule_87 ⟨Nat.zero_le _, Nat.zero_le _⟩) hS (fun _ h => h) (fun r1 s1 H locs h hP hS => ?_)
    exact rk_iret X rfl kX_len h hP hS dX7_rule_90
  · have h := h.2 c1
    refine lv_aload_n hx hb dX7_rule_9 rfl (lv_at hl 0 rfl) ?_
    refine lv_iconst (v := (1 : Int32)) hx hb dX7_rule_10 (by decide) ?_
    have b9 : vp_in (1 : Int32) 16 := by unfold vp_in; decide
    refine rk_iald X hP (n := 16) (klX_X7_1 h0) (fun _ _ => rfl) b9 dX7_rule_11 ?_
    refine lv_aload_n hx hb dX7_rule_12 rfl (lv_at hl 0 rfl) ?_
    refine lv_bipush (v := (14 : Int32)) hx hb dX7_rule_13 (by decide) ?_
    have b10 : vp_in (14 : Int32) 16 := by unfold vp_in; decide
    refine rk_iald X hP (n := 16) (klX_X7_1 h0) (fun _ _ => rfl) b10 dX7_rule_15 ?_
    refine lv_imul hx hb dX7_rule_16 ?_
    refine lv_aload_n hx hb dX7_rule_17 rfl (lv_at hl 0 rfl) ?_
    refine lv_iconst (v := (2 : Int32)) hx hb dX7_rule_18 (by decide) ?_
    have b11 : vp_in (2 : Int32) 16 := by unfold vp_in; decide
    refine rk_iald X hP (n := 16) (klX_X7_1 h0) (fun _ _ => rfl) b11 dX7_rule_19 ?_
    refine lv_aload_n hx hb dX7_rule_20 rfl (lv_at hl 0 rfl) ?_
    refine lv_bipush (v := (13 : Int32)) hx hb dX7_rule_21 (by decide) ?_
    have b12 : vp_in (13 : Int32) 16 := by unfold vp_in; decide
    refine rk_iald X hP (n := 16) (klX_X7_1 h0) (fun _ _ => rfl) b12 dX7_rule_23 ?_
    refine lv_imul hx hb dX7_rule_24 ?_
    refine lv_isub hx hb dX7_rule_25 ?_
    refine lv_aload_n hx hb dX7_rule_26 rfl (lv_at hl 0 rfl) ?_
    refine lv_iconst (v := (4 : Int32)) hx hb dX7_rule_27 (by decide) ?_
    have b13 : vp_in (4 : Int32) 16 := by unfold vp_in; decide
    refine rk_iald X hP (n := 16) (klX_X7_1 h0) (fun _ _ => rfl) b13 dX7_rule_28 ?_
    refine lv_aload_n hx hb dX7_rule_29 rfl (lv_at hl 0 rfl) ?_
    refine lv_bipush (v := (11 : Int32)) hx hb dX7_rule_30 (by decide) ?_
    have b14 : vp_in (11 : Int32) 16 := by unfold vp_in; decide
    refine rk_iald X hP (n := 16) (klX_X7_1 h0) (fun _ _ => rfl) b14 dX7_rule_32 ?_
    refine lv_imul hx hb dX7_rule_33 ?_
    refine lv_iadd hx hb dX7_rule_34 ?_
    refine lv_aload_n hx hb dX7_rule_35 rfl (lv_at hl 0 rfl) ?_
    refine lv_bipush (v := (8 : Int32)) hx hb dX7_rule_36 (by decide) ?_
    have b15 : vp_in (8 : Int32) 16 := by unfold vp_in; decide
    refine rk_iald X hP (n := 16) (klX_X7_1 h0) (fun _ _ => rfl) b15 dX7_rule_38 ?_
    refine lv_aload_n hx hb dX7_rule_39 rfl (lv_at hl 0 rfl) ?_
    refine lv_bipush (v := (7 : Int32)) hx hb dX7_rule_40 (by decide) ?_
    have b16 : vp_in (7 : Int32) 16 := by unfold vp_in; decide
    refine rk_iald X hP (n := 16) (klX_X7_1 h0) (fun _ _ => rfl) b16 dX7_rule_42 ?_
    refine lv_imul hx hb dX7_rule_43 ?_
    refine lv_isub hx hb dX7_rule_44 ?_
    refine lv_iload_n hx hb dX7_rule_45 rfl (lv_at hl 3 rfl) ?_
    refine rk_calli (va_runSN (As := [.int (((((σ.1 (v0 + 1) (1 : Int32).toNatClampNeg) * (σ.1 (v0 + 1) (14 : Int32).toNatClampNeg)) - ((σ.1 (v0 + 1) (2 : Int32).toNatClampNeg) * (σ.1 (v0 + 1) (13 : Int32).toNatClampNeg))) + ((σ.1 (v0 + 1) (4 : Int32).toNatClampNeg) * (σ.1 (v0 + 1) (11 : Int32).toNatClampNeg))) - ((σ.1 (v0 + 1) (8 : Int32).toNatClampNeg) * (σ.1 (v0 + 1) (7 : Int32).toNatClampNeg))), .int v2]) (rest := []) X.1 (mX10_mod l D cy B (((((σ.1 (v0 + 1) (1 : Int32).toNatClampNeg) * (σ.1 (v0 + 1) (14 : Int32).toNatClampNeg)) - ((σ.1 (v0 + 1) (2 : Int32).toNatClampNeg) * (σ.1 (v0 + 1) (13 : Int32).toNatClampNeg))) + ((σ.1 (v0 + 1) (4 : Int32).toNatClampNeg) * (σ.1 (v0 + 1) (11 : Int32).toNatClampNeg))) - ((σ.1 (v0 + 1) (8 : Int32).toNatClampNeg) * (σ.1 (v0 + 1) (7 : Int32).toNatClampNeg))) v2 σ h) ⟨va_cnB 2 hts (gW_C (wi_2 _ (List.mem_of_getElem? (i := 2) rfl))) rfl rfl rfl hN.2.2.2.1 (hts _ (wi_2 _ (List.mem_of_getElem? (i := 8) rfl))) hd_X10_mod ⟨Nat.le_of_ble_eq_true rfl, Nat.le_of_ble_eq_true rfl⟩, hts _ (wi_2 _ (List.mem_of_getElem? (i := 7) rfl)), trivial⟩ (rk_preS X hS hP [.int (((((σ.1 (v0 + 1) (1 : Int32).toNatClampNeg) * (σ.1 (v0 + 1) (14 : Int32).toNatClampNeg)) - ((σ.1 (v0 + 1) (2 : Int32).toNatClampNeg) * (σ.1 (v0 + 1) (13 : Int32).toNatClampNeg))) + ((σ.1 (v0 + 1) (4 : Int32).toNatClampNeg) * (σ.1 (v0 + 1) (11 : Int32).toNatClampNeg))) - ((σ.1 (v0 + 1) (8 : Int32).toNatClampNeg) * (σ.1 (v0 + 1) (7 : Int32).toNatClampNeg))), .int v2]) rfl rfl hl.1 rfl (lv_room (Nat.le_of_ble_eq_true rfl)) dX7_rule_46 ⟨Nat.zero_le _, Nat.zero_le _⟩) hS (fun _ h => h) (fun r2 s2 H locs h hP hS => ?_)
    exact rk_iret X rfl kX_len h hP hS dX7_rule_49

theorem hd_X7_isMade : yX7_isMade.cls = RX7 ∧ yX7_isMade.cls ≠ "java/lang/invoke/MethodHandle" ∧ yX7_isMade.cls ≠ "java/lang/invoke/VarHandle" ∧ (parseMethodDescriptor yX7_isMade.desc).map (fun d => d.parameters.length) = some 1 := by decide +kernel
set_option maxRecDepth 100000 in
set_option maxHeartbeats 4000000 in
theorem mX7_isMade (l : Launch) (D : va_G) (cy : Nat → ClassId) (B : Nat) (v0 : Nat) (v1 : Int32) (σ : St) (h0 : kX[v0]? = some 7) {post : Bool → St → Prop} (h : wX7_isMade v0 v1 σ post) : Met l yX7_isMade (Cond.code yX7_isMade cX7_isMade 2 (some .boolean) :: WALL) (rmD 3) (PcW D cy B kX σ [.ref (B + v0), .int v1]) (Qz post D cy B kX 346) 0 0 (AW B 346) := by
  refine Met.ofK (cc := cX7_isMade) (maxL := 2) (ret := (some .boolean)) (by decide +kernel) rfl kX_len ?_
  intro p e s m below meth c X hP
  obtain ⟨⟨hx, hb, hml, hown, hts⟩, hr, hlk, hK, hN, hZ⟩ := id X
  have hD : ∀ σ, va_D (AW B 346) (wW cy B kX σ) := AW_D kX_len
  have hS : va_S (AW B 346) s.heap s.heap [] := va_S.rf
  have hl := lv_entry ([.ref (B + v0), .int v1]) (n := 2) (Nat.le_of_ble_eq_true rfl)
  rw [lg_entry_eq]
  generalize (lg_sl ([.ref (B + v0), .int v1]) ++ List.replicate (2 - (lg_sl ([.ref (B + v0), .int v1])).length) Slot.unset).toArray = ls at hl ⊢
  have hl : lv_has ls 2 [(0, .ref (B + v0)), (1, .int v1)] := hl
  unfold wX7_isMade at h
  refine lv_aload_n hx hb dX7_isMade_0 rfl (lv_at hl 0 rfl) ?_
  refine rk_calli (va_runV (As := []) (rest := []) X.1 (mX7_parityKind l D cy B v0 σ h0 h) (cwV 0 hts (gW_V (wi_16 _ (List.mem_of_getElem? (i := 7) rfl)) (wi_16 _ (List.mem_of_getElem? (i := 8) rfl)) (wi_16 _ (List.mem_of_getElem? (i := 9) rfl)) (wi_0 _ (List.mem_of_getElem? (i := 15) rfl)) (wi_16 _ (List.mem_of_getElem? (i := 4) rfl))) rfl rfl rfl hd_X7_parityKind ⟨Nat.le_of_ble_eq_true rfl, Nat.le_of_ble_eq_true rfl⟩) (rk_preV X hS hP h0 rfl rfl []) rfl rfl hl.1 rfl (lv_room (Nat.le_of_ble_eq_true rfl)) dX7_isMade_1 ⟨Nat.zero_le _, Nat.zero_le _⟩) hS (fun _ h => h) (fun r1 s1 H locs h hP hS => ?_)
  refine lv_iconst (v := (3 : Int32)) hx hb dX7_isMade_4 (by decide) ?_
  refine lv_icmp_ne (tgt := 10) hx hb dX7_isMade_5 (by decide) (fun c1 => ?_) (fun c1 => ?_)
  · have h := h.1 c1
    refine lv_aload_n hx hb dX7_isMade_10 rfl (lv_at hl 0 rfl) ?_
    refine rk_get X hP (C := RX7) (T := TX7) (N := 2) (ci := 7) wix_7 h0 rfl rfl 0 (by decide) (wi_0 _ (List.mem_of_getElem? (i := 4) rfl)) rfl rfl dX7_isMade_11 ?_
    refine lv_iconst (v := (4 : Int32)) hx hb dX7_isMade_14 (by decide) ?_
    refine lv_icmp_ne (tgt := 36) hx hb dX7_isMade_15 (by decide) (fun c2 => ?_) (fun c2 => ?_)
    · have h := h.1 c2
      refine lv_iconst (v := (1 : Int32)) hx hb dX7_isMade_36 (by decide) ?_
      refine lv_goto (tgt := 41) hx hb dX7_isMade_37 (by decide) ?_
      exact rk_zret X kX_len true h hP hS dX7_isMade_41
    · have h := h.2 c2
      refine lv_aload_n hx hb dX7_isMade_18 rfl (lv_at hl 0 rfl) ?_
      refine lv_iconst (v := (0 : Int32)) hx hb dX7_isMade_19 (by decide) ?_
      refine lv_iload_n hx hb dX7_isMade_20 rfl (lv_at hl 1 rfl) ?_
      refine rk_calli (va_runV (As := [.int (0 : Int32), .int v1]) (rest := []) X.1 (mX7_rule l D cy B v0 (0 : Int32) v1 s1 h0 h) (cwV 2 hts (gW_V (wi_16 _ (List.mem_of_getElem? (i := 10) rfl)) (wi_16 _ (List.mem_of_getElem? (i := 11) rfl)) (wi_16 _ (List.mem_of_getElem? (i := 12) rfl)) (wi_0 _ (List.mem_of_getElem? (i := 15) rfl)) (wi_16 _ (List.mem_of_getElem? (i := 6) rfl))) rfl rfl rfl hd_X7_rule ⟨Nat.le_of_ble_eq_true rfl, Nat.le_of_ble_eq_true rfl⟩) (rk_preV X hS hP h0 rfl rfl [.int (0 : Int32), .int v1]) rfl rfl hl.1 rfl (lv_room (Nat.le_of_ble_eq_true rfl)) dX7_isMade_21 ⟨Nat.zero_le _, Nat.zero_le _⟩) hS (fun _ h => h) (fun r2 s2 H locs h hP hS => ?_)
      refine lv_if_ne (tgt := 40) hx hb dX7_isMade_24 (by decide) (fun c3 => ?_) (fun c3 => ?_)
      · have h := h.1 c3
        refine lv_iconst (v := (0 : Int32)) hx hb dX7_isMade_40 (by decide) ?_
        exact rk_zret X kX_len false h hP hS dX7_isMade_41
      · have h := h.2 c3
        refine lv_aload_n hx hb dX7_isMade_27 rfl (lv_at hl 0 rfl) ?_
        refine lv_iconst (v := (1 : Int32)) hx hb dX7_isMade_28 (by decide) ?_
        refine lv_iload_n hx hb dX7_isMade_29 rfl (lv_at hl 1 rfl) ?_
        refine rk_calli (va_runV (As := [.int (1 : Int32), .int v1]) (rest := []) X.1 (mX7_rule l D cy B v0 (1 : Int32) v1 s2 h0 h) (cwV 2 hts (gW_V (wi_16 _ (List.mem_of_getElem? (i := 10) rfl)) (wi_16 _ (List.mem_of_getElem? (i := 11) rfl)) (wi_16 _ (List.mem_of_getElem? (i := 12) rfl)) (wi_0 _ (List.mem_of_getElem? (i := 15) rfl)) (wi_16 _ (List.mem_of_getElem? (i := 6) rfl))) rfl rfl rfl hd_X7_rule ⟨Nat.le_of_ble_eq_true rfl, Nat.le_of_ble_eq_true rfl⟩) (rk_preV X hS hP h0 rfl rfl [.int (1 : Int32), .int v1]) rfl rfl hl.1 rfl (lv_room (Nat.le_of_ble_eq_true rfl)) dX7_isMade_30 ⟨Nat.zero_le _, Nat.zero_le _⟩) hS (fun _ h => h) (fun r3 s3 H locs h hP hS => ?_)
        refine lv_if_ne (tgt := 40) hx hb dX7_isMade_33 (by decide) (fun c4 => ?_) (fun c4 => ?_)
        · have h := h.1 c4
          refine lv_iconst (v := (0 : Int32)) hx hb dX7_isMade_40 (by decide) ?_
          exact rk_zret X kX_len false h hP hS dX7_isMade_41
        · have h := h.2 c4
          refine lv_iconst (v := (1 : Int32)) hx hb dX7_isMade_36 (by decide) ?_
          refine lv_goto (tgt := 41) hx hb dX7_isMade_37 (by decide) ?_
          exact rk_zret X kX_len true h hP hS dX7_isMade_41
  · have h := h.2 c1
    refine lv_iconst (v := (0 : Int32)) hx hb dX7_isMade_8 (by decide) ?_
    exact rk_zret X kX_len false h hP hS dX7_isMade_9

theorem hd_X7_dependsOnBitCount : yX7_dependsOnBitCount.cls = RX7 ∧ yX7_dependsOnBitCount.cls ≠ "java/lang/invoke/MethodHandle" ∧ yX7_dependsOnBitCount.cls ≠ "java/lang/invoke/VarHandle" ∧ (parseMethodDescriptor yX7_dependsOnBitCount.desc).map (fun d => d.parameters.length) = some 0 := by decide +kernel
set_option maxRecDepth 100000 in
set_option maxHeartbeats 4000000 in
theorem tX7_dependsOnBitCount_2 {p : Program} {l : Launch} {e : Env} {s : State} {m : MethodId} {av : Array Value} {below : List Frame} {meth : Method} {c : Code} {D : va_G} {cy : Nat → ClassId} {B : Nat} (X : kC p s m av meth c cX7_dependsOnBitCount 3 (some .boolean) WALL RX7 D cy (AW B 346)) {post : Bool → St → Prop} : ∀ (n : Nat) (v0 : Nat) (v1 : Int32) (σ : St), kX[v0]? = some 7 → wX7_dependsOnBitCount_2 post n v0 v1 σ → ∀ (H : Heap) (locs : List Loc) (ls : Array Slot), va_P D vwCl (wW cy B kX σ) H → va_S (AW B 346) s.heap H locs → lv_has ls 3 [(0, .ref (B + v0)), (1, .int v1)] → W p l e (rmD 1) s m av below meth c H locs 0 0 (MQ below (Qz post D cy B kX 346) av s 0 0 (AW B 346)) (F0 m 2 ls []) := by
  obtain ⟨⟨hx, hb, hml, hown, hts⟩, hr, hlk, hK, hN, hZ⟩ := id X
  have hD : ∀ σ, va_D (AW B 346) (wW cy B kX σ) := AW_D kX_len
  intro n
  induction n with
  | zero => intro v0 v1 σ h0 h; exact absurd h id
  | succ n ih =>
    intro v0 v1 σ h0 h H locs ls hP hS hl
    rw [wX7_dependsOnBitCount_2] at h
    refine lv_iload_n hx hb dX7_dependsOnBitCount_2 rfl (lv_at hl 1 rfl) ?_
    refine lv_aload_n hx hb dX7_dependsOnBitCount_3 rfl (lv_at hl 0 rfl) ?_
    refine rk_calli (va_runV (As := []) (rest := [.int v1]) X.1 (mX7_size l D cy B v0 σ h0 h) (cwV 0 hts (gW_V (wi_16 _ (List.mem_of_getElem? (i := 3) rfl)) (wi_3 _ (List.mem_of_getElem? (i := 12) rfl)) (wi_3 _ (List.mem_of_getElem? (i := 13) rfl)) (wi_0 _ (List.mem_of_getElem? (i := 15) rfl)) (wi_3 _ (List.mem_of_getElem? (i := 4) rfl))) rfl rfl rfl hd_X7_size ⟨Nat.le_of_ble_eq_true rfl, Nat.le_of_ble_eq_true rfl⟩) (rk_preV X hS hP h0 rfl rfl []) rfl rfl hl.1 rfl (lv_room (Nat.le_of_ble_eq_true rfl)) dX7_dependsOnBitCount_4 ⟨Nat.zero_le _, Nat.zero_le _⟩) hS (fun _ h => h) (fun r1 s1 H locs h hP hS => ?_)
    refine lv_icmp_ge (tgt := 42) hx hb dX7_dependsOnBitCount_7 (by decide) (fun c1 => ?_) (fun c1 => ?_)
    · have h := h.1 c1
      refine lv_iconst (v := (1 : Int32)) hx hb dX7_dependsOnBitCount_42 (by decide) ?_
      exact rk_zret X kX_len true h hP hS dX7_dependsOnBitCount_43
    · have h := h.2 c1
      refine lv_iconst (v := (1 : Int32)) hx hb dX7_dependsOnBitCount_10 (by decide) ?_
      refine lv_iload_n hx hb dX7_dependsOnBitCount_11 rfl (lv_at hl 1 rfl) ?_
      refine rk_calli (va_runS (As := [.int v1]) (rest := [.int (1 : Int32)]) X.1 (mJ6_bitCount_0f7a4 l D cy B v1 s1 h) (va_cwS 1 hts (gW_S (wi_16 _ (List.mem_of_getElem? (i := 5) rfl)) (wi_4 _ (List.mem_of_getElem? (i := 4) rfl)) (wi_4 _ (List.mem_of_getElem? (i := 5) rfl)) (wi_3 _ (List.mem_of_getElem? (i := 19) rfl))) rfl rfl rfl hd_J6_bitCount_0f7a4 ⟨Nat.le_of_ble_eq_true rfl, Nat.le_of_ble_eq_true rfl⟩) (rk_preS X hS hP [.int v1]) rfl rfl hl.1 rfl (lv_room (Nat.le_of_ble_eq_true rfl)) dX7_dependsOnBitCount_12 ⟨Nat.zero_le _, Nat.zero_le _⟩) hS (fun _ h => h) (fun r2 s2 H locs h hP hS => ?_)
      refine lv_ishl hx hb dX7_dependsOnBitCount_15 ?_
      refine lv_iconst (v := (1 : Int32)) hx hb dX7_dependsOnBitCount_16 (by decide) ?_
      refine lv_isub hx hb dX7_dependsOnBitCount_17 ?_
      refine lv_topi (fun x1 ex1 => ?_)
      have h := h x1 ex1
      refine lv_istore_n (lv' := [(2, .int x1), (0, .ref (B + v0)), (1, .int v1)]) hx hb dX7_dependsOnBitCount_18 rfl hl (by decide) rfl (fun ls hl => ?_)
      refine lv_aload_n hx hb dX7_dependsOnBitCount_19 rfl (lv_at hl 1 rfl) ?_
      refine rk_get X hP (C := RX7) (T := TX7) (N := 2) (ci := 7) wix_7 h0 rfl rfl 1 (by decide) (wi_0 _ (List.mem_of_getElem? (i := 6) rfl)) rfl rfl dX7_dependsOnBitCount_20 ?_
      refine lv_iload_n hx hb dX7_dependsOnBitCount_23 rfl (lv_at hl 2 rfl) ?_
      obtain ⟨b1, h⟩ := h
      refine rk_iald X hP (n := 16) (klX_X7_1 h0) (fun _ _ => rfl) b1 dX7_dependsOnBitCount_24 ?_
      refine lv_aload_n hx hb dX7_dependsOnBitCount_25 rfl (lv_at hl 1 rfl) ?_
      refine rk_get X hP (C := RX7) (T := TX7) (N := 2) (ci := 7) wix_7 h0 rfl rfl 1 (by decide) (wi_0 _ (List.mem_of_getElem? (i := 6) rfl)) rfl rfl dX7_dependsOnBitCount_26 ?_
      refine lv_iload_n hx hb dX7_dependsOnBitCount_29 rfl (lv_at hl 0 rfl) ?_
      obtain ⟨b2, h⟩ := h
      refine rk_iald X hP (n := 16) (klX_X7_1 h0) (fun _ _ => rfl) b2 dX7_dependsOnBitCount_30 ?_
      refine lv_icmp_eq (tgt := 36) hx hb dX7_dependsOnBitCount_31 (by decide) (fun c2 => ?_) (fun c2 => ?_)
      · have h := h.1 c2
        obtain ⟨x2, ex2⟩ : ∃ y : Int32, y = v1 + (1 : Int32) := ⟨_, rfl⟩
        have h := h x2 ex2
        refine lv_iinc (v := x2) (lv' := [(1, .int x2), (2, .int x1), (0, .ref (B + v0))]) hx hb dX7_dependsOnBitCount_36 hl (k := 2) rfl (by rw [ex2]; rfl) (by decide) rfl (fun ls hl => ?_)
        refine lv_goto (tgt := 2) hx hb dX7_dependsOnBitCount_39 (by decide) ?_
        exact ih _ _ _ h0 h _ _ _ hP hS (lv_sub hl [2, 0] rfl)
      · have h := h.2 c2
        refine lv_iconst (v := (0 : Int32)) hx hb dX7_dependsOnBitCount_34 (by decide) ?_
        exact rk_zret X kX_len false h hP hS dX7_dependsOnBitCount_35
set_option maxRecDepth 100000 in
set_option maxHeartbeats 4000000 in
theorem mX7_dependsOnBitCount (l : Launch) (D : va_G) (cy : Nat → ClassId) (B : Nat) (v0 : Nat) (σ : St) (h0 : kX[v0]? = some 7) {post : Bool → St → Prop} (h : wX7_dependsOnBitCount v0 σ post) : Met l yX7_dependsOnBitCount (Cond.code yX7_dependsOnBitCount cX7_dependsOnBitCount 3 (some .boolean) :: WALL) (rmD 1) (PcW D cy B kX σ [.ref (B + v0)]) (Qz post D cy B kX 346) 0 0 (AW B 346) := by
  refine Met.ofK (cc := cX7_dependsOnBitCount) (maxL := 3) (ret := (some .boolean)) (by decide +kernel) rfl kX_len ?_
  intro p e s m below meth c X hP
  obtain ⟨⟨hx, hb, hml, hown, hts⟩, hr, hlk, hK, hN, hZ⟩ := id X
  have hD : ∀ σ, va_D (AW B 346) (wW cy B kX σ) := AW_D kX_len
  have hS : va_S (AW B 346) s.heap s.heap [] := va_S.rf
  have hl := lv_entry ([.ref (B + v0)]) (n := 3) (Nat.le_of_ble_eq_true rfl)
  rw [lg_entry_eq]
  generalize (lg_sl ([.ref (B + v0)]) ++ List.replicate (3 - (lg_sl ([.ref (B + v0)])).length) Slot.unset).toArray = ls at hl ⊢
  have hl : lv_has ls 3 [(0, .ref (B + v0))] := hl
  unfold wX7_dependsOnBitCount at h
  refine lv_iconst (v := (0 : Int32)) hx hb dX7_dependsOnBitCount_0 (by decide) ?_
  refine lv_istore_n (lv' := [(1, .int (0 : Int32)), (0, .ref (B + v0))]) hx hb dX7_dependsOnBitCount_1 rfl hl (by decide) rfl (fun ls hl => ?_)
  obtain ⟨j, h⟩ := h
  exact tX7_dependsOnBitCount_2 X j _ _ _ h0 h _ _ _ hP hS (lv_sub hl [1, 0] rfl)

theorem hd_X7_isTimes : yX7_isTimes.cls = RX7 ∧ yX7_isTimes.cls ≠ "java/lang/invoke/MethodHandle" ∧ yX7_isTimes.cls ≠ "java/lang/invoke/VarHandle" ∧ (parseMethodDescriptor yX7_isTimes.desc).map (fun d => d.parameters.length) = some 3 := by decide +kernel
set_option maxRecDepth 100000 in
set_option maxHeartbeats 4000000 in
theorem tX7_isTimes_3 {p : Program} {l : Launch} {e : Env} {s : State} {m : MethodId} {av : Array Value} {below : List Frame} {meth : Method} {c : Code} {D : va_G} {cy : Nat → ClassId} {B : Nat} (X : kC p s m av meth c cX7_isTimes 5 (some .boolean) WALL RX7 D cy (AW B 346)) {post : Bool → St → Prop} : ∀ (n : Nat) (v0 : Nat) (v1 : Int32) (v2 : Nat) (v3 : Int32) (v4 : Int32) (σ : St), kX[v0]? = some 7 → kX[v2]? = some 7 → wX7_isTimes_3 post n v0 v1 v2 v3 v4 σ → ∀ (H : Heap) (locs : List Loc) (ls : Array Slot), va_P D vwCl (wW cy B kX σ) H → va_S (AW B 346) s.heap H locs → lv_has ls 5 [(0, .ref (B + v0)), (1, .int v1), (2, .ref (B + v2)), (3, .int v3), (4, .int v4)] → W p l e (rmD 2) s m av below meth c H locs 0 0 (MQ below (Qz post D cy B kX 346) av s 0 0 (AW B 346)) (F0 m 3 ls []) := by
  obtain ⟨⟨hx, hb, hml, hown, hts⟩, hr, hlk, hK, hN, hZ⟩ := id X
  have hD : ∀ σ, va_D (AW B 346) (wW cy B kX σ) := AW_D kX_len
  intro n
  induction n with
  | zero => intro v0 v1 v2 v3 v4 σ h0 h2 h; exact absurd h id
  | succ n ih =>
    intro v0 v1 v2 v3 v4 σ h0 h2 h H locs ls hP hS hl
    rw [wX7_isTimes_3] at h
    refine lv_iload hx hb dX7_isTimes_3 (lv_at hl 4 rfl) ?_
    refine lv_aload_n hx hb dX7_isTimes_5 rfl (lv_at hl 0 rfl) ?_
    refine rk_calli (va_runV (As := []) (rest := [.int v4]) X.1 (mX7_size l D cy B v0 σ h0 h) (cwV 0 hts (gW_V (wi_16 _ (List.mem_of_getElem? (i := 3) rfl)) (wi_3 _ (List.mem_of_getElem? (i := 12) rfl)) (wi_3 _ (List.mem_of_getElem? (i := 13) rfl)) (wi_0 _ (List.mem_of_getElem? (i := 15) rfl)) (wi_3 _ (List.mem_of_getElem? (i := 4) rfl))) rfl rfl rfl hd_X7_size ⟨Nat.le_of_ble_eq_true rfl, Nat.le_of_ble_eq_true rfl⟩) (rk_preV X hS hP h0 rfl rfl []) rfl rfl hl.1 rfl (lv_room (Nat.le_of_ble_eq_true rfl)) dX7_isTimes_6 ⟨Nat.zero_le _, Nat.zero_le _⟩) hS (fun _ h => h) (fun r1 s1 H locs h hP hS => ?_)
    refine lv_icmp_ge (tgt := 43) hx hb dX7_isTimes_9 (by decide) (fun c1 => ?_) (fun c1 => ?_)
    · have h := h.1 c1
      refine lv_iconst (v := (1 : Int32)) hx hb dX7_isTimes_43 (by decide) ?_
      exact rk_zret X kX_len true h hP hS dX7_isTimes_44
    · have h := h.2 c1
      refine lv_aload_n hx hb dX7_isTimes_12 rfl (lv_at hl 0 rfl) ?_
      refine rk_get X hP (C := RX7) (T := TX7) (N := 2) (ci := 7) wix_7 h0 rfl rfl 1 (by decide) (wi_0 _ (List.mem_of_getElem? (i := 6) rfl)) rfl rfl dX7_isTimes_13 ?_
      refine lv_iload hx hb dX7_isTimes_16 (lv_at hl 4 rfl) ?_
      obtain ⟨b1, h⟩ := h
      refine rk_iald X hP (n := 16) (klX_X7_1 h0) (fun _ _ => rfl) b1 dX7_isTimes_18 ?_
      refine lv_iload_n hx hb dX7_isTimes_19 rfl (lv_at hl 1 rfl) ?_
      refine lv_aload_n hx hb dX7_isTimes_20 rfl (lv_at hl 2 rfl) ?_
      refine rk_get X hP (C := RX7) (T := TX7) (N := 2) (ci := 7) wix_7 h2 rfl rfl 1 (by decide) (wi_0 _ (List.mem_of_getElem? (i := 6) rfl)) rfl rfl dX7_isTimes_21 ?_
      refine lv_iload hx hb dX7_isTimes_24 (lv_at hl 4 rfl) ?_
      obtain ⟨b2, h⟩ := h
      refine rk_iald X hP (n := 16) (klX_X7_1 h2) (fun _ _ => rfl) b2 dX7_isTimes_26 ?_
      refine lv_imul hx hb dX7_isTimes_27 ?_
      refine lv_iload_n hx hb dX7_isTimes_28 rfl (lv_at hl 3 rfl) ?_
      refine rk_calli (va_runSN (As := [.int (v1 * (s1.1 (v2 + 1) v4.toNatClampNeg)), .int v3]) (rest := [.int (s1.1 (v0 + 1) v4.toNatClampNeg)]) X.1 (mX10_mod l D cy B (v1 * (s1.1 (v2 + 1) v4.toNatClampNeg)) v3 s1 h) ⟨va_cnB 2 hts (gW_C (wi_2 _ (List.mem_of_getElem? (i := 2) rfl))) rfl rfl rfl hN.2.2.2.1 (hts _ (wi_2 _ (List.mem_of_getElem? (i := 8) rfl))) hd_X10_mod ⟨Nat.le_of_ble_eq_true rfl, Nat.le_of_ble_eq_true rfl⟩, hts _ (wi_2 _ (List.mem_of_getElem? (i := 7) rfl)), trivial⟩ (rk_preS X hS hP [.int (v1 * (s1.1 (v2 + 1) v4.toNatClampNeg)), .int v3]) rfl rfl hl.1 rfl (lv_room (Nat.le_of_ble_eq_true rfl)) dX7_isTimes_29 ⟨Nat.zero_le _, Nat.zero_le _⟩) hS (fun _ h => h) (fun r2 s2 H locs h hP hS => ?_)
      refine lv_icmp_eq (tgt := 37) hx hb dX7_isTimes_32 (by decide) (fun c2 => ?_) (fun c2 => ?_)
      · have h := h.1 c2
        obtain ⟨x1, ex1⟩ : ∃ y : Int32, y = v4 + (1 : Int32) := ⟨_, rfl⟩
        have h := h x1 ex1
        refine lv_iinc (v := x1) (lv' := [(4, .int x1), (0, .ref (B + v0)), (1, .int v1), (2, .ref (B + v2)), (3, .int v3)]) hx hb dX7_isTimes_37 hl (k := 4) rfl (by rw [ex1]; rfl) (by decide) rfl (fun ls hl => ?_)
        refine lv_goto (tgt := 3) hx hb dX7_isTimes_40 (by decide) ?_
        exact ih _ _ _ _ _ _ h0 h2 h _ _ _ hP hS (lv_sub hl [1, 2, 3, 4, 0] rfl)
      · have h := h.2 c2
        refine lv_iconst (v := (0 : Int32)) hx hb dX7_isTimes_35 (by decide) ?_
        exact rk_zret X kX_len false h hP hS dX7_isTimes_36
set_option maxRecDepth 100000 in
set_option maxHeartbeats 4000000 in
theorem mX7_isTimes (l : Launch) (D : va_G) (cy : Nat → ClassId) (B : Nat) (v0 : Nat) (v1 : Int32) (v2 : Nat) (v3 : Int32) (σ : St) (h0 : kX[v0]? = some 7) (h2 : kX[v2]? = some 7) {post : Bool → St → Prop} (h : wX7_isTimes v0 v1 v2 v3 σ post) : Met l yX7_isTimes (Cond.code yX7_isTimes cX7_isTimes 5 (some .boolean) :: WALL) (rmD 2) (PcW D cy B kX σ [.ref (B + v0), .int v1, .ref (B + v2), .int v3]) (Qz post D cy B kX 346) 0 0 (AW B 346) := by
  refine Met.ofK (cc := cX7_isTimes) (maxL := 5) (ret := (some .boolean)) (by decide +kernel) rfl kX_len ?_
  intro p e s m below meth c X hP
  obtain ⟨⟨hx, hb, hml, hown, hts⟩, hr, hlk, hK, hN, hZ⟩ := id X
  have hD : ∀ σ, va_D (AW B 346) (wW cy B kX σ) := AW_D kX_len
  have hS : va_S (AW B 346) s.heap s.heap [] := va_S.rf
  have hl := lv_entry ([.ref (B + v0), .int v1, .ref (B + v2), .int v3]) (n := 5) (Nat.le_of_ble_eq_true rfl)
  rw [lg_entry_eq]
  generalize (lg_sl ([.ref (B + v0), .int v1, .ref (B + v2), .int v3]) ++ List.replicate (5 - (lg_sl ([.ref (B + v0), .int v1, .ref (B + v2), .int v3])).length) Slot.unset).toArray = ls at hl ⊢
  have hl : lv_has ls 5 [(0, .ref (B + v0)), (1, .int v1), (2, .ref (B + v2)), (3, .int v3)] := hl
  unfold wX7_isTimes at h
  refine lv_iconst (v := (0 : Int32)) hx hb dX7_isTimes_0 (by decide) ?_
  refine lv_istore (lv' := [(4, .int (0 : Int32)), (0, .ref (B + v0)), (1, .int v1), (2, .ref (B + v2)), (3, .int v3)]) hx hb dX7_isTimes_1 hl (by decide) rfl (fun ls hl => ?_)
  obtain ⟨j, h⟩ := h
  exact tX7_isTimes_3 X j _ _ _ _ _ _ h0 h2 h _ _ _ hP hS (lv_sub hl [1, 2, 3, 4, 0] rfl)

theorem hd_X7_factorOver : yX7_factorOver.cls = RX7 ∧ yX7_factorOver.cls ≠ "java/lang/invoke/MethodHandle" ∧ yX7_factorOver.cls ≠ "java/lang/invoke/VarHandle" ∧ (parseMethodDescriptor yX7_factorOver.desc).map (fun d => d.parameters.length) = some 2 := by decide +kernel
set_option maxRecDepth 100000 in
set_option maxHeartbeats 4000000 in
theorem tX7_factorOver_15 {p : Program} {l : Launch} {e : Env} {s : State} {m : MethodId} {av : Array Value} {below : List Frame} {meth : Method} {c : Code} {D : va_G} {cy : Nat → ClassId} {B : Nat} (X : kC p s m av meth c cX7_factorOver 4 (some .int) WALL RX7 D cy (AW B 346)) {post : Int32 → St → Prop} : ∀ (n : Nat) (v0 : Nat) (v1 : Nat) (v2 : Int32) (v3 : Int32) (σ : St), kX[v0]? = some 7 → kX[v1]? = some 7 → wX7_factorOver_15 post n v0 v1 v2 v3 σ → ∀ (H : Heap) (locs : List Loc) (ls : Array Slot), va_P D vwCl (wW cy B kX σ) H → va_S (AW B 346) s.heap H locs → lv_has ls 4 [(0, .ref (B + v0)), (1, .ref (B + v1)), (2, .int v2), (3, .int v3)] → W p l e (rmD 3) s m av below meth c H locs 0 0 (MQ below (va_Qi post (BW D cy B kX) (AW B 346)) av s 0 0 (AW B 346)) (F0 m 15 ls []) := by
  obtain ⟨⟨hx, hb, hml, hown, hts⟩, hr, hlk, hK, hN, hZ⟩ := id X
  have hD : ∀ σ, va_D (AW B 346) (wW cy B kX σ) := AW_D kX_len
  intro n
  induction n with
  | zero => intro v0 v1 v2 v3 σ h0 h1 h; exact absurd h id
  | succ n ih =>
    intro v0 v1 v2 v3 σ h0 h1 h H locs ls hP hS hl
    rw [wX7_factorOver_15] at h
    refine lv_iload_n hx hb dX7_factorOver_15 rfl (lv_at hl 3 rfl) ?_
    refine lv_iload_n hx hb dX7_factorOver_16 rfl (lv_at hl 2 rfl) ?_
    refine lv_icmp_ge (tgt := 38) hx hb dX7_factorOver_17 (by decide) (fun c1 => ?_) (fun c1 => ?_)
    · have h := h.1 c1
      refine lv_iconst (v := (0 : Int32)) hx hb dX7_factorOver_38 (by decide) ?_
      exact rk_iret X rfl kX_len h hP hS dX7_factorOver_39
    · have h := h.2 c1
      refine lv_aload_n hx hb dX7_factorOver_20 rfl (lv_at hl 0 rfl) ?_
      refine lv_iload_n hx hb dX7_factorOver_21 rfl (lv_at hl 3 rfl) ?_
      refine lv_aload_n hx hb dX7_factorOver_22 rfl (lv_at hl 1 rfl) ?_
      refine lv_iload_n hx hb dX7_factorOver_23 rfl (lv_at hl 2 rfl) ?_
      refine rk_callz (va_runV (As := [.int v3, .ref (B + v1), .int v2]) (rest := []) X.1 (mX7_isTimes l D cy B v0 v3 v1 v2 σ h0 h1 h) (cwV 3 hts (gW_V (wi_16 _ (List.mem_of_getElem? (i := 17) rfl)) (wi_16 _ (List.mem_of_getElem? (i := 18) rfl)) (wi_16 _ (List.mem_of_getElem? (i := 19) rfl)) (wi_0 _ (List.mem_of_getElem? (i := 15) rfl)) (wi_16 _ (List.mem_of_getElem? (i := 15) rfl))) rfl rfl rfl hd_X7_isTimes ⟨Nat.le_of_ble_eq_true rfl, Nat.le_of_ble_eq_true rfl⟩) (rk_preV X hS hP h0 rfl rfl [.int v3, .ref (B + v1), .int v2]) rfl rfl hl.1 rfl (lv_room (Nat.le_of_ble_eq_true rfl)) dX7_factorOver_24 ⟨Nat.zero_le _, Nat.zero_le _⟩) hS (fun _ h => h) (fun r1 s1 H locs h hP hS => ?_)
      refine lv_if_eq (tgt := 32) hx hb dX7_factorOver_27 (by decide) (fun c2 => ?_) (fun c2 => ?_)
      · have h := h.1 (b2i_f c2)
        obtain ⟨x1, ex1⟩ : ∃ y : Int32, y = v3 + (1 : Int32) := ⟨_, rfl⟩
        have h := h x1 ex1
        refine lv_iinc (v := x1) (lv' := [(3, .int x1), (0, .ref (B + v0)), (1, .ref (B + v1)), (2, .int v2)]) hx hb dX7_factorOver_32 hl (k := 3) rfl (by rw [ex1]; rfl) (by decide) rfl (fun ls hl => ?_)
        refine lv_goto (tgt := 15) hx hb dX7_factorOver_35 (by decide) ?_
        exact ih _ _ _ _ _ h0 h1 h _ _ _ hP hS (lv_sub hl [1, 2, 3, 0] rfl)
      · have h := h.2 (b2i_t c2)
        refine lv_iload_n hx hb dX7_factorOver_30 rfl (lv_at hl 3 rfl) ?_
        exact rk_iret X rfl kX_len h hP hS dX7_factorOver_31
set_option maxRecDepth 100000 in
set_option maxHeartbeats 4000000 in
theorem mX7_factorOver (l : Launch) (D : va_G) (cy : Nat → ClassId) (B : Nat) (v0 : Nat) (v1 : Nat) (v2 : Int32) (σ : St) (h0 : kX[v0]? = some 7) (h1 : kX[v1]? = some 7) {post : Int32 → St → Prop} (h : wX7_factorOver v0 v1 v2 σ post) : Met l yX7_factorOver (Cond.code yX7_factorOver cX7_factorOver 4 (some .int) :: WALL) (rmD 3) (PcW D cy B kX σ [.ref (B + v0), .ref (B + v1), .int v2]) (va_Qi post (BW D cy B kX) (AW B 346)) 0 0 (AW B 346) := by
  refine Met.ofK (cc := cX7_factorOver) (maxL := 4) (ret := (some .int)) (by decide +kernel) rfl kX_len ?_
  intro p e s m below meth c X hP
  obtain ⟨⟨hx, hb, hml, hown, hts⟩, hr, hlk, hK, hN, hZ⟩ := id X
  have hD : ∀ σ, va_D (AW B 346) (wW cy B kX σ) := AW_D kX_len
  have hS : va_S (AW B 346) s.heap s.heap [] := va_S.rf
  have hl := lv_entry ([.ref (B + v0), .ref (B + v1), .int v2]) (n := 4) (Nat.le_of_ble_eq_true rfl)
  rw [lg_entry_eq]
  generalize (lg_sl ([.ref (B + v0), .ref (B + v1), .int v2]) ++ List.replicate (4 - (lg_sl ([.ref (B + v0), .ref (B + v1), .int v2])).length) Slot.unset).toArray = ls at hl ⊢
  have hl : lv_has ls 4 [(0, .ref (B + v0)), (1, .ref (B + v1)), (2, .int v2)] := hl
  unfold wX7_factorOver at h
  refine lv_aload_n hx hb dX7_factorOver_0 rfl (lv_at hl 0 rfl) ?_
  refine rk_get X hP (C := RX7) (T := TX7) (N := 2) (ci := 7) wix_7 h0 rfl rfl 0 (by decide) (wi_0 _ (List.mem_of_getElem? (i := 4) rfl)) rfl rfl dX7_factorOver_1 ?_
  refine lv_aload_n hx hb dX7_factorOver_4 rfl (lv_at hl 1 rfl) ?_
  refine rk_get X hP (C := RX7) (T := TX7) (N := 2) (ci := 7) wix_7 h1 rfl rfl 0 (by decide) (wi_0 _ (List.mem_of_getElem? (i := 4) rfl)) rfl rfl dX7_factorOver_5 ?_
  refine lv_icmp_eq (tgt := 13) hx hb dX7_factorOver_8 (by decide) (fun c1 => ?_) (fun c1 => ?_)
  · have h := h.1 c1
    refine lv_iconst (v := (1 : Int32)) hx hb dX7_factorOver_13 (by decide) ?_
    refine lv_istore_n (lv' := [(3, .int (1 : Int32)), (0, .ref (B + v0)), (1, .ref (B + v1)), (2, .int v2)]) hx hb dX7_factorOver_14 rfl hl (by decide) rfl (fun ls hl => ?_)
    obtain ⟨j, h⟩ := h
    exact tX7_factorOver_15 X j _ _ _ _ _ h0 h1 h _ _ _ hP hS (lv_sub hl [1, 2, 3, 0] rfl)
  · have h := h.2 c1
    refine lv_iconst (v := (0 : Int32)) hx hb dX7_factorOver_11 (by decide) ?_
    exact rk_iret X rfl kX_len h hP hS dX7_factorOver_12

theorem hd_X7_changeLeg : yX7_changeLeg.cls = RX7 ∧ yX7_changeLeg.cls ≠ "java/lang/invoke/MethodHandle" ∧ yX7_changeLeg.cls ≠ "java/lang/invoke/VarHandle" ∧ (parseMethodDescriptor yX7_changeLeg.desc).map (fun d => d.parameters.length) = some 3 := by decide +kernel
set_option maxRecDepth 100000 in
set_option maxHeartbeats 4000000 in
theorem tX7_changeLeg_8 {p : Program} {l : Launch} {e : Env} {s : State} {m : MethodId} {av : Array Value} {below : List Frame} {meth : Method} {c : Code} {D : va_G} {cy : Nat → ClassId} {B : Nat} (X : kC p s m av meth c cX7_changeLeg 8 none WALL RX7 D cy (AW B 346)) {post : St → Prop} : ∀ (n : Nat) (v0 : Nat) (v2 : Nat) (v3 : Int32) (v4 : Int32) (v5 : Int32) (σ : St), kX[v0]? = some 7 → kX[v2]? = some 1 → wX7_changeLeg_8 post n v0 v2 v3 v4 v5 σ → ∀ (H : Heap) (locs : List Loc) (ls : Array Slot), va_P D vwCl (wW cy B kX σ) H → va_S (AW B 346) s.heap H locs → lv_has ls 8 [(0, .ref (B + v0)), (2, .ref (B + v2)), (3, .int v3), (4, .int v4), (5, .int v5)] → W p l e (rmD 2) s m av below meth c H locs 0 0 (MQ below (va_Qv post (BW D cy B kX) (AW B 346)) av s 0 0 (AW B 346)) (F0 m 8 ls []) := by
  obtain ⟨⟨hx, hb, hml, hown, hts⟩, hr, hlk, hK, hN, hZ⟩ := id X
  have hD : ∀ σ, va_D (AW B 346) (wW cy B kX σ) := AW_D kX_len
  intro n
  induction n with
  | zero => intro v0 v2 v3 v4 v5 σ h0 h2 h; exact absurd h id
  | succ n ih =>
    intro v0 v2 v3 v4 v5 σ h0 h2 h H locs ls hP hS hl
    rw [wX7_changeLeg_8] at h
    refine lv_iload hx hb dX7_changeLeg_8 (lv_at hl 4 rfl) ?_
    refine lv_aload_n hx hb dX7_changeLeg_10 rfl (lv_at hl 0 rfl) ?_
    refine rk_calli (va_runV (As := []) (rest := [.int v5]) X.1 (mX7_size l D cy B v0 σ h0 h) (cwV 0 hts (gW_V (wi_16 _ (List.mem_of_getElem? (i := 3) rfl)) (wi_3 _ (List.mem_of_getElem? (i := 12) rfl)) (wi_3 _ (List.mem_of_getElem? (i := 13) rfl)) (wi_0 _ (List.mem_of_getElem? (i := 15) rfl)) (wi_3 _ (List.mem_of_getElem? (i := 4) rfl))) rfl rfl rfl hd_X7_size ⟨Nat.le_of_ble_eq_true rfl, Nat.le_of_ble_eq_true rfl⟩) (rk_preV X hS hP h0 rfl rfl []) rfl rfl hl.1 rfl (lv_room (Nat.le_of_ble_eq_true rfl)) dX7_changeLeg_11 ⟨Nat.zero_le _, Nat.zero_le _⟩) hS (fun _ h => h) (fun r1 s1 H locs h hP hS => ?_)
    refine lv_icmp_ge (tgt := 117) hx hb dX7_changeLeg_14 (by decide) (fun c1 => ?_) (fun c1 => ?_)
    · have h := h.1 c1
      exact rk_vret X kX_len h hP hS dX7_changeLeg_117
    · have h := h.2 c1
      refine lv_iload hx hb dX7_changeLeg_17 (lv_at hl 4 rfl) ?_
      refine lv_iload hx hb dX7_changeLeg_19 (lv_at hl 3 rfl) ?_
      refine lv_iand hx hb dX7_changeLeg_21 ?_
      refine lv_if_ne (tgt := 111) hx hb dX7_changeLeg_22 (by decide) (fun c2 => ?_) (fun c2 => ?_)
      · have h := h.1 c2
        obtain ⟨x1, ex1⟩ : ∃ y : Int32, y = v5 + (1 : Int32) := ⟨_, rfl⟩
        have h := h x1 ex1
        refine lv_iinc (v := x1) (lv' := [(5, .int x1), (0, .ref (B + v0)), (2, .ref (B + v2)), (3, .int v3), (4, .int v4)]) hx hb dX7_changeLeg_111 hl (k := 4) rfl (by rw [ex1]; rfl) (by decide) rfl (fun ls hl => ?_)
        refine lv_goto (tgt := 8) hx hb dX7_changeLeg_114 (by decide) ?_
        exact ih _ _ _ _ _ _ h0 h2 h _ _ _ hP hS (lv_sub hl [1, 2, 3, 4, 0] rfl)
      · have h := h.2 c2
        refine lv_iload hx hb dX7_changeLeg_25 (lv_at hl 4 rfl) ?_
        refine lv_iload hx hb dX7_changeLeg_27 (lv_at hl 3 rfl) ?_
        refine lv_ior hx hb dX7_changeLeg_29 ?_
        refine lv_bipush (v := (16 : Int32)) hx hb dX7_changeLeg_30 (by decide) ?_
        refine lv_icmp_ge (tgt := 111) hx hb dX7_changeLeg_32 (by decide) (fun c3 => ?_) (fun c3 => ?_)
        · have h := h.1 c3
          obtain ⟨x2, ex2⟩ : ∃ y : Int32, y = v5 + (1 : Int32) := ⟨_, rfl⟩
          have h := h x2 ex2
          refine lv_iinc (v := x2) (lv' := [(5, .int x2), (0, .ref (B + v0)), (2, .ref (B + v2)), (3, .int v3), (4, .int v4)]) hx hb dX7_changeLeg_111 hl (k := 4) rfl (by rw [ex2]; rfl) (by decide) rfl (fun ls hl => ?_)
          refine lv_goto (tgt := 8) hx hb dX7_changeLeg_114 (by decide) ?_
          exact ih _ _ _ _ _ _ h0 h2 h _ _ _ hP hS (lv_sub hl [1, 2, 3, 4, 0] rfl)
        · have h := h.2 c3
          refine lv_aload_n hx hb dX7_changeLeg_35 rfl (lv_at hl 0 rfl) ?_
          refine rk_get X hP (C := RX7) (T := TX7) (N := 2) (ci := 7) wix_7 h0 rfl rfl 1 (by decide) (wi_0 _ (List.mem_of_getElem? (i := 6) rfl)) rfl rfl dX7_changeLeg_36 ?_
          refine lv_iload hx hb dX7_changeLeg_39 (lv_at hl 4 rfl) ?_
          obtain ⟨b1, h⟩ := h
          refine rk_iald X hP (n := 16) (klX_X7_1 h0) (fun _ _ => rfl) b1 dX7_changeLeg_41 ?_
          refine lv_topi (fun x3 ex3 => ?_)
          have h := h x3 ex3
          refine lv_istore (lv' := [(6, .int x3), (0, .ref (B + v0)), (2, .ref (B + v2)), (3, .int v3), (4, .int v4), (5, .int v5)]) hx hb dX7_changeLeg_42 hl (by decide) rfl (fun ls hl => ?_)
          refine lv_aload_n hx hb dX7_changeLeg_44 rfl (lv_at hl 1 rfl) ?_
          refine rk_get X hP (C := RX7) (T := TX7) (N := 2) (ci := 7) wix_7 h0 rfl rfl 1 (by decide) (wi_0 _ (List.mem_of_getElem? (i := 6) rfl)) rfl rfl dX7_changeLeg_45 ?_
          refine lv_iload hx hb dX7_changeLeg_48 (lv_at hl 5 rfl) ?_
          refine lv_iload hx hb dX7_changeLeg_50 (lv_at hl 4 rfl) ?_
          refine lv_ior hx hb dX7_changeLeg_52 ?_
          refine lv_topi (fun x4 ex4 => ?_)
          have h := h x4 ex4
          obtain ⟨b2, h⟩ := h
          refine rk_iald X hP (n := 16) (klX_X7_1 h0) (fun _ _ => rfl) b2 dX7_changeLeg_53 ?_
          refine lv_topi (fun x5 ex5 => ?_)
          have h := h x5 ex5
          refine lv_istore (lv' := [(7, .int x5), (6, .int x3), (0, .ref (B + v0)), (2, .ref (B + v2)), (3, .int v3), (4, .int v4), (5, .int v5)]) hx hb dX7_changeLeg_54 hl (by decide) rfl (fun ls hl => ?_)
          refine lv_aload_n hx hb dX7_changeLeg_56 rfl (lv_at hl 2 rfl) ?_
          refine rk_get X hP (C := RX7) (T := TX7) (N := 2) (ci := 7) wix_7 h0 rfl rfl 1 (by decide) (wi_0 _ (List.mem_of_getElem? (i := 6) rfl)) rfl rfl dX7_changeLeg_57 ?_
          refine lv_iload hx hb dX7_changeLeg_60 (lv_at hl 6 rfl) ?_
          refine lv_aload_n hx hb dX7_changeLeg_62 rfl (lv_at hl 3 rfl) ?_
          refine rk_get X hP (C := RX1) (T := TX1) (N := 4) (ci := 1) wix_1 h2 rfl rfl 0 (by decide) (wi_16 _ (List.mem_of_getElem? (i := 21) rfl)) rfl rfl dX7_changeLeg_63 ?_
          refine lv_iload hx hb dX7_changeLeg_66 (lv_at hl 1 rfl) ?_
          refine lv_imul hx hb dX7_changeLeg_68 ?_
          refine lv_aload_n hx hb dX7_changeLeg_69 rfl (lv_at hl 3 rfl) ?_
          refine rk_get X hP (C := RX1) (T := TX1) (N := 4) (ci := 1) wix_1 h2 rfl rfl 1 (by decide) (wi_16 _ (List.mem_of_getElem? (i := 22) rfl)) rfl rfl dX7_changeLeg_70 ?_
          refine lv_iload hx hb dX7_changeLeg_73 (lv_at hl 0 rfl) ?_
          refine lv_imul hx hb dX7_changeLeg_75 ?_
          refine lv_iadd hx hb dX7_changeLeg_76 ?_
          refine lv_iload_n hx hb dX7_changeLeg_77 rfl (lv_at hl 4 rfl) ?_
          refine rk_calli (va_runSN (As := [.int (((s1.1 v2 0) * x3) + ((s1.1 v2 1) * x5)), .int v3]) (rest := [.int v5, .ref (B + (v0 + 1))]) X.1 (mX10_mod l D cy B (((s1.1 v2 0) * x3) + ((s1.1 v2 1) * x5)) v3 s1 h) ⟨va_cnB 2 hts (gW_C (wi_2 _ (List.mem_of_getElem? (i := 2) rfl))) rfl rfl rfl hN.2.2.2.1 (hts _ (wi_2 _ (List.mem_of_getElem? (i := 8) rfl))) hd_X10_mod ⟨Nat.le_of_ble_eq_true rfl, Nat.le_of_ble_eq_true rfl⟩, hts _ (wi_2 _ (List.mem_of_getElem? (i := 7) rfl)), trivial⟩ (rk_preS X hS hP [.int (((s1.1 v2 0) * x3) + ((s1.1 v2 1) * x5)), .int v3]) rfl rfl hl.1 rfl (lv_room (Nat.le_of_ble_eq_true rfl)) dX7_changeLeg_78 ⟨Nat.zero_le _, Nat.zero_le _⟩) hS (fun _ h => h) (fun r2 s2 H locs h hP hS => ?_)
          obtain ⟨b3, h⟩ := h
          refine rk_iast X hP hD hS (n := 16) (klX_X7_1 h0) (fun _ _ => rfl) b3 dX7_changeLeg_81 (fun H locs hP hS => ?_)
          obtain ⟨s3, es3⟩ : ∃ z : St, z = u1 s2 (v0 + 1) v5.toNatClampNeg r2 := ⟨_, rfl⟩
          rw [← es3] at hP
          have h := h s3 es3
          refine lv_aload_n hx hb dX7_changeLeg_82 rfl (lv_at hl 2 rfl) ?_
          refine rk_get X hP (C := RX7) (T := TX7) (N := 2) (ci := 7) wix_7 h0 rfl rfl 1 (by decide) (wi_0 _ (List.mem_of_getElem? (i := 6) rfl)) rfl rfl dX7_changeLeg_83 ?_
          refine lv_iload hx hb dX7_changeLeg_86 (lv_at hl 6 rfl) ?_
          refine lv_iload hx hb dX7_changeLeg_88 (lv_at hl 5 rfl) ?_
          refine lv_ior hx hb dX7_changeLeg_90 ?_
          refine lv_aload_n hx hb dX7_changeLeg_91 rfl (lv_at hl 3 rfl) ?_
          refine rk_get X hP (C := RX1) (T := TX1) (N := 4) (ci := 1) wix_1 h2 rfl rfl 2 (by decide) (wi_16 _ (List.mem_of_getElem? (i := 23) rfl)) rfl rfl dX7_changeLeg_92 ?_
          refine lv_iload hx hb dX7_changeLeg_95 (lv_at hl 1 rfl) ?_
          refine lv_imul hx hb dX7_changeLeg_97 ?_
          refine lv_aload_n hx hb dX7_changeLeg_98 rfl (lv_at hl 3 rfl) ?_
          refine rk_get X hP (C := RX1) (T := TX1) (N := 4) (ci := 1) wix_1 h2 rfl rfl 3 (by decide) (wi_17 _ (List.mem_of_getElem? (i := 0) rfl)) rfl rfl dX7_changeLeg_99 ?_
          refine lv_iload hx hb dX7_changeLeg_102 (lv_at hl 0 rfl) ?_
          refine lv_imul hx hb dX7_changeLeg_104 ?_
          refine lv_iadd hx hb dX7_changeLeg_105 ?_
          refine lv_iload_n hx hb dX7_changeLeg_106 rfl (lv_at hl 4 rfl) ?_
          refine rk_calli (va_runSN (As := [.int (((s3.1 v2 2) * x3) + ((s3.1 v2 3) * x5)), .int v3]) (rest := [.int (v5 ||| v4), .ref (B + (v0 + 1))]) X.1 (mX10_mod l D cy B (((s3.1 v2 2) * x3) + ((s3.1 v2 3) * x5)) v3 s3 h) ⟨va_cnB 2 hts (gW_C (wi_2 _ (List.mem_of_getElem? (i := 2) rfl))) rfl rfl rfl hN.2.2.2.1 (hts _ (wi_2 _ (List.mem_of_getElem? (i := 8) rfl))) hd_X10_mod ⟨Nat.le_of_ble_eq_true rfl, Nat.le_of_ble_eq_true rfl⟩, hts _ (wi_2 _ (List.mem_of_getElem? (i := 7) rfl)), trivial⟩ (rk_preS X hS hP [.int (((s3.1 v2 2) * x3) + ((s3.1 v2 3) * x5)), .int v3]) rfl rfl hl.1 rfl (lv_room (Nat.le_of_ble_eq_true rfl)) dX7_changeLeg_107 ⟨Nat.zero_le _, Nat.zero_le _⟩) hS (fun _ h => h) (fun r3 s4 H locs h hP hS => ?_)
          obtain ⟨b4, h⟩ := h
          refine rk_iast X hP hD hS (n := 16) (klX_X7_1 h0) (fun _ _ => rfl) b4 dX7_changeLeg_110 (fun H locs hP hS => ?_)
          obtain ⟨s5, es5⟩ : ∃ z : St, z = u1 s4 (v0 + 1) (v5 ||| v4).toNatClampNeg r3 := ⟨_, rfl⟩
          rw [← es5] at hP
          have h := h s5 es5
          obtain ⟨x6, ex6⟩ : ∃ y : Int32, y = v5 + (1 : Int32) := ⟨_, rfl⟩
          have h := h x6 ex6
          refine lv_iinc (v := x6) (lv' := [(5, .int x6), (7, .int x5), (6, .int x3), (0, .ref (B + v0)), (2, .ref (B + v2)), (3, .int v3), (4, .int v4)]) hx hb dX7_changeLeg_111 hl (k := 6) rfl (by rw [ex6]; rfl) (by decide) rfl (fun ls hl => ?_)
          refine lv_goto (tgt := 8) hx hb dX7_changeLeg_114 (by decide) ?_
          exact ih _ _ _ _ _ _ h0 h2 h _ _ _ hP hS (lv_sub hl [3, 4, 5, 6, 0] rfl)
set_option maxRecDepth 100000 in
set_option maxHeartbeats 4000000 in
theorem mX7_changeLeg (l : Launch) (D : va_G) (cy : Nat → ClassId) (B : Nat) (v0 : Nat) (v1 : Int32) (v2 : Nat) (v3 : Int32) (σ : St) (h0 : kX[v0]? = some 7) (h2 : kX[v2]? = some 1) {post : St → Prop} (h : wX7_changeLeg v0 v1 v2 v3 σ post) : Met l yX7_changeLeg (Cond.code yX7_changeLeg cX7_changeLeg 8 none :: WALL) (rmD 2) (PcW D cy B kX σ [.ref (B + v0), .int v1, .ref (B + v2), .int v3]) (va_Qv post (BW D cy B kX) (AW B 346)) 0 0 (AW B 346) := by
  refine Met.ofK (cc := cX7_changeLeg) (maxL := 8) (ret := none) (by decide +kernel) rfl kX_len ?_
  intro p e s m below meth c X hP
  obtain ⟨⟨hx, hb, hml, hown, hts⟩, hr, hlk, hK, hN, hZ⟩ := id X
  have hD : ∀ σ, va_D (AW B 346) (wW cy B kX σ) := AW_D kX_len
  have hS : va_S (AW B 346) s.heap s.heap [] := va_S.rf
  have hl := lv_entry ([.ref (B + v0), .int v1, .ref (B + v2), .int v3]) (n := 8) (Nat.le_of_ble_eq_true rfl)
  rw [lg_entry_eq]
  generalize (lg_sl ([.ref (B + v0), .int v1, .ref (B + v2), .int v3]) ++ List.replicate (8 - (lg_sl ([.ref (B + v0), .int v1, .ref (B + v2), .int v3])).length) Slot.unset).toArray = ls at hl ⊢
  have hl : lv_has ls 8 [(0, .ref (B + v0)), (1, .int v1), (2, .ref (B + v2)), (3, .int v3)] := hl
  unfold wX7_changeLeg at h
  refine lv_iconst (v := (1 : Int32)) hx hb dX7_changeLeg_0 (by decide) ?_
  refine lv_iload_n hx hb dX7_changeLeg_1 rfl (lv_at hl 1 rfl) ?_
  refine lv_ishl hx hb dX7_changeLeg_2 ?_
  refine lv_topi (fun x1 ex1 => ?_)
  have h := h x1 ex1
  refine lv_istore (lv' := [(4, .int x1), (0, .ref (B + v0)), (1, .int v1), (2, .ref (B + v2)), (3, .int v3)]) hx hb dX7_changeLeg_3 hl (by decide) rfl (fun ls hl => ?_)
  refine lv_iconst (v := (0 : Int32)) hx hb dX7_changeLeg_5 (by decide) ?_
  refine lv_istore (lv' := [(5, .int (0 : Int32)), (4, .int x1), (0, .ref (B + v0)), (1, .int v1), (2, .ref (B + v2)), (3, .int v3)]) hx hb dX7_changeLeg_6 hl (by decide) rfl (fun ls hl => ?_)
  obtain ⟨j, h⟩ := h
  exact tX7_changeLeg_8 X j _ _ _ _ _ _ h0 h2 h _ _ _ hP hS (lv_sub hl [2, 4, 5, 1, 0] rfl)

theorem hd_X7_changeAllLegs : yX7_changeAllLegs.cls = RX7 ∧ yX7_changeAllLegs.cls ≠ "java/lang/invoke/MethodHandle" ∧ yX7_changeAllLegs.cls ≠ "java/lang/invoke/VarHandle" ∧ (parseMethodDescriptor yX7_changeAllLegs.desc).map (fun d => d.parameters.length) = some 2 := by decide +kernel
set_option maxRecDepth 100000 in
set_option maxHeartbeats 4000000 in
theorem tX7_changeAllLegs_2 {p : Program} {l : Launch} {e : Env} {s : State} {m : MethodId} {av : Array Value} {below : List Frame} {meth : Method} {c : Code} {D : va_G} {cy : Nat → ClassId} {B : Nat} (X : kC p s m av meth c cX7_changeAllLegs 4 none WALL RX7 D cy (AW B 346)) {post : St → Prop} : ∀ (n : Nat) (v0 : Nat) (v1 : Nat) (v2 : Int32) (v3 : Int32) (σ : St), kX[v0]? = some 7 → kX[v1]? = some 1 → wX7_changeAllLegs_2 post n v0 v1 v2 v3 σ → ∀ (H : Heap) (locs : List Loc) (ls : Array Slot), va_P D vwCl (wW cy B kX σ) H → va_S (AW B 346) s.heap H locs → lv_has ls 4 [(0, .ref (B + v0)), (1, .ref (B + v1)), (2, .int v2), (3, .int v3)] → W p l e (rmD 3) s m av below meth c H locs 0 0 (MQ below (va_Qv post (BW D cy B kX) (AW B 346)) av s 0 0 (AW B 346)) (F0 m 2 ls []) := by
  obtain ⟨⟨hx, hb, hml, hown, hts⟩, hr, hlk, hK, hN, hZ⟩ := id X
  have hD : ∀ σ, va_D (AW B 346) (wW cy B kX σ) := AW_D kX_len
  intro n
  induction n with
  | zero => intro v0 v1 v2 v3 σ h0 h1 h; exact absurd h id
  | succ n ih =>
    intro v0 v1 v2 v3 σ h0 h1 h H locs ls hP hS hl
    rw [wX7_changeAllLegs_2] at h
    refine lv_iload_n hx hb dX7_changeAllLegs_2 rfl (lv_at hl 3 rfl) ?_
    refine lv_aload_n hx hb dX7_changeAllLegs_3 rfl (lv_at hl 0 rfl) ?_
    refine rk_get X hP (C := RX7) (T := TX7) (N := 2) (ci := 7) wix_7 h0 rfl rfl 0 (by decide) (wi_0 _ (List.mem_of_getElem? (i := 4) rfl)) rfl rfl dX7_changeAllLegs_4 ?_
    refine lv_icmp_ge (tgt := 23) hx hb dX7_changeAllLegs_7 (by decide) (fun c1 => ?_) (fun c1 => ?_)
    · have h := h.1 c1
      exact rk_vret X kX_len h hP hS dX7_changeAllLegs_23
    · have h := h.2 c1
      refine lv_aload_n hx hb dX7_changeAllLegs_10 rfl (lv_at hl 0 rfl) ?_
      refine lv_iload_n hx hb dX7_changeAllLegs_11 rfl (lv_at hl 3 rfl) ?_
      refine lv_aload_n hx hb dX7_changeAllLegs_12 rfl (lv_at hl 1 rfl) ?_
      refine lv_iload_n hx hb dX7_changeAllLegs_13 rfl (lv_at hl 2 rfl) ?_
      refine rk_callv (va_runV (As := [.int v3, .ref (B + v1), .int v2]) (rest := []) X.1 (mX7_changeLeg l D cy B v0 v3 v1 v2 σ h0 h1 h) (cwV 3 hts (gW_V (wi_17 _ (List.mem_of_getElem? (i := 2) rfl)) (wi_17 _ (List.mem_of_getElem? (i := 3) rfl)) (wi_17 _ (List.mem_of_getElem? (i := 4) rfl)) (wi_0 _ (List.mem_of_getElem? (i := 15) rfl)) (wi_16 _ (List.mem_of_getElem? (i := 20) rfl))) rfl rfl rfl hd_X7_changeLeg ⟨Nat.le_of_ble_eq_true rfl, Nat.le_of_ble_eq_true rfl⟩) (rk_preV X hS hP h0 rfl rfl [.int v3, .ref (B + v1), .int v2]) rfl rfl hl.1 rfl (lv_room (Nat.le_of_ble_eq_true rfl)) dX7_changeAllLegs_14 ⟨Nat.zero_le _, Nat.zero_le _⟩) hS (fun _ h => h) (fun s1 H locs h hP hS => ?_)
      obtain ⟨x1, ex1⟩ : ∃ y : Int32, y = v3 + (1 : Int32) := ⟨_, rfl⟩
      have h := h x1 ex1
      refine lv_iinc (v := x1) (lv' := [(3, .int x1), (0, .ref (B + v0)), (1, .ref (B + v1)), (2, .int v2)]) hx hb dX7_changeAllLegs_17 hl (k := 3) rfl (by rw [ex1]; rfl) (by decide) rfl (fun ls hl => ?_)
      refine lv_goto (tgt := 2) hx hb dX7_changeAllLegs_20 (by decide) ?_
      exact ih _ _ _ _ _ h0 h1 h _ _ _ hP hS (lv_sub hl [1, 2, 3, 0] rfl)
set_option maxRecDepth 100000 in
set_option maxHeartbeats 4000000 in
theorem mX7_changeAllLegs (l : Launch) (D : va_G) (cy : Nat → ClassId) (B : Nat) (v0 : Nat) (v1 : Nat) (v2 : Int32) (σ : St) (h0 : kX[v0]? = some 7) (h1 : kX[v1]? = some 1) {post : St → Prop} (h : wX7_changeAllLegs v0 v1 v2 σ post) : Met l yX7_changeAllLegs (Cond.code yX7_changeAllLegs cX7_changeAllLegs 4 none :: WALL) (rmD 3) (PcW D cy B kX σ [.ref (B + v0), .ref (B + v1), .int v2]) (va_Qv post (BW D cy B kX) (AW B 346)) 0 0 (AW B 346) := by
  refine Met.ofK (cc := cX7_changeAllLegs) (maxL := 4) (ret := none) (by decide +kernel) rfl kX_len ?_
  intro p e s m below meth c X hP
  obtain ⟨⟨hx, hb, hml, hown, hts⟩, hr, hlk, hK, hN, hZ⟩ := id X
  have hD : ∀ σ, va_D (AW B 346) (wW cy B kX σ) := AW_D kX_len
  have hS : va_S (AW B 346) s.heap s.heap [] := va_S.rf
  have hl := lv_entry ([.ref (B + v0), .ref (B + v1), .int v2]) (n := 4) (Nat.le_of_ble_eq_true rfl)
  rw [lg_entry_eq]
  generalize (lg_sl ([.ref (B + v0), .ref (B + v1), .int v2]) ++ List.replicate (4 - (lg_sl ([.ref (B + v0), .ref (B + v1), .int v2])).length) Slot.unset).toArray = ls at hl ⊢
  have hl : lv_has ls 4 [(0, .ref (B + v0)), (1, .ref (B + v1)), (2, .int v2)] := hl
  unfold wX7_changeAllLegs at h
  refine lv_iconst (v := (0 : Int32)) hx hb dX7_changeAllLegs_0 (by decide) ?_
  refine lv_istore_n (lv' := [(3, .int (0 : Int32)), (0, .ref (B + v0)), (1, .ref (B + v1)), (2, .int v2)]) hx hb dX7_changeAllLegs_1 rfl hl (by decide) rfl (fun ls hl => ?_)
  obtain ⟨j, h⟩ := h
  exact tX7_changeAllLegs_2 X j _ _ _ _ _ h0 h1 h _ _ _ hP hS (lv_sub hl [1, 2, 3, 0] rfl)

theorem hd_X7_multiply : yX7_multiply.cls = RX7 ∧ yX7_multiply.cls ≠ "java/lang/invoke/MethodHandle" ∧ yX7_multiply.cls ≠ "java/lang/invoke/VarHandle" ∧ (parseMethodDescriptor yX7_multiply.desc).map (fun d => d.parameters.length) = some 2 := by decide +kernel
set_option maxRecDepth 100000 in
set_option maxHeartbeats 4000000 in
theorem tX7_multiply_2 {p : Program} {l : Launch} {e : Env} {s : State} {m : MethodId} {av : Array Value} {below : List Frame} {meth : Method} {c : Code} {D : va_G} {cy : Nat → ClassId} {B : Nat} (X : kC p s m av meth c cX7_multiply 4 none WALL RX7 D cy (AW B 346)) {post : St → Prop} : ∀ (n : Nat) (v0 : Nat) (v1 : Int32) (v2 : Int32) (v3 : Int32) (σ : St), kX[v0]? = some 7 → wX7_multiply_2 post n v0 v1 v2 v3 σ → ∀ (H : Heap) (locs : List Loc) (ls : Array Slot), va_P D vwCl (wW cy B kX σ) H → va_S (AW B 346) s.heap H locs → lv_has ls 4 [(0, .ref (B + v0)), (1, .int v1), (2, .int v2), (3, .int v3)] → W p l e (rmD 2) s m av below meth c H locs 0 0 (MQ below (va_Qv post (BW D cy B kX) (AW B 346)) av s 0 0 (AW B 346)) (F0 m 2 ls []) := by
  obtain ⟨⟨hx, hb, hml, hown, hts⟩, hr, hlk, hK, hN, hZ⟩ := id X
  have hD : ∀ σ, va_D (AW B 346) (wW cy B kX σ) := AW_D kX_len
  intro n
  induction n with
  | zero => intro v0 v1 v2 v3 σ h0 h; exact absurd h id
  | succ n ih =>
    intro v0 v1 v2 v3 σ h0 h H locs ls hP hS hl
    rw [wX7_multiply_2] at h
    refine lv_iload_n hx hb dX7_multiply_2 rfl (lv_at hl 3 rfl) ?_
    refine lv_aload_n hx hb dX7_multiply_3 rfl (lv_at hl 0 rfl) ?_
    refine rk_calli (va_runV (As := []) (rest := [.int v3]) X.1 (mX7_size l D cy B v0 σ h0 h) (cwV 0 hts (gW_V (wi_16 _ (List.mem_of_getElem? (i := 3) rfl)) (wi_3 _ (List.mem_of_getElem? (i := 12) rfl)) (wi_3 _ (List.mem_of_getElem? (i := 13) rfl)) (wi_0 _ (List.mem_of_getElem? (i := 15) rfl)) (wi_3 _ (List.mem_of_getElem? (i := 4) rfl))) rfl rfl rfl hd_X7_size ⟨Nat.le_of_ble_eq_true rfl, Nat.le_of_ble_eq_true rfl⟩) (rk_preV X hS hP h0 rfl rfl []) rfl rfl hl.1 rfl (lv_room (Nat.le_of_ble_eq_true rfl)) dX7_multiply_4 ⟨Nat.zero_le _, Nat.zero_le _⟩) hS (fun _ h => h) (fun r1 s1 H locs h hP hS => ?_)
    refine lv_icmp_ge (tgt := 34) hx hb dX7_multiply_7 (by decide) (fun c1 => ?_) (fun c1 => ?_)
    · have h := h.1 c1
      exact rk_vret X kX_len h hP hS dX7_multiply_34
    · have h := h.2 c1
      refine lv_aload_n hx hb dX7_multiply_10 rfl (lv_at hl 0 rfl) ?_
      refine rk_get X hP (C := RX7) (T := TX7) (N := 2) (ci := 7) wix_7 h0 rfl rfl 1 (by decide) (wi_0 _ (List.mem_of_getElem? (i := 6) rfl)) rfl rfl dX7_multiply_11 ?_
      refine lv_iload_n hx hb dX7_multiply_14 rfl (lv_at hl 3 rfl) ?_
      refine lv_iload_n hx hb dX7_multiply_15 rfl (lv_at hl 1 rfl) ?_
      refine lv_aload_n hx hb dX7_multiply_16 rfl (lv_at hl 0 rfl) ?_
      refine rk_get X hP (C := RX7) (T := TX7) (N := 2) (ci := 7) wix_7 h0 rfl rfl 1 (by decide) (wi_0 _ (List.mem_of_getElem? (i := 6) rfl)) rfl rfl dX7_multiply_17 ?_
      refine lv_iload_n hx hb dX7_multiply_20 rfl (lv_at hl 3 rfl) ?_
      obtain ⟨b1, h⟩ := h
      refine rk_iald X hP (n := 16) (klX_X7_1 h0) (fun _ _ => rfl) b1 dX7_multiply_21 ?_
      refine lv_imul hx hb dX7_multiply_22 ?_
      refine lv_iload_n hx hb dX7_multiply_23 rfl (lv_at hl 2 rfl) ?_
      refine rk_calli (va_runSN (As := [.int (v1 * (s1.1 (v0 + 1) v3.toNatClampNeg)), .int v2]) (rest := [.int v3, .ref (B + (v0 + 1))]) X.1 (mX10_mod l D cy B (v1 * (s1.1 (v0 + 1) v3.toNatClampNeg)) v2 s1 h) ⟨va_cnB 2 hts (gW_C (wi_2 _ (List.mem_of_getElem? (i := 2) rfl))) rfl rfl rfl hN.2.2.2.1 (hts _ (wi_2 _ (List.mem_of_getElem? (i := 8) rfl))) hd_X10_mod ⟨Nat.le_of_ble_eq_true rfl, Nat.le_of_ble_eq_true rfl⟩, hts _ (wi_2 _ (List.mem_of_getElem? (i := 7) rfl)), trivial⟩ (rk_preS X hS hP [.int (v1 * (s1.1 (v0 + 1) v3.toNatClampNeg)), .int v2]) rfl rfl hl.1 rfl (lv_room (Nat.le_of_ble_eq_true rfl)) dX7_multiply_24 ⟨Nat.zero_le _, Nat.zero_le _⟩) hS (fun _ h => h) (fun r2 s2 H locs h hP hS => ?_)
      obtain ⟨b2, h⟩ := h
      refine rk_iast X hP hD hS (n := 16) (klX_X7_1 h0) (fun _ _ => rfl) b2 dX7_multiply_27 (fun H locs hP hS => ?_)
      obtain ⟨s3, es3⟩ : ∃ z : St, z = u1 s2 (v0 + 1) v3.toNatClampNeg r2 := ⟨_, rfl⟩
      rw [← es3] at hP
      have h := h s3 es3
      obtain ⟨x1, ex1⟩ : ∃ y : Int32, y = v3 + (1 : Int32) := ⟨_, rfl⟩
      have h := h x1 ex1
      refine lv_iinc (v := x1) (lv' := [(3, .int x1), (0, .ref (B + v0)), (1, .int v1), (2, .int v2)]) hx hb dX7_multiply_28 hl (k := 3) rfl (by rw [ex1]; rfl) (by decide) rfl (fun ls hl => ?_)
      refine lv_goto (tgt := 2) hx hb dX7_multiply_31 (by decide) ?_
      exact ih _ _ _ _ _ h0 h _ _ _ hP hS (lv_sub hl [1, 2, 3, 0] rfl)
set_option maxRecDepth 100000 in
set_option maxHeartbeats 4000000 in
theorem mX7_multiply (l : Launch) (D : va_G) (cy : Nat → ClassId) (B : Nat) (v0 : Nat) (v1 : Int32) (v2 : Int32) (σ : St) (h0 : kX[v0]? = some 7) {post : St → Prop} (h : wX7_multiply v0 v1 v2 σ post) : Met l yX7_multiply (Cond.code yX7_multiply cX7_multiply 4 none :: WALL) (rmD 2) (PcW D cy B kX σ [.ref (B + v0), .int v1, .int v2]) (va_Qv post (BW D cy B kX) (AW B 346)) 0 0 (AW B 346) := by
  refine Met.ofK (cc := cX7_multiply) (maxL := 4) (ret := none) (by decide +kernel) rfl kX_len ?_
  intro p e s m below meth c X hP
  obtain ⟨⟨hx, hb, hml, hown, hts⟩, hr, hlk, hK, hN, hZ⟩ := id X
  have hD : ∀ σ, va_D (AW B 346) (wW cy B kX σ) := AW_D kX_len
  have hS : va_S (AW B 346) s.heap s.heap [] := va_S.rf
  have hl := lv_entry ([.ref (B + v0), .int v1, .int v2]) (n := 4) (Nat.le_of_ble_eq_true rfl)
  rw [lg_entry_eq]
  generalize (lg_sl ([.ref (B + v0), .int v1, .int v2]) ++ List.replicate (4 - (lg_sl ([.ref (B + v0), .int v1, .int v2])).length) Slot.unset).toArray = ls at hl ⊢
  have hl : lv_has ls 4 [(0, .ref (B + v0)), (1, .int v1), (2, .int v2)] := hl
  unfold wX7_multiply at h
  refine lv_iconst (v := (0 : Int32)) hx hb dX7_multiply_0 (by decide) ?_
  refine lv_istore_n (lv' := [(3, .int (0 : Int32)), (0, .ref (B + v0)), (1, .int v1), (2, .int v2)]) hx hb dX7_multiply_1 rfl hl (by decide) rfl (fun ls hl => ?_)
  obtain ⟨j, h⟩ := h
  exact tX7_multiply_2 X j _ _ _ _ _ h0 h _ _ _ hP hS (lv_sub hl [1, 2, 3, 0] rfl)

theorem hd_X7_exchangeLegs : yX7_exchangeLegs.cls = RX7 ∧ yX7_exchangeLegs.cls ≠ "java/lang/invoke/MethodHandle" ∧ yX7_exchangeLegs.cls ≠ "java/lang/invoke/VarHandle" ∧ (parseMethodDescriptor yX7_exchangeLegs.desc).map (fun d => d.parameters.length) = some 2 := by decide +kernel
set_option maxRecDepth 100000 in
set_option maxHeartbeats 4000000 in
theorem tX7_exchangeLegs_11 {p : Program} {l : Launch} {e : Env} {s : State} {m : MethodId} {av : Array Value} {below : List Frame} {meth : Method} {c : Code} {D : va_G} {cy : Nat → ClassId} {B : Nat} (X : kC p s m av meth c cX7_exchangeLegs 6 none WALL RX7 D cy (AW B 346)) {post : St → Prop} : ∀ (n : Nat) (v0 : Nat) (v1 : Int32) (v3 : Int32) (v4 : Int32) (σ : St), kX[v0]? = some 7 → wX7_exchangeLegs_11 post n v0 v1 v3 v4 σ → ∀ (H : Heap) (locs : List Loc) (ls : Array Slot), va_P D vwCl (wW cy B kX σ) H → va_S (AW B 346) s.heap H locs → lv_has ls 6 [(0, .ref (B + v0)), (1, .int v1), (3, .int v3), (4, .int v4)] → W p l e (rmD 1) s m av below meth c H locs 0 0 (MQ below (va_Qv post (BW D cy B kX) (AW B 346)) av s 0 0 (AW B 346)) (F0 m 11 ls []) := by
  obtain ⟨⟨hx, hb, hml, hown, hts⟩, hr, hlk, hK, hN, hZ⟩ := id X
  have hD : ∀ σ, va_D (AW B 346) (wW cy B kX σ) := AW_D kX_len
  intro n
  induction n with
  | zero => intro v0 v1 v3 v4 σ h0 h; exact absurd h id
  | succ n ih =>
    intro v0 v1 v3 v4 σ h0 h H locs ls hP hS hl
    rw [wX7_exchangeLegs_11] at h
    refine lv_iload hx hb dX7_exchangeLegs_11 (lv_at hl 3 rfl) ?_
    refine lv_aload_n hx hb dX7_exchangeLegs_13 rfl (lv_at hl 0 rfl) ?_
    refine rk_calli (va_runV (As := []) (rest := [.int v4]) X.1 (mX7_size l D cy B v0 σ h0 h) (cwV 0 hts (gW_V (wi_16 _ (List.mem_of_getElem? (i := 3) rfl)) (wi_3 _ (List.mem_of_getElem? (i := 12) rfl)) (wi_3 _ (List.mem_of_getElem? (i := 13) rfl)) (wi_0 _ (List.mem_of_getElem? (i := 15) rfl)) (wi_3 _ (List.mem_of_getElem? (i := 4) rfl))) rfl rfl rfl hd_X7_size ⟨Nat.le_of_ble_eq_true rfl, Nat.le_of_ble_eq_true rfl⟩) (rk_preV X hS hP h0 rfl rfl []) rfl rfl hl.1 rfl (lv_room (Nat.le_of_ble_eq_true rfl)) dX7_exchangeLegs_14 ⟨Nat.zero_le _, Nat.zero_le _⟩) hS (fun _ h => h) (fun r1 s1 H locs h hP hS => ?_)
    refine lv_icmp_ge (tgt := 81) hx hb dX7_exchangeLegs_17 (by decide) (fun c1 => ?_) (fun c1 => ?_)
    · have h := h.1 c1
      exact rk_vret X kX_len h hP hS dX7_exchangeLegs_81
    · have h := h.2 c1
      refine lv_iload hx hb dX7_exchangeLegs_20 (lv_at hl 3 rfl) ?_
      refine lv_iload_n hx hb dX7_exchangeLegs_22 rfl (lv_at hl 2 rfl) ?_
      refine lv_iand hx hb dX7_exchangeLegs_23 ?_
      refine lv_iconst (v := (1 : Int32)) hx hb dX7_exchangeLegs_24 (by decide) ?_
      refine lv_iload_n hx hb dX7_exchangeLegs_25 rfl (lv_at hl 1 rfl) ?_
      refine lv_ishl hx hb dX7_exchangeLegs_26 ?_
      refine lv_icmp_ne (tgt := 75) hx hb dX7_exchangeLegs_27 (by decide) (fun c2 => ?_) (fun c2 => ?_)
      · have h := h.1 c2
        obtain ⟨x1, ex1⟩ : ∃ y : Int32, y = v4 + (1 : Int32) := ⟨_, rfl⟩
        have h := h x1 ex1
        refine lv_iinc (v := x1) (lv' := [(4, .int x1), (0, .ref (B + v0)), (1, .int v1), (3, .int v3)]) hx hb dX7_exchangeLegs_75 hl (k := 3) rfl (by rw [ex1]; rfl) (by decide) rfl (fun ls hl => ?_)
        refine lv_goto (tgt := 11) hx hb dX7_exchangeLegs_78 (by decide) ?_
        exact ih _ _ _ _ _ h0 h _ _ _ hP hS (lv_sub hl [1, 2, 3, 0] rfl)
      · have h := h.2 c2
        refine lv_iload hx hb dX7_exchangeLegs_30 (lv_at hl 3 rfl) ?_
        refine lv_iload_n hx hb dX7_exchangeLegs_32 rfl (lv_at hl 2 rfl) ?_
        refine lv_ixor hx hb dX7_exchangeLegs_33 ?_
        refine lv_bipush (v := (16 : Int32)) hx hb dX7_exchangeLegs_34 (by decide) ?_
        refine lv_icmp_ge (tgt := 75) hx hb dX7_exchangeLegs_36 (by decide) (fun c3 => ?_) (fun c3 => ?_)
        · have h := h.1 c3
          obtain ⟨x2, ex2⟩ : ∃ y : Int32, y = v4 + (1 : Int32) := ⟨_, rfl⟩
          have h := h x2 ex2
          refine lv_iinc (v := x2) (lv' := [(4, .int x2), (0, .ref (B + v0)), (1, .int v1), (3, .int v3)]) hx hb dX7_exchangeLegs_75 hl (k := 3) rfl (by rw [ex2]; rfl) (by decide) rfl (fun ls hl => ?_)
          refine lv_goto (tgt := 11) hx hb dX7_exchangeLegs_78 (by decide) ?_
          exact ih _ _ _ _ _ h0 h _ _ _ hP hS (lv_sub hl [1, 2, 3, 0] rfl)
        · have h := h.2 c3
          refine lv_aload_n hx hb dX7_exchangeLegs_39 rfl (lv_at hl 0 rfl) ?_
          refine rk_get X hP (C := RX7) (T := TX7) (N := 2) (ci := 7) wix_7 h0 rfl rfl 1 (by decide) (wi_0 _ (List.mem_of_getElem? (i := 6) rfl)) rfl rfl dX7_exchangeLegs_40 ?_
          refine lv_iload hx hb dX7_exchangeLegs_43 (lv_at hl 3 rfl) ?_
          obtain ⟨b1, h⟩ := h
          refine rk_iald X hP (n := 16) (klX_X7_1 h0) (fun _ _ => rfl) b1 dX7_exchangeLegs_45 ?_
          refine lv_topi (fun x3 ex3 => ?_)
          have h := h x3 ex3
          refine lv_istore (lv' := [(5, .int x3), (0, .ref (B + v0)), (1, .int v1), (3, .int v3), (4, .int v4)]) hx hb dX7_exchangeLegs_46 hl (by decide) rfl (fun ls hl => ?_)
          refine lv_aload_n hx hb dX7_exchangeLegs_48 rfl (lv_at hl 1 rfl) ?_
          refine rk_get X hP (C := RX7) (T := TX7) (N := 2) (ci := 7) wix_7 h0 rfl rfl 1 (by decide) (wi_0 _ (List.mem_of_getElem? (i := 6) rfl)) rfl rfl dX7_exchangeLegs_49 ?_
          refine lv_iload hx hb dX7_exchangeLegs_52 (lv_at hl 4 rfl) ?_
          refine lv_aload_n hx hb dX7_exchangeLegs_54 rfl (lv_at hl 1 rfl) ?_
          refine rk_get X hP (C := RX7) (T := TX7) (N := 2) (ci := 7) wix_7 h0 rfl rfl 1 (by decide) (wi_0 _ (List.mem_of_getElem? (i := 6) rfl)) rfl rfl dX7_exchangeLegs_55 ?_
          refine lv_iload hx hb dX7_exchangeLegs_58 (lv_at hl 4 rfl) ?_
          refine lv_iload_n hx hb dX7_exchangeLegs_60 rfl (lv_at hl 3 rfl) ?_
          refine lv_ixor hx hb dX7_exchangeLegs_61 ?_
          refine lv_topi (fun x4 ex4 => ?_)
          have h := h x4 ex4
          obtain ⟨b2, h⟩ := h
          refine rk_iald X hP (n := 16) (klX_X7_1 h0) (fun _ _ => rfl) b2 dX7_exchangeLegs_62 ?_
          obtain ⟨b3, h⟩ := h
          refine rk_iast X hP hD hS (n := 16) (klX_X7_1 h0) (fun _ _ => rfl) b3 dX7_exchangeLegs_63 (fun H locs hP hS => ?_)
          obtain ⟨s2, es2⟩ : ∃ z : St, z = u1 s1 (v0 + 1) v4.toNatClampNeg (s1.1 (v0 + 1) x4.toNatClampNeg) := ⟨_, rfl⟩
          rw [← es2] at hP
          have h := h s2 es2
          refine lv_aload_n hx hb dX7_exchangeLegs_64 rfl (lv_at hl 1 rfl) ?_
          refine rk_get X hP (C := RX7) (T := TX7) (N := 2) (ci := 7) wix_7 h0 rfl rfl 1 (by decide) (wi_0 _ (List.mem_of_getElem? (i := 6) rfl)) rfl rfl dX7_exchangeLegs_65 ?_
          refine lv_iload hx hb dX7_exchangeLegs_68 (lv_at hl 4 rfl) ?_
          refine lv_iload_n hx hb dX7_exchangeLegs_70 rfl (lv_at hl 3 rfl) ?_
          refine lv_ixor hx hb dX7_exchangeLegs_71 ?_
          refine lv_iload hx hb dX7_exchangeLegs_72 (lv_at hl 0 rfl) ?_
          obtain ⟨b4, h⟩ := h
          refine rk_iast X hP hD hS (n := 16) (klX_X7_1 h0) (fun _ _ => rfl) b4 dX7_exchangeLegs_74 (fun H locs hP hS => ?_)
          obtain ⟨s3, es3⟩ : ∃ z : St, z = u1 s2 (v0 + 1) (v4 ^^^ v3).toNatClampNeg x3 := ⟨_, rfl⟩
          rw [← es3] at hP
          have h := h s3 es3
          obtain ⟨x5, ex5⟩ : ∃ y : Int32, y = v4 + (1 : Int32) := ⟨_, rfl⟩
          have h := h x5 ex5
          refine lv_iinc (v := x5) (lv' := [(4, .int x5), (5, .int x3), (0, .ref (B + v0)), (1, .int v1), (3, .int v3)]) hx hb dX7_exchangeLegs_75 hl (k := 4) rfl (by rw [ex5]; rfl) (by decide) rfl (fun ls hl => ?_)
          refine lv_goto (tgt := 11) hx hb dX7_exchangeLegs_78 (by decide) ?_
          exact ih _ _ _ _ _ h0 h _ _ _ hP hS (lv_sub hl [2, 3, 4, 0] rfl)
set_option maxRecDepth 100000 in
set_option maxHeartbeats 4000000 in
theorem mX7_exchangeLegs (l : Launch) (D : va_G) (cy : Nat → ClassId) (B : Nat) (v0 : Nat) (v1 : Int32) (v2 : Int32) (σ : St) (h0 : kX[v0]? = some 7) {post : St → Prop} (h : wX7_exchangeLegs v0 v1 v2 σ post) : Met l yX7_exchangeLegs (Cond.code yX7_exchangeLegs cX7_exchangeLegs 6 none :: WALL) (rmD 1) (PcW D cy B kX σ [.ref (B + v0), .int v1, .int v2]) (va_Qv post (BW D cy B kX) (AW B 346)) 0 0 (AW B 346) := by
  refine Met.ofK (cc := cX7_exchangeLegs) (maxL := 6) (ret := none) (by decide +kernel) rfl kX_len ?_
  intro p e s m below meth c X hP
  obtain ⟨⟨hx, hb, hml, hown, hts⟩, hr, hlk, hK, hN, hZ⟩ := id X
  have hD : ∀ σ, va_D (AW B 346) (wW cy B kX σ) := AW_D kX_len
  have hS : va_S (AW B 346) s.heap s.heap [] := va_S.rf
  have hl := lv_entry ([.ref (B + v0), .int v1, .int v2]) (n := 6) (Nat.le_of_ble_eq_true rfl)
  rw [lg_entry_eq]
  generalize (lg_sl ([.ref (B + v0), .int v1, .int v2]) ++ List.replicate (6 - (lg_sl ([.ref (B + v0), .int v1, .int v2])).length) Slot.unset).toArray = ls at hl ⊢
  have hl : lv_has ls 6 [(0, .ref (B + v0)), (1, .int v1), (2, .int v2)] := hl
  unfold wX7_exchangeLegs at h
  refine lv_iconst (v := (1 : Int32)) hx hb dX7_exchangeLegs_0 (by decide) ?_
  refine lv_iload_n hx hb dX7_exchangeLegs_1 rfl (lv_at hl 1 rfl) ?_
  refine lv_ishl hx hb dX7_exchangeLegs_2 ?_
  refine lv_iconst (v := (1 : Int32)) hx hb dX7_exchangeLegs_3 (by decide) ?_
  refine lv_iload_n hx hb dX7_exchangeLegs_4 rfl (lv_at hl 2 rfl) ?_
  refine lv_ishl hx hb dX7_exchangeLegs_5 ?_
  refine lv_ior hx hb dX7_exchangeLegs_6 ?_
  refine lv_topi (fun x1 ex1 => ?_)
  have h := h x1 ex1
  refine lv_istore_n (lv' := [(3, .int x1), (0, .ref (B + v0)), (1, .int v1), (2, .int v2)]) hx hb dX7_exchangeLegs_7 rfl hl (by decide) rfl (fun ls hl => ?_)
  refine lv_iconst (v := (0 : Int32)) hx hb dX7_exchangeLegs_8 (by decide) ?_
  refine lv_istore (lv' := [(4, .int (0 : Int32)), (3, .int x1), (0, .ref (B + v0)), (1, .int v1), (2, .int v2)]) hx hb dX7_exchangeLegs_9 hl (by decide) rfl (fun ls hl => ?_)
  obtain ⟨j, h⟩ := h
  exact tX7_exchangeLegs_11 X j _ _ _ _ _ h0 h _ _ _ hP hS (lv_sub hl [2, 3, 1, 0] rfl)

theorem hd_X7_foldLeg : yX7_foldLeg.cls = RX7 ∧ yX7_foldLeg.cls ≠ "java/lang/invoke/MethodHandle" ∧ yX7_foldLeg.cls ≠ "java/lang/invoke/VarHandle" ∧ (parseMethodDescriptor yX7_foldLeg.desc).map (fun d => d.parameters.length) = some 2 := by decide +kernel
set_option maxRecDepth 100000 in
set_option maxHeartbeats 4000000 in
theorem tX7_foldLeg_7 {p : Program} {l : Launch} {e : Env} {s : State} {m : MethodId} {av : Array Value} {below : List Frame} {meth : Method} {c : Code} {D : va_G} {cy : Nat → ClassId} {B : Nat} (X : kC p s m av meth c cX7_foldLeg 5 none WALL RX7 D cy (AW B 346)) {post : St → Prop} : ∀ (n : Nat) (v0 : Nat) (v2 : Int32) (v3 : Int32) (v4 : Int32) (σ : St), kX[v0]? = some 7 → wX7_foldLeg_7 post n v0 v2 v3 v4 σ → ∀ (H : Heap) (locs : List Loc) (ls : Array Slot), va_P D vwCl (wW cy B kX σ) H → va_S (AW B 346) s.heap H locs → lv_has ls 5 [(0, .ref (B + v0)), (2, .int v2), (3, .int v3), (4, .int v4)] → W p l e (rmD 2) s m av below meth c H locs 0 0 (MQ below (va_Qv post (BW D cy B kX) (AW B 346)) av s 0 0 (AW B 346)) (F0 m 7 ls []) := by
  obtain ⟨⟨hx, hb, hml, hown, hts⟩, hr, hlk, hK, hN, hZ⟩ := id X
  have hD : ∀ σ, va_D (AW B 346) (wW cy B kX σ) := AW_D kX_len
  intro n
  induction n with
  | zero => intro v0 v2 v3 v4 σ h0 h; exact absurd h id
  | succ n ih =>
    intro v0 v2 v3 v4 σ h0 h H locs ls hP hS hl
    rw [wX7_foldLeg_7] at h
    refine lv_iload hx hb dX7_foldLeg_7 (lv_at hl 3 rfl) ?_
    refine lv_aload_n hx hb dX7_foldLeg_9 rfl (lv_at hl 0 rfl) ?_
    refine rk_calli (va_runV (As := []) (rest := [.int v4]) X.1 (mX7_size l D cy B v0 σ h0 h) (cwV 0 hts (gW_V (wi_16 _ (List.mem_of_getElem? (i := 3) rfl)) (wi_3 _ (List.mem_of_getElem? (i := 12) rfl)) (wi_3 _ (List.mem_of_getElem? (i := 13) rfl)) (wi_0 _ (List.mem_of_getElem? (i := 15) rfl)) (wi_3 _ (List.mem_of_getElem? (i := 4) rfl))) rfl rfl rfl hd_X7_size ⟨Nat.le_of_ble_eq_true rfl, Nat.le_of_ble_eq_true rfl⟩) (rk_preV X hS hP h0 rfl rfl []) rfl rfl hl.1 rfl (lv_room (Nat.le_of_ble_eq_true rfl)) dX7_foldLeg_10 ⟨Nat.zero_le _, Nat.zero_le _⟩) hS (fun _ h => h) (fun r1 s1 H locs h hP hS => ?_)
    refine lv_icmp_ge (tgt := 66) hx hb dX7_foldLeg_13 (by decide) (fun c1 => ?_) (fun c1 => ?_)
    · have h := h.1 c1
      exact rk_vret X kX_len h hP hS dX7_foldLeg_66
    · have h := h.2 c1
      refine lv_iload hx hb dX7_foldLeg_16 (lv_at hl 3 rfl) ?_
      refine lv_iload_n hx hb dX7_foldLeg_18 rfl (lv_at hl 2 rfl) ?_
      refine lv_iand hx hb dX7_foldLeg_19 ?_
      refine lv_if_ne (tgt := 60) hx hb dX7_foldLeg_20 (by decide) (fun c2 => ?_) (fun c2 => ?_)
      · have h := h.1 c2
        obtain ⟨x1, ex1⟩ : ∃ y : Int32, y = v4 + (1 : Int32) := ⟨_, rfl⟩
        have h := h x1 ex1
        refine lv_iinc (v := x1) (lv' := [(4, .int x1), (0, .ref (B + v0)), (2, .int v2), (3, .int v3)]) hx hb dX7_foldLeg_60 hl (k := 3) rfl (by rw [ex1]; rfl) (by decide) rfl (fun ls hl => ?_)
        refine lv_goto (tgt := 7) hx hb dX7_foldLeg_63 (by decide) ?_
        exact ih _ _ _ _ _ h0 h _ _ _ hP hS (lv_sub hl [1, 2, 3, 0] rfl)
      · have h := h.2 c2
        refine lv_iload hx hb dX7_foldLeg_23 (lv_at hl 3 rfl) ?_
        refine lv_iload_n hx hb dX7_foldLeg_25 rfl (lv_at hl 2 rfl) ?_
        refine lv_ior hx hb dX7_foldLeg_26 ?_
        refine lv_bipush (v := (16 : Int32)) hx hb dX7_foldLeg_27 (by decide) ?_
        refine lv_icmp_ge (tgt := 60) hx hb dX7_foldLeg_29 (by decide) (fun c3 => ?_) (fun c3 => ?_)
        · have h := h.1 c3
          obtain ⟨x2, ex2⟩ : ∃ y : Int32, y = v4 + (1 : Int32) := ⟨_, rfl⟩
          have h := h x2 ex2
          refine lv_iinc (v := x2) (lv' := [(4, .int x2), (0, .ref (B + v0)), (2, .int v2), (3, .int v3)]) hx hb dX7_foldLeg_60 hl (k := 3) rfl (by rw [ex2]; rfl) (by decide) rfl (fun ls hl => ?_)
          refine lv_goto (tgt := 7) hx hb dX7_foldLeg_63 (by decide) ?_
          exact ih _ _ _ _ _ h0 h _ _ _ hP hS (lv_sub hl [1, 2, 3, 0] rfl)
        · have h := h.2 c3
          refine lv_aload_n hx hb dX7_foldLeg_32 rfl (lv_at hl 0 rfl) ?_
          refine rk_get X hP (C := RX7) (T := TX7) (N := 2) (ci := 7) wix_7 h0 rfl rfl 1 (by decide) (wi_0 _ (List.mem_of_getElem? (i := 6) rfl)) rfl rfl dX7_foldLeg_33 ?_
          refine lv_iload hx hb dX7_foldLeg_36 (lv_at hl 3 rfl) ?_
          refine lv_aload_n hx hb dX7_foldLeg_38 rfl (lv_at hl 0 rfl) ?_
          refine rk_get X hP (C := RX7) (T := TX7) (N := 2) (ci := 7) wix_7 h0 rfl rfl 1 (by decide) (wi_0 _ (List.mem_of_getElem? (i := 6) rfl)) rfl rfl dX7_foldLeg_39 ?_
          refine lv_iload hx hb dX7_foldLeg_42 (lv_at hl 3 rfl) ?_
          obtain ⟨b1, h⟩ := h
          refine rk_iald X hP (n := 16) (klX_X7_1 h0) (fun _ _ => rfl) b1 dX7_foldLeg_44 ?_
          refine lv_aload_n hx hb dX7_foldLeg_45 rfl (lv_at hl 0 rfl) ?_
          refine rk_get X hP (C := RX7) (T := TX7) (N := 2) (ci := 7) wix_7 h0 rfl rfl 1 (by decide) (wi_0 _ (List.mem_of_getElem? (i := 6) rfl)) rfl rfl dX7_foldLeg_46 ?_
          refine lv_iload hx hb dX7_foldLeg_49 (lv_at hl 3 rfl) ?_
          refine lv_iload_n hx hb dX7_foldLeg_51 rfl (lv_at hl 2 rfl) ?_
          refine lv_ior hx hb dX7_foldLeg_52 ?_
          refine lv_topi (fun x3 ex3 => ?_)
          have h := h x3 ex3
          obtain ⟨b2, h⟩ := h
          refine rk_iald X hP (n := 16) (klX_X7_1 h0) (fun _ _ => rfl) b2 dX7_foldLeg_53 ?_
          refine lv_iadd hx hb dX7_foldLeg_54 ?_
          refine lv_iload_n hx hb dX7_foldLeg_55 rfl (lv_at hl 1 rfl) ?_
          refine rk_calli (va_runSN (As := [.int ((s1.1 (v0 + 1) v4.toNatClampNeg) + (s1.1 (v0 + 1) x3.toNatClampNeg)), .int v2]) (rest := [.int v4, .ref (B + (v0 + 1))]) X.1 (mX10_mod l D cy B ((s1.1 (v0 + 1) v4.toNatClampNeg) + (s1.1 (v0 + 1) x3.toNatClampNeg)) v2 s1 h) ⟨va_cnB 2 hts (gW_C (wi_2 _ (List.mem_of_getElem? (i := 2) rfl))) rfl rfl rfl hN.2.2.2.1 (hts _ (wi_2 _ (List.mem_of_getElem? (i := 8) rfl))) hd_X10_mod ⟨Nat.le_of_ble_eq_true rfl, Nat.le_of_ble_eq_true rfl⟩, hts _ (wi_2 _ (List.mem_of_getElem? (i := 7) rfl)), trivial⟩ (rk_preS X hS hP [.int ((s1.1 (v0 + 1) v4.toNatClampNeg) + (s1.1 (v0 + 1) x3.toNatClampNeg)), .int v2]) rfl rfl hl.1 rfl (lv_room (Nat.le_of_ble_eq_true rfl)) dX7_foldLeg_56 ⟨Nat.zero_le _, Nat.zero_le _⟩) hS (fun _ h => h) (fun r2 s2 H locs h hP hS => ?_)
          obtain ⟨b3, h⟩ := h
          refine rk_iast X hP hD hS (n := 16) (klX_X7_1 h0) (fun _ _ => rfl) b3 dX7_foldLeg_59 (fun H locs hP hS => ?_)
          obtain ⟨s3, es3⟩ : ∃ z : St, z = u1 s2 (v0 + 1) v4.toNatClampNeg r2 := ⟨_, rfl⟩
          rw [← es3] at hP
          have h := h s3 es3
          obtain ⟨x4, ex4⟩ : ∃ y : Int32, y = v4 + (1 : Int32) := ⟨_, rfl⟩
          have h := h x4 ex4
          refine lv_iinc (v := x4) (lv' := [(4, .int x4), (0, .ref (B + v0)), (2, .int v2), (3, .int v3)]) hx hb dX7_foldLeg_60 hl (k := 3) rfl (by rw [ex4]; rfl) (by decide) rfl (fun ls hl => ?_)
          refine lv_goto (tgt := 7) hx hb dX7_foldLeg_63 (by decide) ?_
          exact ih _ _ _ _ _ h0 h _ _ _ hP hS (lv_sub hl [1, 2, 3, 0] rfl)
set_option maxRecDepth 100000 in
set_option maxHeartbeats 4000000 in
theorem mX7_foldLeg (l : Launch) (D : va_G) (cy : Nat → ClassId) (B : Nat) (v0 : Nat) (v1 : Int32) (v2 : Int32) (σ : St) (h0 : kX[v0]? = some 7) {post : St → Prop} (h : wX7_foldLeg v0 v1 v2 σ post) : Met l yX7_foldLeg (Cond.code yX7_foldLeg cX7_foldLeg 5 none :: WALL) (rmD 2) (PcW D cy B kX σ [.ref (B + v0), .int v1, .int v2]) (va_Qv post (BW D cy B kX) (AW B 346)) 0 0 (AW B 346) := by
  refine Met.ofK (cc := cX7_foldLeg) (maxL := 5) (ret := none) (by decide +kernel) rfl kX_len ?_
  intro p e s m below meth c X hP
  obtain ⟨⟨hx, hb, hml, hown, hts⟩, hr, hlk, hK, hN, hZ⟩ := id X
  have hD : ∀ σ, va_D (AW B 346) (wW cy B kX σ) := AW_D kX_len
  have hS : va_S (AW B 346) s.heap s.heap [] := va_S.rf
  have hl := lv_entry ([.ref (B + v0), .int v1, .int v2]) (n := 5) (Nat.le_of_ble_eq_true rfl)
  rw [lg_entry_eq]
  generalize (lg_sl ([.ref (B + v0), .int v1, .int v2]) ++ List.replicate (5 - (lg_sl ([.ref (B + v0), .int v1, .int v2])).length) Slot.unset).toArray = ls at hl ⊢
  have hl : lv_has ls 5 [(0, .ref (B + v0)), (1, .int v1), (2, .int v2)] := hl
  unfold wX7_foldLeg at h
  refine lv_iconst (v := (1 : Int32)) hx hb dX7_foldLeg_0 (by decide) ?_
  refine lv_iload_n hx hb dX7_foldLeg_1 rfl (lv_at hl 1 rfl) ?_
  refine lv_ishl hx hb dX7_foldLeg_2 ?_
  refine lv_topi (fun x1 ex1 => ?_)
  have h := h x1 ex1
  refine lv_istore_n (lv' := [(3, .int x1), (0, .ref (B + v0)), (1, .int v1), (2, .int v2)]) hx hb dX7_foldLeg_3 rfl hl (by decide) rfl (fun ls hl => ?_)
  refine lv_iconst (v := (0 : Int32)) hx hb dX7_foldLeg_4 (by decide) ?_
  refine lv_istore (lv' := [(4, .int (0 : Int32)), (3, .int x1), (0, .ref (B + v0)), (1, .int v1), (2, .int v2)]) hx hb dX7_foldLeg_5 hl (by decide) rfl (fun ls hl => ?_)
  obtain ⟨j, h⟩ := h
  exact tX7_foldLeg_7 X j _ _ _ _ _ h0 h _ _ _ hP hS (lv_sub hl [2, 4, 1, 0] rfl)

theorem hd_X1_determinant : yX1_determinant.cls = RX1 ∧ yX1_determinant.cls ≠ "java/lang/invoke/MethodHandle" ∧ yX1_determinant.cls ≠ "java/lang/invoke/VarHandle" ∧ (parseMethodDescriptor yX1_determinant.desc).map (fun d => d.parameters.length) = some 1 := by decide +kernel
set_option maxRecDepth 100000 in
set_option maxHeartbeats 4000000 in
theorem mX1_determinant (l : Launch) (D : va_G) (cy : Nat → ClassId) (B : Nat) (v0 : Nat) (v1 : Int32) (σ : St) (h0 : kX[v0]? = some 1) {post : Int32 → St → Prop} (h : wX1_determinant v0 v1 σ post) : Met l yX1_determinant (Cond.code yX1_determinant cX1_determinant 2 (some .int) :: WALL) (rmD 2) (PcW D cy B kX σ [.ref (B + v0), .int v1]) (va_Qi post (BW D cy B kX) (AW B 346)) 0 0 (AW B 346) := by
  refine Met.ofK (cc := cX1_determinant) (maxL := 2) (ret := (some .int)) (by decide +kernel) rfl kX_len ?_
  intro p e s m below meth c X hP
  obtain ⟨⟨hx, hb, hml, hown, hts⟩, hr, hlk, hK, hN, hZ⟩ := id X
  have hD : ∀ σ, va_D (AW B 346) (wW cy B kX σ) := AW_D kX_len
  have hS : va_S (AW B 346) s.heap s.heap [] := va_S.rf
  have hl := lv_entry ([.ref (B + v0), .int v1]) (n := 2) (Nat.le_of_ble_eq_true rfl)
  rw [lg_entry_eq]
  generalize (lg_sl ([.ref (B + v0), .int v1]) ++ List.replicate (2 - (lg_sl ([.ref (B + v0), .int v1])).length) Slot.unset).toArray = ls at hl ⊢
  have hl : lv_has ls 2 [(0, .ref (B + v0)), (1, .int v1)] := hl
  unfold wX1_determinant at h
  refine lv_aload_n hx hb dX1_determinant_0 rfl (lv_at hl 0 rfl) ?_
  refine rk_get X hP (C := RX1) (T := TX1) (N := 4) (ci := 1) wix_1 h0 rfl rfl 0 (by decide) (wi_1 _ (List.mem_of_getElem? (i := 21) rfl)) rfl rfl dX1_determinant_1 ?_
  refine lv_aload_n hx hb dX1_determinant_4 rfl (lv_at hl 0 rfl) ?_
  refine rk_get X hP (C := RX1) (T := TX1) (N := 4) (ci := 1) wix_1 h0 rfl rfl 3 (by decide) (wi_2 _ (List.mem_of_getElem? (i := 0) rfl)) rfl rfl dX1_determinant_5 ?_
  refine lv_imul hx hb dX1_determinant_8 ?_
  refine lv_aload_n hx hb dX1_determinant_9 rfl (lv_at hl 0 rfl) ?_
  refine rk_get X hP (C := RX1) (T := TX1) (N := 4) (ci := 1) wix_1 h0 rfl rfl 1 (by decide) (wi_1 _ (List.mem_of_getElem? (i := 22) rfl)) rfl rfl dX1_determinant_10 ?_
  refine lv_aload_n hx hb dX1_determinant_13 rfl (lv_at hl 0 rfl) ?_
  refine rk_get X hP (C := RX1) (T := TX1) (N := 4) (ci := 1) wix_1 h0 rfl rfl 2 (by decide) (wi_1 _ (List.mem_of_getElem? (i := 23) rfl)) rfl rfl dX1_determinant_14 ?_
  refine lv_imul hx hb dX1_determinant_17 ?_
  refine lv_isub hx hb dX1_determinant_18 ?_
  refine lv_iload_n hx hb dX1_determinant_19 rfl (lv_at hl 1 rfl) ?_
  refine rk_calli (va_runSN (As := [.int (((σ.1 v0 0) * (σ.1 v0 3)) - ((σ.1 v0 1) * (σ.1 v0 2))), .int v1]) (rest := []) X.1 (mX10_mod l D cy B (((σ.1 v0 0) * (σ.1 v0 3)) - ((σ.1 v0 1) * (σ.1 v0 2))) v1 σ h) ⟨va_cnB 2 hts (gW_C (wi_2 _ (List.mem_of_getElem? (i := 2) rfl))) rfl rfl rfl hN.1 (hts _ (wi_2 _ (List.mem_of_getElem? (i := 8) rfl))) hd_X10_mod ⟨Nat.le_of_ble_eq_true rfl, Nat.le_of_ble_eq_true rfl⟩, hts _ (wi_2 _ (List.mem_of_getElem? (i := 7) rfl)), trivial⟩ (rk_preS X hS hP [.int (((σ.1 v0 0) * (σ.1 v0 3)) - ((σ.1 v0 1) * (σ.1 v0 2))), .int v1]) rfl rfl hl.1 rfl (lv_room (Nat.le_of_ble_eq_true rfl)) dX1_determinant_20 ⟨Nat.zero_le _, Nat.zero_le _⟩) hS (fun _ h => h) (fun r1 s1 H locs h hP hS => ?_)
  exact rk_iret X rfl kX_len h hP hS dX1_determinant_23

theorem hd_X1_inverse : yX1_inverse.cls ≠ "java/lang/invoke/MethodHandle" ∧ yX1_inverse.cls ≠ "java/lang/invoke/VarHandle" ∧ (parseMethodDescriptor yX1_inverse.desc).map (fun d => d.parameters.length) = some 2 := by decide +kernel
set_option maxRecDepth 100000 in
set_option maxHeartbeats 4000000 in
theorem tX1_inverse_2 {p : Program} {l : Launch} {e : Env} {s : State} {m : MethodId} {av : Array Value} {below : List Frame} {meth : Method} {c : Code} {D : va_G} {cy : Nat → ClassId} {B : Nat} (X : kC p s m av meth c cX1_inverse 3 (some .int) WALL RX1 D cy (AW B 346)) {post : Int32 → St → Prop} : ∀ (n : Nat) (v0 : Int32) (v1 : Int32) (v2 : Int32) (σ : St), wX1_inverse_2 post n v0 v1 v2 σ → ∀ (H : Heap) (locs : List Loc) (ls : Array Slot), va_P D vwCl (wW cy B kX σ) H → va_S (AW B 346) s.heap H locs → lv_has ls 3 [(0, .int v0), (1, .int v1), (2, .int v2)] → W p l e (rmD 2) s m av below meth c H locs 0 0 (MQ below (va_Qi post (BW D cy B kX) (AW B 346)) av s 0 0 (AW B 346)) (F0 m 2 ls []) := by
  obtain ⟨⟨hx, hb, hml, hown, hts⟩, hr, hlk, hK, hN, hZ⟩ := id X
  have hD : ∀ σ, va_D (AW B 346) (wW cy B kX σ) := AW_D kX_len
  intro n
  induction n with
  | zero => intro v0 v1 v2 σ h; exact absurd h id
  | succ n ih =>
    intro v0 v1 v2 σ h H locs ls hP hS hl
    rw [wX1_inverse_2] at h
    refine lv_iload_n hx hb dX1_inverse_2 rfl (lv_at hl 2 rfl) ?_
    refine lv_iload_n hx hb dX1_inverse_3 rfl (lv_at hl 1 rfl) ?_
    refine lv_icmp_ge (tgt := 26) hx hb dX1_inverse_4 (by decide) (fun c1 => ?_) (fun c1 => ?_)
    · have h := h.1 c1
      refine lv_iconst (v := (0 : Int32)) hx hb dX1_inverse_26 (by decide) ?_
      exact rk_iret X rfl kX_len h hP hS dX1_inverse_27
    · have h := h.2 c1
      refine lv_iload_n hx hb dX1_inverse_7 rfl (lv_at hl 0 rfl) ?_
      refine lv_iload_n hx hb dX1_inverse_8 rfl (lv_at hl 2 rfl) ?_
      refine lv_imul hx hb dX1_inverse_9 ?_
      refine lv_iload_n hx hb dX1_inverse_10 rfl (lv_at hl 1 rfl) ?_
      refine rk_calli (va_runSN (As := [.int (v0 * v2), .int v1]) (rest := []) X.1 (mX10_mod l D cy B (v0 * v2) v1 σ h) ⟨va_cnB 2 hts (gW_C (wi_2 _ (List.mem_of_getElem? (i := 2) rfl))) rfl rfl rfl hN.1 (hts _ (wi_2 _ (List.mem_of_getElem? (i := 8) rfl))) hd_X10_mod ⟨Nat.le_of_ble_eq_true rfl, Nat.le_of_ble_eq_true rfl⟩, hts _ (wi_2 _ (List.mem_of_getElem? (i := 7) rfl)), trivial⟩ (rk_preS X hS hP [.int (v0 * v2), .int v1]) rfl rfl hl.1 rfl (lv_room (Nat.le_of_ble_eq_true rfl)) dX1_inverse_11 ⟨Nat.zero_le _, Nat.zero_le _⟩) hS (fun _ h => h) (fun r1 s1 H locs h hP hS => ?_)
      refine lv_iconst (v := (1 : Int32)) hx hb dX1_inverse_14 (by decide) ?_
      refine lv_icmp_ne (tgt := 20) hx hb dX1_inverse_15 (by decide) (fun c2 => ?_) (fun c2 => ?_)
      · have h := h.1 c2
        obtain ⟨x1, ex1⟩ : ∃ y : Int32, y = v2 + (1 : Int32) := ⟨_, rfl⟩
        have h := h x1 ex1
        refine lv_iinc (v := x1) (lv' := [(2, .int x1), (0, .int v0), (1, .int v1)]) hx hb dX1_inverse_20 hl (k := 2) rfl (by rw [ex1]; rfl) (by decide) rfl (fun ls hl => ?_)
        refine lv_goto (tgt := 2) hx hb dX1_inverse_23 (by decide) ?_
        exact ih _ _ _ _ h _ _ _ hP hS (lv_sub hl [1, 2, 0] rfl)
      · have h := h.2 c2
        refine lv_iload_n hx hb dX1_inverse_18 rfl (lv_at hl 2 rfl) ?_
        exact rk_iret X rfl kX_len h hP hS dX1_inverse_19
set_option maxRecDepth 100000 in
set_option maxHeartbeats 4000000 in
theorem mX1_inverse (l : Launch) (D : va_G) (cy : Nat → ClassId) (B : Nat) (v0 : Int32) (v1 : Int32) (σ : St) {post : Int32 → St → Prop} (h : wX1_inverse v0 v1 σ post) : Met l yX1_inverse (Cond.code yX1_inverse cX1_inverse 3 (some .int) :: WALL) (rmD 2) (PcW D cy B kX σ [.int v0, .int v1]) (va_Qi post (BW D cy B kX) (AW B 346)) 0 0 (AW B 346) := by
  refine Met.ofK (cc := cX1_inverse) (maxL := 3) (ret := (some .int)) (by decide +kernel) rfl kX_len ?_
  intro p e s m below meth c X hP
  obtain ⟨⟨hx, hb, hml, hown, hts⟩, hr, hlk, hK, hN, hZ⟩ := id X
  have hD : ∀ σ, va_D (AW B 346) (wW cy B kX σ) := AW_D kX_len
  have hS : va_S (AW B 346) s.heap s.heap [] := va_S.rf
  have hl := lv_entry ([.int v0, .int v1]) (n := 3) (Nat.le_of_ble_eq_true rfl)
  rw [lg_entry_eq]
  generalize (lg_sl ([.int v0, .int v1]) ++ List.replicate (3 - (lg_sl ([.int v0, .int v1])).length) Slot.unset).toArray = ls at hl ⊢
  have hl : lv_has ls 3 [(0, .int v0), (1, .int v1)] := hl
  unfold wX1_inverse at h
  refine lv_iconst (v := (1 : Int32)) hx hb dX1_inverse_0 (by decide) ?_
  refine lv_istore_n (lv' := [(2, .int (1 : Int32)), (0, .int v0), (1, .int v1)]) hx hb dX1_inverse_1 rfl hl (by decide) rfl (fun ls hl => ?_)
  obtain ⟨j, h⟩ := h
  exact tX1_inverse_2 X j _ _ _ _ h _ _ _ hP hS (lv_sub hl [1, 2, 0] rfl)

theorem hd_X1_setInverseTurnedOver : yX1_setInverseTurnedOver.cls = RX1 ∧ yX1_setInverseTurnedOver.cls ≠ "java/lang/invoke/MethodHandle" ∧ yX1_setInverseTurnedOver.cls ≠ "java/lang/invoke/VarHandle" ∧ (parseMethodDescriptor yX1_setInverseTurnedOver.desc).map (fun d => d.parameters.length) = some 2 := by decide +kernel
set_option maxRecDepth 100000 in
set_option maxHeartbeats 4000000 in
theorem mX1_setInverseTurnedOver (l : Launch) (D : va_G) (cy : Nat → ClassId) (B : Nat) (v0 : Nat) (v1 : Nat) (v2 : Int32) (σ : St) (h0 : kX[v0]? = some 1) (h1 : kX[v1]? = some 1) {post : St → Prop} (h : wX1_setInverseTurnedOver v0 v1 v2 σ post) : Met l yX1_setInverseTurnedOver (Cond.code yX1_setInverseTurnedOver cX1_setInverseTurnedOver 4 none :: WALL) (rmD 3) (PcW D cy B kX σ [.ref (B + v0), .ref (B + v1), .int v2]) (va_Qv post (BW D cy B kX) (AW B 346)) 0 0 (AW B 346) := by
  refine Met.ofK (cc := cX1_setInverseTurnedOver) (maxL := 4) (ret := none) (by decide +kernel) rfl kX_len ?_
  intro p e s m below meth c X hP
  obtain ⟨⟨hx, hb, hml, hown, hts⟩, hr, hlk, hK, hN, hZ⟩ := id X
  have hD : ∀ σ, va_D (AW B 346) (wW cy B kX σ) := AW_D kX_len
  have hS : va_S (AW B 346) s.heap s.heap [] := va_S.rf
  have hl := lv_entry ([.ref (B + v0), .ref (B + v1), .int v2]) (n := 4) (Nat.le_of_ble_eq_true rfl)
  rw [lg_entry_eq]
  generalize (lg_sl ([.ref (B + v0), .ref (B + v1), .int v2]) ++ List.replicate (4 - (lg_sl ([.ref (B + v0), .ref (B + v1), .int v2])).length) Slot.unset).toArray = ls at hl ⊢
  have hl : lv_has ls 4 [(0, .ref (B + v0)), (1, .ref (B + v1)), (2, .int v2)] := hl
  unfold wX1_setInverseTurnedOver at h
  refine lv_aload_n hx hb dX1_setInverseTurnedOver_0 rfl (lv_at hl 1 rfl) ?_
  refine lv_iload_n hx hb dX1_setInverseTurnedOver_1 rfl (lv_at hl 2 rfl) ?_
  refine rk_calli (va_runV (As := [.int v2]) (rest := []) X.1 (mX1_determinant l D cy B v1 v2 σ h1 h) (cwV 1 hts (gW_V (wi_2 _ (List.mem_of_getElem? (i := 11) rfl)) (wi_2 _ (List.mem_of_getElem? (i := 12) rfl)) (wi_2 _ (List.mem_of_getElem? (i := 13) rfl)) (wi_2 _ (List.mem_of_getElem? (i := 14) rfl)) (wi_2 _ (List.mem_of_getElem? (i := 6) rfl))) rfl rfl rfl hd_X1_determinant ⟨Nat.le_of_ble_eq_true rfl, Nat.le_of_ble_eq_true rfl⟩) (rk_preV X hS hP h1 rfl rfl [.int v2]) rfl rfl hl.1 rfl (lv_room (Nat.le_of_ble_eq_true rfl)) dX1_setInverseTurnedOver_2 ⟨Nat.zero_le _, Nat.zero_le _⟩) hS (fun _ h => h) (fun r1 s1 H locs h hP hS => ?_)
  refine lv_iload_n hx hb dX1_setInverseTurnedOver_5 rfl (lv_at hl 2 rfl) ?_
  refine rk_calli (va_runS (As := [.int r1, .int v2]) (rest := []) X.1 (mX1_inverse l D cy B r1 v2 s1 h) (va_cwS 2 hts (gW_S (wi_2 _ (List.mem_of_getElem? (i := 15) rfl)) (wi_2 _ (List.mem_of_getElem? (i := 16) rfl)) (wi_2 _ (List.mem_of_getElem? (i := 14) rfl)) (wi_2 _ (List.mem_of_getElem? (i := 9) rfl))) rfl rfl rfl hd_X1_inverse ⟨Nat.le_of_ble_eq_true rfl, Nat.le_of_ble_eq_true rfl⟩) (rk_preS X hS hP [.int r1, .int v2]) rfl rfl hl.1 rfl (lv_room (Nat.le_of_ble_eq_true rfl)) dX1_setInverseTurnedOver_6 ⟨Nat.zero_le _, Nat.zero_le _⟩) hS (fun _ h => h) (fun r2 s2 H locs h hP hS => ?_)
  refine lv_istore_n (lv' := [(3, .int r2), (0, .ref (B + v0)), (1, .ref (B + v1)), (2, .int v2)]) hx hb dX1_setInverseTurnedOver_9 rfl hl (by decide) rfl (fun ls hl => ?_)
  refine lv_aload_n hx hb dX1_setInverseTurnedOver_10 rfl (lv_at hl 1 rfl) ?_
  refine lv_aload_n hx hb dX1_setInverseTurnedOver_11 rfl (lv_at hl 2 rfl) ?_
  refine rk_get X hP (C := RX1) (T := TX1) (N := 4) (ci := 1) wix_1 h1 rfl rfl 3 (by decide) (wi_2 _ (List.mem_of_getElem? (i := 0) rfl)) rfl rfl dX1_setInverseTurnedOver_12 ?_
  refine lv_iload_n hx hb dX1_setInverseTurnedOver_15 rfl (lv_at hl 0 rfl) ?_
  refine lv_imul hx hb dX1_setInverseTurnedOver_16 ?_
  refine lv_iload_n hx hb dX1_setInverseTurnedOver_17 rfl (lv_at hl 3 rfl) ?_
  refine rk_calli (va_runSN (As := [.int ((s2.1 v1 3) * r2), .int v2]) (rest := [.ref (B + v0)]) X.1 (mX10_mod l D cy B ((s2.1 v1 3) * r2) v2 s2 h) ⟨va_cnB 2 hts (gW_C (wi_2 _ (List.mem_of_getElem? (i := 2) rfl))) rfl rfl rfl hN.1 (hts _ (wi_2 _ (List.mem_of_getElem? (i := 8) rfl))) hd_X10_mod ⟨Nat.le_of_ble_eq_true rfl, Nat.le_of_ble_eq_true rfl⟩, hts _ (wi_2 _ (List.mem_of_getElem? (i := 7) rfl)), trivial⟩ (rk_preS X hS hP [.int ((s2.1 v1 3) * r2), .int v2]) rfl rfl hl.1 rfl (lv_room (Nat.le_of_ble_eq_true rfl)) dX1_setInverseTurnedOver_18 ⟨Nat.zero_le _, Nat.zero_le _⟩) hS (fun _ h => h) (fun r3 s3 H locs h hP hS => ?_)
  refine rk_puti X hP hD hS (C := RX1) (T := TX1) (N := 4) (ci := 1) wix_1 h0 rfl rfl tyX1 tyX1_ok nmX1 0 (by decide) (wi_1 _ (List.mem_of_getElem? (i := 21) rfl)) rfl rfl (by decide +kernel) (Nat.le_of_ble_eq_true rfl) rfl dX1_setInverseTurnedOver_21 (fun H locs hP hS => ?_)
  obtain ⟨s4, es4⟩ : ∃ z : St, z = u1 s3 v0 0 r3 := ⟨_, rfl⟩
  rw [← es4] at hP
  have h := h s4 es4
  refine lv_aload_n hx hb dX1_setInverseTurnedOver_24 rfl (lv_at hl 1 rfl) ?_
  refine lv_aload_n hx hb dX1_setInverseTurnedOver_25 rfl (lv_at hl 2 rfl) ?_
  refine rk_get X hP (C := RX1) (T := TX1) (N := 4) (ci := 1) wix_1 h1 rfl rfl 2 (by decide) (wi_1 _ (List.mem_of_getElem? (i := 23) rfl)) rfl rfl dX1_setInverseTurnedOver_26 ?_
  refine lv_ineg hx hb dX1_setInverseTurnedOver_29 ?_
  refine lv_iload_n hx hb dX1_setInverseTurnedOver_30 rfl (lv_at hl 0 rfl) ?_
  refine lv_imul hx hb dX1_setInverseTurnedOver_31 ?_
  refine lv_iload_n hx hb dX1_setInverseTurnedOver_32 rfl (lv_at hl 3 rfl) ?_
  refine rk_calli (va_runSN (As := [.int ((-(s4.1 v1 2)) * r2), .int v2]) (rest := [.ref (B + v0)]) X.1 (mX10_mod l D cy B ((-(s4.1 v1 2)) * r2) v2 s4 h) ⟨va_cnB 2 hts (gW_C (wi_2 _ (List.mem_of_getElem? (i := 2) rfl))) rfl rfl rfl hN.1 (hts _ (wi_2 _ (List.mem_of_getElem? (i := 8) rfl))) hd_X10_mod ⟨Nat.le_of_ble_eq_true rfl, Nat.le_of_ble_eq_true rfl⟩, hts _ (wi_2 _ (List.mem_of_getElem? (i := 7) rfl)), trivial⟩ (rk_preS X hS hP [.int ((-(s4.1 v1 2)) * r2), .int v2]) rfl rfl hl.1 rfl (lv_room (Nat.le_of_ble_eq_true rfl)) dX1_setInverseTurnedOver_33 ⟨Nat.zero_le _, Nat.zero_le _⟩) hS (fun _ h => h) (fun r4 s5 H locs h hP hS => ?_)
  refine rk_puti X hP hD hS (C := RX1) (T := TX1) (N := 4) (ci := 1) wix_1 h0 rfl rfl tyX1 tyX1_ok nmX1 1 (by decide) (wi_1 _ (List.mem_of_getElem? (i := 22) rfl)) rfl rfl (by decide +kernel) (Nat.le_of_ble_eq_true rfl) rfl dX1_setInverseTurnedOver_36 (fun H locs hP hS => ?_)
  obtain ⟨s6, es6⟩ : ∃ z : St, z = u1 s5 v0 1 r4 := ⟨_, rfl⟩
  rw [← es6] at hP
  have h := h s6 es6
  refine lv_aload_n hx hb dX1_setInverseTurnedOver_39 rfl (lv_at hl 1 rfl) ?_
  refine lv_aload_n hx hb dX1_setInverseTurnedOver_40 rfl (lv_at hl 2 rfl) ?_
  refine rk_get X hP (C := RX1) (T := TX1) (N := 4) (ci := 1) wix_1 h1 rfl rfl 1 (by decide) (wi_1 _ (List.mem_of_getElem? (i := 22) rfl)) rfl rfl dX1_setInverseTurnedOver_41 ?_
  refine lv_ineg hx hb dX1_setInverseTurnedOver_44 ?_
  refine lv_iload_n hx hb dX1_setInverseTurnedOver_45 rfl (lv_at hl 0 rfl) ?_
  refine lv_imul hx hb dX1_setInverseTurnedOver_46 ?_
  refine lv_iload_n hx hb dX1_setInverseTurnedOver_47 rfl (lv_at hl 3 rfl) ?_
  refine rk_calli (va_runSN (As := [.int ((-(s6.1 v1 1)) * r2), .int v2]) (rest := [.ref (B + v0)]) X.1 (mX10_mod l D cy B ((-(s6.1 v1 1)) * r2) v2 s6 h) ⟨va_cnB 2 hts (gW_C (wi_2 _ (List.mem_of_getElem? (i := 2) rfl))) rfl rfl rfl hN.1 (hts _ (wi_2 _ (List.mem_of_getElem? (i := 8) rfl))) hd_X10_mod ⟨Nat.le_of_ble_eq_true rfl, Nat.le_of_ble_eq_true rfl⟩, hts _ (wi_2 _ (List.mem_of_getElem? (i := 7) rfl)), trivial⟩ (rk_preS X hS hP [.int ((-(s6.1 v1 1)) * r2), .int v2]) rfl rfl hl.1 rfl (lv_room (Nat.le_of_ble_eq_true rfl)) dX1_setInverseTurnedOver_48 ⟨Nat.zero_le _, Nat.zero_le _⟩) hS (fun _ h => h) (fun r5 s7 H locs h hP hS => ?_)
  refine rk_puti X hP hD hS (C := RX1) (T := TX1) (N := 4) (ci := 1) wix_1 h0 rfl rfl tyX1 tyX1_ok nmX1 2 (by decide) (wi_1 _ (List.mem_of_getElem? (i := 23) rfl)) rfl rfl (by decide +kernel) (Nat.le_of_ble_eq_true rfl) rfl dX1_setInverseTurnedOver_51 (fun H locs hP hS => ?_)
  obtain ⟨s8, es8⟩ : ∃ z : St, z = u1 s7 v0 2 r5 := ⟨_, rfl⟩
  rw [← es8] at hP
  have h := h s8 es8
  refine lv_aload_n hx hb dX1_setInverseTurnedOver_54 rfl (lv_at hl 1 rfl) ?_
  refine lv_aload_n hx hb dX1_setInverseTurnedOver_55 rfl (lv_at hl 2 rfl) ?_
  refine rk_get X hP (C := RX1) (T := TX1) (N := 4) (ci := 1) wix_1 h1 rfl rfl 0 (by decide) (wi_1 _ (List.mem_of_getElem? (i := 21) rfl)) rfl rfl dX1_setInverseTurnedOver_56 ?_
  refine lv_iload_n hx hb dX1_setInverseTurnedOver_59 rfl (lv_at hl 0 rfl) ?_
  refine lv_imul hx hb dX1_setInverseTurnedOver_60 ?_
  refine lv_iload_n hx hb dX1_setInverseTurnedOver_61 rfl (lv_at hl 3 rfl) ?_
  refine rk_calli (va_runSN (As := [.int ((s8.1 v1 0) * r2), .int v2]) (rest := [.ref (B + v0)]) X.1 (mX10_mod l D cy B ((s8.1 v1 0) * r2) v2 s8 h) ⟨va_cnB 2 hts (gW_C (wi_2 _ (List.mem_of_getElem? (i := 2) rfl))) rfl rfl rfl hN.1 (hts _ (wi_2 _ (List.mem_of_getElem? (i := 8) rfl))) hd_X10_mod ⟨Nat.le_of_ble_eq_true rfl, Nat.le_of_ble_eq_true rfl⟩, hts _ (wi_2 _ (List.mem_of_getElem? (i := 7) rfl)), trivial⟩ (rk_preS X hS hP [.int ((s8.1 v1 0) * r2), .int v2]) rfl rfl hl.1 rfl (lv_room (Nat.le_of_ble_eq_true rfl)) dX1_setInverseTurnedOver_62 ⟨Nat.zero_le _, Nat.zero_le _⟩) hS (fun _ h => h) (fun r6 s9 H locs h hP hS => ?_)
  refine rk_puti X hP hD hS (C := RX1) (T := TX1) (N := 4) (ci := 1) wix_1 h0 rfl rfl tyX1 tyX1_ok nmX1 3 (by decide) (wi_2 _ (List.mem_of_getElem? (i := 0) rfl)) rfl rfl (by decide +kernel) (Nat.le_of_ble_eq_true rfl) rfl dX1_setInverseTurnedOver_65 (fun H locs hP hS => ?_)
  obtain ⟨s10, es10⟩ : ∃ z : St, z = u1 s9 v0 3 r6 := ⟨_, rfl⟩
  rw [← es10] at hP
  have h := h s10 es10
  exact rk_vret X kX_len h hP hS dX1_setInverseTurnedOver_68
