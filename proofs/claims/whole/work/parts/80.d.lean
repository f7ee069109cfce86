theorem hd_X6_takeDigits : yX6_takeDigits.cls = RX6 ∧ yX6_takeDigits.cls ≠ "java/lang/invoke/MethodHandle" ∧ yX6_takeDigits.cls ≠ "java/lang/invoke/VarHandle" ∧ (parseMethodDescriptor yX6_takeDigits.desc).map (fun d => d.parameters.length) = some 1 := by decide +kernel
set_option maxRecDepth 100000 in
set_option maxHeartbeats 4000000 in
theorem tX6_takeDigits_86 {p : Program} {l : Launch} {e : Env} {s : State} {m : MethodId} {av : Array Value} {below : List Frame} {meth : Method} {c : Code} {D : va_G} {cy : Nat → ClassId} {B : Nat} (X : kC p s m av meth c cX6_takeDigits 2 none WALL RX6 D cy (AW B 346)) {post : St → Prop} : ∀ (t0 : Nat) (t1 : Int32) (σ : St), kX[t0]? = some 6 → wX6_takeDigits_86 post t0 t1 σ → ∀ (H : Heap) (locs : List Loc) (ls : Array Slot), va_P D vwCl (wW cy B kX σ) H → va_S (AW B 346) s.heap H locs → lv_has ls 2 [] → W p l e (rmD 0) s m av below meth c H locs 0 0 (MQ below (va_Qv post (BW D cy B kX) (AW B 346)) av s 0 0 (AW B 346)) (F0 m 86 ls [.int t1, .ref (B + t0)]) := by
  obtain ⟨⟨hx, hb, hml, hown, hts⟩, hr, hlk, hK, hN, hZ⟩ := id X
  have hD : ∀ σ, va_D (AW B 346) (wW cy B kX σ) := AW_D kX_len
  intro t0 t1 σ g0 h H locs ls hP hS hl
  unfold wX6_takeDigits_86 at h
  refine rk_puti X hP hD hS (C := RX6) (T := TX6) (N := 8) (ci := 6) wix_6 g0 rfl rfl tyX6 tyX6_ok nmX6 4 (by decide) (wi_9 _ (List.mem_of_getElem? (i := 19) rfl)) rfl rfl (by decide +kernel) (Nat.le_of_ble_eq_true rfl) rfl dX6_takeDigits_86 (fun H locs hP hS => ?_)
  obtain ⟨s1, es1⟩ : ∃ z : St, z = u1 σ t0 4 t1 := ⟨_, rfl⟩
  rw [← es1] at hP
  have h := h s1 es1
  exact rk_vret X kX_len h hP hS dX6_takeDigits_89
set_option maxRecDepth 100000 in
set_option maxHeartbeats 4000000 in
theorem tX6_takeDigits_67 {p : Program} {l : Launch} {e : Env} {s : State} {m : MethodId} {av : Array Value} {below : List Frame} {meth : Method} {c : Code} {D : va_G} {cy : Nat → ClassId} {B : Nat} (X : kC p s m av meth c cX6_takeDigits 2 none WALL RX6 D cy (AW B 346)) {post : St → Prop} : ∀ (v0 : Nat) (σ : St), kX[v0]? = some 6 → wX6_takeDigits_67 post v0 σ → ∀ (H : Heap) (locs : List Loc) (ls : Array Slot), va_P D vwCl (wW cy B kX σ) H → va_S (AW B 346) s.heap H locs → lv_has ls 2 [(0, .ref (B + v0))] → W p l e (rmD 0) s m av below meth c H locs 0 0 (MQ below (va_Qv post (BW D cy B kX) (AW B 346)) av s 0 0 (AW B 346)) (F0 m 67 ls []) := by
  obtain ⟨⟨hx, hb, hml, hown, hts⟩, hr, hlk, hK, hN, hZ⟩ := id X
  have hD : ∀ σ, va_D (AW B 346) (wW cy B kX σ) := AW_D kX_len
  intro v0 σ h0 h H locs ls hP hS hl
  unfold wX6_takeDigits_67 at h
  refine lv_aload_n hx hb dX6_takeDigits_67 rfl (lv_at hl 0 rfl) ?_
  refine lv_aload_n hx hb dX6_takeDigits_68 rfl (lv_at hl 0 rfl) ?_
  refine rk_get X hP (C := RX6) (T := TX6) (N := 8) (ci := 6) wix_6 h0 rfl rfl 2 (by decide) (wi_9 _ (List.mem_of_getElem? (i := 17) rfl)) rfl rfl dX6_takeDigits_69 ?_
  refine lv_aload_n hx hb dX6_takeDigits_72 rfl (lv_at hl 0 rfl) ?_
  refine rk_get X hP (C := RX6) (T := TX6) (N := 8) (ci := 6) wix_6 h0 rfl rfl 5 (by decide) (wi_9 _ (List.mem_of_getElem? (i := 20) rfl)) rfl rfl dX6_takeDigits_73 ?_
  refine lv_isub hx hb dX6_takeDigits_76 ?_
  refine lv_iconst (v := (2 : Int32)) hx hb dX6_takeDigits_77 (by decide) ?_
  refine lv_icmp_gt (tgt := 85) hx hb dX6_takeDigits_78 (by decide) (fun c1 => ?_) (fun c1 => ?_)
  · have h := h.1 c1
    refine lv_iconst (v := (4 : Int32)) hx hb dX6_takeDigits_85 (by decide) ?_
    exact tX6_takeDigits_86 X _ _ _ h0 h _ _ _ hP hS (lv_sub hl [] rfl)
  · have h := h.2 c1
    refine lv_iconst (v := (1 : Int32)) hx hb dX6_takeDigits_81 (by decide) ?_
    refine lv_goto (tgt := 86) hx hb dX6_takeDigits_82 (by decide) ?_
    exact tX6_takeDigits_86 X _ _ _ h0 h _ _ _ hP hS (lv_sub hl [] rfl)
set_option maxRecDepth 100000 in
set_option maxHeartbeats 4000000 in
theorem tX6_takeDigits_0 {p : Program} {l : Launch} {e : Env} {s : State} {m : MethodId} {av : Array Value} {below : List Frame} {meth : Method} {c : Code} {D : va_G} {cy : Nat → ClassId} {B : Nat} (X : kC p s m av meth c cX6_takeDigits 2 none WALL RX6 D cy (AW B 346)) {post : St → Prop} : ∀ (n : Nat) (v0 : Nat) (v1 : Nat) (σ : St), kX[v0]? = some 6 → kX[v1]? = some 20700 → wX6_takeDigits_0 post n v0 v1 σ → ∀ (H : Heap) (locs : List Loc) (ls : Array Slot), va_P D vwCl (wW cy B kX σ) H → va_S (AW B 346) s.heap H locs → lv_has ls 2 [(0, .ref (B + v0)), (1, .ref (B + v1))] → W p l e (rmD 0) s m av below meth c H locs 0 0 (MQ below (va_Qv post (BW D cy B kX) (AW B 346)) av s 0 0 (AW B 346)) (F0 m 0 ls []) := by
  obtain ⟨⟨hx, hb, hml, hown, hts⟩, hr, hlk, hK, hN, hZ⟩ := id X
  have hD : ∀ σ, va_D (AW B 346) (wW cy B kX σ) := AW_D kX_len
  intro n
  induction n with
  | zero => intro v0 v1 σ h0 h1 h; exact absurd h id
  | succ n ih =>
    intro v0 v1 σ h0 h1 h H locs ls hP hS hl
    rw [wX6_takeDigits_0] at h
    refine lv_aload_n hx hb dX6_takeDigits_0 rfl (lv_at hl 0 rfl) ?_
    refine rk_get X hP (C := RX6) (T := TX6) (N := 8) (ci := 6) wix_6 h0 rfl rfl 2 (by decide) (wi_9 _ (List.mem_of_getElem? (i := 17) rfl)) rfl rfl dX6_takeDigits_1 ?_
    refine lv_aload_n hx hb dX6_takeDigits_4 rfl (lv_at hl 0 rfl) ?_
    refine rk_get X hP (C := RX6) (T := TX6) (N := 8) (ci := 6) wix_6 h0 rfl rfl 3 (by decide) (wi_9 _ (List.mem_of_getElem? (i := 18) rfl)) rfl rfl dX6_takeDigits_5 ?_
    refine lv_icmp_ge (tgt := 67) hx hb dX6_takeDigits_8 (by decide) (fun c1 => ?_) (fun c1 => ?_)
    · have h := h.1 c1
      exact tX6_takeDigits_67 X _ _ h0 h _ _ _ hP hS (lv_sub hl [0] rfl)
    · have h := h.2 c1
      refine lv_aload_n hx hb dX6_takeDigits_11 rfl (lv_at hl 1 rfl) ?_
      refine lv_aload_n hx hb dX6_takeDigits_12 rfl (lv_at hl 0 rfl) ?_
      refine rk_get X hP (C := RX6) (T := TX6) (N := 8) (ci := 6) wix_6 h0 rfl rfl 2 (by decide) (wi_9 _ (List.mem_of_getElem? (i := 17) rfl)) rfl rfl dX6_takeDigits_13 ?_
      refine lv_topi (fun x1 ex1 => ?_)
      have h := h x1 ex1
      obtain ⟨b1, h⟩ := h
      refine rk_bald X hP (n := 700) h1 (fun _ _ => rfl) b1 dX6_takeDigits_16 ?_
      refine lv_bipush (v := (48 : Int32)) hx hb dX6_takeDigits_17 (by decide) ?_
      refine lv_icmp_lt (tgt := 67) hx hb dX6_takeDigits_19 (by decide) (fun c2 => ?_) (fun c2 => ?_)
      · have h := h.1 c2
        exact tX6_takeDigits_67 X _ _ h0 h _ _ _ hP hS (lv_sub hl [0] rfl)
      · have h := h.2 c2
        refine lv_aload_n hx hb dX6_takeDigits_22 rfl (lv_at hl 1 rfl) ?_
        refine lv_aload_n hx hb dX6_takeDigits_23 rfl (lv_at hl 0 rfl) ?_
        refine rk_get X hP (C := RX6) (T := TX6) (N := 8) (ci := 6) wix_6 h0 rfl rfl 2 (by decide) (wi_9 _ (List.mem_of_getElem? (i := 17) rfl)) rfl rfl dX6_takeDigits_24 ?_
        refine lv_topi (fun x2 ex2 => ?_)
        have h := h x2 ex2
        obtain ⟨b2, h⟩ := h
        refine rk_bald X hP (n := 700) h1 (fun _ _ => rfl) b2 dX6_takeDigits_27 ?_
        refine lv_bipush (v := (57 : Int32)) hx hb dX6_takeDigits_28 (by decide) ?_
        refine lv_icmp_gt (tgt := 67) hx hb dX6_takeDigits_30 (by decide) (fun c3 => ?_) (fun c3 => ?_)
        · have h := h.1 c3
          exact tX6_takeDigits_67 X _ _ h0 h _ _ _ hP hS (lv_sub hl [0] rfl)
        · have h := h.2 c3
          refine lv_aload_n hx hb dX6_takeDigits_33 rfl (lv_at hl 0 rfl) ?_
          refine lv_bipush (v := (10 : Int32)) hx hb dX6_takeDigits_34 (by decide) ?_
          refine lv_aload_n hx hb dX6_takeDigits_36 rfl (lv_at hl 0 rfl) ?_
          refine rk_get X hP (C := RX6) (T := TX6) (N := 8) (ci := 6) wix_6 h0 rfl rfl 6 (by decide) (wi_9 _ (List.mem_of_getElem? (i := 21) rfl)) rfl rfl dX6_takeDigits_37 ?_
          refine lv_imul hx hb dX6_takeDigits_40 ?_
          refine lv_aload_n hx hb dX6_takeDigits_41 rfl (lv_at hl 1 rfl) ?_
          refine lv_aload_n hx hb dX6_takeDigits_42 rfl (lv_at hl 0 rfl) ?_
          refine rk_get X hP (C := RX6) (T := TX6) (N := 8) (ci := 6) wix_6 h0 rfl rfl 2 (by decide) (wi_9 _ (List.mem_of_getElem? (i := 17) rfl)) rfl rfl dX6_takeDigits_43 ?_
          refine lv_topi (fun x3 ex3 => ?_)
          have h := h x3 ex3
          obtain ⟨b3, h⟩ := h
          refine rk_bald X hP (n := 700) h1 (fun _ _ => rfl) b3 dX6_takeDigits_46 ?_
          refine lv_iadd hx hb dX6_takeDigits_47 ?_
          refine lv_bipush (v := (48 : Int32)) hx hb dX6_takeDigits_48 (by decide) ?_
          refine lv_isub hx hb dX6_takeDigits_50 ?_
          refine rk_puti X hP hD hS (C := RX6) (T := TX6) (N := 8) (ci := 6) wix_6 h0 rfl rfl tyX6 tyX6_ok nmX6 6 (by decide) (wi_9 _ (List.mem_of_getElem? (i := 21) rfl)) rfl rfl (by decide +kernel) (Nat.le_of_ble_eq_true rfl) rfl dX6_takeDigits_51 (fun H locs hP hS => ?_)
          obtain ⟨s1, es1⟩ : ∃ z : St, z = u1 σ v0 6 ((((10 : Int32) * (σ.1 v0 6)) + (σ.1 v1 x3.toNatClampNeg)) - (48 : Int32)) := ⟨_, rfl⟩
          rw [← es1] at hP
          have h := h s1 es1
          refine lv_aload_n hx hb dX6_takeDigits_54 rfl (lv_at hl 0 rfl) ?_
          refine lv_dup hx hb dX6_takeDigits_55 rfl ?_
          refine rk_get X hP (C := RX6) (T := TX6) (N := 8) (ci := 6) wix_6 h0 rfl rfl 2 (by decide) (wi_9 _ (List.mem_of_getElem? (i := 17) rfl)) rfl rfl dX6_takeDigits_56 ?_
          refine lv_iconst (v := (1 : Int32)) hx hb dX6_takeDigits_59 (by decide) ?_
          refine lv_iadd hx hb dX6_takeDigits_60 ?_
          refine rk_puti X hP hD hS (C := RX6) (T := TX6) (N := 8) (ci := 6) wix_6 h0 rfl rfl tyX6 tyX6_ok nmX6 2 (by decide) (wi_9 _ (List.mem_of_getElem? (i := 17) rfl)) rfl rfl (by decide +kernel) (Nat.le_of_ble_eq_true rfl) rfl dX6_takeDigits_61 (fun H locs hP hS => ?_)
          obtain ⟨s2, es2⟩ : ∃ z : St, z = u1 s1 v0 2 ((s1.1 v0 2) + (1 : Int32)) := ⟨_, rfl⟩
          rw [← es2] at hP
          have h := h s2 es2
          refine lv_goto (tgt := 0) hx hb dX6_takeDigits_64 (by decide) ?_
          exact ih _ _ _ h0 h1 h _ _ _ hP hS (lv_sub hl [0, 1] rfl)
set_option maxRecDepth 100000 in
set_option maxHeartbeats 4000000 in
theorem mX6_takeDigits (l : Launch) (D : va_G) (cy : Nat → ClassId) (B : Nat) (v0 : Nat) (v1 : Nat) (σ : St) (h0 : kX[v0]? = some 6) (h1 : kX[v1]? = some 20700) {post : St → Prop} (h : wX6_takeDigits v0 v1 σ post) : Met l yX6_takeDigits (Cond.code yX6_takeDigits cX6_takeDigits 2 none :: WALL) (rmD 0) (PcW D cy B kX σ [.ref (B + v0), .ref (B + v1)]) (va_Qv post (BW D cy B kX) (AW B 346)) 0 0 (AW B 346) := by
  refine Met.ofK (cc := cX6_takeDigits) (maxL := 2) (ret := none) (by decide +kernel) rfl kX_len ?_
  intro p e s m below meth c X hP
  obtain ⟨⟨hx, hb, hml, hown, hts⟩, hr, hlk, hK, hN, hZ⟩ := id X
  have hD : ∀ σ, va_D (AW B 346) (wW cy B kX σ) := AW_D kX_len
  have hS : va_S (AW B 346) s.heap s.heap [] := va_S.rf
  have hl := lv_entry ([.ref (B + v0), .ref (B + v1)]) (n := 2) (Nat.le_of_ble_eq_true rfl)
  rw [lg_entry_eq]
  generalize (lg_sl ([.ref (B + v0), .ref (B + v1)]) ++ List.replicate (2 - (lg_sl ([.ref (B + v0), .ref (B + v1)])).length) Slot.unset).toArray = ls at hl ⊢
  have hl : lv_has ls 2 [(0, .ref (B + v0)), (1, .ref (B + v1))] := hl
  unfold wX6_takeDigits at h
  obtain ⟨j, h⟩ := h
  exact tX6_takeDigits_0 X j _ _ _ h0 h1 h _ _ _ hP hS (lv_sub hl [0, 1] rfl)

theorem hd_X6_takeLetters : yX6_takeLetters.cls = RX6 ∧ yX6_takeLetters.cls ≠ "java/lang/invoke/MethodHandle" ∧ yX6_takeLetters.cls ≠ "java/lang/invoke/VarHandle" ∧ (parseMethodDescriptor yX6_takeLetters.desc).map (fun d => d.parameters.length) = some 1 := by decide +kernel
set_option maxRecDepth 100000 in
set_option maxHeartbeats 4000000 in
theorem tX6_takeLetters_99 {p : Program} {l : Launch} {e : Env} {s : State} {m : MethodId} {av : Array Value} {below : List Frame} {meth : Method} {c : Code} {D : va_G} {cy : Nat → ClassId} {B : Nat} (X : kC p s m av meth c cX6_takeLetters 2 none WALL RX6 D cy (AW B 346)) {post : St → Prop} : ∀ (t0 : Nat) (t1 : Int32) (σ : St), kX[t0]? = some 6 → wX6_takeLetters_99 post t0 t1 σ → ∀ (H : Heap) (locs : List Loc) (ls : Array Slot), va_P D vwCl (wW cy B kX σ) H → va_S (AW B 346) s.heap H locs → lv_has ls 2 [] → W p l e (rmD 0) s m av below meth c H locs 0 0 (MQ below (va_Qv post (BW D cy B kX) (AW B 346)) av s 0 0 (AW B 346)) (F0 m 99 ls [.int t1, .ref (B + t0)]) := by
  obtain ⟨⟨hx, hb, hml, hown, hts⟩, hr, hlk, hK, hN, hZ⟩ := id X
  have hD : ∀ σ, va_D (AW B 346) (wW cy B kX σ) := AW_D kX_len
  intro t0 t1 σ g0 h H locs ls hP hS hl
  unfold wX6_takeLetters_99 at h
  refine rk_puti X hP hD hS (C := RX6) (T := TX6) (N := 8) (ci := 6) wix_6 g0 rfl rfl tyX6 tyX6_ok nmX6 4 (by decide) (wi_9 _ (List.mem_of_getElem? (i := 19) rfl)) rfl rfl (by decide +kernel) (Nat.le_of_ble_eq_true rfl) rfl dX6_takeLetters_99 (fun H locs hP hS => ?_)
  obtain ⟨s1, es1⟩ : ∃ z : St, z = u1 σ t0 4 t1 := ⟨_, rfl⟩
  rw [← es1] at hP
  have h := h s1 es1
  exact rk_vret X kX_len h hP hS dX6_takeLetters_102
set_option maxRecDepth 100000 in
set_option maxHeartbeats 4000000 in
theorem tX6_takeLetters_98 {p : Program} {l : Launch} {e : Env} {s : State} {m : MethodId} {av : Array Value} {below : List Frame} {meth : Method} {c : Code} {D : va_G} {cy : Nat → ClassId} {B : Nat} (X : kC p s m av meth c cX6_takeLetters 2 none WALL RX6 D cy (AW B 346)) {post : St → Prop} : ∀ (t0 : Nat) (σ : St), kX[t0]? = some 6 → wX6_takeLetters_98 post t0 σ → ∀ (H : Heap) (locs : List Loc) (ls : Array Slot), va_P D vwCl (wW cy B kX σ) H → va_S (AW B 346) s.heap H locs → lv_has ls 2 [] → W p l e (rmD 0) s m av below meth c H locs 0 0 (MQ below (va_Qv post (BW D cy B kX) (AW B 346)) av s 0 0 (AW B 346)) (F0 m 98 ls [.ref (B + t0)]) := by
  obtain ⟨⟨hx, hb, hml, hown, hts⟩, hr, hlk, hK, hN, hZ⟩ := id X
  have hD : ∀ σ, va_D (AW B 346) (wW cy B kX σ) := AW_D kX_len
  intro t0 σ g0 h H locs ls hP hS hl
  unfold wX6_takeLetters_98 at h
  refine lv_iconst (v := (4 : Int32)) hx hb dX6_takeLetters_98 (by decide) ?_
  exact tX6_takeLetters_99 X _ _ _ g0 h _ _ _ hP hS (lv_sub hl [] rfl)
set_option maxRecDepth 100000 in
set_option maxHeartbeats 4000000 in
theorem tX6_takeLetters_68 {p : Program} {l : Launch} {e : Env} {s : State} {m : MethodId} {av : Array Value} {below : List Frame} {meth : Method} {c : Code} {D : va_G} {cy : Nat → ClassId} {B : Nat} (X : kC p s m av meth c cX6_takeLetters 2 none WALL RX6 D cy (AW B 346)) {post : St → Prop} : ∀ (v0 : Nat) (σ : St), kX[v0]? = some 6 → wX6_takeLetters_68 post v0 σ → ∀ (H : Heap) (locs : List Loc) (ls : Array Slot), va_P D vwCl (wW cy B kX σ) H → va_S (AW B 346) s.heap H locs → lv_has ls 2 [(0, .ref (B + v0))] → W p l e (rmD 0) s m av below meth c H locs 0 0 (MQ below (va_Qv post (BW D cy B kX) (AW B 346)) av s 0 0 (AW B 346)) (F0 m 68 ls []) := by
  obtain ⟨⟨hx, hb, hml, hown, hts⟩, hr, hlk, hK, hN, hZ⟩ := id X
  have hD : ∀ σ, va_D (AW B 346) (wW cy B kX σ) := AW_D kX_len
  intro v0 σ h0 h H locs ls hP hS hl
  unfold wX6_takeLetters_68 at h
  refine lv_aload_n hx hb dX6_takeLetters_68 rfl (lv_at hl 0 rfl) ?_
  refine lv_aload_n hx hb dX6_takeLetters_69 rfl (lv_at hl 0 rfl) ?_
  refine rk_get X hP (C := RX6) (T := TX6) (N := 8) (ci := 6) wix_6 h0 rfl rfl 2 (by decide) (wi_9 _ (List.mem_of_getElem? (i := 17) rfl)) rfl rfl dX6_takeLetters_70 ?_
  refine lv_aload_n hx hb dX6_takeLetters_73 rfl (lv_at hl 0 rfl) ?_
  refine rk_get X hP (C := RX6) (T := TX6) (N := 8) (ci := 6) wix_6 h0 rfl rfl 5 (by decide) (wi_9 _ (List.mem_of_getElem? (i := 20) rfl)) rfl rfl dX6_takeLetters_74 ?_
  refine lv_icmp_le (tgt := 98) hx hb dX6_takeLetters_77 (by decide) (fun c1 => ?_) (fun c1 => ?_)
  · have h := h.1 c1
    exact tX6_takeLetters_98 X _ _ h0 h _ _ _ hP hS (lv_sub hl [] rfl)
  · have h := h.2 c1
    refine lv_aload_n hx hb dX6_takeLetters_80 rfl (lv_at hl 0 rfl) ?_
    refine rk_get X hP (C := RX6) (T := TX6) (N := 8) (ci := 6) wix_6 h0 rfl rfl 2 (by decide) (wi_9 _ (List.mem_of_getElem? (i := 17) rfl)) rfl rfl dX6_takeLetters_81 ?_
    refine lv_aload_n hx hb dX6_takeLetters_84 rfl (lv_at hl 0 rfl) ?_
    refine rk_get X hP (C := RX6) (T := TX6) (N := 8) (ci := 6) wix_6 h0 rfl rfl 5 (by decide) (wi_9 _ (List.mem_of_getElem? (i := 20) rfl)) rfl rfl dX6_takeLetters_85 ?_
    refine lv_isub hx hb dX6_takeLetters_88 ?_
    refine lv_bipush (v := (6 : Int32)) hx hb dX6_takeLetters_89 (by decide) ?_
    refine lv_icmp_gt (tgt := 98) hx hb dX6_takeLetters_91 (by decide) (fun c2 => ?_) (fun c2 => ?_)
    · have h := h.1 c2
      exact tX6_takeLetters_98 X _ _ h0 h _ _ _ hP hS (lv_sub hl [] rfl)
    · have h := h.2 c2
      refine lv_iconst (v := (0 : Int32)) hx hb dX6_takeLetters_94 (by decide) ?_
      refine lv_goto (tgt := 99) hx hb dX6_takeLetters_95 (by decide) ?_
      exact tX6_takeLetters_99 X _ _ _ h0 h _ _ _ hP hS (lv_sub hl [] rfl)
set_option maxRecDepth 100000 in
set_option maxHeartbeats 4000000 in
theorem tX6_takeLetters_0 {p : Program} {l : Launch} {e : Env} {s : State} {m : MethodId} {av : Array Value} {below : List Frame} {meth : Method} {c : Code} {D : va_G} {cy : Nat → ClassId} {B : Nat} (X : kC p s m av meth c cX6_takeLetters 2 none WALL RX6 D cy (AW B 346)) {post : St → Prop} : ∀ (n : Nat) (v0 : Nat) (v1 : Nat) (σ : St), kX[v0]? = some 6 → kX[v1]? = some 20700 → wX6_takeLetters_0 post n v0 v1 σ → ∀ (H : Heap) (locs : List Loc) (ls : Array Slot), va_P D vwCl (wW cy B kX σ) H → va_S (AW B 346) s.heap H locs → lv_has ls 2 [(0, .ref (B + v0)), (1, .ref (B + v1))] → W p l e (rmD 0) s m av below meth c H locs 0 0 (MQ below (va_Qv post (BW D cy B kX) (AW B 346)) av s 0 0 (AW B 346)) (F0 m 0 ls []) := by
  obtain ⟨⟨hx, hb, hml, hown, hts⟩, hr, hlk, hK, hN, hZ⟩ := id X
  have hD : ∀ σ, va_D (AW B 346) (wW cy B kX σ) := AW_D kX_len
  intro n
  induction n with
  | zero => intro v0 v1 σ h0 h1 h; exact absurd h id
  | succ n ih =>
    intro v0 v1 σ h0 h1 h H locs ls hP hS hl
    rw [wX6_takeLetters_0] at h
    refine lv_aload_n hx hb dX6_takeLetters_0 rfl (lv_at hl 0 rfl) ?_
    refine rk_get X hP (C := RX6) (T := TX6) (N := 8) (ci := 6) wix_6 h0 rfl rfl 2 (by decide) (wi_9 _ (List.mem_of_getElem? (i := 17) rfl)) rfl rfl dX6_takeLetters_1 ?_
    refine lv_aload_n hx hb dX6_takeLetters_4 rfl (lv_at hl 0 rfl) ?_
    refine rk_get X hP (C := RX6) (T := TX6) (N := 8) (ci := 6) wix_6 h0 rfl rfl 3 (by decide) (wi_9 _ (List.mem_of_getElem? (i := 18) rfl)) rfl rfl dX6_takeLetters_5 ?_
    refine lv_icmp_ge (tgt := 68) hx hb dX6_takeLetters_8 (by decide) (fun c1 => ?_) (fun c1 => ?_)
    · have h := h.1 c1
      exact tX6_takeLetters_68 X _ _ h0 h _ _ _ hP hS (lv_sub hl [0] rfl)
    · have h := h.2 c1
      refine lv_aload_n hx hb dX6_takeLetters_11 rfl (lv_at hl 1 rfl) ?_
      refine lv_aload_n hx hb dX6_takeLetters_12 rfl (lv_at hl 0 rfl) ?_
      refine rk_get X hP (C := RX6) (T := TX6) (N := 8) (ci := 6) wix_6 h0 rfl rfl 2 (by decide) (wi_9 _ (List.mem_of_getElem? (i := 17) rfl)) rfl rfl dX6_takeLetters_13 ?_
      refine lv_topi (fun x1 ex1 => ?_)
      have h := h x1 ex1
      obtain ⟨b1, h⟩ := h
      refine rk_bald X hP (n := 700) h1 (fun _ _ => rfl) b1 dX6_takeLetters_16 ?_
      refine lv_bipush (v := (97 : Int32)) hx hb dX6_takeLetters_17 (by decide) ?_
      refine lv_icmp_lt (tgt := 68) hx hb dX6_takeLetters_19 (by decide) (fun c2 => ?_) (fun c2 => ?_)
      · have h := h.1 c2
        exact tX6_takeLetters_68 X _ _ h0 h _ _ _ hP hS (lv_sub hl [0] rfl)
      · have h := h.2 c2
        refine lv_aload_n hx hb dX6_takeLetters_22 rfl (lv_at hl 1 rfl) ?_
        refine lv_aload_n hx hb dX6_takeLetters_23 rfl (lv_at hl 0 rfl) ?_
        refine rk_get X hP (C := RX6) (T := TX6) (N := 8) (ci := 6) wix_6 h0 rfl rfl 2 (by decide) (wi_9 _ (List.mem_of_getElem? (i := 17) rfl)) rfl rfl dX6_takeLetters_24 ?_
        refine lv_topi (fun x2 ex2 => ?_)
        have h := h x2 ex2
        obtain ⟨b2, h⟩ := h
        refine rk_bald X hP (n := 700) h1 (fun _ _ => rfl) b2 dX6_takeLetters_27 ?_
        refine lv_bipush (v := (122 : Int32)) hx hb dX6_takeLetters_28 (by decide) ?_
        refine lv_icmp_gt (tgt := 68) hx hb dX6_takeLetters_30 (by decide) (fun c3 => ?_) (fun c3 => ?_)
        · have h := h.1 c3
          exact tX6_takeLetters_68 X _ _ h0 h _ _ _ hP hS (lv_sub hl [0] rfl)
        · have h := h.2 c3
          refine lv_aload_n hx hb dX6_takeLetters_33 rfl (lv_at hl 0 rfl) ?_
          refine lv_aload_n hx hb dX6_takeLetters_34 rfl (lv_at hl 0 rfl) ?_
          refine rk_get X hP (C := RX6) (T := TX6) (N := 8) (ci := 6) wix_6 h0 rfl rfl 6 (by decide) (wi_9 _ (List.mem_of_getElem? (i := 21) rfl)) rfl rfl dX6_takeLetters_35 ?_
          refine lv_iconst (v := (5 : Int32)) hx hb dX6_takeLetters_38 (by decide) ?_
          refine lv_ishl hx hb dX6_takeLetters_39 ?_
          refine lv_aload_n hx hb dX6_takeLetters_40 rfl (lv_at hl 1 rfl) ?_
          refine lv_aload_n hx hb dX6_takeLetters_41 rfl (lv_at hl 0 rfl) ?_
          refine rk_get X hP (C := RX6) (T := TX6) (N := 8) (ci := 6) wix_6 h0 rfl rfl 2 (by decide) (wi_9 _ (List.mem_of_getElem? (i := 17) rfl)) rfl rfl dX6_takeLetters_42 ?_
          refine lv_topi (fun x3 ex3 => ?_)
          have h := h x3 ex3
          obtain ⟨b3, h⟩ := h
          refine rk_bald X hP (n := 700) h1 (fun _ _ => rfl) b3 dX6_takeLetters_45 ?_
          refine lv_bipush (v := (97 : Int32)) hx hb dX6_takeLetters_46 (by decide) ?_
          refine lv_isub hx hb dX6_takeLetters_48 ?_
          refine lv_iconst (v := (1 : Int32)) hx hb dX6_takeLetters_49 (by decide) ?_
          refine lv_iadd hx hb dX6_takeLetters_50 ?_
          refine lv_ior hx hb dX6_takeLetters_51 ?_
          refine rk_puti X hP hD hS (C := RX6) (T := TX6) (N := 8) (ci := 6) wix_6 h0 rfl rfl tyX6 tyX6_ok nmX6 6 (by decide) (wi_9 _ (List.mem_of_getElem? (i := 21) rfl)) rfl rfl (by decide +kernel) (Nat.le_of_ble_eq_true rfl) rfl dX6_takeLetters_52 (fun H locs hP hS => ?_)
          obtain ⟨s1, es1⟩ : ∃ z : St, z = u1 σ v0 6 (((σ.1 v0 6) <<< ((5 : Int32) &&& 31)) ||| (((σ.1 v1 x3.toNatClampNeg) - (97 : Int32)) + (1 : Int32))) := ⟨_, rfl⟩
          rw [← es1] at hP
          have h := h s1 es1
          refine lv_aload_n hx hb dX6_takeLetters_55 rfl (lv_at hl 0 rfl) ?_
          refine lv_dup hx hb dX6_takeLetters_56 rfl ?_
          refine rk_get X hP (C := RX6) (T := TX6) (N := 8) (ci := 6) wix_6 h0 rfl rfl 2 (by decide) (wi_9 _ (List.mem_of_getElem? (i := 17) rfl)) rfl rfl dX6_takeLetters_57 ?_
          refine lv_iconst (v := (1 : Int32)) hx hb dX6_takeLetters_60 (by decide) ?_
          refine lv_iadd hx hb dX6_takeLetters_61 ?_
          refine rk_puti X hP hD hS (C := RX6) (T := TX6) (N := 8) (ci := 6) wix_6 h0 rfl rfl tyX6 tyX6_ok nmX6 2 (by decide) (wi_9 _ (List.mem_of_getElem? (i := 17) rfl)) rfl rfl (by decide +kernel) (Nat.le_of_ble_eq_true rfl) rfl dX6_takeLetters_62 (fun H locs hP hS => ?_)
          obtain ⟨s2, es2⟩ : ∃ z : St, z = u1 s1 v0 2 ((s1.1 v0 2) + (1 : Int32)) := ⟨_, rfl⟩
          rw [← es2] at hP
          have h := h s2 es2
          refine lv_goto (tgt := 0) hx hb dX6_takeLetters_65 (by decide) ?_
          exact ih _ _ _ h0 h1 h _ _ _ hP hS (lv_sub hl [0, 1] rfl)
set_option maxRecDepth 100000 in
set_option maxHeartbeats 4000000 in
theorem mX6_takeLetters (l : Launch) (D : va_G) (cy : Nat → ClassId) (B : Nat) (v0 : Nat) (v1 : Nat) (σ : St) (h0 : kX[v0]? = some 6) (h1 : kX[v1]? = some 20700) {post : St → Prop} (h : wX6_takeLetters v0 v1 σ post) : Met l yX6_takeLetters (Cond.code yX6_takeLetters cX6_takeLetters 2 none :: WALL) (rmD 0) (PcW D cy B kX σ [.ref (B + v0), .ref (B + v1)]) (va_Qv post (BW D cy B kX) (AW B 346)) 0 0 (AW B 346) := by
  refine Met.ofK (cc := cX6_takeLetters) (maxL := 2) (ret := none) (by decide +kernel) rfl kX_len ?_
  intro p e s m below meth c X hP
  obtain ⟨⟨hx, hb, hml, hown, hts⟩, hr, hlk, hK, hN, hZ⟩ := id X
  have hD : ∀ σ, va_D (AW B 346) (wW cy B kX σ) := AW_D kX_len
  have hS : va_S (AW B 346) s.heap s.heap [] := va_S.rf
  have hl := lv_entry ([.ref (B + v0), .ref (B + v1)]) (n := 2) (Nat.le_of_ble_eq_true rfl)
  rw [lg_entry_eq]
  generalize (lg_sl ([.ref (B + v0), .ref (B + v1)]) ++ List.replicate (2 - (lg_sl ([.ref (B + v0), .ref (B + v1)])).length) Slot.unset).toArray = ls at hl ⊢
  have hl : lv_has ls 2 [(0, .ref (B + v0)), (1, .ref (B + v1))] := hl
  unfold wX6_takeLetters at h
  obtain ⟨j, h⟩ := h
  exact tX6_takeLetters_0 X j _ _ _ h0 h1 h _ _ _ hP hS (lv_sub hl [0, 1] rfl)

theorem hd_X6_advance : yX6_advance.cls = RX6 ∧ yX6_advance.cls ≠ "java/lang/invoke/MethodHandle" ∧ yX6_advance.cls ≠ "java/lang/invoke/VarHandle" ∧ (parseMethodDescriptor yX6_advance.desc).map (fun d => d.parameters.length) = some 1 := by decide +kernel
set_option maxRecDepth 100000 in
set_option maxHeartbeats 4000000 in
theorem tX6_advance_137 {p : Program} {l : Launch} {e : Env} {s : State} {m : MethodId} {av : Array Value} {below : List Frame} {meth : Method} {c : Code} {D : va_G} {cy : Nat → ClassId} {B : Nat} (X : kC p s m av meth c cX6_advance 2 none WALL RX6 D cy (AW B 346)) {post : St → Prop} : ∀ (v0 : Nat) (v1 : Nat) (σ : St), kX[v0]? = some 6 → kX[v1]? = some 20700 → wX6_advance_137 post v0 v1 σ → ∀ (H : Heap) (locs : List Loc) (ls : Array Slot), va_P D vwCl (wW cy B kX σ) H → va_S (AW B 346) s.heap H locs → lv_has ls 2 [(0, .ref (B + v0)), (1, .ref (B + v1))] → W p l e (rmD 1) s m av below meth c H locs 0 0 (MQ below (va_Qv post (BW D cy B kX) (AW B 346)) av s 0 0 (AW B 346)) (F0 m 137 ls []) := by
  obtain ⟨⟨hx, hb, hml, hown, hts⟩, hr, hlk, hK, hN, hZ⟩ := id X
  have hD : ∀ σ, va_D (AW B 346) (wW cy B kX σ) := AW_D kX_len
  intro v0 v1 σ h0 h1 h H locs ls hP hS hl
  unfold wX6_advance_137 at h
  refine lv_aload_n hx hb dX6_advance_137 rfl (lv_at hl 0 rfl) ?_
  refine lv_aload_n hx hb dX6_advance_138 rfl (lv_at hl 1 rfl) ?_
  refine rk_callv (va_runV (As := [.ref (B + v1)]) (rest := []) X.1 (mX6_takeLetters l D cy B v0 v1 σ h0 h1 h) (cwV 1 hts (gW_V (wi_10 _ (List.mem_of_getElem? (i := 18) rfl)) (wi_10 _ (List.mem_of_getElem? (i := 19) rfl)) (wi_10 _ (List.mem_of_getElem? (i := 20) rfl)) (wi_10 _ (List.mem_of_getElem? (i := 2) rfl)) (wi_10 _ (List.mem_of_getElem? (i := 13) rfl))) rfl rfl rfl hd_X6_takeLetters ⟨Nat.le_of_ble_eq_true rfl, Nat.le_of_ble_eq_true rfl⟩) (rk_preV X hS hP h0 rfl rfl [.ref (B + v1)]) rfl rfl hl.1 rfl (lv_room (Nat.le_of_ble_eq_true rfl)) dX6_advance_139 ⟨Nat.zero_le _, Nat.zero_le _⟩) hS (fun _ h => h) (fun s1 H locs h hP hS => ?_)
  exact rk_vret X kX_len h hP hS dX6_advance_142
set_option maxRecDepth 100000 in
set_option maxHeartbeats 4000000 in
theorem tX6_advance_46 {p : Program} {l : Launch} {e : Env} {s : State} {m : MethodId} {av : Array Value} {below : List Frame} {meth : Method} {c : Code} {D : va_G} {cy : Nat → ClassId} {B : Nat} (X : kC p s m av meth c cX6_advance 2 none WALL RX6 D cy (AW B 346)) {post : St → Prop} : ∀ (v0 : Nat) (v1 : Nat) (σ : St), kX[v0]? = some 6 → kX[v1]? = some 20700 → wX6_advance_46 post v0 v1 σ → ∀ (H : Heap) (locs : List Loc) (ls : Array Slot), va_P D vwCl (wW cy B kX σ) H → va_S (AW B 346) s.heap H locs → lv_has ls 2 [(0, .ref (B + v0)), (1, .ref (B + v1))] → W p l e (rmD 1) s m av below meth c H locs 0 0 (MQ below (va_Qv post (BW D cy B kX) (AW B 346)) av s 0 0 (AW B 346)) (F0 m 46 ls []) := by
  obtain ⟨⟨hx, hb, hml, hown, hts⟩, hr, hlk, hK, hN, hZ⟩ := id X
  have hD : ∀ σ, va_D (AW B 346) (wW cy B kX σ) := AW_D kX_len
  intro v0 v1 σ h0 h1 h H locs ls hP hS hl
  unfold wX6_advance_46 at h
  refine lv_aload_n hx hb dX6_advance_46 rfl (lv_at hl 0 rfl) ?_
  refine lv_aload_n hx hb dX6_advance_47 rfl (lv_at hl 0 rfl) ?_
  refine rk_get X hP (C := RX6) (T := TX6) (N := 8) (ci := 6) wix_6 h0 rfl rfl 2 (by decide) (wi_9 _ (List.mem_of_getElem? (i := 17) rfl)) rfl rfl dX6_advance_48 ?_
  refine rk_puti X hP hD hS (C := RX6) (T := TX6) (N := 8) (ci := 6) wix_6 h0 rfl rfl tyX6 tyX6_ok nmX6 5 (by decide) (wi_9 _ (List.mem_of_getElem? (i := 20) rfl)) rfl rfl (by decide +kernel) (Nat.le_of_ble_eq_true rfl) rfl dX6_advance_51 (fun H locs hP hS => ?_)
  obtain ⟨s1, es1⟩ : ∃ z : St, z = u1 σ v0 5 (σ.1 v0 2) := ⟨_, rfl⟩
  rw [← es1] at hP
  have h := h s1 es1
  refine lv_aload_n hx hb dX6_advance_54 rfl (lv_at hl 0 rfl) ?_
  refine lv_iconst (v := (0 : Int32)) hx hb dX6_advance_55 (by decide) ?_
  refine rk_puti X hP hD hS (C := RX6) (T := TX6) (N := 8) (ci := 6) wix_6 h0 rfl rfl tyX6 tyX6_ok nmX6 6 (by decide) (wi_9 _ (List.mem_of_getElem? (i := 21) rfl)) rfl rfl (by decide +kernel) (Nat.le_of_ble_eq_true rfl) rfl dX6_advance_56 (fun H locs hP hS => ?_)
  obtain ⟨s2, es2⟩ : ∃ z : St, z = u1 s1 v0 6 (0 : Int32) := ⟨_, rfl⟩
  rw [← es2] at hP
  have h := h s2 es2
  refine lv_aload_n hx hb dX6_advance_59 rfl (lv_at hl 0 rfl) ?_
  refine rk_get X hP (C := RX6) (T := TX6) (N := 8) (ci := 6) wix_6 h0 rfl rfl 2 (by decide) (wi_9 _ (List.mem_of_getElem? (i := 17) rfl)) rfl rfl dX6_advance_60 ?_
  refine lv_aload_n hx hb dX6_advance_63 rfl (lv_at hl 0 rfl) ?_
  refine rk_get X hP (C := RX6) (T := TX6) (N := 8) (ci := 6) wix_6 h0 rfl rfl 3 (by decide) (wi_9 _ (List.mem_of_getElem? (i := 18) rfl)) rfl rfl dX6_advance_64 ?_
  refine lv_icmp_lt (tgt := 78) hx hb dX6_advance_67 (by decide) (fun c1 => ?_) (fun c1 => ?_)
  · have h := h.1 c1
    refine lv_aload_n hx hb dX6_advance_78 rfl (lv_at hl 1 rfl) ?_
    refine lv_aload_n hx hb dX6_advance_79 rfl (lv_at hl 0 rfl) ?_
    refine rk_get X hP (C := RX6) (T := TX6) (N := 8) (ci := 6) wix_6 h0 rfl rfl 2 (by decide) (wi_9 _ (List.mem_of_getElem? (i := 17) rfl)) rfl rfl dX6_advance_80 ?_
    refine lv_topi (fun x1 ex1 => ?_)
    have h := h x1 ex1
    obtain ⟨b1, h⟩ := h
    refine rk_bald X hP (n := 700) h1 (fun _ _ => rfl) b1 dX6_advance_83 ?_
    refine lv_bipush (v := (59 : Int32)) hx hb dX6_advance_84 (by decide) ?_
    refine lv_icmp_ne (tgt := 107) hx hb dX6_advance_86 (by decide) (fun c2 => ?_) (fun c2 => ?_)
    · have h := h.1 c2
      refine lv_aload_n hx hb dX6_advance_107 rfl (lv_at hl 1 rfl) ?_
      refine lv_aload_n hx hb dX6_advance_108 rfl (lv_at hl 0 rfl) ?_
      refine rk_get X hP (C := RX6) (T := TX6) (N := 8) (ci := 6) wix_6 h0 rfl rfl 2 (by decide) (wi_9 _ (List.mem_of_getElem? (i := 17) rfl)) rfl rfl dX6_advance_109 ?_
      refine lv_topi (fun x2 ex2 => ?_)
      have h := h x2 ex2
      obtain ⟨b2, h⟩ := h
      refine rk_bald X hP (n := 700) h1 (fun _ _ => rfl) b2 dX6_advance_112 ?_
      refine lv_bipush (v := (48 : Int32)) hx hb dX6_advance_113 (by decide) ?_
      refine lv_icmp_lt (tgt := 137) hx hb dX6_advance_115 (by decide) (fun c3 => ?_) (fun c3 => ?_)
      · have h := h.1 c3
        exact tX6_advance_137 X _ _ _ h0 h1 h _ _ _ hP hS (lv_sub hl [0, 1] rfl)
      · have h := h.2 c3
        refine lv_aload_n hx hb dX6_advance_118 rfl (lv_at hl 1 rfl) ?_
        refine lv_aload_n hx hb dX6_advance_119 rfl (lv_at hl 0 rfl) ?_
        refine rk_get X hP (C := RX6) (T := TX6) (N := 8) (ci := 6) wix_6 h0 rfl rfl 2 (by decide) (wi_9 _ (List.mem_of_getElem? (i := 17) rfl)) rfl rfl dX6_advance_120 ?_
        refine lv_topi (fun x3 ex3 => ?_)
        have h := h x3 ex3
        obtain ⟨b3, h⟩ := h
        refine rk_bald X hP (n := 700) h1 (fun _ _ => rfl) b3 dX6_advance_123 ?_
        refine lv_bipush (v := (57 : Int32)) hx hb dX6_advance_124 (by decide) ?_
        refine lv_icmp_gt (tgt := 137) hx hb dX6_advance_126 (by decide) (fun c4 => ?_) (fun c4 => ?_)
        · have h := h.1 c4
          exact tX6_advance_137 X _ _ _ h0 h1 h _ _ _ hP hS (lv_sub hl [0, 1] rfl)
        · have h := h.2 c4
          refine lv_aload_n hx hb dX6_advance_129 rfl (lv_at hl 0 rfl) ?_
          refine lv_aload_n hx hb dX6_advance_130 rfl (lv_at hl 1 rfl) ?_
          refine rk_callv (va_runV (As := [.ref (B + v1)]) (rest := []) X.1 (mX6_takeDigits l D cy B v0 v1 s2 h0 h1 h) (cwV 1 hts (gW_V (wi_10 _ (List.mem_of_getElem? (i := 15) rfl)) (wi_10 _ (List.mem_of_getElem? (i := 16) rfl)) (wi_10 _ (List.mem_of_getElem? (i := 17) rfl)) (wi_10 _ (List.mem_of_getElem? (i := 2) rfl)) (wi_10 _ (List.mem_of_getElem? (i := 12) rfl))) rfl rfl rfl hd_X6_takeDigits ⟨Nat.le_of_ble_eq_true rfl, Nat.le_of_ble_eq_true rfl⟩) (rk_preV X hS hP h0 rfl rfl [.ref (B + v1)]) rfl rfl hl.1 rfl (lv_room (Nat.le_of_ble_eq_true rfl)) dX6_advance_131 ⟨Nat.zero_le _, Nat.zero_le _⟩) hS (fun _ h => h) (fun s3 H locs h hP hS => ?_)
          refine lv_goto (tgt := 142) hx hb dX6_advance_134 (by decide) ?_
          exact rk_vret X kX_len h hP hS dX6_advance_142
    · have h := h.2 c2
      refine lv_aload_n hx hb dX6_advance_89 rfl (lv_at hl 0 rfl) ?_
      refine lv_iconst (v := (2 : Int32)) hx hb dX6_advance_90 (by decide) ?_
      refine rk_puti X hP hD hS (C := RX6) (T := TX6) (N := 8) (ci := 6) wix_6 h0 rfl rfl tyX6 tyX6_ok nmX6 4 (by decide) (wi_9 _ (List.mem_of_getElem? (i := 19) rfl)) rfl rfl (by decide +kernel) (Nat.le_of_ble_eq_true rfl) rfl dX6_advance_91 (fun H locs hP hS => ?_)
      obtain ⟨s4, es4⟩ : ∃ z : St, z = u1 s2 v0 4 (2 : Int32) := ⟨_, rfl⟩
      rw [← es4] at hP
      have h := h s4 es4
      refine lv_aload_n hx hb dX6_advance_94 rfl (lv_at hl 0 rfl) ?_
      refine lv_dup hx hb dX6_advance_95 rfl ?_
      refine rk_get X hP (C := RX6) (T := TX6) (N := 8) (ci := 6) wix_6 h0 rfl rfl 2 (by decide) (wi_9 _ (List.mem_of_getElem? (i := 17) rfl)) rfl rfl dX6_advance_96 ?_
      refine lv_iconst (v := (1 : Int32)) hx hb dX6_advance_99 (by decide) ?_
      refine lv_iadd hx hb dX6_advance_100 ?_
      refine rk_puti X hP hD hS (C := RX6) (T := TX6) (N := 8) (ci := 6) wix_6 h0 rfl rfl tyX6 tyX6_ok nmX6 2 (by decide) (wi_9 _ (List.mem_of_getElem? (i := 17) rfl)) rfl rfl (by decide +kernel) (Nat.le_of_ble_eq_true rfl) rfl dX6_advance_101 (fun H locs hP hS => ?_)
      obtain ⟨s5, es5⟩ : ∃ z : St, z = u1 s4 v0 2 ((s4.1 v0 2) + (1 : Int32)) := ⟨_, rfl⟩
      rw [← es5] at hP
      have h := h s5 es5
      refine lv_goto (tgt := 142) hx hb dX6_advance_104 (by decide) ?_
      exact rk_vret X kX_len h hP hS dX6_advance_142
  · have h := h.2 c1
    refine lv_aload_n hx hb dX6_advance_70 rfl (lv_at hl 0 rfl) ?_
    refine lv_iconst (v := (3 : Int32)) hx hb dX6_advance_71 (by decide) ?_
    refine rk_puti X hP hD hS (C := RX6) (T := TX6) (N := 8) (ci := 6) wix_6 h0 rfl rfl tyX6 tyX6_ok nmX6 4 (by decide) (wi_9 _ (List.mem_of_getElem? (i := 19) rfl)) rfl rfl (by decide +kernel) (Nat.le_of_ble_eq_true rfl) rfl dX6_advance_72 (fun H locs hP hS => ?_)
    obtain ⟨s6, es6⟩ : ∃ z : St, z = u1 s2 v0 4 (3 : Int32) := ⟨_, rfl⟩
    rw [← es6] at hP
    have h := h s6 es6
    refine lv_goto (tgt := 142) hx hb dX6_advance_75 (by decide) ?_
    exact rk_vret X kX_len h hP hS dX6_advance_142
set_option maxRecDepth 100000 in
set_option maxHeartbeats 4000000 in
theorem tX6_advance_33 {p : Program} {l : Launch} {e : Env} {s : State} {m : MethodId} {av : Array Value} {below : List Frame} {meth : Method} {c : Code} {D : va_G} {cy : Nat → ClassId} {B : Nat} (X : kC p s m av meth c cX6_advance 2 none WALL RX6 D cy (AW B 346)) {post : St → Prop} {R0 : Nat → Nat → St → Prop} (hR0 : ∀ (v0 : Nat) (v1 : Nat) (σ : St), kX[v0]? = some 6 → kX[v1]? = some 20700 → R0 v0 v1 σ → ∀ (H : Heap) (locs : List Loc) (ls : Array Slot), va_P D vwCl (wW cy B kX σ) H → va_S (AW B 346) s.heap H locs → lv_has ls 2 [(0, .ref (B + v0)), (1, .ref (B + v1))] → W p l e (rmD 1) s m av below meth c H locs 0 0 (MQ below (va_Qv post (BW D cy B kX) (AW B 346)) av s 0 0 (AW B 346)) (F0 m 0 ls [])) : ∀ (v0 : Nat) (v1 : Nat) (σ : St), kX[v0]? = some 6 → kX[v1]? = some 20700 → wX6_advance_33 post R0 v0 v1 σ → ∀ (H : Heap) (locs : List Loc) (ls : Array Slot), va_P D vwCl (wW cy B kX σ) H → va_S (AW B 346) s.heap H locs → lv_has ls 2 [(0, .ref (B + v0)), (1, .ref (B + v1))] → W p l e (rmD 1) s m av below meth c H locs 0 0 (MQ below (va_Qv post (BW D cy B kX) (AW B 346)) av s 0 0 (AW B 346)) (F0 m 33 ls []) := by
  obtain ⟨⟨hx, hb, hml, hown, hts⟩, hr, hlk, hK, hN, hZ⟩ := id X
  have hD : ∀ σ, va_D (AW B 346) (wW cy B kX σ) := AW_D kX_len
  intro v0 v1 σ h0 h1 h H locs ls hP hS hl
  unfold wX6_advance_33 at h
  refine lv_aload_n hx hb dX6_advance_33 rfl (lv_at hl 0 rfl) ?_
  refine lv_dup hx hb dX6_advance_34 rfl ?_
  refine rk_get X hP (C := RX6) (T := TX6) (N := 8) (ci := 6) wix_6 h0 rfl rfl 2 (by decide) (wi_9 _ (List.mem_of_getElem? (i := 17) rfl)) rfl rfl dX6_advance_35 ?_
  refine lv_iconst (v := (1 : Int32)) hx hb dX6_advance_38 (by decide) ?_
  refine lv_iadd hx hb dX6_advance_39 ?_
  refine rk_puti X hP hD hS (C := RX6) (T := TX6) (N := 8) (ci := 6) wix_6 h0 rfl rfl tyX6 tyX6_ok nmX6 2 (by decide) (wi_9 _ (List.mem_of_getElem? (i := 17) rfl)) rfl rfl (by decide +kernel) (Nat.le_of_ble_eq_true rfl) rfl dX6_advance_40 (fun H locs hP hS => ?_)
  obtain ⟨s1, es1⟩ : ∃ z : St, z = u1 σ v0 2 ((σ.1 v0 2) + (1 : Int32)) := ⟨_, rfl⟩
  rw [← es1] at hP
  have h := h s1 es1
  refine lv_goto (tgt := 0) hx hb dX6_advance_43 (by decide) ?_
  exact hR0 _ _ _ h0 h1 h _ _ _ hP hS (lv_sub hl [0, 1] rfl)
set_option maxRecDepth 100000 in
set_option maxHeartbeats 4000000 in
theorem tX6_advance_0 {p : Program} {l : Launch} {e : Env} {s : State} {m : MethodId} {av : Array Value} {below : List Frame} {meth : Method} {c : Code} {D : va_G} {cy : Nat → ClassId} {B : Nat} (X : kC p s m av meth c cX6_advance 2 none WALL RX6 D cy (AW B 346)) {post : St → Prop} : ∀ (n : Nat) (v0 : Nat) (v1 : Nat) (σ : St), kX[v0]? = some 6 → kX[v1]? = some 20700 → wX6_advance_0 post n v0 v1 σ → ∀ (H : Heap) (locs : List Loc) (ls : Array Slot), va_P D vwCl (wW cy B kX σ) H → va_S (AW B 346) s.heap H locs → lv_has ls 2 [(0, .ref (B + v0)), (1, .ref (B + v1))] → W p l e (rmD 1) s m av below meth c H locs 0 0 (MQ below (va_Qv post (BW D cy B kX) (AW B 346)) av s 0 0 (AW B 346)) (F0 m 0 ls []) := by
  obtain ⟨⟨hx, hb, hml, hown, hts⟩, hr, hlk, hK, hN, hZ⟩ := id X
  have hD : ∀ σ, va_D (AW B 346) (wW cy B kX σ) := AW_D kX_len
  intro n
  induction n with
  | zero => intro v0 v1 σ h0 h1 h; exact absurd h id
  | succ n ih =>
    intro v0 v1 σ h0 h1 h H locs ls hP hS hl
    rw [wX6_advance_0] at h
    refine lv_aload_n hx hb dX6_advance_0 rfl (lv_at hl 0 rfl) ?_
    refine rk_get X hP (C := RX6) (T := TX6) (N := 8) (ci := 6) wix_6 h0 rfl rfl 2 (by decide) (wi_9 _ (List.mem_of_getElem? (i := 17) rfl)) rfl rfl dX6_advance_1 ?_
    refine lv_aload_n hx hb dX6_advance_4 rfl (lv_at hl 0 rfl) ?_
    refine rk_get X hP (C := RX6) (T := TX6) (N := 8) (ci := 6) wix_6 h0 rfl rfl 3 (by decide) (wi_9 _ (List.mem_of_getElem? (i := 18) rfl)) rfl rfl dX6_advance_5 ?_
    refine lv_icmp_ge (tgt := 46) hx hb dX6_advance_8 (by decide) (fun c1 => ?_) (fun c1 => ?_)
    · have h := h.1 c1
      exact tX6_advance_46 X _ _ _ h0 h1 h _ _ _ hP hS (lv_sub hl [0, 1] rfl)
    · have h := h.2 c1
      refine lv_aload_n hx hb dX6_advance_11 rfl (lv_at hl 1 rfl) ?_
      refine lv_aload_n hx hb dX6_advance_12 rfl (lv_at hl 0 rfl) ?_
      refine rk_get X hP (C := RX6) (T := TX6) (N := 8) (ci := 6) wix_6 h0 rfl rfl 2 (by decide) (wi_9 _ (List.mem_of_getElem? (i := 17) rfl)) rfl rfl dX6_advance_13 ?_
      refine lv_topi (fun x1 ex1 => ?_)
      have h := h x1 ex1
      obtain ⟨b1, h⟩ := h
      refine rk_bald X hP (n := 700) h1 (fun _ _ => rfl) b1 dX6_advance_16 ?_
      refine lv_bipush (v := (32 : Int32)) hx hb dX6_advance_17 (by decide) ?_
      refine lv_icmp_eq (tgt := 33) hx hb dX6_advance_19 (by decide) (fun c2 => ?_) (fun c2 => ?_)
      · have h := h.1 c2
        exact tX6_advance_33 X ih _ _ _ h0 h1 h _ _ _ hP hS (lv_sub hl [0, 1] rfl)
      · have h := h.2 c2
        refine lv_aload_n hx hb dX6_advance_22 rfl (lv_at hl 1 rfl) ?_
        refine lv_aload_n hx hb dX6_advance_23 rfl (lv_at hl 0 rfl) ?_
        refine rk_get X hP (C := RX6) (T := TX6) (N := 8) (ci := 6) wix_6 h0 rfl rfl 2 (by decide) (wi_9 _ (List.mem_of_getElem? (i := 17) rfl)) rfl rfl dX6_advance_24 ?_
        refine lv_topi (fun x2 ex2 => ?_)
        have h := h x2 ex2
        obtain ⟨b2, h⟩ := h
        refine rk_bald X hP (n := 700) h1 (fun _ _ => rfl) b2 dX6_advance_27 ?_
        refine lv_bipush (v := (10 : Int32)) hx hb dX6_advance_28 (by decide) ?_
        refine lv_icmp_ne (tgt := 46) hx hb dX6_advance_30 (by decide) (fun c3 => ?_) (fun c3 => ?_)
        · have h := h.1 c3
          exact tX6_advance_46 X _ _ _ h0 h1 h _ _ _ hP hS (lv_sub hl [0, 1] rfl)
        · have h := h.2 c3
          exact tX6_advance_33 X ih _ _ _ h0 h1 h _ _ _ hP hS (lv_sub hl [0, 1] rfl)
set_option maxRecDepth 100000 in
set_option maxHeartbeats 4000000 in
theorem mX6_advance (l : Launch) (D : va_G) (cy : Nat → ClassId) (B : Nat) (v0 : Nat) (v1 : Nat) (σ : St) (h0 : kX[v0]? = some 6) (h1 : kX[v1]? = some 20700) {post : St → Prop} (h : wX6_advance v0 v1 σ post) : Met l yX6_advance (Cond.code yX6_advance cX6_advance 2 none :: WALL) (rmD 1) (PcW D cy B kX σ [.ref (B + v0), .ref (B + v1)]) (va_Qv post (BW D cy B kX) (AW B 346)) 0 0 (AW B 346) := by
  refine Met.ofK (cc := cX6_advance) (maxL := 2) (ret := none) (by decide +kernel) rfl kX_len ?_
  intro p e s m below meth c X hP
  obtain ⟨⟨hx, hb, hml, hown, hts⟩, hr, hlk, hK, hN, hZ⟩ := id X
  have hD : ∀ σ, va_D (AW B 346) (wW cy B kX σ) := AW_D kX_len
  have hS : va_S (AW B 346) s.heap s.heap [] := va_S.rf
  have hl := lv_entry ([.ref (B + v0), .ref (B + v1)]) (n := 2) (Nat.le_of_ble_eq_true rfl)
  rw [lg_entry_eq]
  generalize (lg_sl ([.ref (B + v0), .ref (B + v1)]) ++ List.replicate (2 - (lg_sl ([.ref (B + v0), .ref (B + v1)])).length) Slot.unset).toArray = ls at hl ⊢
  have hl : lv_has ls 2 [(0, .ref (B + v0)), (1, .ref (B + v1))] := hl
  unfold wX6_advance at h
  obtain ⟨j, h⟩ := h
  exact tX6_advance_0 X j _ _ _ h0 h1 h _ _ _ hP hS (lv_sub hl [0, 1] rfl)

theorem hd_X6_keyword : yX6_keyword.cls = RX6 ∧ yX6_keyword.cls ≠ "java/lang/invoke/MethodHandle" ∧ yX6_keyword.cls ≠ "java/lang/invoke/VarHandle" ∧ (parseMethodDescriptor yX6_keyword.desc).map (fun d => d.parameters.length) = some 0 := by decide +kernel
set_option maxRecDepth 100000 in
set_option maxHeartbeats 4000000 in
theorem tX6_keyword_9 {p : Program} {l : Launch} {e : Env} {s : State} {m : MethodId} {av : Array Value} {below : List Frame} {meth : Method} {c : Code} {D : va_G} {cy : Nat → ClassId} {B : Nat} (X : kC p s m av meth c cX6_keyword 2 (some .int) WALL RX6 D cy (AW B 346)) {post : Int32 → St → Prop} : ∀ (n : Nat) (v0 : Nat) (v1 : Int32) (σ : St), kX[v0]? = some 6 → wX6_keyword_9 post n v0 v1 σ → ∀ (H : Heap) (locs : List Loc) (ls : Array Slot), va_P D vwCl (wW cy B kX σ) H → va_S (AW B 346) s.heap H locs → lv_has ls 2 [(0, .ref (B + v0)), (1, .int v1)] → W p l e (rmD 0) s m av below meth c H locs 0 0 (MQ below (va_Qi post (BW D cy B kX) (AW B 346)) av s 0 0 (AW B 346)) (F0 m 9 ls []) := by
  obtain ⟨⟨hx, hb, hml, hown, hts⟩, hr, hlk, hK, hN, hZ⟩ := id X
  have hD : ∀ σ, va_D (AW B 346) (wW cy B kX σ) := AW_D kX_len
  intro n
  induction n with
  | zero => intro v0 v1 σ h0 h; exact absurd h id
  | succ n ih =>
    intro v0 v1 σ h0 h H locs ls hP hS hl
    rw [wX6_keyword_9] at h
    refine lv_iload_n hx hb dX6_keyword_9 rfl (lv_at hl 1 rfl) ?_
    refine lv_aload_n hx hb dX6_keyword_10 rfl (lv_at hl 0 rfl) ?_
    refine rk_get X hP (C := RX6) (T := TX6) (N := 8) (ci := 6) wix_6 h0 rfl rfl 1 (by decide) (wi_9 _ (List.mem_of_getElem? (i := 16) rfl)) rfl rfl dX6_keyword_11 ?_
    refine rk_alen X hP (n := 6) (t0 := 1) (ty := .int) (klX_X6_1 h0) rfl rfl dX6_keyword_14 ?_
    refine lv_icmp_ge (tgt := 39) hx hb dX6_keyword_15 (by decide) (fun c1 => ?_) (fun c1 => ?_)
    · have h := h.1 c1
      refine lv_iconst (v := (-1 : Int32)) hx hb dX6_keyword_39 (by decide) ?_
      exact rk_iret X rfl kX_len h hP hS dX6_keyword_40
    · have h := h.2 c1
      refine lv_aload_n hx hb dX6_keyword_18 rfl (lv_at hl 0 rfl) ?_
      refine rk_get X hP (C := RX6) (T := TX6) (N := 8) (ci := 6) wix_6 h0 rfl rfl 1 (by decide) (wi_9 _ (List.mem_of_getElem? (i := 16) rfl)) rfl rfl dX6_keyword_19 ?_
      refine lv_iload_n hx hb dX6_keyword_22 rfl (lv_at hl 1 rfl) ?_
      obtain ⟨b1, h⟩ := h
      refine rk_iald X hP (n := 6) (klX_X6_1 h0) (fun _ _ => rfl) b1 dX6_keyword_23 ?_
      refine lv_aload_n hx hb dX6_keyword_24 rfl (lv_at hl 0 rfl) ?_
      refine rk_get X hP (C := RX6) (T := TX6) (N := 8) (ci := 6) wix_6 h0 rfl rfl 6 (by decide) (wi_9 _ (List.mem_of_getElem? (i := 21) rfl)) rfl rfl dX6_keyword_25 ?_
      refine lv_icmp_ne (tgt := 33) hx hb dX6_keyword_28 (by decide) (fun c2 => ?_) (fun c2 => ?_)
      · have h := h.1 c2
        obtain ⟨x1, ex1⟩ : ∃ y : Int32, y = v1 + (1 : Int32) := ⟨_, rfl⟩
        have h := h x1 ex1
        refine lv_iinc (v := x1) (lv' := [(1, .int x1), (0, .ref (B + v0))]) hx hb dX6_keyword_33 hl (k := 1) rfl (by rw [ex1]; rfl) (by decide) rfl (fun ls hl => ?_)
        refine lv_goto (tgt := 9) hx hb dX6_keyword_36 (by decide) ?_
        exact ih _ _ _ h0 h _ _ _ hP hS (lv_sub hl [1, 0] rfl)
      · have h := h.2 c2
        refine lv_iload_n hx hb dX6_keyword_31 rfl (lv_at hl 1 rfl) ?_
        exact rk_iret X rfl kX_len h hP hS dX6_keyword_32
set_option maxRecDepth 100000 in
set_option maxHeartbeats 4000000 in
theorem mX6_keyword (l : Launch) (D : va_G) (cy : Nat → ClassId) (B : Nat) (v0 : Nat) (σ : St) (h0 : kX[v0]? = some 6) {post : Int32 → St → Prop} (h : wX6_keyword v0 σ post) : Met l yX6_keyword (Cond.code yX6_keyword cX6_keyword 2 (some .int) :: WALL) (rmD 0) (PcW D cy B kX σ [.ref (B + v0)]) (va_Qi post (BW D cy B kX) (AW B 346)) 0 0 (AW B 346) := by
  refine Met.ofK (cc := cX6_keyword) (maxL := 2) (ret := (some .int)) (by decide +kernel) rfl kX_len ?_
  intro p e s m below meth c X hP
  obtain ⟨⟨hx, hb, hml, hown, hts⟩, hr, hlk, hK, hN, hZ⟩ := id X
  have hD : ∀ σ, va_D (AW B 346) (wW cy B kX σ) := AW_D kX_len
  have hS : va_S (AW B 346) s.heap s.heap [] := va_S.rf
  have hl := lv_entry ([.ref (B + v0)]) (n := 2) (Nat.le_of_ble_eq_true rfl)
  rw [lg_entry_eq]
  generalize (lg_sl ([.ref (B + v0)]) ++ List.replicate (2 - (lg_sl ([.ref (B + v0)])).length) Slot.unset).toArray = ls at hl ⊢
  have hl : lv_has ls 2 [(0, .ref (B + v0))] := hl
  unfold wX6_keyword at h
  refine lv_aload_n hx hb dX6_keyword_0 rfl (lv_at hl 0 rfl) ?_
  refine rk_get X hP (C := RX6) (T := TX6) (N := 8) (ci := 6) wix_6 h0 rfl rfl 4 (by decide) (wi_9 _ (List.mem_of_getElem? (i := 19) rfl)) rfl rfl dX6_keyword_1 ?_
  refine lv_if_ne (tgt := 39) hx hb dX6_keyword_4 (by decide) (fun c1 => ?_) (fun c1 => ?_)
  · have h := h.1 c1
    refine lv_iconst (v := (-1 : Int32)) hx hb dX6_keyword_39 (by decide) ?_
    exact rk_iret X rfl kX_len h hP hS dX6_keyword_40
  · have h := h.2 c1
    refine lv_iconst (v := (0 : Int32)) hx hb dX6_keyword_7 (by decide) ?_
    refine lv_istore_n (lv' := [(1, .int (0 : Int32)), (0, .ref (B + v0))]) hx hb dX6_keyword_8 rfl hl (by decide) rfl (fun ls hl => ?_)
    obtain ⟨j, h⟩ := h
    exact tX6_keyword_9 X j _ _ _ h0 h _ _ _ hP hS (lv_sub hl [1, 0] rfl)

theorem hd_X6_fail : yX6_fail.cls = RX6 ∧ yX6_fail.cls ≠ "java/lang/invoke/MethodHandle" ∧ yX6_fail.cls ≠ "java/lang/invoke/VarHandle" ∧ (parseMethodDescriptor yX6_fail.desc).map (fun d => d.parameters.length) = some 1 := by decide +kernel
set_option maxRecDepth 100000 in
set_option maxHeartbeats 4000000 in
theorem mX6_fail (l : Launch) (D : va_G) (cy : Nat → ClassId) (B : Nat) (v0 : Nat) (v1 : Int32) (σ : St) (h0 : kX[v0]? = some 6) {post : Bool → St → Prop} (h : wX6_fail v0 v1 σ post) : Met l yX6_fail (Cond.code yX6_fail cX6_fail 2 (some .boolean) :: WALL) (rmD 0) (PcW D cy B kX σ [.ref (B + v0), .int v1]) (Qz post D cy B kX 346) 0 0 (AW B 346) := by
  refine Met.ofK (cc := cX6_fail) (maxL := 2) (ret := (some .boolean)) (by decide +kernel) rfl kX_len ?_
  intro p e s m below meth c X hP
  obtain ⟨⟨hx, hb, hml, hown, hts⟩, hr, hlk, hK, hN, hZ⟩ := id X
  have hD : ∀ σ, va_D (AW B 346) (wW cy B kX σ) := AW_D kX_len
  have hS : va_S (AW B 346) s.heap s.heap [] := va_S.rf
  have hl := lv_entry ([.ref (B + v0), .int v1]) (n := 2) (Nat.le_of_ble_eq_true rfl)
  rw [lg_entry_eq]
  generalize (lg_sl ([.ref (B + v0), .int v1]) ++ List.replicate (2 - (lg_sl ([.ref (B + v0), .int v1])).length) Slot.unset).toArray = ls at hl ⊢
  have hl : lv_has ls 2 [(0, .ref (B + v0)), (1, .int v1)] := hl
  unfold wX6_fail at h
  refine lv_aload_n hx hb dX6_fail_0 rfl (lv_at hl 0 rfl) ?_
  refine lv_bipush (v := (-2 : Int32)) hx hb dX6_fail_1 (by decide) ?_
  refine lv_bipush (v := (8 : Int32)) hx hb dX6_fail_3 (by decide) ?_
  refine lv_aload_n hx hb dX6_fail_5 rfl (lv_at hl 0 rfl) ?_
  refine rk_get X hP (C := RX6) (T := TX6) (N := 8) (ci := 6) wix_6 h0 rfl rfl 5 (by decide) (wi_9 _ (List.mem_of_getElem? (i := 20) rfl)) rfl rfl dX6_fail_6 ?_
  refine lv_imul hx hb dX6_fail_9 ?_
  refine lv_iload_n hx hb dX6_fail_10 rfl (lv_at hl 1 rfl) ?_
  refine lv_iadd hx hb dX6_fail_11 ?_
  refine lv_isub hx hb dX6_fail_12 ?_
  refine rk_puti X hP hD hS (C := RX6) (T := TX6) (N := 8) (ci := 6) wix_6 h0 rfl rfl tyX6 tyX6_ok nmX6 7 (by decide) (wi_9 _ (List.mem_of_getElem? (i := 22) rfl)) rfl rfl (by decide +kernel) (Nat.le_of_ble_eq_true rfl) rfl dX6_fail_13 (fun H locs hP hS => ?_)
  obtain ⟨s1, es1⟩ : ∃ z : St, z = u1 σ v0 7 ((-2 : Int32) - (((8 : Int32) * (σ.1 v0 5)) + v1)) := ⟨_, rfl⟩
  rw [← es1] at hP
  have h := h s1 es1
  refine lv_iconst (v := (0 : Int32)) hx hb dX6_fail_16 (by decide) ?_
  exact rk_zret X kX_len false h hP hS dX6_fail_17

theorem hd_X6_isNumber : yX6_isNumber.cls = RX6 ∧ yX6_isNumber.cls ≠ "java/lang/invoke/MethodHandle" ∧ yX6_isNumber.cls ≠ "java/lang/invoke/VarHandle" ∧ (parseMethodDescriptor yX6_isNumber.desc).map (fun d => d.parameters.length) = some 2 := by decide +kernel
set_option maxRecDepth 100000 in
set_option maxHeartbeats 4000000 in
theorem tX6_isNumber_30 {p : Program} {l : Launch} {e : Env} {s : State} {m : MethodId} {av : Array Value} {below : List Frame} {meth : Method} {c : Code} {D : va_G} {cy : Nat → ClassId} {B : Nat} (X : kC p s m av meth c cX6_isNumber 3 (some .boolean) WALL RX6 D cy (AW B 346)) {post : Bool → St → Prop} : ∀ (v0 : Nat) (σ : St), kX[v0]? = some 6 → wX6_isNumber_30 post v0 σ → ∀ (H : Heap) (locs : List Loc) (ls : Array Slot), va_P D vwCl (wW cy B kX σ) H → va_S (AW B 346) s.heap H locs → lv_has ls 3 [(0, .ref (B + v0))] → W p l e (rmD 1) s m av below meth c H locs 0 0 (MQ below (Qz post D cy B kX 346) av s 0 0 (AW B 346)) (F0 m 30 ls []) := by
  obtain ⟨⟨hx, hb, hml, hown, hts⟩, hr, hlk, hK, hN, hZ⟩ := id X
  have hD : ∀ σ, va_D (AW B 346) (wW cy B kX σ) := AW_D kX_len
  intro v0 σ h0 h H locs ls hP hS hl
  unfold wX6_isNumber_30 at h
  refine lv_aload_n hx hb dX6_isNumber_30 rfl (lv_at hl 0 rfl) ?_
  refine lv_iconst (v := (4 : Int32)) hx hb dX6_isNumber_31 (by decide) ?_
  refine rk_callz (va_runV (As := [.int (4 : Int32)]) (rest := []) X.1 (mX6_fail l D cy B v0 (4 : Int32) σ h0 h) (cwV 1 hts (gW_V (wi_11 _ (List.mem_of_getElem? (i := 0) rfl)) (wi_11 _ (List.mem_of_getElem? (i := 1) rfl)) (wi_11 _ (List.mem_of_getElem? (i := 2) rfl)) (wi_10 _ (List.mem_of_getElem? (i := 2) rfl)) (wi_10 _ (List.mem_of_getElem? (i := 22) rfl))) rfl rfl rfl hd_X6_fail ⟨Nat.le_of_ble_eq_true rfl, Nat.le_of_ble_eq_true rfl⟩) (rk_preV X hS hP h0 rfl rfl [.int (4 : Int32)]) rfl rfl hl.1 rfl (lv_room (Nat.le_of_ble_eq_true rfl)) dX6_isNumber_32 ⟨Nat.zero_le _, Nat.zero_le _⟩) hS (fun _ h => h) (fun r1 s1 H locs h hP hS => ?_)
  refine lv_if_eq (tgt := 42) hx hb dX6_isNumber_35 (by decide) (fun c1 => ?_) (fun c1 => ?_)
  · have h := h.1 (b2i_f c1)
    refine lv_iconst (v := (0 : Int32)) hx hb dX6_isNumber_42 (by decide) ?_
    exact rk_zret X kX_len false h hP hS dX6_isNumber_43
  · have h := h.2 (b2i_t c1)
    refine lv_iconst (v := (1 : Int32)) hx hb dX6_isNumber_38 (by decide) ?_
    refine lv_goto (tgt := 43) hx hb dX6_isNumber_39 (by decide) ?_
    exact rk_zret X kX_len true h hP hS dX6_isNumber_43
set_option maxRecDepth 100000 in
set_option maxHeartbeats 4000000 in
theorem mX6_isNumber (l : Launch) (D : va_G) (cy : Nat → ClassId) (B : Nat) (v0 : Nat) (v1 : Int32) (v2 : Int32) (σ : St) (h0 : kX[v0]? = some 6) {post : Bool → St → Prop} (h : wX6_isNumber v0 v1 v2 σ post) : Met l yX6_isNumber (Cond.code yX6_isNumber cX6_isNumber 3 (some .boolean) :: WALL) (rmD 1) (PcW D cy B kX σ [.ref (B + v0), .int v1, .int v2]) (Qz post D cy B kX 346) 0 0 (AW B 346) := by
  refine Met.ofK (cc := cX6_isNumber) (maxL := 3) (ret := (some .boolean)) (by decide +kernel) rfl kX_len ?_
  intro p e s m below meth c X hP
  obtain ⟨⟨hx, hb, hml, hown, hts⟩, hr, hlk, hK, hN, hZ⟩ := id X
  have hD : ∀ σ, va_D (AW B 346) (wW cy B kX σ) := AW_D kX_len
  have hS : va_S (AW B 346) s.heap s.heap [] := va_S.rf
  have hl := lv_entry ([.ref (B + v0), .int v1, .int v2]) (n := 3) (Nat.le_of_ble_eq_true rfl)
  rw [lg_entry_eq]
  generalize (lg_sl ([.ref (B + v0), .int v1, .int v2]) ++ List.replicate (3 - (lg_sl ([.ref (B + v0), .int v1, .int v2])).length) Slot.unset).toArray = ls at hl ⊢
  have hl : lv_has ls 3 [(0, .ref (B + v0)), (1, .int v1), (2, .int v2)] := hl
  unfold wX6_isNumber at h
  refine lv_aload_n hx hb dX6_isNumber_0 rfl (lv_at hl 0 rfl) ?_
  refine rk_get X hP (C := RX6) (T := TX6) (N := 8) (ci := 6) wix_6 h0 rfl rfl 4 (by decide) (wi_9 _ (List.mem_of_getElem? (i := 19) rfl)) rfl rfl dX6_isNumber_1 ?_
  refine lv_iconst (v := (1 : Int32)) hx hb dX6_isNumber_4 (by decide) ?_
  refine lv_icmp_eq (tgt := 14) hx hb dX6_isNumber_5 (by decide) (fun c1 => ?_) (fun c1 => ?_)
  · have h := h.1 c1
    refine lv_aload_n hx hb dX6_isNumber_14 rfl (lv_at hl 0 rfl) ?_
    refine rk_get X hP (C := RX6) (T := TX6) (N := 8) (ci := 6) wix_6 h0 rfl rfl 6 (by decide) (wi_9 _ (List.mem_of_getElem? (i := 21) rfl)) rfl rfl dX6_isNumber_15 ?_
    refine lv_iload_n hx hb dX6_isNumber_18 rfl (lv_at hl 1 rfl) ?_
    refine lv_icmp_lt (tgt := 30) hx hb dX6_isNumber_19 (by decide) (fun c2 => ?_) (fun c2 => ?_)
    · have h := h.1 c2
      exact tX6_isNumber_30 X _ _ h0 h _ _ _ hP hS (lv_sub hl [0] rfl)
    · have h := h.2 c2
      refine lv_aload_n hx hb dX6_isNumber_22 rfl (lv_at hl 0 rfl) ?_
      refine rk_get X hP (C := RX6) (T := TX6) (N := 8) (ci := 6) wix_6 h0 rfl rfl 6 (by decide) (wi_9 _ (List.mem_of_getElem? (i := 21) rfl)) rfl rfl dX6_isNumber_23 ?_
      refine lv_iload_n hx hb dX6_isNumber_26 rfl (lv_at hl 2 rfl) ?_
      refine lv_icmp_le (tgt := 38) hx hb dX6_isNumber_27 (by decide) (fun c3 => ?_) (fun c3 => ?_)
      · have h := h.1 c3
        refine lv_iconst (v := (1 : Int32)) hx hb dX6_isNumber_38 (by decide) ?_
        refine lv_goto (tgt := 43) hx hb dX6_isNumber_39 (by decide) ?_
        exact rk_zret X kX_len true h hP hS dX6_isNumber_43
      · have h := h.2 c3
        exact tX6_isNumber_30 X _ _ h0 h _ _ _ hP hS (lv_sub hl [0] rfl)
  · have h := h.2 c1
    refine lv_aload_n hx hb dX6_isNumber_8 rfl (lv_at hl 0 rfl) ?_
    refine lv_iconst (v := (1 : Int32)) hx hb dX6_isNumber_9 (by decide) ?_
    refine rk_callz (va_runV (As := [.int (1 : Int32)]) (rest := []) X.1 (mX6_fail l D cy B v0 (1 : Int32) σ h0 h) (cwV 1 hts (gW_V (wi_11 _ (List.mem_of_getElem? (i := 0) rfl)) (wi_11 _ (List.mem_of_getElem? (i := 1) rfl)) (wi_11 _ (List.mem_of_getElem? (i := 2) rfl)) (wi_10 _ (List.mem_of_getElem? (i := 2) rfl)) (wi_10 _ (List.mem_of_getElem? (i := 22) rfl))) rfl rfl rfl hd_X6_fail ⟨Nat.le_of_ble_eq_true rfl, Nat.le_of_ble_eq_true rfl⟩) (rk_preV X hS hP h0 rfl rfl [.int (1 : Int32)]) rfl rfl hl.1 rfl (lv_room (Nat.le_of_ble_eq_true rfl)) dX6_isNumber_10 ⟨Nat.zero_le _, Nat.zero_le _⟩) hS (fun _ h => h) (fun r1 s1 H locs h hP hS => ?_)
    exact rk_zret X kX_len r1 h hP hS dX6_isNumber_13

theorem hd_X6_takeNumber : yX6_takeNumber.cls = RX6 ∧ yX6_takeNumber.cls ≠ "java/lang/invoke/MethodHandle" ∧ yX6_takeNumber.cls ≠ "java/lang/invoke/VarHandle" ∧ (parseMethodDescriptor yX6_takeNumber.desc).map (fun d => d.parameters.length) = some 3 := by decide +kernel
set_option maxRecDepth 100000 in
set_option maxHeartbeats 4000000 in
theorem mX6_takeNumber (l : Launch) (D : va_G) (cy : Nat → ClassId) (B : Nat) (v0 : Nat) (v1 : Nat) (v2 : Int32) (v3 : Int32) (σ : St) (h0 : kX[v0]? = some 6) (h1 : kX[v1]? = some 20700) {post : Bool → St → Prop} (h : wX6_takeNumber v0 v1 v2 v3 σ post) : Met l yX6_takeNumber (Cond.code yX6_takeNumber cX6_takeNumber 4 (some .boolean) :: WALL) (rmD 2) (PcW D cy B kX σ [.ref (B + v0), .ref (B + v1), .int v2, .int v3]) (Qz post D cy B kX 346) 0 0 (AW B 346) := by
  refine Met.ofK (cc := cX6_takeNumber) (maxL := 4) (ret := (some .boolean)) (by decide +kernel) rfl kX_len ?_
  intro p e s m below meth c X hP
  obtain ⟨⟨hx, hb, hml, hown, hts⟩, hr, hlk, hK, hN, hZ⟩ := id X
  have hD : ∀ σ, va_D (AW B 346) (wW cy B kX σ) := AW_D kX_len
  have hS : va_S (AW B 346) s.heap s.heap [] := va_S.rf
  have hl := lv_entry ([.ref (B + v0), .ref (B + v1), .int v2, .int v3]) (n := 4) (Nat.le_of_ble_eq_true rfl)
  rw [lg_entry_eq]
  generalize (lg_sl ([.ref (B + v0), .ref (B + v1), .int v2, .int v3]) ++ List.replicate (4 - (lg_sl ([.ref (B + v0), .ref (B + v1), .int v2, .int v3])).length) Slot.unset).toArray = ls at hl ⊢
  have hl : lv_has ls 4 [(0, .ref (B + v0)), (1, .ref (B + v1)), (2, .int v2), (3, .int v3)] := hl
  unfold wX6_takeNumber at h
  refine lv_aload_n hx hb dX6_takeNumber_0 rfl (lv_at hl 0 rfl) ?_
  refine lv_aload_n hx hb dX6_takeNumber_1 rfl (lv_at hl 1 rfl) ?_
  refine rk_callv (va_runV (As := [.ref (B + v1)]) (rest := []) X.1 (mX6_advance l D cy B v0 v1 σ h0 h1 h) (cwV 1 hts (gW_V (wi_11 _ (List.mem_of_getElem? (i := 3) rfl)) (wi_11 _ (List.mem_of_getElem? (i := 4) rfl)) (wi_11 _ (List.mem_of_getElem? (i := 5) rfl)) (wi_10 _ (List.mem_of_getElem? (i := 2) rfl)) (wi_10 _ (List.mem_of_getElem? (i := 14) rfl))) rfl rfl rfl hd_X6_advance ⟨Nat.le_of_ble_eq_true rfl, Nat.le_of_ble_eq_true rfl⟩) (rk_preV X hS hP h0 rfl rfl [.ref (B + v1)]) rfl rfl hl.1 rfl (lv_room (Nat.le_of_ble_eq_true rfl)) dX6_takeNumber_2 ⟨Nat.zero_le _, Nat.zero_le _⟩) hS (fun _ h => h) (fun s1 H locs h hP hS => ?_)
  refine lv_aload_n hx hb dX6_takeNumber_5 rfl (lv_at hl 0 rfl) ?_
  refine lv_iload_n hx hb dX6_takeNumber_6 rfl (lv_at hl 2 rfl) ?_
  refine lv_iload_n hx hb dX6_takeNumber_7 rfl (lv_at hl 3 rfl) ?_
  refine rk_callz (va_runV (As := [.int v2, .int v3]) (rest := []) X.1 (mX6_isNumber l D cy B v0 v2 v3 s1 h0 h) (cwV 2 hts (gW_V (wi_11 _ (List.mem_of_getElem? (i := 6) rfl)) (wi_11 _ (List.mem_of_getElem? (i := 7) rfl)) (wi_11 _ (List.mem_of_getElem? (i := 8) rfl)) (wi_10 _ (List.mem_of_getElem? (i := 2) rfl)) (wi_10 _ (List.mem_of_getElem? (i := 23) rfl))) rfl rfl rfl hd_X6_isNumber ⟨Nat.le_of_ble_eq_true rfl, Nat.le_of_ble_eq_true rfl⟩) (rk_preV X hS hP h0 rfl rfl [.int v2, .int v3]) rfl rfl hl.1 rfl (lv_room (Nat.le_of_ble_eq_true rfl)) dX6_takeNumber_8 ⟨Nat.zero_le _, Nat.zero_le _⟩) hS (fun _ h => h) (fun r1 s2 H locs h hP hS => ?_)
  exact rk_zret X kX_len r1 h hP hS dX6_takeNumber_11

theorem hd_X6_isPrime : yX6_isPrime.cls ≠ "java/lang/invoke/MethodHandle" ∧ yX6_isPrime.cls ≠ "java/lang/invoke/VarHandle" ∧ (parseMethodDescriptor yX6_isPrime.desc).map (fun d => d.parameters.length) = some 1 := by decide +kernel
set_option maxRecDepth 100000 in
set_option maxHeartbeats 4000000 in
theorem tX6_isPrime_2 {p : Program} {l : Launch} {e : Env} {s : State} {m : MethodId} {av : Array Value} {below : List Frame} {meth : Method} {c : Code} {D : va_G} {cy : Nat → ClassId} {B : Nat} (X : kC p s m av meth c cX6_isPrime 2 (some .boolean) WALL RX6 D cy (AW B 346)) {post : Bool → St → Prop} : ∀ (n : Nat) (v0 : Int32) (v1 : Int32) (σ : St), wX6_isPrime_2 post n v0 v1 σ → ∀ (H : Heap) (locs : List Loc) (ls : Array Slot), va_P D vwCl (wW cy B kX σ) H → va_S (AW B 346) s.heap H locs → lv_has ls 2 [(0, .int v0), (1, .int v1)] → W p l e (rmD 0) s m av below meth c H locs 0 0 (MQ below (Qz post D cy B kX 346) av s 0 0 (AW B 346)) (F0 m 2 ls []) := by
  obtain ⟨⟨hx, hb, hml, hown, hts⟩, hr, hlk, hK, hN, hZ⟩ := id X
  have hD : ∀ σ, va_D (AW B 346) (wW cy B kX σ) := AW_D kX_len
  intro n
  induction n with
  | zero => intro v0 v1 σ h; exact absurd h id
  | succ n ih =>
    intro v0 v1 σ h H locs ls hP hS hl
    rw [wX6_isPrime_2] at h
    refine lv_iload_n hx hb dX6_isPrime_2 rfl (lv_at hl 1 rfl) ?_
    refine lv_iload_n hx hb dX6_isPrime_3 rfl (lv_at hl 0 rfl) ?_
    refine lv_icmp_ge (tgt := 21) hx hb dX6_isPrime_4 (by decide) (fun c1 => ?_) (fun c1 => ?_)
    · have h := h.1 c1
      refine lv_iload_n hx hb dX6_isPrime_21 rfl (lv_at hl 0 rfl) ?_
      refine lv_iconst (v := (1 : Int32)) hx hb dX6_isPrime_22 (by decide) ?_
      refine lv_icmp_le (tgt := 30) hx hb dX6_isPrime_23 (by decide) (fun c2 => ?_) (fun c2 => ?_)
      · have h := h.1 c2
        refine lv_iconst (v := (0 : Int32)) hx hb dX6_isPrime_30 (by decide) ?_
        exact rk_zret X kX_len false h hP hS dX6_isPrime_31
      · have h := h.2 c2
        refine lv_iconst (v := (1 : Int32)) hx hb dX6_isPrime_26 (by decide) ?_
        refine lv_goto (tgt := 31) hx hb dX6_isPrime_27 (by decide) ?_
        exact rk_zret X kX_len true h hP hS dX6_isPrime_31
    · have h := h.2 c1
      refine lv_iload_n hx hb dX6_isPrime_7 rfl (lv_at hl 0 rfl) ?_
      refine lv_iload_n hx hb dX6_isPrime_8 rfl (lv_at hl 1 rfl) ?_
      obtain ⟨z1, h⟩ := h
      refine lv_irem hx hb dX6_isPrime_9 z1 ?_
      refine lv_if_ne (tgt := 15) hx hb dX6_isPrime_10 (by decide) (fun c3 => ?_) (fun c3 => ?_)
      · have h := h.1 c3
        obtain ⟨x1, ex1⟩ : ∃ y : Int32, y = v1 + (1 : Int32) := ⟨_, rfl⟩
        have h := h x1 ex1
        refine lv_iinc (v := x1) (lv' := [(1, .int x1), (0, .int v0)]) hx hb dX6_isPrime_15 hl (k := 1) rfl (by rw [ex1]; rfl) (by decide) rfl (fun ls hl => ?_)
        refine lv_goto (tgt := 2) hx hb dX6_isPrime_18 (by decide) ?_
        exact ih _ _ _ h _ _ _ hP hS (lv_sub hl [1, 0] rfl)
      · have h := h.2 c3
        refine lv_iconst (v := (0 : Int32)) hx hb dX6_isPrime_13 (by decide) ?_
        exact rk_zret X kX_len false h hP hS dX6_isPrime_14
set_option maxRecDepth 100000 in
set_option maxHeartbeats 4000000 in
theorem mX6_isPrime (l : Launch) (D : va_G) (cy : Nat → ClassId) (B : Nat) (v0 : Int32) (σ : St) {post : Bool → St → Prop} (h : wX6_isPrime v0 σ post) : Met l yX6_isPrime (Cond.code yX6_isPrime cX6_isPrime 2 (some .boolean) :: WALL) (rmD 0) (PcW D cy B kX σ [.int v0]) (Qz post D cy B kX 346) 0 0 (AW B 346) := by
  refine Met.ofK (cc := cX6_isPrime) (maxL := 2) (ret := (some .boolean)) (by decide +kernel) rfl kX_len ?_
  intro p e s m below meth c X hP
  obtain ⟨⟨hx, hb, hml, hown, hts⟩, hr, hlk, hK, hN, hZ⟩ := id X
  have hD : ∀ σ, va_D (AW B 346) (wW cy B kX σ) := AW_D kX_len
  have hS : va_S (AW B 346) s.heap s.heap [] := va_S.rf
  have hl := lv_entry ([.int v0]) (n := 2) (Nat.le_of_ble_eq_true rfl)
  rw [lg_entry_eq]
  generalize (lg_sl ([.int v0]) ++ List.replicate (2 - (lg_sl ([.int v0])).length) Slot.unset).toArray = ls at hl ⊢
  have hl : lv_has ls 2 [(0, .int v0)] := hl
  unfold wX6_isPrime at h
  refine lv_iconst (v := (2 : Int32)) hx hb dX6_isPrime_0 (by decide) ?_
  refine lv_istore_n (lv' := [(1, .int (2 : Int32)), (0, .int v0)]) hx hb dX6_isPrime_1 rfl hl (by decide) rfl (fun ls hl => ?_)
  obtain ⟨j, h⟩ := h
  exact tX6_isPrime_2 X j _ _ _ h _ _ _ hP hS (lv_sub hl [1, 0] rfl)

theorem hd_X6_takeEnd : yX6_takeEnd.cls = RX6 ∧ yX6_takeEnd.cls ≠ "java/lang/invoke/MethodHandle" ∧ yX6_takeEnd.cls ≠ "java/lang/invoke/VarHandle" ∧ (parseMethodDescriptor yX6_takeEnd.desc).map (fun d => d.parameters.length) = some 1 := by decide +kernel
set_option maxRecDepth 100000 in
set_option maxHeartbeats 4000000 in
theorem mX6_takeEnd (l : Launch) (D : va_G) (cy : Nat → ClassId) (B : Nat) (v0 : Nat) (v1 : Nat) (σ : St) (h0 : kX[v0]? = some 6) (h1 : kX[v1]? = some 20700) {post : Bool → St → Prop} (h : wX6_takeEnd v0 v1 σ post) : Met l yX6_takeEnd (Cond.code yX6_takeEnd cX6_takeEnd 2 (some .boolean) :: WALL) (rmD 2) (PcW D cy B kX σ [.ref (B + v0), .ref (B + v1)]) (Qz post D cy B kX 346) 0 0 (AW B 346) := by
  refine Met.ofK (cc := cX6_takeEnd) (maxL := 2) (ret := (some .boolean)) (by decide +kernel) rfl kX_len ?_
  intro p e s m below meth c X hP
  obtain ⟨⟨hx, hb, hml, hown, hts⟩, hr, hlk, hK, hN, hZ⟩ := id X
  have hD : ∀ σ, va_D (AW B 346) (wW cy B kX σ) := AW_D kX_len
  have hS : va_S (AW B 346) s.heap s.heap [] := va_S.rf
  have hl := lv_entry ([.ref (B + v0), .ref (B + v1)]) (n := 2) (Nat.le_of_ble_eq_true rfl)
  rw [lg_entry_eq]
  generalize (lg_sl ([.ref (B + v0), .ref (B + v1)]) ++ List.replicate (2 - (lg_sl ([.ref (B + v0), .ref (B + v1)])).length) Slot.unset).toArray = ls at hl ⊢
  have hl : lv_has ls 2 [(0, .ref (B + v0)), (1, .ref (B + v1))] := hl
  unfold wX6_takeEnd at h
  refine lv_aload_n hx hb dX6_takeEnd_0 rfl (lv_at hl 0 rfl) ?_
  refine lv_aload_n hx hb dX6_takeEnd_1 rfl (lv_at hl 1 rfl) ?_
  refine rk_callv (va_runV (As := [.ref (B + v1)]) (rest := []) X.1 (mX6_advance l D cy B v0 v1 σ h0 h1 h) (cwV 1 hts (gW_V (wi_11 _ (List.mem_of_getElem? (i := 3) rfl)) (wi_11 _ (List.mem_of_getElem? (i := 4) rfl)) (wi_11 _ (List.mem_of_getElem? (i := 5) rfl)) (wi_10 _ (List.mem_of_getElem? (i := 2) rfl)) (wi_10 _ (List.mem_of_getElem? (i := 14) rfl))) rfl rfl rfl hd_X6_advance ⟨Nat.le_of_ble_eq_true rfl, Nat.le_of_ble_eq_true rfl⟩) (rk_preV X hS hP h0 rfl rfl [.ref (B + v1)]) rfl rfl hl.1 rfl (lv_room (Nat.le_of_ble_eq_true rfl)) dX6_takeEnd_2 ⟨Nat.zero_le _, Nat.zero_le _⟩) hS (fun _ h => h) (fun s1 H locs h hP hS => ?_)
  refine lv_aload_n hx hb dX6_takeEnd_5 rfl (lv_at hl 0 rfl) ?_
  refine rk_get X hP (C := RX6) (T := TX6) (N := 8) (ci := 6) wix_6 h0 rfl rfl 4 (by decide) (wi_9 _ (List.mem_of_getElem? (i := 19) rfl)) rfl rfl dX6_takeEnd_6 ?_
  refine lv_iconst (v := (2 : Int32)) hx hb dX6_takeEnd_9 (by decide) ?_
  refine lv_icmp_eq (tgt := 21) hx hb dX6_takeEnd_10 (by decide) (fun c1 => ?_) (fun c1 => ?_)
  · have h := h.1 c1
    refine lv_iconst (v := (1 : Int32)) hx hb dX6_takeEnd_21 (by decide) ?_
    refine lv_goto (tgt := 26) hx hb dX6_takeEnd_22 (by decide) ?_
    exact rk_zret X kX_len true h hP hS dX6_takeEnd_26
  · have h := h.2 c1
    refine lv_aload_n hx hb dX6_takeEnd_13 rfl (lv_at hl 0 rfl) ?_
    refine lv_iconst (v := (1 : Int32)) hx hb dX6_takeEnd_14 (by decide) ?_
    refine rk_callz (va_runV (As := [.int (1 : Int32)]) (rest := []) X.1 (mX6_fail l D cy B v0 (1 : Int32) s1 h0 h) (cwV 1 hts (gW_V (wi_11 _ (List.mem_of_getElem? (i := 0) rfl)) (wi_11 _ (List.mem_of_getElem? (i := 1) rfl)) (wi_11 _ (List.mem_of_getElem? (i := 2) rfl)) (wi_10 _ (List.mem_of_getElem? (i := 2) rfl)) (wi_10 _ (List.mem_of_getElem? (i := 22) rfl))) rfl rfl rfl hd_X6_fail ⟨Nat.le_of_ble_eq_true rfl, Nat.le_of_ble_eq_true rfl⟩) (rk_preV X hS hP h0 rfl rfl [.int (1 : Int32)]) rfl rfl hl.1 rfl (lv_room (Nat.le_of_ble_eq_true rfl)) dX6_takeEnd_15 ⟨Nat.zero_le _, Nat.zero_le _⟩) hS (fun _ h => h) (fun r1 s2 H locs h hP hS => ?_)
    refine lv_if_eq (tgt := 25) hx hb dX6_takeEnd_18 (by decide) (fun c2 => ?_) (fun c2 => ?_)
    · have h := h.1 (b2i_f c2)
      refine lv_iconst (v := (0 : Int32)) hx hb dX6_takeEnd_25 (by decide) ?_
      exact rk_zret X kX_len false h hP hS dX6_takeEnd_26
    · have h := h.2 (b2i_t c2)
      refine lv_iconst (v := (1 : Int32)) hx hb dX6_takeEnd_21 (by decide) ?_
      refine lv_goto (tgt := 26) hx hb dX6_takeEnd_22 (by decide) ?_
      exact rk_zret X kX_len true h hP hS dX6_takeEnd_26

theorem hd_X6_readField : yX6_readField.cls = RX6 ∧ yX6_readField.cls ≠ "java/lang/invoke/MethodHandle" ∧ yX6_readField.cls ≠ "java/lang/invoke/VarHandle" ∧ (parseMethodDescriptor yX6_readField.desc).map (fun d => d.parameters.length) = some 2 := by decide +kernel
set_option maxRecDepth 100000 in
set_option maxHeartbeats 4000000 in
theorem mX6_readField (l : Launch) (D : va_G) (cy : Nat → ClassId) (B : Nat) (v0 : Nat) (v1 : Nat) (v2 : Nat) (σ : St) (h0 : kX[v0]? = some 6) (h1 : kX[v1]? = some 20700) (h2 : kX[v2]? = some 9) {post : Bool → St → Prop} (h : wX6_readField v0 v1 v2 σ post) : Met l yX6_readField (Cond.code yX6_readField cX6_readField 3 (some .boolean) :: WALL) (rmD 3) (PcW D cy B kX σ [.ref (B + v0), .ref (B + v1), .ref (B + v2)]) (Qz post D cy B kX 346) 0 0 (AW B 346) := by
  refine Met.ofK (cc := cX6_readField) (maxL := 3) (ret := (some .boolean)) (by decide +kernel) rfl kX_len ?_
  intro p e s m below meth c X hP
  obtain ⟨⟨hx, hb, hml, hown, hts⟩, hr, hlk, hK, hN, hZ⟩ := id X
  have hD : ∀ σ, va_D (AW B 346) (wW cy B kX σ) := AW_D kX_len
  have hS : va_S (AW B 346) s.heap s.heap [] := va_S.rf
  have hl := lv_entry ([.ref (B + v0), .ref (B + v1), .ref (B + v2)]) (n := 3) (Nat.le_of_ble_eq_true rfl)
  rw [lg_entry_eq]
  generalize (lg_sl ([.ref (B + v0), .ref (B + v1), .ref (B + v2)]) ++ List.replicate (3 - (lg_sl ([.ref (B + v0), .ref (B + v1), .ref (B + v2)])).length) Slot.unset).toArray = ls at hl ⊢
  have hl : lv_has ls 3 [(0, .ref (B + v0)), (1, .ref (B + v1)), (2, .ref (B + v2))] := hl
  unfold wX6_readField at h
  refine lv_aload_n hx hb dX6_readField_0 rfl (lv_at hl 0 rfl) ?_
  refine lv_aload_n hx hb dX6_readField_1 rfl (lv_at hl 1 rfl) ?_
  refine lv_iconst (v := (3 : Int32)) hx hb dX6_readField_2 (by decide) ?_
  refine lv_bipush (v := (97 : Int32)) hx hb dX6_readField_3 (by decide) ?_
  refine rk_callz (va_runV (As := [.ref (B + v1), .int (3 : Int32), .int (97 : Int32)]) (rest := []) X.1 (mX6_takeNumber l D cy B v0 v1 (3 : Int32) (97 : Int32) σ h0 h1 h) (cwV 3 hts (gW_V (wi_11 _ (List.mem_of_getElem? (i := 13) rfl)) (wi_11 _ (List.mem_of_getElem? (i := 14) rfl)) (wi_11 _ (List.mem_of_getElem? (i := 15) rfl)) (wi_10 _ (List.mem_of_getElem? (i := 2) rfl)) (wi_11 _ (List.mem_of_getElem? (i := 9) rfl))) rfl rfl rfl hd_X6_takeNumber ⟨Nat.le_of_ble_eq_true rfl, Nat.le_of_ble_eq_true rfl⟩) (rk_preV X hS hP h0 rfl rfl [.ref (B + v1), .int (3 : Int32), .int (97 : Int32)]) rfl rfl hl.1 rfl (lv_room (Nat.le_of_ble_eq_true rfl)) dX6_readField_5 ⟨Nat.zero_le _, Nat.zero_le _⟩) hS (fun _ h => h) (fun r1 s1 H locs h hP hS => ?_)
  refine lv_if_ne (tgt := 13) hx hb dX6_readField_8 (by decide) (fun c1 => ?_) (fun c1 => ?_)
  · have h := h.1 (b2i_t c1)
    refine lv_aload_n hx hb dX6_readField_13 rfl (lv_at hl 0 rfl) ?_
    refine rk_get X hP (C := RX6) (T := TX6) (N := 8) (ci := 6) wix_6 h0 rfl rfl 6 (by decide) (wi_9 _ (List.mem_of_getElem? (i := 21) rfl)) rfl rfl dX6_readField_14 ?_
    refine rk_callz (va_runS (As := [.int (s1.1 v0 6)]) (rest := []) X.1 (mX6_isPrime l D cy B (s1.1 v0 6) s1 h) (va_cwS 1 hts (gW_S (wi_11 _ (List.mem_of_getElem? (i := 16) rfl)) (wi_11 _ (List.mem_of_getElem? (i := 17) rfl)) (wi_10 _ (List.mem_of_getElem? (i := 2) rfl)) (wi_11 _ (List.mem_of_getElem? (i := 10) rfl))) rfl rfl rfl hd_X6_isPrime ⟨Nat.le_of_ble_eq_true rfl, Nat.le_of_ble_eq_true rfl⟩) (rk_preS X hS hP [.int (s1.1 v0 6)]) rfl rfl hl.1 rfl (lv_room (Nat.le_of_ble_eq_true rfl)) dX6_readField_17 ⟨Nat.zero_le _, Nat.zero_le _⟩) hS (fun _ h => h) (fun r2 s2 H locs h hP hS => ?_)
    refine lv_if_ne (tgt := 29) hx hb dX6_readField_20 (by decide) (fun c2 => ?_) (fun c2 => ?_)
    · have h := h.1 (b2i_t c2)
      refine lv_aload_n hx hb dX6_readField_29 rfl (lv_at hl 2 rfl) ?_
      refine lv_aload_n hx hb dX6_readField_30 rfl (lv_at hl 0 rfl) ?_
      refine rk_get X hP (C := RX6) (T := TX6) (N := 8) (ci := 6) wix_6 h0 rfl rfl 6 (by decide) (wi_9 _ (List.mem_of_getElem? (i := 21) rfl)) rfl rfl dX6_readField_31 ?_
      refine rk_puti X hP hD hS (C := RX9) (T := TX9) (N := 10) (ci := 9) wix_9 h2 rfl rfl tyX9 tyX9_ok nmX9 0 (by decide) (wi_11 _ (List.mem_of_getElem? (i := 12) rfl)) rfl rfl (by decide +kernel) (Nat.le_of_ble_eq_true rfl) rfl dX6_readField_34 (fun H locs hP hS => ?_)
      obtain ⟨s3, es3⟩ : ∃ z : St, z = u1 s2 v2 0 (s2.1 v0 6) := ⟨_, rfl⟩
      rw [← es3] at hP
      have h := h s3 es3
      refine lv_aload_n hx hb dX6_readField_37 rfl (lv_at hl 0 rfl) ?_
      refine lv_aload_n hx hb dX6_readField_38 rfl (lv_at hl 1 rfl) ?_
      refine rk_callz (va_runV (As := [.ref (B + v1)]) (rest := []) X.1 (mX6_takeEnd l D cy B v0 v1 s3 h0 h1 h) (cwV 1 hts (gW_V (wi_11 _ (List.mem_of_getElem? (i := 18) rfl)) (wi_11 _ (List.mem_of_getElem? (i := 19) rfl)) (wi_11 _ (List.mem_of_getElem? (i := 20) rfl)) (wi_10 _ (List.mem_of_getElem? (i := 2) rfl)) (wi_11 _ (List.mem_of_getElem? (i := 11) rfl))) rfl rfl rfl hd_X6_takeEnd ⟨Nat.le_of_ble_eq_true rfl, Nat.le_of_ble_eq_true rfl⟩) (rk_preV X hS hP h0 rfl rfl [.ref (B + v1)]) rfl rfl hl.1 rfl (lv_room (Nat.le_of_ble_eq_true rfl)) dX6_readField_39 ⟨Nat.zero_le _, Nat.zero_le _⟩) hS (fun _ h => h) (fun r3 s4 H locs h hP hS => ?_)
      exact rk_zret X kX_len r3 h hP hS dX6_readField_42
    · have h := h.2 (b2i_f c2)
      refine lv_aload_n hx hb dX6_readField_23 rfl (lv_at hl 0 rfl) ?_
      refine lv_iconst (v := (4 : Int32)) hx hb dX6_readField_24 (by decide) ?_
      refine rk_callz (va_runV (As := [.int (4 : Int32)]) (rest := []) X.1 (mX6_fail l D cy B v0 (4 : Int32) s2 h0 h) (cwV 1 hts (gW_V (wi_11 _ (List.mem_of_getElem? (i := 0) rfl)) (wi_11 _ (List.mem_of_getElem? (i := 1) rfl)) (wi_11 _ (List.mem_of_getElem? (i := 2) rfl)) (wi_10 _ (List.mem_of_getElem? (i := 2) rfl)) (wi_10 _ (List.mem_of_getElem? (i := 22) rfl))) rfl rfl rfl hd_X6_fail ⟨Nat.le_of_ble_eq_true rfl, Nat.le_of_ble_eq_true rfl⟩) (rk_preV X hS hP h0 rfl rfl [.int (4 : Int32)]) rfl rfl hl.1 rfl (lv_room (Nat.le_of_ble_eq_true rfl)) dX6_readField_25 ⟨Nat.zero_le _, Nat.zero_le _⟩) hS (fun _ h => h) (fun r4 s5 H locs h hP hS => ?_)
      exact rk_zret X kX_len r4 h hP hS dX6_readField_28
  · have h := h.2 (b2i_f c1)
    refine lv_iconst (v := (0 : Int32)) hx hb dX6_readField_11 (by decide) ?_
    exact rk_zret X kX_len false h hP hS dX6_readField_12

theorem hd_X6_takeNewName : yX6_takeNewName.cls = RX6 ∧ yX6_takeNewName.cls ≠ "java/lang/invoke/MethodHandle" ∧ yX6_takeNewName.cls ≠ "java/lang/invoke/VarHandle" ∧ (parseMethodDescriptor yX6_takeNewName.desc).map (fun d => d.parameters.length) = some 2 := by decide +kernel
set_option maxRecDepth 100000 in
set_option maxHeartbeats 4000000 in
theorem tX6_takeNewName_20 {p : Program} {l : Launch} {e : Env} {s : State} {m : MethodId} {av : Array Value} {below : List Frame} {meth : Method} {c : Code} {D : va_G} {cy : Nat → ClassId} {B : Nat} (X : kC p s m av meth c cX6_takeNewName 3 (some .boolean) WALL RX6 D cy (AW B 346)) {post : Bool → St → Prop} : ∀ (v0 : Nat) (σ : St), kX[v0]? = some 6 → wX6_takeNewName_20 post v0 σ → ∀ (H : Heap) (locs : List Loc) (ls : Array Slot), va_P D vwCl (wW cy B kX σ) H → va_S (AW B 346) s.heap H locs → lv_has ls 3 [(0, .ref (B + v0))] → W p l e (rmD 2) s m av below meth c H locs 0 0 (MQ below (Qz post D cy B kX 346) av s 0 0 (AW B 346)) (F0 m 20 ls []) := by
  obtain ⟨⟨hx, hb, hml, hown, hts⟩, hr, hlk, hK, hN, hZ⟩ := id X
  have hD : ∀ σ, va_D (AW B 346) (wW cy B kX σ) := AW_D kX_len
  intro v0 σ h0 h H locs ls hP hS hl
  unfold wX6_takeNewName_20 at h
  refine lv_aload_n hx hb dX6_takeNewName_20 rfl (lv_at hl 0 rfl) ?_
  refine lv_iconst (v := (1 : Int32)) hx hb dX6_takeNewName_21 (by decide) ?_
  refine rk_callz (va_runV (As := [.int (1 : Int32)]) (rest := []) X.1 (mX6_fail l D cy B v0 (1 : Int32) σ h0 h) (cwV 1 hts (gW_V (wi_11 _ (List.mem_of_getElem? (i := 0) rfl)) (wi_11 _ (List.mem_of_getElem? (i := 1) rfl)) (wi_11 _ (List.mem_of_getElem? (i := 2) rfl)) (wi_10 _ (List.mem_of_getElem? (i := 2) rfl)) (wi_10 _ (List.mem_of_getElem? (i := 22) rfl))) rfl rfl rfl hd_X6_fail ⟨Nat.le_of_ble_eq_true rfl, Nat.le_of_ble_eq_true rfl⟩) (rk_preV X hS hP h0 rfl rfl [.int (1 : Int32)]) rfl rfl hl.1 rfl (lv_room (Nat.le_of_ble_eq_true rfl)) dX6_takeNewName_22 ⟨Nat.zero_le _, Nat.zero_le _⟩) hS (fun _ h => h) (fun r1 s1 H locs h hP hS => ?_)
  exact rk_zret X kX_len r1 h hP hS dX6_takeNewName_25
set_option maxRecDepth 100000 in
set_option maxHeartbeats 4000000 in
theorem mX6_takeNewName (l : Launch) (D : va_G) (cy : Nat → ClassId) (B : Nat) (v0 : Nat) (v1 : Nat) (v2 : Nat) (σ : St) (h0 : kX[v0]? = some 6) (h1 : kX[v1]? = some 20700) (h2 : kX[v2]? = some 9) {post : Bool → St → Prop} (h : wX6_takeNewName v0 v1 v2 σ post) : Met l yX6_takeNewName (Cond.code yX6_takeNewName cX6_takeNewName 3 (some .boolean) :: WALL) (rmD 2) (PcW D cy B kX σ [.ref (B + v0), .ref (B + v1), .ref (B + v2)]) (Qz post D cy B kX 346) 0 0 (AW B 346) := by
  refine Met.ofK (cc := cX6_takeNewName) (maxL := 3) (ret := (some .boolean)) (by decide +kernel) rfl kX_len ?_
  intro p e s m below meth c X hP
  obtain ⟨⟨hx, hb, hml, hown, hts⟩, hr, hlk, hK, hN, hZ⟩ := id X
  have hD : ∀ σ, va_D (AW B 346) (wW cy B kX σ) := AW_D kX_len
  have hS : va_S (AW B 346) s.heap s.heap [] := va_S.rf
  have hl := lv_entry ([.ref (B + v0), .ref (B + v1), .ref (B + v2)]) (n := 3) (Nat.le_of_ble_eq_true rfl)
  rw [lg_entry_eq]
  generalize (lg_sl ([.ref (B + v0), .ref (B + v1), .ref (B + v2)]) ++ List.replicate (3 - (lg_sl ([.ref (B + v0), .ref (B + v1), .ref (B + v2)])).length) Slot.unset).toArray = ls at hl ⊢
  have hl : lv_has ls 3 [(0, .ref (B + v0)), (1, .ref (B + v1)), (2, .ref (B + v2))] := hl
  unfold wX6_takeNewName at h
  refine lv_aload_n hx hb dX6_takeNewName_0 rfl (lv_at hl 0 rfl) ?_
  refine lv_aload_n hx hb dX6_takeNewName_1 rfl (lv_at hl 1 rfl) ?_
  refine rk_callv (va_runV (As := [.ref (B + v1)]) (rest := []) X.1 (mX6_advance l D cy B v0 v1 σ h0 h1 h) (cwV 1 hts (gW_V (wi_11 _ (List.mem_of_getElem? (i := 3) rfl)) (wi_11 _ (List.mem_of_getElem? (i := 4) rfl)) (wi_11 _ (List.mem_of_getElem? (i := 5) rfl)) (wi_10 _ (List.mem_of_getElem? (i := 2) rfl)) (wi_10 _ (List.mem_of_getElem? (i := 14) rfl))) rfl rfl rfl hd_X6_advance ⟨Nat.le_of_ble_eq_true rfl, Nat.le_of_ble_eq_true rfl⟩) (rk_preV X hS hP h0 rfl rfl [.ref (B + v1)]) rfl rfl hl.1 rfl (lv_room (Nat.le_of_ble_eq_true rfl)) dX6_takeNewName_2 ⟨Nat.zero_le _, Nat.zero_le _⟩) hS (fun _ h => h) (fun s1 H locs h hP hS => ?_)
  refine lv_aload_n hx hb dX6_takeNewName_5 rfl (lv_at hl 0 rfl) ?_
  refine rk_get X hP (C := RX6) (T := TX6) (N := 8) (ci := 6) wix_6 h0 rfl rfl 4 (by decide) (wi_9 _ (List.mem_of_getElem? (i := 19) rfl)) rfl rfl dX6_takeNewName_6 ?_
  refine lv_if_ne (tgt := 20) hx hb dX6_takeNewName_9 (by decide) (fun c1 => ?_) (fun c1 => ?_)
  · have h := h.1 c1
    exact tX6_takeNewName_20 X _ _ h0 h _ _ _ hP hS (lv_sub hl [0] rfl)
  · have h := h.2 c1
    refine lv_aload_n hx hb dX6_takeNewName_12 rfl (lv_at hl 0 rfl) ?_
    refine rk_calli (va_runV (As := []) (rest := []) X.1 (mX6_keyword l D cy B v0 s1 h0 h) (cwV 0 hts (gW_V (wi_12 _ (List.mem_of_getElem? (i := 0) rfl)) (wi_12 _ (List.mem_of_getElem? (i := 1) rfl)) (wi_12 _ (List.mem_of_getElem? (i := 2) rfl)) (wi_10 _ (List.mem_of_getElem? (i := 2) rfl)) (wi_10 _ (List.mem_of_getElem? (i := 21) rfl))) rfl rfl rfl hd_X6_keyword ⟨Nat.le_of_ble_eq_true rfl, Nat.le_of_ble_eq_true rfl⟩) (rk_preV X hS hP h0 rfl rfl []) rfl rfl hl.1 rfl (lv_room (Nat.le_of_ble_eq_true rfl)) dX6_takeNewName_13 ⟨Nat.zero_le _, Nat.zero_le _⟩) hS (fun _ h => h) (fun r1 s2 H locs h hP hS => ?_)
    refine lv_iconst (v := (-1 : Int32)) hx hb dX6_takeNewName_16 (by decide) ?_
    refine lv_icmp_eq (tgt := 26) hx hb dX6_takeNewName_17 (by decide) (fun c2 => ?_) (fun c2 => ?_)
    · have h := h.1 c2
      refine lv_aload_n hx hb dX6_takeNewName_26 rfl (lv_at hl 2 rfl) ?_
      refine lv_aload_n hx hb dX6_takeNewName_27 rfl (lv_at hl 0 rfl) ?_
      refine rk_get X hP (C := RX6) (T := TX6) (N := 8) (ci := 6) wix_6 h0 rfl rfl 6 (by decide) (wi_9 _ (List.mem_of_getElem? (i := 21) rfl)) rfl rfl dX6_takeNewName_28 ?_
      refine rk_callz (va_runV (As := [.int (s2.1 v0 6)]) (rest := []) X.1 (mX9_hasName l D cy B v2 (s2.1 v0 6) s2 h2 h) (cwV 1 hts (gW_V (wi_12 _ (List.mem_of_getElem? (i := 3) rfl)) (wi_12 _ (List.mem_of_getElem? (i := 4) rfl)) (wi_12 _ (List.mem_of_getElem? (i := 5) rfl)) (wi_12 _ (List.mem_of_getElem? (i := 6) rfl)) (wi_11 _ (List.mem_of_getElem? (i := 22) rfl))) rfl rfl rfl hd_X9_hasName ⟨Nat.le_of_ble_eq_true rfl, Nat.le_of_ble_eq_true rfl⟩) (rk_preV X hS hP h2 rfl rfl [.int (s2.1 v0 6)]) rfl rfl hl.1 rfl (lv_room (Nat.le_of_ble_eq_true rfl)) dX6_takeNewName_31 ⟨Nat.zero_le _, Nat.zero_le _⟩) hS (fun _ h => h) (fun r2 s3 H locs h hP hS => ?_)
      refine lv_if_eq (tgt := 45) hx hb dX6_takeNewName_34 (by decide) (fun c3 => ?_) (fun c3 => ?_)
      · have h := h.1 (b2i_f c3)
        refine lv_iconst (v := (1 : Int32)) hx hb dX6_takeNewName_45 (by decide) ?_
        refine lv_goto (tgt := 50) hx hb dX6_takeNewName_46 (by decide) ?_
        exact rk_zret X kX_len true h hP hS dX6_takeNewName_50
      · have h := h.2 (b2i_t c3)
        refine lv_aload_n hx hb dX6_takeNewName_37 rfl (lv_at hl 0 rfl) ?_
        refine lv_iconst (v := (2 : Int32)) hx hb dX6_takeNewName_38 (by decide) ?_
        refine rk_callz (va_runV (As := [.int (2 : Int32)]) (rest := []) X.1 (mX6_fail l D cy B v0 (2 : Int32) s3 h0 h) (cwV 1 hts (gW_V (wi_11 _ (List.mem_of_getElem? (i := 0) rfl)) (wi_11 _ (List.mem_of_getElem? (i := 1) rfl)) (wi_11 _ (List.mem_of_getElem? (i := 2) rfl)) (wi_10 _ (List.mem_of_getElem? (i := 2) rfl)) (wi_10 _ (List.mem_of_getElem? (i := 22) rfl))) rfl rfl rfl hd_X6_fail ⟨Nat.le_of_ble_eq_true rfl, Nat.le_of_ble_eq_true rfl⟩) (rk_preV X hS hP h0 rfl rfl [.int (2 : Int32)]) rfl rfl hl.1 rfl (lv_room (Nat.le_of_ble_eq_true rfl)) dX6_takeNewName_39 ⟨Nat.zero_le _, Nat.zero_le _⟩) hS (fun _ h => h) (fun r3 s4 H locs h hP hS => ?_)
        refine lv_if_eq (tgt := 49) hx hb dX6_takeNewName_42 (by decide) (fun c4 => ?_) (fun c4 => ?_)
        · have h := h.1 (b2i_f c4)
          refine lv_iconst (v := (0 : Int32)) hx hb dX6_takeNewName_49 (by decide) ?_
          exact rk_zret X kX_len false h hP hS dX6_takeNewName_50
        · have h := h.2 (b2i_t c4)
          refine lv_iconst (v := (1 : Int32)) hx hb dX6_takeNewName_45 (by decide) ?_
          refine lv_goto (tgt := 50) hx hb dX6_takeNewName_46 (by decide) ?_
          exact rk_zret X kX_len true h hP hS dX6_takeNewName_50
    · have h := h.2 c2
      exact tX6_takeNewName_20 X _ _ h0 h _ _ _ hP hS (lv_sub hl [0] rfl)

theorem hd_X6_readTable : yX6_readTable.cls = RX6 ∧ yX6_readTable.cls ≠ "java/lang/invoke/MethodHandle" ∧ yX6_readTable.cls ≠ "java/lang/invoke/VarHandle" ∧ (parseMethodDescriptor yX6_readTable.desc).map (fun d => d.parameters.length) = some 2 := by decide +kernel
set_option maxRecDepth 100000 in
set_option maxHeartbeats 4000000 in
theorem tX6_readTable_72 {p : Program} {l : Launch} {e : Env} {s : State} {m : MethodId} {av : Array Value} {below : List Frame} {meth : Method} {c : Code} {D : va_G} {cy : Nat → ClassId} {B : Nat} (X : kC p s m av meth c cX6_readTable 5 (some .boolean) WALL RX6 D cy (AW B 346)) {post : Bool → St → Prop} : ∀ (n : Nat) (v0 : Nat) (v1 : Nat) (v2 : Nat) (v3 : Nat) (v4 : Int32) (σ : St), kX[v0]? = some 6 → kX[v1]? = some 20700 → kX[v2]? = some 9 → kX[v3]? = some 7 → wX6_readTable_72 post n v0 v1 v2 v3 v4 σ → ∀ (H : Heap) (locs : List Loc) (ls : Array Slot), va_P D vwCl (wW cy B kX σ) H → va_S (AW B 346) s.heap H locs → lv_has ls 5 [(0, .ref (B + v0)), (1, .ref (B + v1)), (2, .ref (B + v2)), (3, .ref (B + v3)), (4, .int v4)] → W p l e (rmD 3) s m av below meth c H locs 0 0 (MQ below (Qz post D cy B kX 346) av s 0 0 (AW B 346)) (F0 m 72 ls []) := by
  obtain ⟨⟨hx, hb, hml, hown, hts⟩, hr, hlk, hK, hN, hZ⟩ := id X
  have hD : ∀ σ, va_D (AW B 346) (wW cy B kX σ) := AW_D kX_len
  intro n
  induction n with
  | zero => intro v0 v1 v2 v3 v4 σ h0 h1 h2 h3 h; exact absurd h id
  | succ n ih =>
    intro v0 v1 v2 v3 v4 σ h0 h1 h2 h3 h H locs ls hP hS hl
    rw [wX6_readTable_72] at h
    refine lv_iload hx hb dX6_readTable_72 (lv_at hl 4 rfl) ?_
    refine lv_aload_n hx hb dX6_readTable_74 rfl (lv_at hl 3 rfl) ?_
    refine rk_calli (va_runV (As := []) (rest := [.int v4]) X.1 (mX7_size l D cy B v3 σ h3 h) (cwV 0 hts (gW_V (wi_12 _ (List.mem_of_getElem? (i := 21) rfl)) (wi_3 _ (List.mem_of_getElem? (i := 12) rfl)) (wi_3 _ (List.mem_of_getElem? (i := 13) rfl)) (wi_0 _ (List.mem_of_getElem? (i := 15) rfl)) (wi_3 _ (List.mem_of_getElem? (i := 4) rfl))) rfl rfl rfl hd_X7_size ⟨Nat.le_of_ble_eq_true rfl, Nat.le_of_ble_eq_true rfl⟩) (rk_preV X hS hP h3 rfl rfl []) rfl rfl hl.1 rfl (lv_room (Nat.le_of_ble_eq_true rfl)) dX6_readTable_75 ⟨Nat.zero_le _, Nat.zero_le _⟩) hS (fun _ h => h) (fun r1 s1 H locs h hP hS => ?_)
    refine lv_icmp_ge (tgt := 115) hx hb dX6_readTable_78 (by decide) (fun c1 => ?_) (fun c1 => ?_)
    · have h := h.1 c1
      refine lv_aload_n hx hb dX6_readTable_115 rfl (lv_at hl 2 rfl) ?_
      refine lv_dup hx hb dX6_readTable_116 rfl ?_
      refine rk_get X hP (C := RX9) (T := TX9) (N := 10) (ci := 9) wix_9 h2 rfl rfl 1 (by decide) (wi_12 _ (List.mem_of_getElem? (i := 11) rfl)) rfl rfl dX6_readTable_117 ?_
      refine lv_iconst (v := (1 : Int32)) hx hb dX6_readTable_120 (by decide) ?_
      refine lv_iadd hx hb dX6_readTable_121 ?_
      refine rk_puti X hP hD hS (C := RX9) (T := TX9) (N := 10) (ci := 9) wix_9 h2 rfl rfl tyX9 tyX9_ok nmX9 1 (by decide) (wi_12 _ (List.mem_of_getElem? (i := 11) rfl)) rfl rfl (by decide +kernel) (Nat.le_of_ble_eq_true rfl) rfl dX6_readTable_122 (fun H locs hP hS => ?_)
      obtain ⟨s2, es2⟩ : ∃ z : St, z = u1 s1 v2 1 ((s1.1 v2 1) + (1 : Int32)) := ⟨_, rfl⟩
      rw [← es2] at hP
      have h := h s2 es2
      refine lv_aload_n hx hb dX6_readTable_125 rfl (lv_at hl 0 rfl) ?_
      refine lv_aload_n hx hb dX6_readTable_126 rfl (lv_at hl 1 rfl) ?_
      refine rk_callz (va_runV (As := [.ref (B + v1)]) (rest := []) X.1 (mX6_takeEnd l D cy B v0 v1 s2 h0 h1 h) (cwV 1 hts (gW_V (wi_11 _ (List.mem_of_getElem? (i := 18) rfl)) (wi_11 _ (List.mem_of_getElem? (i := 19) rfl)) (wi_11 _ (List.mem_of_getElem? (i := 20) rfl)) (wi_10 _ (List.mem_of_getElem? (i := 2) rfl)) (wi_11 _ (List.mem_of_getElem? (i := 11) rfl))) rfl rfl rfl hd_X6_takeEnd ⟨Nat.le_of_ble_eq_true rfl, Nat.le_of_ble_eq_true rfl⟩) (rk_preV X hS hP h0 rfl rfl [.ref (B + v1)]) rfl rfl hl.1 rfl (lv_room (Nat.le_of_ble_eq_true rfl)) dX6_readTable_127 ⟨Nat.zero_le _, Nat.zero_le _⟩) hS (fun _ h => h) (fun r2 s3 H locs h hP hS => ?_)
      exact rk_zret X kX_len r2 h hP hS dX6_readTable_130
    · have h := h.2 c1
      refine lv_aload_n hx hb dX6_readTable_81 rfl (lv_at hl 0 rfl) ?_
      refine lv_aload_n hx hb dX6_readTable_82 rfl (lv_at hl 1 rfl) ?_
      refine lv_iconst (v := (0 : Int32)) hx hb dX6_readTable_83 (by decide) ?_
      refine lv_aload_n hx hb dX6_readTable_84 rfl (lv_at hl 2 rfl) ?_
      refine rk_get X hP (C := RX9) (T := TX9) (N := 10) (ci := 9) wix_9 h2 rfl rfl 0 (by decide) (wi_11 _ (List.mem_of_getElem? (i := 12) rfl)) rfl rfl dX6_readTable_85 ?_
      refine lv_iconst (v := (1 : Int32)) hx hb dX6_readTable_88 (by decide) ?_
      refine lv_isub hx hb dX6_readTable_89 ?_
      refine rk_callz (va_runV (As := [.ref (B + v1), .int (0 : Int32), .int ((s1.1 v2 0) - (1 : Int32))]) (rest := []) X.1 (mX6_takeNumber l D cy B v0 v1 (0 : Int32) ((s1.1 v2 0) - (1 : Int32)) s1 h0 h1 h) (cwV 3 hts (gW_V (wi_11 _ (List.mem_of_getElem? (i := 13) rfl)) (wi_11 _ (List.mem_of_getElem? (i := 14) rfl)) (wi_11 _ (List.mem_of_getElem? (i := 15) rfl)) (wi_10 _ (List.mem_of_getElem? (i := 2) rfl)) (wi_11 _ (List.mem_of_getElem? (i := 9) rfl))) rfl rfl rfl hd_X6_takeNumber ⟨Nat.le_of_ble_eq_true rfl, Nat.le_of_ble_eq_true rfl⟩) (rk_preV X hS hP h0 rfl rfl [.ref (B + v1), .int (0 : Int32), .int ((s1.1 v2 0) - (1 : Int32))]) rfl rfl hl.1 rfl (lv_room (Nat.le_of_ble_eq_true rfl)) dX6_readTable_90 ⟨Nat.zero_le _, Nat.zero_le _⟩) hS (fun _ h => h) (fun r3 s4 H locs h hP hS => ?_)
      refine lv_if_ne (tgt := 98) hx hb dX6_readTable_93 (by decide) (fun c2 => ?_) (fun c2 => ?_)
      · have h := h.1 (b2i_t c2)
        refine lv_aload_n hx hb dX6_readTable_98 rfl (lv_at hl 3 rfl) ?_
        refine rk_get X hP (C := RX7) (T := TX7) (N := 2) (ci := 7) wix_7 h3 rfl rfl 1 (by decide) (wi_12 _ (List.mem_of_getElem? (i := 14) rfl)) rfl rfl dX6_readTable_99 ?_
        refine lv_iload hx hb dX6_readTable_102 (lv_at hl 4 rfl) ?_
        refine lv_aload_n hx hb dX6_readTable_104 rfl (lv_at hl 0 rfl) ?_
        refine rk_get X hP (C := RX6) (T := TX6) (N := 8) (ci := 6) wix_6 h0 rfl rfl 6 (by decide) (wi_9 _ (List.mem_of_getElem? (i := 21) rfl)) rfl rfl dX6_readTable_105 ?_
        obtain ⟨b1, h⟩ := h
        refine rk_iast X hP hD hS (n := 16) (klX_X7_1 h3) (fun _ _ => rfl) b1 dX6_readTable_108 (fun H locs hP hS => ?_)
        obtain ⟨s5, es5⟩ : ∃ z : St, z = u1 s4 (v3 + 1) v4.toNatClampNeg (s4.1 v0 6) := ⟨_, rfl⟩
        rw [← es5] at hP
        have h := h s5 es5
        obtain ⟨x1, ex1⟩ : ∃ y : Int32, y = v4 + (1 : Int32) := ⟨_, rfl⟩
        have h := h x1 ex1
        refine lv_iinc (v := x1) (lv' := [(4, .int x1), (0, .ref (B + v0)), (1, .ref (B + v1)), (2, .ref (B + v2)), (3, .ref (B + v3))]) hx hb dX6_readTable_109 hl (k := 4) rfl (by rw [ex1]; rfl) (by decide) rfl (fun ls hl => ?_)
        refine lv_goto (tgt := 72) hx hb dX6_readTable_112 (by decide) ?_
        exact ih _ _ _ _ _ _ h0 h1 h2 h3 h _ _ _ hP hS (lv_sub hl [1, 2, 3, 4, 0] rfl)
      · have h := h.2 (b2i_f c2)
        refine lv_iconst (v := (0 : Int32)) hx hb dX6_readTable_96 (by decide) ?_
        exact rk_zret X kX_len false h hP hS dX6_readTable_97
set_option maxRecDepth 100000 in
set_option maxHeartbeats 4000000 in
theorem mX6_readTable (l : Launch) (D : va_G) (cy : Nat → ClassId) (B : Nat) (v0 : Nat) (v1 : Nat) (v2 : Nat) (σ : St) (h0 : kX[v0]? = some 6) (h1 : kX[v1]? = some 20700) (h2 : kX[v2]? = some 9) {post : Bool → St → Prop} (h : wX6_readTable v0 v1 v2 σ post) : Met l yX6_readTable (Cond.code yX6_readTable cX6_readTable 5 (some .boolean) :: WALL) (rmD 3) (PcW D cy B kX σ [.ref (B + v0), .ref (B + v1), .ref (B + v2)]) (Qz post D cy B kX 346) 0 0 (AW B 346) := by
  refine Met.ofK (cc := cX6_readTable) (maxL := 5) (ret := (some .boolean)) (by decide +kernel) rfl kX_len ?_
  intro p e s m below meth c X hP
  obtain ⟨⟨hx, hb, hml, hown, hts⟩, hr, hlk, hK, hN, hZ⟩ := id X
  have hD : ∀ σ, va_D (AW B 346) (wW cy B kX σ) := AW_D kX_len
  have hS : va_S (AW B 346) s.heap s.heap [] := va_S.rf
  have hl := lv_entry ([.ref (B + v0), .ref (B + v1), .ref (B + v2)]) (n := 5) (Nat.le_of_ble_eq_true rfl)
  rw [lg_entry_eq]
  generalize (lg_sl ([.ref (B + v0), .ref (B + v1), .ref (B + v2)]) ++ List.replicate (5 - (lg_sl ([.ref (B + v0), .ref (B + v1), .ref (B + v2)])).length) Slot.unset).toArray = ls at hl ⊢
  have hl : lv_has ls 5 [(0, .ref (B + v0)), (1, .ref (B + v1)), (2, .ref (B + v2))] := hl
  unfold wX6_readTable at h
  refine lv_aload_n hx hb dX6_readTable_0 rfl (lv_at hl 2 rfl) ?_
  refine rk_get X hP (C := RX9) (T := TX9) (N := 10) (ci := 9) wix_9 h2 rfl rfl 1 (by decide) (wi_12 _ (List.mem_of_getElem? (i := 11) rfl)) rfl rfl dX6_readTable_1 ?_
  refine lv_bipush (v := (8 : Int32)) hx hb dX6_readTable_4 (by decide) ?_
  refine lv_icmp_lt (tgt := 15) hx hb dX6_readTable_6 (by decide) (fun c1 => ?_) (fun c1 => ?_)
  · have h := h.1 c1
    refine lv_aload_n hx hb dX6_readTable_15 rfl (lv_at hl 0 rfl) ?_
    refine lv_aload_n hx hb dX6_readTable_16 rfl (lv_at hl 1 rfl) ?_
    refine lv_aload_n hx hb dX6_readTable_17 rfl (lv_at hl 2 rfl) ?_
    refine rk_callz (va_runV (As := [.ref (B + v1), .ref (B + v2)]) (rest := []) X.1 (mX6_takeNewName l D cy B v0 v1 v2 σ h0 h1 h2 h) (cwV 2 hts (gW_V (wi_12 _ (List.mem_of_getElem? (i := 15) rfl)) (wi_12 _ (List.mem_of_getElem? (i := 16) rfl)) (wi_12 _ (List.mem_of_getElem? (i := 17) rfl)) (wi_10 _ (List.mem_of_getElem? (i := 2) rfl)) (wi_12 _ (List.mem_of_getElem? (i := 7) rfl))) rfl rfl rfl hd_X6_takeNewName ⟨Nat.le_of_ble_eq_true rfl, Nat.le_of_ble_eq_true rfl⟩) (rk_preV X hS hP h0 rfl rfl [.ref (B + v1), .ref (B + v2)]) rfl rfl hl.1 rfl (lv_room (Nat.le_of_ble_eq_true rfl)) dX6_readTable_18 ⟨Nat.zero_le _, Nat.zero_le _⟩) hS (fun _ h => h) (fun r1 s1 H locs h hP hS => ?_)
    refine lv_if_ne (tgt := 26) hx hb dX6_readTable_21 (by decide) (fun c2 => ?_) (fun c2 => ?_)
    · have h := h.1 (b2i_t c2)
      refine lv_aload_n hx hb dX6_readTable_26 rfl (lv_at hl 2 rfl) ?_
      refine lv_aload_n hx hb dX6_readTable_27 rfl (lv_at hl 0 rfl) ?_
      refine rk_get X hP (C := RX6) (T := TX6) (N := 8) (ci := 6) wix_6 h0 rfl rfl 6 (by decide) (wi_9 _ (List.mem_of_getElem? (i := 21) rfl)) rfl rfl dX6_readTable_28 ?_
      refine lv_iconst (v := (1 : Int32)) hx hb dX6_readTable_31 (by decide) ?_
      refine lv_aload_n hx hb dX6_readTable_32 rfl (lv_at hl 2 rfl) ?_
      refine rk_get X hP (C := RX9) (T := TX9) (N := 10) (ci := 9) wix_9 h2 rfl rfl 1 (by decide) (wi_12 _ (List.mem_of_getElem? (i := 11) rfl)) rfl rfl dX6_readTable_33 ?_
      refine rk_callv (va_runV (As := [.int (s1.1 v0 6), .int (1 : Int32), .int (s1.1 v2 1)]) (rest := []) X.1 (mX9_addName l D cy B v2 (s1.1 v0 6) (1 : Int32) (s1.1 v2 1) s1 h2 h) (cwV 3 hts (gW_V (wi_12 _ (List.mem_of_getElem? (i := 18) rfl)) (wi_12 _ (List.mem_of_getElem? (i := 19) rfl)) (wi_12 _ (List.mem_of_getElem? (i := 20) rfl)) (wi_12 _ (List.mem_of_getElem? (i := 6) rfl)) (wi_12 _ (List.mem_of_getElem? (i := 8) rfl))) rfl rfl rfl hd_X9_addName ⟨Nat.le_of_ble_eq_true rfl, Nat.le_of_ble_eq_true rfl⟩) (rk_preV X hS hP h2 rfl rfl [.int (s1.1 v0 6), .int (1 : Int32), .int (s1.1 v2 1)]) rfl rfl hl.1 rfl (lv_room (Nat.le_of_ble_eq_true rfl)) dX6_readTable_36 ⟨Nat.zero_le _, Nat.zero_le _⟩) hS (fun _ h => h) (fun s2 H locs h hP hS => ?_)
      refine lv_aload_n hx hb dX6_readTable_39 rfl (lv_at hl 0 rfl) ?_
      refine lv_aload_n hx hb dX6_readTable_40 rfl (lv_at hl 1 rfl) ?_
      refine lv_iconst (v := (1 : Int32)) hx hb dX6_readTable_41 (by decide) ?_
      refine lv_iconst (v := (4 : Int32)) hx hb dX6_readTable_42 (by decide) ?_
      refine rk_callz (va_runV (As := [.ref (B + v1), .int (1 : Int32), .int (4 : Int32)]) (rest := []) X.1 (mX6_takeNumber l D cy B v0 v1 (1 : Int32) (4 : Int32) s2 h0 h1 h) (cwV 3 hts (gW_V (wi_11 _ (List.mem_of_getElem? (i := 13) rfl)) (wi_11 _ (List.mem_of_getElem? (i := 14) rfl)) (wi_11 _ (List.mem_of_getElem? (i := 15) rfl)) (wi_10 _ (List.mem_of_getElem? (i := 2) rfl)) (wi_11 _ (List.mem_of_getElem? (i := 9) rfl))) rfl rfl rfl hd_X6_takeNumber ⟨Nat.le_of_ble_eq_true rfl, Nat.le_of_ble_eq_true rfl⟩) (rk_preV X hS hP h0 rfl rfl [.ref (B + v1), .int (1 : Int32), .int (4 : Int32)]) rfl rfl hl.1 rfl (lv_room (Nat.le_of_ble_eq_true rfl)) dX6_readTable_43 ⟨Nat.zero_le _, Nat.zero_le _⟩) hS (fun _ h => h) (fun r2 s3 H locs h hP hS => ?_)
      refine lv_if_ne (tgt := 51) hx hb dX6_readTable_46 (by decide) (fun c3 => ?_) (fun c3 => ?_)
      · have h := h.1 (b2i_t c3)
        refine lv_aload_n hx hb dX6_readTable_51 rfl (lv_at hl 2 rfl) ?_
        refine rk_get X hP (C := RX9) (T := TX9) (N := 10) (ci := 9) wix_9 h2 rfl rfl 2 (by decide) (wi_12 _ (List.mem_of_getElem? (i := 12) rfl)) rfl rfl dX6_readTable_52 ?_
        refine lv_aload_n hx hb dX6_readTable_55 rfl (lv_at hl 2 rfl) ?_
        refine rk_get X hP (C := RX9) (T := TX9) (N := 10) (ci := 9) wix_9 h2 rfl rfl 1 (by decide) (wi_12 _ (List.mem_of_getElem? (i := 11) rfl)) rfl rfl dX6_readTable_56 ?_
        refine lv_topi (fun x1 ex1 => ?_)
        have h := h x1 ex1
        obtain ⟨b1, h⟩ := h
        refine rk_aald X hP (C := RX7) (n := 8) (t0 := 6) (d := 20) (r := 2) (klX_X9_2 h2) (fun _ _ => rfl) rfl b1 dX6_readTable_59 ?_
        refine lv_astore_n (lv' := [(3, .ref (B + ((v2 + 1) + 20 + 2 * x1.toNatClampNeg))), (0, .ref (B + v0)), (1, .ref (B + v1)), (2, .ref (B + v2))]) hx hb dX6_readTable_60 rfl hl (by decide) rfl (fun ls hl => ?_)
        refine lv_aload_n hx hb dX6_readTable_61 rfl (lv_at hl 0 rfl) ?_
        refine lv_aload_n hx hb dX6_readTable_62 rfl (lv_at hl 1 rfl) ?_
        refine rk_get X hP (C := RX6) (T := TX6) (N := 8) (ci := 6) wix_6 h0 rfl rfl 6 (by decide) (wi_9 _ (List.mem_of_getElem? (i := 21) rfl)) rfl rfl dX6_readTable_63 ?_
        refine rk_puti X hP hD hS (C := RX7) (T := TX7) (N := 2) (ci := 7) wix_7 (klX_12 (klX_X9_2 h2) (vp_lt b1)) rfl rfl tyX7 tyX7_ok nmX7 0 (by decide) (wi_12 _ (List.mem_of_getElem? (i := 13) rfl)) rfl rfl (by decide +kernel) (Nat.le_of_ble_eq_true rfl) rfl dX6_readTable_66 (fun H locs hP hS => ?_)
        obtain ⟨s4, es4⟩ : ∃ z : St, z = u1 s3 ((v2 + 1) + 20 + 2 * x1.toNatClampNeg) 0 (s3.1 v0 6) := ⟨_, rfl⟩
        rw [← es4] at hP
        have h := h s4 es4
        refine lv_iconst (v := (0 : Int32)) hx hb dX6_readTable_69 (by decide) ?_
        refine lv_istore (lv' := [(4, .int (0 : Int32)), (3, .ref (B + ((v2 + 1) + 20 + 2 * x1.toNatClampNeg))), (0, .ref (B + v0)), (1, .ref (B + v1)), (2, .ref (B + v2))]) hx hb dX6_readTable_70 hl (by decide) rfl (fun ls hl => ?_)
        obtain ⟨j, h⟩ := h
        exact tX6_readTable_72 X j _ _ _ _ _ _ h0 h1 h2 (klX_12 (klX_X9_2 h2) (vp_lt b1)) h _ _ _ hP hS (lv_sub hl [2, 3, 4, 1, 0] rfl)
      · have h := h.2 (b2i_f c3)
        refine lv_iconst (v := (0 : Int32)) hx hb dX6_readTable_49 (by decide) ?_
        exact rk_zret X kX_len false h hP hS dX6_readTable_50
    · have h := h.2 (b2i_f c2)
      refine lv_iconst (v := (0 : Int32)) hx hb dX6_readTable_24 (by decide) ?_
      exact rk_zret X kX_len false h hP hS dX6_readTable_25
  · have h := h.2 c1
    refine lv_aload_n hx hb dX6_readTable_9 rfl (lv_at hl 0 rfl) ?_
    refine lv_iconst (v := (5 : Int32)) hx hb dX6_readTable_10 (by decide) ?_
    refine rk_callz (va_runV (As := [.int (5 : Int32)]) (rest := []) X.1 (mX6_fail l D cy B v0 (5 : Int32) σ h0 h) (cwV 1 hts (gW_V (wi_11 _ (List.mem_of_getElem? (i := 0) rfl)) (wi_11 _ (List.mem_of_getElem? (i := 1) rfl)) (wi_11 _ (List.mem_of_getElem? (i := 2) rfl)) (wi_10 _ (List.mem_of_getElem? (i := 2) rfl)) (wi_10 _ (List.mem_of_getElem? (i := 22) rfl))) rfl rfl rfl hd_X6_fail ⟨Nat.le_of_ble_eq_true rfl, Nat.le_of_ble_eq_true rfl⟩) (rk_preV X hS hP h0 rfl rfl [.int (5 : Int32)]) rfl rfl hl.1 rfl (lv_room (Nat.le_of_ble_eq_true rfl)) dX6_readTable_11 ⟨Nat.zero_le _, Nat.zero_le _⟩) hS (fun _ h => h) (fun r3 s5 H locs h hP hS => ?_)
    exact rk_zret X kX_len r3 h hP hS dX6_readTable_14

theorem hd_X6_readEdge : yX6_readEdge.cls = RX6 ∧ yX6_readEdge.cls ≠ "java/lang/invoke/MethodHandle" ∧ yX6_readEdge.cls ≠ "java/lang/invoke/VarHandle" ∧ (parseMethodDescriptor yX6_readEdge.desc).map (fun d => d.parameters.length) = some 2 := by decide +kernel
set_option maxRecDepth 100000 in
set_option maxHeartbeats 4000000 in
theorem mX6_readEdge (l : Launch) (D : va_G) (cy : Nat → ClassId) (B : Nat) (v0 : Nat) (v1 : Nat) (v2 : Int32) (σ : St) (h0 : kX[v0]? = some 6) (h1 : kX[v1]? = some 20700) {post : Bool → St → Prop} (h : wX6_readEdge v0 v1 v2 σ post) : Met l yX6_readEdge (Cond.code yX6_readEdge cX6_readEdge 5 (some .boolean) :: WALL) (rmD 3) (PcW D cy B kX σ [.ref (B + v0), .ref (B + v1), .int v2]) (Qz post D cy B kX 346) 0 0 (AW B 346) := by
  refine Met.ofK (cc := cX6_readEdge) (maxL := 5) (ret := (some .boolean)) (by decide +kernel) rfl kX_len ?_
  intro p e s m below meth c X hP
  obtain ⟨⟨hx, hb, hml, hown, hts⟩, hr, hlk, hK, hN, hZ⟩ := id X
  have hD : ∀ σ, va_D (AW B 346) (wW cy B kX σ) := AW_D kX_len
  have hS : va_S (AW B 346) s.heap s.heap [] := va_S.rf
  have hl := lv_entry ([.ref (B + v0), .ref (B + v1), .int v2]) (n := 5) (Nat.le_of_ble_eq_true rfl)
  rw [lg_entry_eq]
  generalize (lg_sl ([.ref (B + v0), .ref (B + v1), .int v2]) ++ List.replicate (5 - (lg_sl ([.ref (B + v0), .ref (B + v1), .int v2])).length) Slot.unset).toArray = ls at hl ⊢
  have hl : lv_has ls 5 [(0, .ref (B + v0)), (1, .ref (B + v1)), (2, .int v2)] := hl
  unfold wX6_readEdge at h
  refine lv_aload_n hx hb dX6_readEdge_0 rfl (lv_at hl 0 rfl) ?_
  refine lv_iconst (v := (0 : Int32)) hx hb dX6_readEdge_1 (by decide) ?_
  refine lv_aload_n hx hb dX6_readEdge_2 rfl (lv_at hl 0 rfl) ?_
  refine rk_get X hP (C := RX6) (T := TX6) (N := 8) (ci := 6) wix_6 h0 rfl rfl 0 (by decide) (wi_9 _ (List.mem_of_getElem? (i := 15) rfl)) rfl rfl dX6_readEdge_3 ?_
  refine rk_get X hP (C := RX2) (T := TX2) (N := 5) (ci := 2) wix_2 (klX_X6_0 h0) rfl rfl 0 (by decide) (wi_12 _ (List.mem_of_getElem? (i := 23) rfl)) rfl rfl dX6_readEdge_6 ?_
  refine lv_iconst (v := (1 : Int32)) hx hb dX6_readEdge_9 (by decide) ?_
  refine lv_isub hx hb dX6_readEdge_10 ?_
  refine rk_callz (va_runV (As := [.int (0 : Int32), .int ((σ.1 (v0 + 1) 0) - (1 : Int32))]) (rest := []) X.1 (mX6_isNumber l D cy B v0 (0 : Int32) ((σ.1 (v0 + 1) 0) - (1 : Int32)) σ h0 h) (cwV 2 hts (gW_V (wi_11 _ (List.mem_of_getElem? (i := 6) rfl)) (wi_11 _ (List.mem_of_getElem? (i := 7) rfl)) (wi_11 _ (List.mem_of_getElem? (i := 8) rfl)) (wi_10 _ (List.mem_of_getElem? (i := 2) rfl)) (wi_10 _ (List.mem_of_getElem? (i := 23) rfl))) rfl rfl rfl hd_X6_isNumber ⟨Nat.le_of_ble_eq_true rfl, Nat.le_of_ble_eq_true rfl⟩) (rk_preV X hS hP h0 rfl rfl [.int (0 : Int32), .int ((σ.1 (v0 + 1) 0) - (1 : Int32))]) rfl rfl hl.1 rfl (lv_room (Nat.le_of_ble_eq_true rfl)) dX6_readEdge_11 ⟨Nat.zero_le _, Nat.zero_le _⟩) hS (fun _ h => h) (fun r1 s1 H locs h hP hS => ?_)
  refine lv_if_ne (tgt := 19) hx hb dX6_readEdge_14 (by decide) (fun c1 => ?_) (fun c1 => ?_)
  · have h := h.1 (b2i_t c1)
    refine lv_aload_n hx hb dX6_readEdge_19 rfl (lv_at hl 0 rfl) ?_
    refine rk_get X hP (C := RX6) (T := TX6) (N := 8) (ci := 6) wix_6 h0 rfl rfl 0 (by decide) (wi_9 _ (List.mem_of_getElem? (i := 15) rfl)) rfl rfl dX6_readEdge_20 ?_
    refine rk_get X hP (C := RX2) (T := TX2) (N := 5) (ci := 2) wix_2 (klX_X6_0 h0) rfl rfl 1 (by decide) (wi_13 _ (List.mem_of_getElem? (i := 0) rfl)) rfl rfl dX6_readEdge_23 ?_
    refine lv_bipush (v := (12 : Int32)) hx hb dX6_readEdge_26 (by decide) ?_
    refine lv_icmp_lt (tgt := 37) hx hb dX6_readEdge_28 (by decide) (fun c2 => ?_) (fun c2 => ?_)
    · have h := h.1 c2
      refine lv_aload_n hx hb dX6_readEdge_37 rfl (lv_at hl 0 rfl) ?_
      refine rk_get X hP (C := RX6) (T := TX6) (N := 8) (ci := 6) wix_6 h0 rfl rfl 6 (by decide) (wi_9 _ (List.mem_of_getElem? (i := 21) rfl)) rfl rfl dX6_readEdge_38 ?_
      refine lv_topi (fun x1 ex1 => ?_)
      have h := h x1 ex1
      refine lv_istore_n (lv' := [(3, .int x1), (0, .ref (B + v0)), (1, .ref (B + v1)), (2, .int v2)]) hx hb dX6_readEdge_41 rfl hl (by decide) rfl (fun ls hl => ?_)
      refine lv_aload_n hx hb dX6_readEdge_42 rfl (lv_at hl 1 rfl) ?_
      refine lv_aload_n hx hb dX6_readEdge_43 rfl (lv_at hl 2 rfl) ?_
      refine lv_iconst (v := (0 : Int32)) hx hb dX6_readEdge_44 (by decide) ?_
      refine lv_aload_n hx hb dX6_readEdge_45 rfl (lv_at hl 1 rfl) ?_
      refine rk_get X hP (C := RX6) (T := TX6) (N := 8) (ci := 6) wix_6 h0 rfl rfl 0 (by decide) (wi_9 _ (List.mem_of_getElem? (i := 15) rfl)) rfl rfl dX6_readEdge_46 ?_
      refine rk_get X hP (C := RX2) (T := TX2) (N := 5) (ci := 2) wix_2 (klX_X6_0 h0) rfl rfl 0 (by decide) (wi_12 _ (List.mem_of_getElem? (i := 23) rfl)) rfl rfl dX6_readEdge_49 ?_
      refine lv_iconst (v := (1 : Int32)) hx hb dX6_readEdge_52 (by decide) ?_
      refine lv_isub hx hb dX6_readEdge_53 ?_
      refine rk_callz (va_runV (As := [.ref (B + v1), .int (0 : Int32), .int ((s1.1 (v0 + 1) 0) - (1 : Int32))]) (rest := []) X.1 (mX6_takeNumber l D cy B v0 v1 (0 : Int32) ((s1.1 (v0 + 1) 0) - (1 : Int32)) s1 h0 h1 h) (cwV 3 hts (gW_V (wi_11 _ (List.mem_of_getElem? (i := 13) rfl)) (wi_11 _ (List.mem_of_getElem? (i := 14) rfl)) (wi_11 _ (List.mem_of_getElem? (i := 15) rfl)) (wi_10 _ (List.mem_of_getElem? (i := 2) rfl)) (wi_11 _ (List.mem_of_getElem? (i := 9) rfl))) rfl rfl rfl hd_X6_takeNumber ⟨Nat.le_of_ble_eq_true rfl, Nat.le_of_ble_eq_true rfl⟩) (rk_preV X hS hP h0 rfl rfl [.ref (B + v1), .int (0 : Int32), .int ((s1.1 (v0 + 1) 0) - (1 : Int32))]) rfl rfl hl.1 rfl (lv_room (Nat.le_of_ble_eq_true rfl)) dX6_readEdge_54 ⟨Nat.zero_le _, Nat.zero_le _⟩) hS (fun _ h => h) (fun r2 s2 H locs h hP hS => ?_)
      refine lv_if_ne (tgt := 62) hx hb dX6_readEdge_57 (by decide) (fun c3 => ?_) (fun c3 => ?_)
      · have h := h.1 (b2i_t c3)
        refine lv_aload_n hx hb dX6_readEdge_62 rfl (lv_at hl 1 rfl) ?_
        refine rk_get X hP (C := RX6) (T := TX6) (N := 8) (ci := 6) wix_6 h0 rfl rfl 6 (by decide) (wi_9 _ (List.mem_of_getElem? (i := 21) rfl)) rfl rfl dX6_readEdge_63 ?_
        refine lv_topi (fun x2 ex2 => ?_)
        have h := h x2 ex2
        refine lv_istore (lv' := [(4, .int x2), (3, .int x1), (0, .ref (B + v0)), (1, .ref (B + v1)), (2, .int v2)]) hx hb dX6_readEdge_66 hl (by decide) rfl (fun ls hl => ?_)
        refine lv_aload_n hx hb dX6_readEdge_68 rfl (lv_at hl 2 rfl) ?_
        refine rk_get X hP (C := RX6) (T := TX6) (N := 8) (ci := 6) wix_6 h0 rfl rfl 0 (by decide) (wi_9 _ (List.mem_of_getElem? (i := 15) rfl)) rfl rfl dX6_readEdge_69 ?_
        refine lv_iload_n hx hb dX6_readEdge_72 rfl (lv_at hl 1 rfl) ?_
        refine lv_iload hx hb dX6_readEdge_73 (lv_at hl 0 rfl) ?_
        refine rk_callz (va_runV (As := [.int x1, .int x2]) (rest := []) X.1 (mX2_hasEdge l D cy B (v0 + 1) x1 x2 s2 (klX_X6_0 h0) h) (cwV 2 hts (gW_V (wi_13 _ (List.mem_of_getElem? (i := 1) rfl)) (wi_13 _ (List.mem_of_getElem? (i := 2) rfl)) (wi_13 _ (List.mem_of_getElem? (i := 3) rfl)) (wi_3 _ (List.mem_of_getElem? (i := 10) rfl)) (wi_3 _ (List.mem_of_getElem? (i := 1) rfl))) rfl rfl rfl hd_X2_hasEdge ⟨Nat.le_of_ble_eq_true rfl, Nat.le_of_ble_eq_true rfl⟩) (rk_preV X hS hP (klX_X6_0 h0) rfl rfl [.int x1, .int x2]) rfl rfl hl.1 rfl (lv_room (Nat.le_of_ble_eq_true rfl)) dX6_readEdge_75 ⟨Nat.zero_le _, Nat.zero_le _⟩) hS (fun _ h => h) (fun r3 s3 H locs h hP hS => ?_)
        refine lv_if_eq (tgt := 87) hx hb dX6_readEdge_78 (by decide) (fun c4 => ?_) (fun c4 => ?_)
        · have h := h.1 (b2i_f c4)
          refine lv_iload_n hx hb dX6_readEdge_87 rfl (lv_at hl 1 rfl) ?_
          refine lv_iload hx hb dX6_readEdge_88 (lv_at hl 0 rfl) ?_
          refine lv_icmp_ne (tgt := 99) hx hb dX6_readEdge_90 (by decide) (fun c5 => ?_) (fun c5 => ?_)
          · have h := h.1 c5
            refine lv_aload_n hx hb dX6_readEdge_99 rfl (lv_at hl 2 rfl) ?_
            refine lv_aload_n hx hb dX6_readEdge_100 rfl (lv_at hl 3 rfl) ?_
            refine lv_iconst (v := (1 : Int32)) hx hb dX6_readEdge_101 (by decide) ?_
            refine lv_iload_n hx hb dX6_readEdge_102 rfl (lv_at hl 4 rfl) ?_
            refine lv_iconst (v := (1 : Int32)) hx hb dX6_readEdge_103 (by decide) ?_
            refine lv_isub hx hb dX6_readEdge_104 ?_
            refine rk_callz (va_runV (As := [.ref (B + v1), .int (1 : Int32), .int (v2 - (1 : Int32))]) (rest := []) X.1 (mX6_takeNumber l D cy B v0 v1 (1 : Int32) (v2 - (1 : Int32)) s3 h0 h1 h) (cwV 3 hts (gW_V (wi_11 _ (List.mem_of_getElem? (i := 13) rfl)) (wi_11 _ (List.mem_of_getElem? (i := 14) rfl)) (wi_11 _ (List.mem_of_getElem? (i := 15) rfl)) (wi_10 _ (List.mem_of_getElem? (i := 2) rfl)) (wi_11 _ (List.mem_of_getElem? (i := 9) rfl))) rfl rfl rfl hd_X6_takeNumber ⟨Nat.le_of_ble_eq_true rfl, Nat.le_of_ble_eq_true rfl⟩) (rk_preV X hS hP h0 rfl rfl [.ref (B + v1), .int (1 : Int32), .int (v2 - (1 : Int32))]) rfl rfl hl.1 rfl (lv_room (Nat.le_of_ble_eq_true rfl)) dX6_readEdge_105 ⟨Nat.zero_le _, Nat.zero_le _⟩) hS (fun _ h => h) (fun r4 s4 H locs h hP hS => ?_)
            refine lv_if_ne (tgt := 113) hx hb dX6_readEdge_108 (by decide) (fun c6 => ?_) (fun c6 => ?_)
            · have h := h.1 (b2i_t c6)
              refine lv_aload_n hx hb dX6_readEdge_113 rfl (lv_at hl 2 rfl) ?_
              refine rk_get X hP (C := RX6) (T := TX6) (N := 8) (ci := 6) wix_6 h0 rfl rfl 0 (by decide) (wi_9 _ (List.mem_of_getElem? (i := 15) rfl)) rfl rfl dX6_readEdge_114 ?_
              refine lv_iload_n hx hb dX6_readEdge_117 rfl (lv_at hl 1 rfl) ?_
              refine lv_iload hx hb dX6_readEdge_118 (lv_at hl 0 rfl) ?_
              refine lv_aload_n hx hb dX6_readEdge_120 rfl (lv_at hl 2 rfl) ?_
              refine rk_get X hP (C := RX6) (T := TX6) (N := 8) (ci := 6) wix_6 h0 rfl rfl 6 (by decide) (wi_9 _ (List.mem_of_getElem? (i := 21) rfl)) rfl rfl dX6_readEdge_121 ?_
              refine rk_callv (va_runV (As := [.int x1, .int x2, .int (s4.1 v0 6)]) (rest := []) X.1 (mX2_addEdge l D cy B (v0 + 1) x1 x2 (s4.1 v0 6) s4 (klX_X6_0 h0) h) (cwV 3 hts (gW_V (wi_13 _ (List.mem_of_getElem? (i := 4) rfl)) (wi_13 _ (List.mem_of_getElem? (i := 5) rfl)) (wi_13 _ (List.mem_of_getElem? (i := 6) rfl)) (wi_3 _ (List.mem_of_getElem? (i := 10) rfl)) (wi_3 _ (List.mem_of_getElem? (i := 2) rfl))) rfl rfl rfl hd_X2_addEdge ⟨Nat.le_of_ble_eq_true rfl, Nat.le_of_ble_eq_true rfl⟩) (rk_preV X hS hP (klX_X6_0 h0) rfl rfl [.int x1, .int x2, .int (s4.1 v0 6)]) rfl rfl hl.1 rfl (lv_room (Nat.le_of_ble_eq_true rfl)) dX6_readEdge_124 ⟨Nat.zero_le _, Nat.zero_le _⟩) hS (fun _ h => h) (fun s5 H locs h hP hS => ?_)
              refine lv_iconst (v := (1 : Int32)) hx hb dX6_readEdge_127 (by decide) ?_
              exact rk_zret X kX_len true h hP hS dX6_readEdge_128
            · have h := h.2 (b2i_f c6)
              refine lv_iconst (v := (0 : Int32)) hx hb dX6_readEdge_111 (by decide) ?_
              exact rk_zret X kX_len false h hP hS dX6_readEdge_112
          · have h := h.2 c5
            refine lv_aload_n hx hb dX6_readEdge_93 rfl (lv_at hl 2 rfl) ?_
            refine lv_iconst (v := (4 : Int32)) hx hb dX6_readEdge_94 (by decide) ?_
            refine rk_callz (va_runV (As := [.int (4 : Int32)]) (rest := []) X.1 (mX6_fail l D cy B v0 (4 : Int32) s3 h0 h) (cwV 1 hts (gW_V (wi_11 _ (List.mem_of_getElem? (i := 0) rfl)) (wi_11 _ (List.mem_of_getElem? (i := 1) rfl)) (wi_11 _ (List.mem_of_getElem? (i := 2) rfl)) (wi_10 _ (List.mem_of_getElem? (i := 2) rfl)) (wi_10 _ (List.mem_of_getElem? (i := 22) rfl))) rfl rfl rfl hd_X6_fail ⟨Nat.le_of_ble_eq_true rfl, Nat.le_of_ble_eq_true rfl⟩) (rk_preV X hS hP h0 rfl rfl [.int (4 : Int32)]) rfl rfl hl.1 rfl (lv_room (Nat.le_of_ble_eq_true rfl)) dX6_readEdge_95 ⟨Nat.zero_le _, Nat.zero_le _⟩) hS (fun _ h => h) (fun r5 s6 H locs h hP hS => ?_)
            exact rk_zret X kX_len r5 h hP hS dX6_readEdge_98
        · have h := h.2 (b2i_t c4)
          refine lv_aload_n hx hb dX6_readEdge_81 rfl (lv_at hl 2 rfl) ?_
          refine lv_iconst (v := (2 : Int32)) hx hb dX6_readEdge_82 (by decide) ?_
          refine rk_callz (va_runV (As := [.int (2 : Int32)]) (rest := []) X.1 (mX6_fail l D cy B v0 (2 : Int32) s3 h0 h) (cwV 1 hts (gW_V (wi_11 _ (List.mem_of_getElem? (i := 0) rfl)) (wi_11 _ (List.mem_of_getElem? (i := 1) rfl)) (wi_11 _ (List.mem_of_getElem? (i := 2) rfl)) (wi_10 _ (List.mem_of_getElem? (i := 2) rfl)) (wi_10 _ (List.mem_of_getElem? (i := 22) rfl))) rfl rfl rfl hd_X6_fail ⟨Nat.le_of_ble_eq_true rfl, Nat.le_of_ble_eq_true rfl⟩) (rk_preV X hS hP h0 rfl rfl [.int (2 : Int32)]) rfl rfl hl.1 rfl (lv_room (Nat.le_of_ble_eq_true rfl)) dX6_readEdge_83 ⟨Nat.zero_le _, Nat.zero_le _⟩) hS (fun _ h => h) (fun r6 s7 H locs h hP hS => ?_)
          exact rk_zret X kX_len r6 h hP hS dX6_readEdge_86
      · have h := h.2 (b2i_f c3)
        refine lv_iconst (v := (0 : Int32)) hx hb dX6_readEdge_60 (by decide) ?_
        exact rk_zret X kX_len false h hP hS dX6_readEdge_61
    · have h := h.2 c2
      refine lv_aload_n hx hb dX6_readEdge_31 rfl (lv_at hl 0 rfl) ?_
      refine lv_iconst (v := (5 : Int32)) hx hb dX6_readEdge_32 (by decide) ?_
      refine rk_callz (va_runV (As := [.int (5 : Int32)]) (rest := []) X.1 (mX6_fail l D cy B v0 (5 : Int32) s1 h0 h) (cwV 1 hts (gW_V (wi_11 _ (List.mem_of_getElem? (i := 0) rfl)) (wi_11 _ (List.mem_of_getElem? (i := 1) rfl)) (wi_11 _ (List.mem_of_getElem? (i := 2) rfl)) (wi_10 _ (List.mem_of_getElem? (i := 2) rfl)) (wi_10 _ (List.mem_of_getElem? (i := 22) rfl))) rfl rfl rfl hd_X6_fail ⟨Nat.le_of_ble_eq_true rfl, Nat.le_of_ble_eq_true rfl⟩) (rk_preV X hS hP h0 rfl rfl [.int (5 : Int32)]) rfl rfl hl.1 rfl (lv_room (Nat.le_of_ble_eq_true rfl)) dX6_readEdge_33 ⟨Nat.zero_le _, Nat.zero_le _⟩) hS (fun _ h => h) (fun r7 s8 H locs h hP hS => ?_)
      exact rk_zret X kX_len r7 h hP hS dX6_readEdge_36
  · have h := h.2 (b2i_f c1)
    refine lv_iconst (v := (0 : Int32)) hx hb dX6_readEdge_17 (by decide) ?_
    exact rk_zret X kX_len false h hP hS dX6_readEdge_18

theorem hd_X6_readGate : yX6_readGate.cls = RX6 ∧ yX6_readGate.cls ≠ "java/lang/invoke/MethodHandle" ∧ yX6_readGate.cls ≠ "java/lang/invoke/VarHandle" ∧ (parseMethodDescriptor yX6_readGate.desc).map (fun d => d.parameters.length) = some 2 := by decide +kernel
set_option maxRecDepth 100000 in
set_option maxHeartbeats 4000000 in
theorem tX6_readGate_148 {p : Program} {l : Launch} {e : Env} {s : State} {m : MethodId} {av : Array Value} {below : List Frame} {meth : Method} {c : Code} {D : va_G} {cy : Nat → ClassId} {B : Nat} (X : kC p s m av meth c cX6_readGate 5 (some .boolean) WALL RX6 D cy (AW B 346)) {post : Bool → St → Prop} : ∀ (v0 : Nat) (v2 : Nat) (v3 : Nat) (σ : St), kX[v0]? = some 6 → kX[v2]? = some 9 → kX[v3]? = some 7 → wX6_readGate_148 post v0 v2 v3 σ → ∀ (H : Heap) (locs : List Loc) (ls : Array Slot), va_P D vwCl (wW cy B kX σ) H → va_S (AW B 346) s.heap H locs → lv_has ls 5 [(0, .ref (B + v0)), (2, .ref (B + v2)), (3, .ref (B + v3))] → W p l e (rmD 4) s m av below meth c H locs 0 0 (MQ below (Qz post D cy B kX 346) av s 0 0 (AW B 346)) (F0 m 148 ls []) := by
  obtain ⟨⟨hx, hb, hml, hown, hts⟩, hr, hlk, hK, hN, hZ⟩ := id X
  have hD : ∀ σ, va_D (AW B 346) (wW cy B kX σ) := AW_D kX_len
  intro v0 v2 v3 σ h0 h2 h3 h H locs ls hP hS hl
  unfold wX6_readGate_148 at h
  refine lv_aload_n hx hb dX6_readGate_148 rfl (lv_at hl 0 rfl) ?_
  refine rk_get X hP (C := RX6) (T := TX6) (N := 8) (ci := 6) wix_6 h0 rfl rfl 0 (by decide) (wi_9 _ (List.mem_of_getElem? (i := 15) rfl)) rfl rfl dX6_readGate_149 ?_
  refine lv_aload_n hx hb dX6_readGate_152 rfl (lv_at hl 2 rfl) ?_
  refine lv_aload_n hx hb dX6_readGate_153 rfl (lv_at hl 1 rfl) ?_
  refine rk_get X hP (C := RX9) (T := TX9) (N := 10) (ci := 9) wix_9 h2 rfl rfl 0 (by decide) (wi_11 _ (List.mem_of_getElem? (i := 12) rfl)) rfl rfl dX6_readGate_154 ?_
  refine rk_callv (va_runV (As := [.ref (B + v3), .int (σ.1 v2 0)]) (rest := []) X.1 (mX2_fill l D cy B (v0 + 1) v3 (σ.1 v2 0) σ (klX_X6_0 h0) h3 h) (cwV 2 hts (gW_V (wi_13 _ (List.mem_of_getElem? (i := 15) rfl)) (wi_13 _ (List.mem_of_getElem? (i := 16) rfl)) (wi_13 _ (List.mem_of_getElem? (i := 17) rfl)) (wi_3 _ (List.mem_of_getElem? (i := 10) rfl)) (wi_3 _ (List.mem_of_getElem? (i := 5) rfl))) rfl rfl rfl hd_X2_fill ⟨Nat.le_of_ble_eq_true rfl, Nat.le_of_ble_eq_true rfl⟩) (rk_preV X hS hP (klX_X6_0 h0) rfl rfl [.ref (B + v3), .int (σ.1 v2 0)]) rfl rfl hl.1 rfl (lv_room (Nat.le_of_ble_eq_true rfl)) dX6_readGate_157 ⟨Nat.zero_le _, Nat.zero_le _⟩) hS (fun _ h => h) (fun s1 H locs h hP hS => ?_)
  refine lv_aload_n hx hb dX6_readGate_160 rfl (lv_at hl 1 rfl) ?_
  refine lv_dup hx hb dX6_readGate_161 rfl ?_
  refine rk_get X hP (C := RX9) (T := TX9) (N := 10) (ci := 9) wix_9 h2 rfl rfl 1 (by decide) (wi_12 _ (List.mem_of_getElem? (i := 11) rfl)) rfl rfl dX6_readGate_162 ?_
  refine lv_iconst (v := (1 : Int32)) hx hb dX6_readGate_165 (by decide) ?_
  refine lv_iadd hx hb dX6_readGate_166 ?_
  refine rk_puti X hP hD hS (C := RX9) (T := TX9) (N := 10) (ci := 9) wix_9 h2 rfl rfl tyX9 tyX9_ok nmX9 1 (by decide) (wi_12 _ (List.mem_of_getElem? (i := 11) rfl)) rfl rfl (by decide +kernel) (Nat.le_of_ble_eq_true rfl) rfl dX6_readGate_167 (fun H locs hP hS => ?_)
  obtain ⟨s2, es2⟩ : ∃ z : St, z = u1 s1 v2 1 ((s1.1 v2 1) + (1 : Int32)) := ⟨_, rfl⟩
  rw [← es2] at hP
  have h := h s2 es2
  refine lv_iconst (v := (1 : Int32)) hx hb dX6_readGate_170 (by decide) ?_
  exact rk_zret X kX_len true h hP hS dX6_readGate_171
set_option maxRecDepth 100000 in
set_option maxHeartbeats 4000000 in
theorem tX6_readGate_108 {p : Program} {l : Launch} {e : Env} {s : State} {m : MethodId} {av : Array Value} {below : List Frame} {meth : Method} {c : Code} {D : va_G} {cy : Nat → ClassId} {B : Nat} (X : kC p s m av meth c cX6_readGate 5 (some .boolean) WALL RX6 D cy (AW B 346)) {post : Bool → St → Prop} : ∀ (n : Nat) (v0 : Nat) (v1 : Nat) (v2 : Nat) (v3 : Nat) (v4 : Int32) (σ : St), kX[v0]? = some 6 → kX[v1]? = some 20700 → kX[v2]? = some 9 → kX[v3]? = some 7 → wX6_readGate_108 post n v0 v1 v2 v3 v4 σ → ∀ (H : Heap) (locs : List Loc) (ls : Array Slot), va_P D vwCl (wW cy B kX σ) H → va_S (AW B 346) s.heap H locs → lv_has ls 5 [(0, .ref (B + v0)), (1, .ref (B + v1)), (2, .ref (B + v2)), (3, .ref (B + v3)), (4, .int v4)] → W p l e (rmD 4) s m av below meth c H locs 0 0 (MQ below (Qz post D cy B kX 346) av s 0 0 (AW B 346)) (F0 m 108 ls []) := by
  obtain ⟨⟨hx, hb, hml, hown, hts⟩, hr, hlk, hK, hN, hZ⟩ := id X
  have hD : ∀ σ, va_D (AW B 346) (wW cy B kX σ) := AW_D kX_len
  intro n
  induction n with
  | zero => intro v0 v1 v2 v3 v4 σ h0 h1 h2 h3 h; exact absurd h id
  | succ n ih =>
    intro v0 v1 v2 v3 v4 σ h0 h1 h2 h3 h H locs ls hP hS hl
    rw [wX6_readGate_108] at h
    refine lv_iload hx hb dX6_readGate_108 (lv_at hl 4 rfl) ?_
    refine lv_bipush (v := (12 : Int32)) hx hb dX6_readGate_110 (by decide) ?_
    refine lv_icmp_gt (tgt := 148) hx hb dX6_readGate_112 (by decide) (fun c1 => ?_) (fun c1 => ?_)
    · have h := h.1 c1
      exact tX6_readGate_148 X _ _ _ _ h0 h2 h3 h _ _ _ hP hS (lv_sub hl [0, 2, 3] rfl)
    · have h := h.2 c1
      refine lv_aload_n hx hb dX6_readGate_115 rfl (lv_at hl 0 rfl) ?_
      refine rk_get X hP (C := RX6) (T := TX6) (N := 8) (ci := 6) wix_6 h0 rfl rfl 4 (by decide) (wi_9 _ (List.mem_of_getElem? (i := 19) rfl)) rfl rfl dX6_readGate_116 ?_
      refine lv_iconst (v := (2 : Int32)) hx hb dX6_readGate_119 (by decide) ?_
      refine lv_icmp_eq (tgt := 148) hx hb dX6_readGate_120 (by decide) (fun c2 => ?_) (fun c2 => ?_)
      · have h := h.1 c2
        exact tX6_readGate_148 X _ _ _ _ h0 h2 h3 h _ _ _ hP hS (lv_sub hl [0, 2, 3] rfl)
      · have h := h.2 c2
        refine lv_aload_n hx hb dX6_readGate_123 rfl (lv_at hl 0 rfl) ?_
        refine lv_aload_n hx hb dX6_readGate_124 rfl (lv_at hl 1 rfl) ?_
        refine lv_aload_n hx hb dX6_readGate_125 rfl (lv_at hl 2 rfl) ?_
        refine rk_get X hP (C := RX9) (T := TX9) (N := 10) (ci := 9) wix_9 h2 rfl rfl 0 (by decide) (wi_11 _ (List.mem_of_getElem? (i := 12) rfl)) rfl rfl dX6_readGate_126 ?_
        refine rk_callz (va_runV (As := [.ref (B + v1), .int (σ.1 v2 0)]) (rest := []) X.1 (mX6_readEdge l D cy B v0 v1 (σ.1 v2 0) σ h0 h1 h) (cwV 2 hts (gW_V (wi_13 _ (List.mem_of_getElem? (i := 12) rfl)) (wi_13 _ (List.mem_of_getElem? (i := 13) rfl)) (wi_13 _ (List.mem_of_getElem? (i := 14) rfl)) (wi_10 _ (List.mem_of_getElem? (i := 2) rfl)) (wi_13 _ (List.mem_of_getElem? (i := 7) rfl))) rfl rfl rfl hd_X6_readEdge ⟨Nat.le_of_ble_eq_true rfl, Nat.le_of_ble_eq_true rfl⟩) (rk_preV X hS hP h0 rfl rfl [.ref (B + v1), .int (σ.1 v2 0)]) rfl rfl hl.1 rfl (lv_room (Nat.le_of_ble_eq_true rfl)) dX6_readGate_129 ⟨Nat.zero_le _, Nat.zero_le _⟩) hS (fun _ h => h) (fun r1 s1 H locs h hP hS => ?_)
        refine lv_if_ne (tgt := 137) hx hb dX6_readGate_132 (by decide) (fun c3 => ?_) (fun c3 => ?_)
        · have h := h.1 (b2i_t c3)
          refine lv_aload_n hx hb dX6_readGate_137 rfl (lv_at hl 0 rfl) ?_
          refine lv_aload_n hx hb dX6_readGate_138 rfl (lv_at hl 1 rfl) ?_
          refine rk_callv (va_runV (As := [.ref (B + v1)]) (rest := []) X.1 (mX6_advance l D cy B v0 v1 s1 h0 h1 h) (cwV 1 hts (gW_V (wi_11 _ (List.mem_of_getElem? (i := 3) rfl)) (wi_11 _ (List.mem_of_getElem? (i := 4) rfl)) (wi_11 _ (List.mem_of_getElem? (i := 5) rfl)) (wi_10 _ (List.mem_of_getElem? (i := 2) rfl)) (wi_10 _ (List.mem_of_getElem? (i := 14) rfl))) rfl rfl rfl hd_X6_advance ⟨Nat.le_of_ble_eq_true rfl, Nat.le_of_ble_eq_true rfl⟩) (rk_preV X hS hP h0 rfl rfl [.ref (B + v1)]) rfl rfl hl.1 rfl (lv_room (Nat.le_of_ble_eq_true rfl)) dX6_readGate_139 ⟨Nat.zero_le _, Nat.zero_le _⟩) hS (fun _ h => h) (fun s2 H locs h hP hS => ?_)
          obtain ⟨x1, ex1⟩ : ∃ y : Int32, y = v4 + (1 : Int32) := ⟨_, rfl⟩
          have h := h x1 ex1
          refine lv_iinc (v := x1) (lv' := [(4, .int x1), (0, .ref (B + v0)), (1, .ref (B + v1)), (2, .ref (B + v2)), (3, .ref (B + v3))]) hx hb dX6_readGate_142 hl (k := 4) rfl (by rw [ex1]; rfl) (by decide) rfl (fun ls hl => ?_)
          refine lv_goto (tgt := 108) hx hb dX6_readGate_145 (by decide) ?_
          exact ih _ _ _ _ _ _ h0 h1 h2 h3 h _ _ _ hP hS (lv_sub hl [1, 2, 3, 4, 0] rfl)
        · have h := h.2 (b2i_f c3)
          refine lv_iconst (v := (0 : Int32)) hx hb dX6_readGate_135 (by decide) ?_
          exact rk_zret X kX_len false h hP hS dX6_readGate_136
set_option maxRecDepth 100000 in
set_option maxHeartbeats 4000000 in
theorem mX6_readGate (l : Launch) (D : va_G) (cy : Nat → ClassId) (B : Nat) (v0 : Nat) (v1 : Nat) (v2 : Nat) (σ : St) (h0 : kX[v0]? = some 6) (h1 : kX[v1]? = some 20700) (h2 : kX[v2]? = some 9) {post : Bool → St → Prop} (h : wX6_readGate v0 v1 v2 σ post) : Met l yX6_readGate (Cond.code yX6_readGate cX6_readGate 5 (some .boolean) :: WALL) (rmD 4) (PcW D cy B kX σ [.ref (B + v0), .ref (B + v1), .ref (B + v2)]) (Qz post D cy B kX 346) 0 0 (AW B 346) := by
  refine Met.ofK (cc := cX6_readGate) (maxL := 5) (ret := (some .boolean)) (by decide +kernel) rfl kX_len ?_
  intro p e s m below meth c X hP
  obtain ⟨⟨hx, hb, hml, hown, hts⟩, hr, hlk, hK, hN, hZ⟩ := id X
  have hD : ∀ σ, va_D (AW B 346) (wW cy B kX σ) := AW_D kX_len
  have hS : va_S (AW B 346) s.heap s.heap [] := va_S.rf
  have hl := lv_entry ([.ref (B + v0), .ref (B + v1), .ref (B + v2)]) (n := 5) (Nat.le_of_ble_eq_true rfl)
  rw [lg_entry_eq]
  generalize (lg_sl ([.ref (B + v0), .ref (B + v1), .ref (B + v2)]) ++ List.replicate (5 - (lg_sl ([.ref (B + v0), .ref (B + v1), .ref (B + v2)])).length) Slot.unset).toArray = ls at hl ⊢
  have hl : lv_has ls 5 [(0, .ref (B + v0)), (1, .ref (B + v1)), (2, .ref (B + v2))] := hl
  unfold wX6_readGate at h
  refine lv_aload_n hx hb dX6_readGate_0 rfl (lv_at hl 2 rfl) ?_
  refine rk_get X hP (C := RX9) (T := TX9) (N := 10) (ci := 9) wix_9 h2 rfl rfl 1 (by decide) (wi_12 _ (List.mem_of_getElem? (i := 11) rfl)) rfl rfl dX6_readGate_1 ?_
  refine lv_bipush (v := (8 : Int32)) hx hb dX6_readGate_4 (by decide) ?_
  refine lv_icmp_lt (tgt := 15) hx hb dX6_readGate_6 (by decide) (fun c1 => ?_) (fun c1 => ?_)
  · have h := h.1 c1
    refine lv_aload_n hx hb dX6_readGate_15 rfl (lv_at hl 0 rfl) ?_
    refine lv_aload_n hx hb dX6_readGate_16 rfl (lv_at hl 1 rfl) ?_
    refine lv_aload_n hx hb dX6_readGate_17 rfl (lv_at hl 2 rfl) ?_
    refine rk_callz (va_runV (As := [.ref (B + v1), .ref (B + v2)]) (rest := []) X.1 (mX6_takeNewName l D cy B v0 v1 v2 σ h0 h1 h2 h) (cwV 2 hts (gW_V (wi_12 _ (List.mem_of_getElem? (i := 15) rfl)) (wi_12 _ (List.mem_of_getElem? (i := 16) rfl)) (wi_12 _ (List.mem_of_getElem? (i := 17) rfl)) (wi_10 _ (List.mem_of_getElem? (i := 2) rfl)) (wi_12 _ (List.mem_of_getElem? (i := 7) rfl))) rfl rfl rfl hd_X6_takeNewName ⟨Nat.le_of_ble_eq_true rfl, Nat.le_of_ble_eq_true rfl⟩) (rk_preV X hS hP h0 rfl rfl [.ref (B + v1), .ref (B + v2)]) rfl rfl hl.1 rfl (lv_room (Nat.le_of_ble_eq_true rfl)) dX6_readGate_18 ⟨Nat.zero_le _, Nat.zero_le _⟩) hS (fun _ h => h) (fun r1 s1 H locs h hP hS => ?_)
    refine lv_if_ne (tgt := 26) hx hb dX6_readGate_21 (by decide) (fun c2 => ?_) (fun c2 => ?_)
    · have h := h.1 (b2i_t c2)
      refine lv_aload_n hx hb dX6_readGate_26 rfl (lv_at hl 2 rfl) ?_
      refine lv_aload_n hx hb dX6_readGate_27 rfl (lv_at hl 0 rfl) ?_
      refine rk_get X hP (C := RX6) (T := TX6) (N := 8) (ci := 6) wix_6 h0 rfl rfl 6 (by decide) (wi_9 _ (List.mem_of_getElem? (i := 21) rfl)) rfl rfl dX6_readGate_28 ?_
      refine lv_iconst (v := (1 : Int32)) hx hb dX6_readGate_31 (by decide) ?_
      refine lv_aload_n hx hb dX6_readGate_32 rfl (lv_at hl 2 rfl) ?_
      refine rk_get X hP (C := RX9) (T := TX9) (N := 10) (ci := 9) wix_9 h2 rfl rfl 1 (by decide) (wi_12 _ (List.mem_of_getElem? (i := 11) rfl)) rfl rfl dX6_readGate_33 ?_
      refine rk_callv (va_runV (As := [.int (s1.1 v0 6), .int (1 : Int32), .int (s1.1 v2 1)]) (rest := []) X.1 (mX9_addName l D cy B v2 (s1.1 v0 6) (1 : Int32) (s1.1 v2 1) s1 h2 h) (cwV 3 hts (gW_V (wi_12 _ (List.mem_of_getElem? (i := 18) rfl)) (wi_12 _ (List.mem_of_getElem? (i := 19) rfl)) (wi_12 _ (List.mem_of_getElem? (i := 20) rfl)) (wi_12 _ (List.mem_of_getElem? (i := 6) rfl)) (wi_12 _ (List.mem_of_getElem? (i := 8) rfl))) rfl rfl rfl hd_X9_addName ⟨Nat.le_of_ble_eq_true rfl, Nat.le_of_ble_eq_true rfl⟩) (rk_preV X hS hP h2 rfl rfl [.int (s1.1 v0 6), .int (1 : Int32), .int (s1.1 v2 1)]) rfl rfl hl.1 rfl (lv_room (Nat.le_of_ble_eq_true rfl)) dX6_readGate_36 ⟨Nat.zero_le _, Nat.zero_le _⟩) hS (fun _ h => h) (fun s2 H locs h hP hS => ?_)
      refine lv_aload_n hx hb dX6_readGate_39 rfl (lv_at hl 0 rfl) ?_
      refine lv_aload_n hx hb dX6_readGate_40 rfl (lv_at hl 1 rfl) ?_
      refine lv_iconst (v := (1 : Int32)) hx hb dX6_readGate_41 (by decide) ?_
      refine lv_bipush (v := (8 : Int32)) hx hb dX6_readGate_42 (by decide) ?_
      refine rk_callz (va_runV (As := [.ref (B + v1), .int (1 : Int32), .int (8 : Int32)]) (rest := []) X.1 (mX6_takeNumber l D cy B v0 v1 (1 : Int32) (8 : Int32) s2 h0 h1 h) (cwV 3 hts (gW_V (wi_11 _ (List.mem_of_getElem? (i := 13) rfl)) (wi_11 _ (List.mem_of_getElem? (i := 14) rfl)) (wi_11 _ (List.mem_of_getElem? (i := 15) rfl)) (wi_10 _ (List.mem_of_getElem? (i := 2) rfl)) (wi_11 _ (List.mem_of_getElem? (i := 9) rfl))) rfl rfl rfl hd_X6_takeNumber ⟨Nat.le_of_ble_eq_true rfl, Nat.le_of_ble_eq_true rfl⟩) (rk_preV X hS hP h0 rfl rfl [.ref (B + v1), .int (1 : Int32), .int (8 : Int32)]) rfl rfl hl.1 rfl (lv_room (Nat.le_of_ble_eq_true rfl)) dX6_readGate_44 ⟨Nat.zero_le _, Nat.zero_le _⟩) hS (fun _ h => h) (fun r2 s3 H locs h hP hS => ?_)
      refine lv_if_ne (tgt := 52) hx hb dX6_readGate_47 (by decide) (fun c3 => ?_) (fun c3 => ?_)
      · have h := h.1 (b2i_t c3)
        refine lv_aload_n hx hb dX6_readGate_52 rfl (lv_at hl 0 rfl) ?_
        refine rk_get X hP (C := RX6) (T := TX6) (N := 8) (ci := 6) wix_6 h0 rfl rfl 0 (by decide) (wi_9 _ (List.mem_of_getElem? (i := 15) rfl)) rfl rfl dX6_readGate_53 ?_
        refine lv_aload_n hx hb dX6_readGate_56 rfl (lv_at hl 0 rfl) ?_
        refine rk_get X hP (C := RX6) (T := TX6) (N := 8) (ci := 6) wix_6 h0 rfl rfl 6 (by decide) (wi_9 _ (List.mem_of_getElem? (i := 21) rfl)) rfl rfl dX6_readGate_57 ?_
        refine rk_callv (va_runV (As := [.int (s3.1 v0 6)]) (rest := []) X.1 (mX2_begin l D cy B (v0 + 1) (s3.1 v0 6) s3 (klX_X6_0 h0) h) (cwV 1 hts (gW_V (wi_13 _ (List.mem_of_getElem? (i := 9) rfl)) (wi_13 _ (List.mem_of_getElem? (i := 10) rfl)) (wi_13 _ (List.mem_of_getElem? (i := 11) rfl)) (wi_3 _ (List.mem_of_getElem? (i := 10) rfl)) (wi_3 _ (List.mem_of_getElem? (i := 0) rfl))) rfl rfl rfl hd_X2_begin ⟨Nat.le_of_ble_eq_true rfl, Nat.le_of_ble_eq_true rfl⟩) (rk_preV X hS hP (klX_X6_0 h0) rfl rfl [.int (s3.1 v0 6)]) rfl rfl hl.1 rfl (lv_room (Nat.le_of_ble_eq_true rfl)) dX6_readGate_60 ⟨Nat.zero_le _, Nat.zero_le _⟩) hS (fun _ h => h) (fun s4 H locs h hP hS => ?_)
        refine lv_aload_n hx hb dX6_readGate_63 rfl (lv_at hl 0 rfl) ?_
        refine lv_aload_n hx hb dX6_readGate_64 rfl (lv_at hl 1 rfl) ?_
        refine lv_iconst (v := (1 : Int32)) hx hb dX6_readGate_65 (by decide) ?_
        refine lv_aload_n hx hb dX6_readGate_66 rfl (lv_at hl 0 rfl) ?_
        refine rk_get X hP (C := RX6) (T := TX6) (N := 8) (ci := 6) wix_6 h0 rfl rfl 6 (by decide) (wi_9 _ (List.mem_of_getElem? (i := 21) rfl)) rfl rfl dX6_readGate_67 ?_
        refine lv_iconst (v := (4 : Int32)) hx hb dX6_readGate_70 (by decide) ?_
        refine va_mmin hx hb (hml.trans hl.1.symm) hown (hts _ (wi_13 _ (List.mem_of_getElem? (i := 8) rfl))) (hts _ (wi_6 _ (List.mem_of_getElem? (i := 12) rfl))) (hts _ (wi_6 _ (List.mem_of_getElem? (i := 13) rfl))) (hts _ (wi_6 _ (List.mem_of_getElem? (i := 14) rfl))) (Nat.le_of_ble_eq_true rfl) (Nat.le_of_ble_eq_true rfl) (Nat.zero_le _) (Nat.zero_le _) dX6_readGate_71 ?_
        refine rk_callz (va_runV (As := [.ref (B + v1), .int (1 : Int32), .int (if (4 : Int32) < (s4.1 v0 6) then (4 : Int32) else (s4.1 v0 6))]) (rest := []) X.1 (mX6_takeNumber l D cy B v0 v1 (1 : Int32) (if (4 : Int32) < (s4.1 v0 6) then (4 : Int32) else (s4.1 v0 6)) s4 h0 h1 h) (cwV 3 hts (gW_V (wi_11 _ (List.mem_of_getElem? (i := 13) rfl)) (wi_11 _ (List.mem_of_getElem? (i := 14) rfl)) (wi_11 _ (List.mem_of_getElem? (i := 15) rfl)) (wi_10 _ (List.mem_of_getElem? (i := 2) rfl)) (wi_11 _ (List.mem_of_getElem? (i := 9) rfl))) rfl rfl rfl hd_X6_takeNumber ⟨Nat.le_of_ble_eq_true rfl, Nat.le_of_ble_eq_true rfl⟩) (rk_preV X hS hP h0 rfl rfl [.ref (B + v1), .int (1 : Int32), .int (if (4 : Int32) < (s4.1 v0 6) then (4 : Int32) else (s4.1 v0 6))]) rfl rfl hl.1 rfl (lv_room (Nat.le_of_ble_eq_true rfl)) dX6_readGate_74 ⟨Nat.zero_le _, Nat.zero_le _⟩) hS (fun _ h => h) (fun r3 s5 H locs h hP hS => ?_)
        refine lv_if_ne (tgt := 82) hx hb dX6_readGate_77 (by decide) (fun c4 => ?_) (fun c4 => ?_)
        · have h := h.1 (b2i_t c4)
          refine lv_aload_n hx hb dX6_readGate_82 rfl (lv_at hl 2 rfl) ?_
          refine rk_get X hP (C := RX9) (T := TX9) (N := 10) (ci := 9) wix_9 h2 rfl rfl 2 (by decide) (wi_12 _ (List.mem_of_getElem? (i := 12) rfl)) rfl rfl dX6_readGate_83 ?_
          refine lv_aload_n hx hb dX6_readGate_86 rfl (lv_at hl 2 rfl) ?_
          refine rk_get X hP (C := RX9) (T := TX9) (N := 10) (ci := 9) wix_9 h2 rfl rfl 1 (by decide) (wi_12 _ (List.mem_of_getElem? (i := 11) rfl)) rfl rfl dX6_readGate_87 ?_
          refine lv_topi (fun x1 ex1 => ?_)
          have h := h x1 ex1
          obtain ⟨b1, h⟩ := h
          refine rk_aald X hP (C := RX7) (n := 8) (t0 := 6) (d := 20) (r := 2) (klX_X9_2 h2) (fun _ _ => rfl) rfl b1 dX6_readGate_90 ?_
          refine lv_astore_n (lv' := [(3, .ref (B + ((v2 + 1) + 20 + 2 * x1.toNatClampNeg))), (0, .ref (B + v0)), (1, .ref (B + v1)), (2, .ref (B + v2))]) hx hb dX6_readGate_91 rfl hl (by decide) rfl (fun ls hl => ?_)
          refine lv_aload_n hx hb dX6_readGate_92 rfl (lv_at hl 0 rfl) ?_
          refine lv_aload_n hx hb dX6_readGate_93 rfl (lv_at hl 1 rfl) ?_
          refine rk_get X hP (C := RX6) (T := TX6) (N := 8) (ci := 6) wix_6 h0 rfl rfl 6 (by decide) (wi_9 _ (List.mem_of_getElem? (i := 21) rfl)) rfl rfl dX6_readGate_94 ?_
          refine rk_puti X hP hD hS (C := RX7) (T := TX7) (N := 2) (ci := 7) wix_7 (klX_12 (klX_X9_2 h2) (vp_lt b1)) rfl rfl tyX7 tyX7_ok nmX7 0 (by decide) (wi_12 _ (List.mem_of_getElem? (i := 13) rfl)) rfl rfl (by decide +kernel) (Nat.le_of_ble_eq_true rfl) rfl dX6_readGate_97 (fun H locs hP hS => ?_)
          obtain ⟨s6, es6⟩ : ∃ z : St, z = u1 s5 ((v2 + 1) + 20 + 2 * x1.toNatClampNeg) 0 (s5.1 v0 6) := ⟨_, rfl⟩
          rw [← es6] at hP
          have h := h s6 es6
          refine lv_aload_n hx hb dX6_readGate_100 rfl (lv_at hl 1 rfl) ?_
          refine lv_aload_n hx hb dX6_readGate_101 rfl (lv_at hl 2 rfl) ?_
          refine rk_callv (va_runV (As := [.ref (B + v1)]) (rest := []) X.1 (mX6_advance l D cy B v0 v1 s6 h0 h1 h) (cwV 1 hts (gW_V (wi_11 _ (List.mem_of_getElem? (i := 3) rfl)) (wi_11 _ (List.mem_of_getElem? (i := 4) rfl)) (wi_11 _ (List.mem_of_getElem? (i := 5) rfl)) (wi_10 _ (List.mem_of_getElem? (i := 2) rfl)) (wi_10 _ (List.mem_of_getElem? (i := 14) rfl))) rfl rfl rfl hd_X6_advance ⟨Nat.le_of_ble_eq_true rfl, Nat.le_of_ble_eq_true rfl⟩) (rk_preV X hS hP h0 rfl rfl [.ref (B + v1)]) rfl rfl hl.1 rfl (lv_room (Nat.le_of_ble_eq_true rfl)) dX6_readGate_102 ⟨Nat.zero_le _, Nat.zero_le _⟩) hS (fun _ h => h) (fun s7 H locs h hP hS => ?_)
          refine lv_iconst (v := (0 : Int32)) hx hb dX6_readGate_105 (by decide) ?_
          refine lv_istore (lv' := [(4, .int (0 : Int32)), (3, .ref (B + ((v2 + 1) + 20 + 2 * x1.toNatClampNeg))), (0, .ref (B + v0)), (1, .ref (B + v1)), (2, .ref (B + v2))]) hx hb dX6_readGate_106 hl (by decide) rfl (fun ls hl => ?_)
          obtain ⟨j, h⟩ := h
          exact tX6_readGate_108 X j _ _ _ _ _ _ h0 h1 h2 (klX_12 (klX_X9_2 h2) (vp_lt b1)) h _ _ _ hP hS (lv_sub hl [2, 3, 4, 1, 0] rfl)
        · have h := h.2 (b2i_f c4)
          refine lv_iconst (v := (0 : Int32)) hx hb dX6_readGate_80 (by decide) ?_
          exact rk_zret X kX_len false h hP hS dX6_readGate_81
      · have h := h.2 (b2i_f c3)
        refine lv_iconst (v := (0 : Int32)) hx hb dX6_readGate_50 (by decide) ?_
        exact rk_zret X kX_len false h hP hS dX6_readGate_51
    · have h := h.2 (b2i_f c2)
      refine lv_iconst (v := (0 : Int32)) hx hb dX6_readGate_24 (by decide) ?_
      exact rk_zret X kX_len false h hP hS dX6_readGate_25
  · have h := h.2 c1
    refine lv_aload_n hx hb dX6_readGate_9 rfl (lv_at hl 0 rfl) ?_
    refine lv_iconst (v := (5 : Int32)) hx hb dX6_readGate_10 (by decide) ?_
    refine rk_callz (va_runV (As := [.int (5 : Int32)]) (rest := []) X.1 (mX6_fail l D cy B v0 (5 : Int32) σ h0 h) (cwV 1 hts (gW_V (wi_11 _ (List.mem_of_getElem? (i := 0) rfl)) (wi_11 _ (List.mem_of_getElem? (i := 1) rfl)) (wi_11 _ (List.mem_of_getElem? (i := 2) rfl)) (wi_10 _ (List.mem_of_getElem? (i := 2) rfl)) (wi_10 _ (List.mem_of_getElem? (i := 22) rfl))) rfl rfl rfl hd_X6_fail ⟨Nat.le_of_ble_eq_true rfl, Nat.le_of_ble_eq_true rfl⟩) (rk_preV X hS hP h0 rfl rfl [.int (5 : Int32)]) rfl rfl hl.1 rfl (lv_room (Nat.le_of_ble_eq_true rfl)) dX6_readGate_11 ⟨Nat.zero_le _, Nat.zero_le _⟩) hS (fun _ h => h) (fun r4 s8 H locs h hP hS => ?_)
    exact rk_zret X kX_len r4 h hP hS dX6_readGate_14

theorem hd_X6_readBase : yX6_readBase.cls = RX6 ∧ yX6_readBase.cls ≠ "java/lang/invoke/MethodHandle" ∧ yX6_readBase.cls ≠ "java/lang/invoke/VarHandle" ∧ (parseMethodDescriptor yX6_readBase.desc).map (fun d => d.parameters.length) = some 2 := by decide +kernel
set_option maxRecDepth 100000 in
set_option maxHeartbeats 4000000 in
theorem mX6_readBase (l : Launch) (D : va_G) (cy : Nat → ClassId) (B : Nat) (v0 : Nat) (v1 : Nat) (v2 : Nat) (σ : St) (h0 : kX[v0]? = some 6) (h1 : kX[v1]? = some 20700) (h2 : kX[v2]? = some 9) {post : Bool → St → Prop} (h : wX6_readBase v0 v1 v2 σ post) : Met l yX6_readBase (Cond.code yX6_readBase cX6_readBase 4 (some .boolean) :: WALL) (rmD 3) (PcW D cy B kX σ [.ref (B + v0), .ref (B + v1), .ref (B + v2)]) (Qz post D cy B kX 346) 0 0 (AW B 346) := by
  refine Met.ofK (cc := cX6_readBase) (maxL := 4) (ret := (some .boolean)) (by decide +kernel) rfl kX_len ?_
  intro p e s m below meth c X hP
  obtain ⟨⟨hx, hb, hml, hown, hts⟩, hr, hlk, hK, hN, hZ⟩ := id X
  have hD : ∀ σ, va_D (AW B 346) (wW cy B kX σ) := AW_D kX_len
  have hS : va_S (AW B 346) s.heap s.heap [] := va_S.rf
  have hl := lv_entry ([.ref (B + v0), .ref (B + v1), .ref (B + v2)]) (n := 4) (Nat.le_of_ble_eq_true rfl)
  rw [lg_entry_eq]
  generalize (lg_sl ([.ref (B + v0), .ref (B + v1), .ref (B + v2)]) ++ List.replicate (4 - (lg_sl ([.ref (B + v0), .ref (B + v1), .ref (B + v2)])).length) Slot.unset).toArray = ls at hl ⊢
  have hl : lv_has ls 4 [(0, .ref (B + v0)), (1, .ref (B + v1)), (2, .ref (B + v2))] := hl
  unfold wX6_readBase at h
  refine lv_aload_n hx hb dX6_readBase_0 rfl (lv_at hl 2 rfl) ?_
  refine rk_get X hP (C := RX9) (T := TX9) (N := 10) (ci := 9) wix_9 h2 rfl rfl 3 (by decide) (wi_13 _ (List.mem_of_getElem? (i := 19) rfl)) rfl rfl dX6_readBase_1 ?_
  refine lv_iconst (v := (5 : Int32)) hx hb dX6_readBase_4 (by decide) ?_
  refine lv_icmp_lt (tgt := 14) hx hb dX6_readBase_5 (by decide) (fun c1 => ?_) (fun c1 => ?_)
  · have h := h.1 c1
    refine lv_aload_n hx hb dX6_readBase_14 rfl (lv_at hl 0 rfl) ?_
    refine lv_aload_n hx hb dX6_readBase_15 rfl (lv_at hl 1 rfl) ?_
    refine lv_aload_n hx hb dX6_readBase_16 rfl (lv_at hl 2 rfl) ?_
    refine rk_callz (va_runV (As := [.ref (B + v1), .ref (B + v2)]) (rest := []) X.1 (mX6_takeNewName l D cy B v0 v1 v2 σ h0 h1 h2 h) (cwV 2 hts (gW_V (wi_12 _ (List.mem_of_getElem? (i := 15) rfl)) (wi_12 _ (List.mem_of_getElem? (i := 16) rfl)) (wi_12 _ (List.mem_of_getElem? (i := 17) rfl)) (wi_10 _ (List.mem_of_getElem? (i := 2) rfl)) (wi_12 _ (List.mem_of_getElem? (i := 7) rfl))) rfl rfl rfl hd_X6_takeNewName ⟨Nat.le_of_ble_eq_true rfl, Nat.le_of_ble_eq_true rfl⟩) (rk_preV X hS hP h0 rfl rfl [.ref (B + v1), .ref (B + v2)]) rfl rfl hl.1 rfl (lv_room (Nat.le_of_ble_eq_true rfl)) dX6_readBase_17 ⟨Nat.zero_le _, Nat.zero_le _⟩) hS (fun _ h => h) (fun r1 s1 H locs h hP hS => ?_)
    refine lv_if_ne (tgt := 25) hx hb dX6_readBase_20 (by decide) (fun c2 => ?_) (fun c2 => ?_)
    · have h := h.1 (b2i_t c2)
      refine lv_aload_n hx hb dX6_readBase_25 rfl (lv_at hl 2 rfl) ?_
      refine lv_aload_n hx hb dX6_readBase_26 rfl (lv_at hl 0 rfl) ?_
      refine rk_get X hP (C := RX6) (T := TX6) (N := 8) (ci := 6) wix_6 h0 rfl rfl 6 (by decide) (wi_9 _ (List.mem_of_getElem? (i := 21) rfl)) rfl rfl dX6_readBase_27 ?_
      refine lv_iconst (v := (3 : Int32)) hx hb dX6_readBase_30 (by decide) ?_
      refine lv_aload_n hx hb dX6_readBase_31 rfl (lv_at hl 2 rfl) ?_
      refine rk_get X hP (C := RX9) (T := TX9) (N := 10) (ci := 9) wix_9 h2 rfl rfl 3 (by decide) (wi_13 _ (List.mem_of_getElem? (i := 19) rfl)) rfl rfl dX6_readBase_32 ?_
      refine rk_callv (va_runV (As := [.int (s1.1 v0 6), .int (3 : Int32), .int (s1.1 v2 3)]) (rest := []) X.1 (mX9_addName l D cy B v2 (s1.1 v0 6) (3 : Int32) (s1.1 v2 3) s1 h2 h) (cwV 3 hts (gW_V (wi_12 _ (List.mem_of_getElem? (i := 18) rfl)) (wi_12 _ (List.mem_of_getElem? (i := 19) rfl)) (wi_12 _ (List.mem_of_getElem? (i := 20) rfl)) (wi_12 _ (List.mem_of_getElem? (i := 6) rfl)) (wi_12 _ (List.mem_of_getElem? (i := 8) rfl))) rfl rfl rfl hd_X9_addName ⟨Nat.le_of_ble_eq_true rfl, Nat.le_of_ble_eq_true rfl⟩) (rk_preV X hS hP h2 rfl rfl [.int (s1.1 v0 6), .int (3 : Int32), .int (s1.1 v2 3)]) rfl rfl hl.1 rfl (lv_room (Nat.le_of_ble_eq_true rfl)) dX6_readBase_35 ⟨Nat.zero_le _, Nat.zero_le _⟩) hS (fun _ h => h) (fun s2 H locs h hP hS => ?_)
      refine lv_aload_n hx hb dX6_readBase_38 rfl (lv_at hl 2 rfl) ?_
      refine rk_get X hP (C := RX9) (T := TX9) (N := 10) (ci := 9) wix_9 h2 rfl rfl 4 (by decide) (wi_13 _ (List.mem_of_getElem? (i := 20) rfl)) rfl rfl dX6_readBase_39 ?_
      refine lv_aload_n hx hb dX6_readBase_42 rfl (lv_at hl 2 rfl) ?_
      refine rk_get X hP (C := RX9) (T := TX9) (N := 10) (ci := 9) wix_9 h2 rfl rfl 3 (by decide) (wi_13 _ (List.mem_of_getElem? (i := 19) rfl)) rfl rfl dX6_readBase_43 ?_
      refine lv_topi (fun x1 ex1 => ?_)
      have h := h x1 ex1
      obtain ⟨b1, h⟩ := h
      refine rk_aald X hP (C := RX1) (n := 5) (t0 := 4) (d := 35) (r := 1) (klX_X9_4 h2) (fun _ _ => rfl) rfl b1 dX6_readBase_46 ?_
      refine lv_astore_n (lv' := [(3, .ref (B + ((v2 + 2) + 35 + 1 * x1.toNatClampNeg))), (0, .ref (B + v0)), (1, .ref (B + v1)), (2, .ref (B + v2))]) hx hb dX6_readBase_47 rfl hl (by decide) rfl (fun ls hl => ?_)
      refine lv_aload_n hx hb dX6_readBase_48 rfl (lv_at hl 1 rfl) ?_
      refine lv_aload_n hx hb dX6_readBase_49 rfl (lv_at hl 2 rfl) ?_
      refine lv_iconst (v := (0 : Int32)) hx hb dX6_readBase_50 (by decide) ?_
      refine lv_aload_n hx hb dX6_readBase_51 rfl (lv_at hl 3 rfl) ?_
      refine rk_get X hP (C := RX9) (T := TX9) (N := 10) (ci := 9) wix_9 h2 rfl rfl 0 (by decide) (wi_11 _ (List.mem_of_getElem? (i := 12) rfl)) rfl rfl dX6_readBase_52 ?_
      refine lv_iconst (v := (1 : Int32)) hx hb dX6_readBase_55 (by decide) ?_
      refine lv_isub hx hb dX6_readBase_56 ?_
      refine rk_callz (va_runV (As := [.ref (B + v1), .int (0 : Int32), .int ((s2.1 v2 0) - (1 : Int32))]) (rest := []) X.1 (mX6_takeNumber l D cy B v0 v1 (0 : Int32) ((s2.1 v2 0) - (1 : Int32)) s2 h0 h1 h) (cwV 3 hts (gW_V (wi_11 _ (List.mem_of_getElem? (i := 13) rfl)) (wi_11 _ (List.mem_of_getElem? (i := 14) rfl)) (wi_11 _ (List.mem_of_getElem? (i := 15) rfl)) (wi_10 _ (List.mem_of_getElem? (i := 2) rfl)) (wi_11 _ (List.mem_of_getElem? (i := 9) rfl))) rfl rfl rfl hd_X6_takeNumber ⟨Nat.le_of_ble_eq_true rfl, Nat.le_of_ble_eq_true rfl⟩) (rk_preV X hS hP h0 rfl rfl [.ref (B + v1), .int (0 : Int32), .int ((s2.1 v2 0) - (1 : Int32))]) rfl rfl hl.1 rfl (lv_room (Nat.le_of_ble_eq_true rfl)) dX6_readBase_57 ⟨Nat.zero_le _, Nat.zero_le _⟩) hS (fun _ h => h) (fun r2 s3 H locs h hP hS => ?_)
      refine lv_if_ne (tgt := 65) hx hb dX6_readBase_60 (by decide) (fun c3 => ?_) (fun c3 => ?_)
      · have h := h.1 (b2i_t c3)
        refine lv_aload_n hx hb dX6_readBase_65 rfl (lv_at hl 0 rfl) ?_
        refine lv_aload_n hx hb dX6_readBase_66 rfl (lv_at hl 1 rfl) ?_
        refine rk_get X hP (C := RX6) (T := TX6) (N := 8) (ci := 6) wix_6 h0 rfl rfl 6 (by decide) (wi_9 _ (List.mem_of_getElem? (i := 21) rfl)) rfl rfl dX6_readBase_67 ?_
        refine rk_puti X hP hD hS (C := RX1) (T := TX1) (N := 4) (ci := 1) wix_1 (klX_13 (klX_X9_4 h2) (vp_lt b1)) rfl rfl tyX1 tyX1_ok nmX1 0 (by decide) (wi_13 _ (List.mem_of_getElem? (i := 21) rfl)) rfl rfl (by decide +kernel) (Nat.le_of_ble_eq_true rfl) rfl dX6_readBase_70 (fun H locs hP hS => ?_)
        obtain ⟨s4, es4⟩ : ∃ z : St, z = u1 s3 ((v2 + 2) + 35 + 1 * x1.toNatClampNeg) 0 (s3.1 v0 6) := ⟨_, rfl⟩
        rw [← es4] at hP
        have h := h s4 es4
        refine lv_aload_n hx hb dX6_readBase_73 rfl (lv_at hl 1 rfl) ?_
        refine lv_aload_n hx hb dX6_readBase_74 rfl (lv_at hl 2 rfl) ?_
        refine lv_iconst (v := (0 : Int32)) hx hb dX6_readBase_75 (by decide) ?_
        refine lv_aload_n hx hb dX6_readBase_76 rfl (lv_at hl 3 rfl) ?_
        refine rk_get X hP (C := RX9) (T := TX9) (N := 10) (ci := 9) wix_9 h2 rfl rfl 0 (by decide) (wi_11 _ (List.mem_of_getElem? (i := 12) rfl)) rfl rfl dX6_readBase_77 ?_
        refine lv_iconst (v := (1 : Int32)) hx hb dX6_readBase_80 (by decide) ?_
        refine lv_isub hx hb dX6_readBase_81 ?_
        refine rk_callz (va_runV (As := [.ref (B + v1), .int (0 : Int32), .int ((s4.1 v2 0) - (1 : Int32))]) (rest := []) X.1 (mX6_takeNumber l D cy B v0 v1 (0 : Int32) ((s4.1 v2 0) - (1 : Int32)) s4 h0 h1 h) (cwV 3 hts (gW_V (wi_11 _ (List.mem_of_getElem? (i := 13) rfl)) (wi_11 _ (List.mem_of_getElem? (i := 14) rfl)) (wi_11 _ (List.mem_of_getElem? (i := 15) rfl)) (wi_10 _ (List.mem_of_getElem? (i := 2) rfl)) (wi_11 _ (List.mem_of_getElem? (i := 9) rfl))) rfl rfl rfl hd_X6_takeNumber ⟨Nat.le_of_ble_eq_true rfl, Nat.le_of_ble_eq_true rfl⟩) (rk_preV X hS hP h0 rfl rfl [.ref (B + v1), .int (0 : Int32), .int ((s4.1 v2 0) - (1 : Int32))]) rfl rfl hl.1 rfl (lv_room (Nat.le_of_ble_eq_true rfl)) dX6_readBase_82 ⟨Nat.zero_le _, Nat.zero_le _⟩) hS (fun _ h => h) (fun r3 s5 H locs h hP hS => ?_)
        refine lv_if_ne (tgt := 90) hx hb dX6_readBase_85 (by decide) (fun c4 => ?_) (fun c4 => ?_)
        · have h := h.1 (b2i_t c4)
          refine lv_aload_n hx hb dX6_readBase_90 rfl (lv_at hl 0 rfl) ?_
          refine lv_aload_n hx hb dX6_readBase_91 rfl (lv_at hl 1 rfl) ?_
          refine rk_get X hP (C := RX6) (T := TX6) (N := 8) (ci := 6) wix_6 h0 rfl rfl 6 (by decide) (wi_9 _ (List.mem_of_getElem? (i := 21) rfl)) rfl rfl dX6_readBase_92 ?_
          refine rk_puti X hP hD hS (C := RX1) (T := TX1) (N := 4) (ci := 1) wix_1 (klX_13 (klX_X9_4 h2) (vp_lt b1)) rfl rfl tyX1 tyX1_ok nmX1 1 (by decide) (wi_13 _ (List.mem_of_getElem? (i := 22) rfl)) rfl rfl (by decide +kernel) (Nat.le_of_ble_eq_true rfl) rfl dX6_readBase_95 (fun H locs hP hS => ?_)
          obtain ⟨s6, es6⟩ : ∃ z : St, z = u1 s5 ((v2 + 2) + 35 + 1 * x1.toNatClampNeg) 1 (s5.1 v0 6) := ⟨_, rfl⟩
          rw [← es6] at hP
          have h := h s6 es6
          refine lv_aload_n hx hb dX6_readBase_98 rfl (lv_at hl 1 rfl) ?_
          refine lv_aload_n hx hb dX6_readBase_99 rfl (lv_at hl 2 rfl) ?_
          refine lv_iconst (v := (0 : Int32)) hx hb dX6_readBase_100 (by decide) ?_
          refine lv_aload_n hx hb dX6_readBase_101 rfl (lv_at hl 3 rfl) ?_
          refine rk_get X hP (C := RX9) (T := TX9) (N := 10) (ci := 9) wix_9 h2 rfl rfl 0 (by decide) (wi_11 _ (List.mem_of_getElem? (i := 12) rfl)) rfl rfl dX6_readBase_102 ?_
          refine lv_iconst (v := (1 : Int32)) hx hb dX6_readBase_105 (by decide) ?_
          refine lv_isub hx hb dX6_readBase_106 ?_
          refine rk_callz (va_runV (As := [.ref (B + v1), .int (0 : Int32), .int ((s6.1 v2 0) - (1 : Int32))]) (rest := []) X.1 (mX6_takeNumber l D cy B v0 v1 (0 : Int32) ((s6.1 v2 0) - (1 : Int32)) s6 h0 h1 h) (cwV 3 hts (gW_V (wi_11 _ (List.mem_of_getElem? (i := 13) rfl)) (wi_11 _ (List.mem_of_getElem? (i := 14) rfl)) (wi_11 _ (List.mem_of_getElem? (i := 15) rfl)) (wi_10 _ (List.mem_of_getElem? (i := 2) rfl)) (wi_11 _ (List.mem_of_getElem? (i := 9) rfl))) rfl rfl rfl hd_X6_takeNumber ⟨Nat.le_of_ble_eq_true rfl, Nat.le_of_ble_eq_true rfl⟩) (rk_preV X hS hP h0 rfl rfl [.ref (B + v1), .int (0 : Int32), .int ((s6.1 v2 0) - (1 : Int32))]) rfl rfl hl.1 rfl (lv_room (Nat.le_of_ble_eq_true rfl)) dX6_readBase_107 ⟨Nat.zero_le _, Nat.zero_le _⟩) hS (fun _ h => h) (fun r4 s7 H locs h hP hS => ?_)
          refine lv_if_ne (tgt := 115) hx hb dX6_readBase_110 (by decide) (fun c5 => ?_) (fun c5 => ?_)
          · have h := h.1 (b2i_t c5)
            refine lv_aload_n hx hb dX6_readBase_115 rfl (lv_at hl 0 rfl) ?_
            refine lv_aload_n hx hb dX6_readBase_116 rfl (lv_at hl 1 rfl) ?_
            refine rk_get X hP (C := RX6) (T := TX6) (N := 8) (ci := 6) wix_6 h0 rfl rfl 6 (by decide) (wi_9 _ (List.mem_of_getElem? (i := 21) rfl)) rfl rfl dX6_readBase_117 ?_
            refine rk_puti X hP hD hS (C := RX1) (T := TX1) (N := 4) (ci := 1) wix_1 (klX_13 (klX_X9_4 h2) (vp_lt b1)) rfl rfl tyX1 tyX1_ok nmX1 2 (by decide) (wi_13 _ (List.mem_of_getElem? (i := 23) rfl)) rfl rfl (by decide +kernel) (Nat.le_of_ble_eq_true rfl) rfl dX6_readBase_120 (fun H locs hP hS => ?_)
            obtain ⟨s8, es8⟩ : ∃ z : St, z = u1 s7 ((v2 + 2) + 35 + 1 * x1.toNatClampNeg) 2 (s7.1 v0 6) := ⟨_, rfl⟩
            rw [← es8] at hP
            have h := h s8 es8
            refine lv_aload_n hx hb dX6_readBase_123 rfl (lv_at hl 1 rfl) ?_
            refine lv_aload_n hx hb dX6_readBase_124 rfl (lv_at hl 2 rfl) ?_
            refine lv_iconst (v := (0 : Int32)) hx hb dX6_readBase_125 (by decide) ?_
            refine lv_aload_n hx hb dX6_readBase_126 rfl (lv_at hl 3 rfl) ?_
            refine rk_get X hP (C := RX9) (T := TX9) (N := 10) (ci := 9) wix_9 h2 rfl rfl 0 (by decide) (wi_11 _ (List.mem_of_getElem? (i := 12) rfl)) rfl rfl dX6_readBase_127 ?_
            refine lv_iconst (v := (1 : Int32)) hx hb dX6_readBase_130 (by decide) ?_
            refine lv_isub hx hb dX6_readBase_131 ?_
            refine rk_callz (va_runV (As := [.ref (B + v1), .int (0 : Int32), .int ((s8.1 v2 0) - (1 : Int32))]) (rest := []) X.1 (mX6_takeNumber l D cy B v0 v1 (0 : Int32) ((s8.1 v2 0) - (1 : Int32)) s8 h0 h1 h) (cwV 3 hts (gW_V (wi_11 _ (List.mem_of_getElem? (i := 13) rfl)) (wi_11 _ (List.mem_of_getElem? (i := 14) rfl)) (wi_11 _ (List.mem_of_getElem? (i := 15) rfl)) (wi_10 _ (List.mem_of_getElem? (i := 2) rfl)) (wi_11 _ (List.mem_of_getElem? (i := 9) rfl))) rfl rfl rfl hd_X6_takeNumber ⟨Nat.le_of_ble_eq_true rfl, Nat.le_of_ble_eq_true rfl⟩) (rk_preV X hS hP h0 rfl rfl [.ref (B + v1), .int (0 : Int32), .int ((s8.1 v2 0) - (1 : Int32))]) rfl rfl hl.1 rfl (lv_room (Nat.le_of_ble_eq_true rfl)) dX6_readBase_132 ⟨Nat.zero_le _, Nat.zero_le _⟩) hS (fun _ h => h) (fun r5 s9 H locs h hP hS => ?_)
            refine lv_if_ne (tgt := 140) hx hb dX6_readBase_135 (by decide) (fun c6 => ?_) (fun c6 => ?_)
            · have h := h.1 (b2i_t c6)
              refine lv_aload_n hx hb dX6_readBase_140 rfl (lv_at hl 0 rfl) ?_
              refine lv_aload_n hx hb dX6_readBase_141 rfl (lv_at hl 1 rfl) ?_
              refine rk_get X hP (C := RX6) (T := TX6) (N := 8) (ci := 6) wix_6 h0 rfl rfl 6 (by decide) (wi_9 _ (List.mem_of_getElem? (i := 21) rfl)) rfl rfl dX6_readBase_142 ?_
              refine rk_puti X hP hD hS (C := RX1) (T := TX1) (N := 4) (ci := 1) wix_1 (klX_13 (klX_X9_4 h2) (vp_lt b1)) rfl rfl tyX1 tyX1_ok nmX1 3 (by decide) (wi_14 _ (List.mem_of_getElem? (i := 0) rfl)) rfl rfl (by decide +kernel) (Nat.le_of_ble_eq_true rfl) rfl dX6_readBase_145 (fun H locs hP hS => ?_)
              obtain ⟨s10, es10⟩ : ∃ z : St, z = u1 s9 ((v2 + 2) + 35 + 1 * x1.toNatClampNeg) 3 (s9.1 v0 6) := ⟨_, rfl⟩
              rw [← es10] at hP
              have h := h s10 es10
              refine lv_aload_n hx hb dX6_readBase_148 rfl (lv_at hl 0 rfl) ?_
              refine lv_aload_n hx hb dX6_readBase_149 rfl (lv_at hl 3 rfl) ?_
              refine rk_get X hP (C := RX9) (T := TX9) (N := 10) (ci := 9) wix_9 h2 rfl rfl 0 (by decide) (wi_11 _ (List.mem_of_getElem? (i := 12) rfl)) rfl rfl dX6_readBase_150 ?_
              refine rk_calli (va_runV (As := [.int (s10.1 v2 0)]) (rest := []) X.1 (mX1_determinant l D cy B ((v2 + 2) + 35 + 1 * x1.toNatClampNeg) (s10.1 v2 0) s10 (klX_13 (klX_X9_4 h2) (vp_lt b1)) h) (cwV 1 hts (gW_V (wi_14 _ (List.mem_of_getElem? (i := 1) rfl)) (wi_2 _ (List.mem_of_getElem? (i := 12) rfl)) (wi_2 _ (List.mem_of_getElem? (i := 13) rfl)) (wi_2 _ (List.mem_of_getElem? (i := 14) rfl)) (wi_2 _ (List.mem_of_getElem? (i := 6) rfl))) rfl rfl rfl hd_X1_determinant ⟨Nat.le_of_ble_eq_true rfl, Nat.le_of_ble_eq_true rfl⟩) (rk_preV X hS hP (klX_13 (klX_X9_4 h2) (vp_lt b1)) rfl rfl [.int (s10.1 v2 0)]) rfl rfl hl.1 rfl (lv_room (Nat.le_of_ble_eq_true rfl)) dX6_readBase_153 ⟨Nat.zero_le _, Nat.zero_le _⟩) hS (fun _ h => h) (fun r6 s11 H locs h hP hS => ?_)
              refine lv_if_ne (tgt := 165) hx hb dX6_readBase_156 (by decide) (fun c7 => ?_) (fun c7 => ?_)
              · have h := h.1 c7
                refine lv_aload_n hx hb dX6_readBase_165 rfl (lv_at hl 3 rfl) ?_
                refine lv_dup hx hb dX6_readBase_166 rfl ?_
                refine rk_get X hP (C := RX9) (T := TX9) (N := 10) (ci := 9) wix_9 h2 rfl rfl 3 (by decide) (wi_13 _ (List.mem_of_getElem? (i := 19) rfl)) rfl rfl dX6_readBase_167 ?_
                refine lv_iconst (v := (1 : Int32)) hx hb dX6_readBase_170 (by decide) ?_
                refine lv_iadd hx hb dX6_readBase_171 ?_
                refine rk_puti X hP hD hS (C := RX9) (T := TX9) (N := 10) (ci := 9) wix_9 h2 rfl rfl tyX9 tyX9_ok nmX9 3 (by decide) (wi_13 _ (List.mem_of_getElem? (i := 19) rfl)) rfl rfl (by decide +kernel) (Nat.le_of_ble_eq_true rfl) rfl dX6_readBase_172 (fun H locs hP hS => ?_)
                obtain ⟨s12, es12⟩ : ∃ z : St, z = u1 s11 v2 3 ((s11.1 v2 3) + (1 : Int32)) := ⟨_, rfl⟩
                rw [← es12] at hP
                have h := h s12 es12
                refine lv_aload_n hx hb dX6_readBase_175 rfl (lv_at hl 1 rfl) ?_
                refine lv_aload_n hx hb dX6_readBase_176 rfl (lv_at hl 2 rfl) ?_
                refine rk_callz (va_runV (As := [.ref (B + v1)]) (rest := []) X.1 (mX6_takeEnd l D cy B v0 v1 s12 h0 h1 h) (cwV 1 hts (gW_V (wi_11 _ (List.mem_of_getElem? (i := 18) rfl)) (wi_11 _ (List.mem_of_getElem? (i := 19) rfl)) (wi_11 _ (List.mem_of_getElem? (i := 20) rfl)) (wi_10 _ (List.mem_of_getElem? (i := 2) rfl)) (wi_11 _ (List.mem_of_getElem? (i := 11) rfl))) rfl rfl rfl hd_X6_takeEnd ⟨Nat.le_of_ble_eq_true rfl, Nat.le_of_ble_eq_true rfl⟩) (rk_preV X hS hP h0 rfl rfl [.ref (B + v1)]) rfl rfl hl.1 rfl (lv_room (Nat.le_of_ble_eq_true rfl)) dX6_readBase_177 ⟨Nat.zero_le _, Nat.zero_le _⟩) hS (fun _ h => h) (fun r7 s13 H locs h hP hS => ?_)
                exact rk_zret X kX_len r7 h hP hS dX6_readBase_180
              · have h := h.2 c7
                refine lv_aload_n hx hb dX6_readBase_159 rfl (lv_at hl 1 rfl) ?_
                refine lv_iconst (v := (4 : Int32)) hx hb dX6_readBase_160 (by decide) ?_
                refine rk_callz (va_runV (As := [.int (4 : Int32)]) (rest := []) X.1 (mX6_fail l D cy B v0 (4 : Int32) s11 h0 h) (cwV 1 hts (gW_V (wi_11 _ (List.mem_of_getElem? (i := 0) rfl)) (wi_11 _ (List.mem_of_getElem? (i := 1) rfl)) (wi_11 _ (List.mem_of_getElem? (i := 2) rfl)) (wi_10 _ (List.mem_of_getElem? (i := 2) rfl)) (wi_10 _ (List.mem_of_getElem? (i := 22) rfl))) rfl rfl rfl hd_X6_fail ⟨Nat.le_of_ble_eq_true rfl, Nat.le_of_ble_eq_true rfl⟩) (rk_preV X hS hP h0 rfl rfl [.int (4 : Int32)]) rfl rfl hl.1 rfl (lv_room (Nat.le_of_ble_eq_true rfl)) dX6_readBase_161 ⟨Nat.zero_le _, Nat.zero_le _⟩) hS (fun _ h => h) (fun r8 s14 H locs h hP hS => ?_)
                exact rk_zret X kX_len r8 h hP hS dX6_readBase_164
            · have h := h.2 (b2i_f c6)
              refine lv_iconst (v := (0 : Int32)) hx hb dX6_readBase_138 (by decide) ?_
              exact rk_zret X kX_len false h hP hS dX6_readBase_139
          · have h := h.2 (b2i_f c5)
            refine lv_iconst (v := (0 : Int32)) hx hb dX6_readBase_113 (by decide) ?_
            exact rk_zret X kX_len false h hP hS dX6_readBase_114
        · have h := h.2 (b2i_f c4)
          refine lv_iconst (v := (0 : Int32)) hx hb dX6_readBase_88 (by decide) ?_
          exact rk_zret X kX_len false h hP hS dX6_readBase_89
      · have h := h.2 (b2i_f c3)
        refine lv_iconst (v := (0 : Int32)) hx hb dX6_readBase_63 (by decide) ?_
        exact rk_zret X kX_len false h hP hS dX6_readBase_64
    · have h := h.2 (b2i_f c2)
      refine lv_iconst (v := (0 : Int32)) hx hb dX6_readBase_23 (by decide) ?_
      exact rk_zret X kX_len false h hP hS dX6_readBase_24
  · have h := h.2 c1
    refine lv_aload_n hx hb dX6_readBase_8 rfl (lv_at hl 0 rfl) ?_
    refine lv_iconst (v := (5 : Int32)) hx hb dX6_readBase_9 (by decide) ?_
    refine rk_callz (va_runV (As := [.int (5 : Int32)]) (rest := []) X.1 (mX6_fail l D cy B v0 (5 : Int32) σ h0 h) (cwV 1 hts (gW_V (wi_11 _ (List.mem_of_getElem? (i := 0) rfl)) (wi_11 _ (List.mem_of_getElem? (i := 1) rfl)) (wi_11 _ (List.mem_of_getElem? (i := 2) rfl)) (wi_10 _ (List.mem_of_getElem? (i := 2) rfl)) (wi_10 _ (List.mem_of_getElem? (i := 22) rfl))) rfl rfl rfl hd_X6_fail ⟨Nat.le_of_ble_eq_true rfl, Nat.le_of_ble_eq_true rfl⟩) (rk_preV X hS hP h0 rfl rfl [.int (5 : Int32)]) rfl rfl hl.1 rfl (lv_room (Nat.le_of_ble_eq_true rfl)) dX6_readBase_10 ⟨Nat.zero_le _, Nat.zero_le _⟩) hS (fun _ h => h) (fun r9 s15 H locs h hP hS => ?_)
    exact rk_zret X kX_len r9 h hP hS dX6_readBase_13

theorem hd_X6_takeKnownName : yX6_takeKnownName.cls = RX6 ∧ yX6_takeKnownName.cls ≠ "java/lang/invoke/MethodHandle" ∧ yX6_takeKnownName.cls ≠ "java/lang/invoke/VarHandle" ∧ (parseMethodDescriptor yX6_takeKnownName.desc).map (fun d => d.parameters.length) = some 3 := by decide +kernel
set_option maxRecDepth 100000 in
set_option maxHeartbeats 4000000 in
theorem tX6_takeKnownName_20 {p : Program} {l : Launch} {e : Env} {s : State} {m : MethodId} {av : Array Value} {below : List Frame} {meth : Method} {c : Code} {D : va_G} {cy : Nat → ClassId} {B : Nat} (X : kC p s m av meth c cX6_takeKnownName 4 (some .boolean) WALL RX6 D cy (AW B 346)) {post : Bool → St → Prop} : ∀ (v0 : Nat) (σ : St), kX[v0]? = some 6 → wX6_takeKnownName_20 post v0 σ → ∀ (H : Heap) (locs : List Loc) (ls : Array Slot), va_P D vwCl (wW cy B kX σ) H → va_S (AW B 346) s.heap H locs → lv_has ls 4 [(0, .ref (B + v0))] → W p l e (rmD 2) s m av below meth c H locs 0 0 (MQ below (Qz post D cy B kX 346) av s 0 0 (AW B 346)) (F0 m 20 ls []) := by
  obtain ⟨⟨hx, hb, hml, hown, hts⟩, hr, hlk, hK, hN, hZ⟩ := id X
  have hD : ∀ σ, va_D (AW B 346) (wW cy B kX σ) := AW_D kX_len
  intro v0 σ h0 h H locs ls hP hS hl
  unfold wX6_takeKnownName_20 at h
  refine lv_aload_n hx hb dX6_takeKnownName_20 rfl (lv_at hl 0 rfl) ?_
  refine lv_iconst (v := (1 : Int32)) hx hb dX6_takeKnownName_21 (by decide) ?_
  refine rk_callz (va_runV (As := [.int (1 : Int32)]) (rest := []) X.1 (mX6_fail l D cy B v0 (1 : Int32) σ h0 h) (cwV 1 hts (gW_V (wi_11 _ (List.mem_of_getElem? (i := 0) rfl)) (wi_11 _ (List.mem_of_getElem? (i := 1) rfl)) (wi_11 _ (List.mem_of_getElem? (i := 2) rfl)) (wi_10 _ (List.mem_of_getElem? (i := 2) rfl)) (wi_10 _ (List.mem_of_getElem? (i := 22) rfl))) rfl rfl rfl hd_X6_fail ⟨Nat.le_of_ble_eq_true rfl, Nat.le_of_ble_eq_true rfl⟩) (rk_preV X hS hP h0 rfl rfl [.int (1 : Int32)]) rfl rfl hl.1 rfl (lv_room (Nat.le_of_ble_eq_true rfl)) dX6_takeKnownName_22 ⟨Nat.zero_le _, Nat.zero_le _⟩) hS (fun _ h => h) (fun r1 s1 H locs h hP hS => ?_)
  exact rk_zret X kX_len r1 h hP hS dX6_takeKnownName_25
set_option maxRecDepth 100000 in
set_option maxHeartbeats 4000000 in
theorem mX6_takeKnownName (l : Launch) (D : va_G) (cy : Nat → ClassId) (B : Nat) (v0 : Nat) (v1 : Nat) (v2 : Nat) (v3 : Int32) (σ : St) (h0 : kX[v0]? = some 6) (h1 : kX[v1]? = some 20700) (h2 : kX[v2]? = some 9) {post : Bool → St → Prop} (h : wX6_takeKnownName v0 v1 v2 v3 σ post) : Met l yX6_takeKnownName (Cond.code yX6_takeKnownName cX6_takeKnownName 4 (some .boolean) :: WALL) (rmD 2) (PcW D cy B kX σ [.ref (B + v0), .ref (B + v1), .ref (B + v2), .int v3]) (Qz post D cy B kX 346) 0 0 (AW B 346) := by
  refine Met.ofK (cc := cX6_takeKnownName) (maxL := 4) (ret := (some .boolean)) (by decide +kernel) rfl kX_len ?_
  intro p e s m below meth c X hP
  obtain ⟨⟨hx, hb, hml, hown, hts⟩, hr, hlk, hK, hN, hZ⟩ := id X
  have hD : ∀ σ, va_D (AW B 346) (wW cy B kX σ) := AW_D kX_len
  have hS : va_S (AW B 346) s.heap s.heap [] := va_S.rf
  have hl := lv_entry ([.ref (B + v0), .ref (B + v1), .ref (B + v2), .int v3]) (n := 4) (Nat.le_of_ble_eq_true rfl)
  rw [lg_entry_eq]
  generalize (lg_sl ([.ref (B + v0), .ref (B + v1), .ref (B + v2), .int v3]) ++ List.replicate (4 - (lg_sl ([.ref (B + v0), .ref (B + v1), .ref (B + v2), .int v3])).length) Slot.unset).toArray = ls at hl ⊢
  have hl : lv_has ls 4 [(0, .ref (B + v0)), (1, .ref (B + v1)), (2, .ref (B + v2)), (3, .int v3)] := hl
  unfold wX6_takeKnownName at h
  refine lv_aload_n hx hb dX6_takeKnownName_0 rfl (lv_at hl 0 rfl) ?_
  refine lv_aload_n hx hb dX6_takeKnownName_1 rfl (lv_at hl 1 rfl) ?_
  refine rk_callv (va_runV (As := [.ref (B + v1)]) (rest := []) X.1 (mX6_advance l D cy B v0 v1 σ h0 h1 h) (cwV 1 hts (gW_V (wi_11 _ (List.mem_of_getElem? (i := 3) rfl)) (wi_11 _ (List.mem_of_getElem? (i := 4) rfl)) (wi_11 _ (List.mem_of_getElem? (i := 5) rfl)) (wi_10 _ (List.mem_of_getElem? (i := 2) rfl)) (wi_10 _ (List.mem_of_getElem? (i := 14) rfl))) rfl rfl rfl hd_X6_advance ⟨Nat.le_of_ble_eq_true rfl, Nat.le_of_ble_eq_true rfl⟩) (rk_preV X hS hP h0 rfl rfl [.ref (B + v1)]) rfl rfl hl.1 rfl (lv_room (Nat.le_of_ble_eq_true rfl)) dX6_takeKnownName_2 ⟨Nat.zero_le _, Nat.zero_le _⟩) hS (fun _ h => h) (fun s1 H locs h hP hS => ?_)
  refine lv_aload_n hx hb dX6_takeKnownName_5 rfl (lv_at hl 0 rfl) ?_
  refine rk_get X hP (C := RX6) (T := TX6) (N := 8) (ci := 6) wix_6 h0 rfl rfl 4 (by decide) (wi_9 _ (List.mem_of_getElem? (i := 19) rfl)) rfl rfl dX6_takeKnownName_6 ?_
  refine lv_if_ne (tgt := 20) hx hb dX6_takeKnownName_9 (by decide) (fun c1 => ?_) (fun c1 => ?_)
  · have h := h.1 c1
    exact tX6_takeKnownName_20 X _ _ h0 h _ _ _ hP hS (lv_sub hl [0] rfl)
  · have h := h.2 c1
    refine lv_aload_n hx hb dX6_takeKnownName_12 rfl (lv_at hl 0 rfl) ?_
    refine rk_calli (va_runV (As := []) (rest := []) X.1 (mX6_keyword l D cy B v0 s1 h0 h) (cwV 0 hts (gW_V (wi_12 _ (List.mem_of_getElem? (i := 0) rfl)) (wi_12 _ (List.mem_of_getElem? (i := 1) rfl)) (wi_12 _ (List.mem_of_getElem? (i := 2) rfl)) (wi_10 _ (List.mem_of_getElem? (i := 2) rfl)) (wi_10 _ (List.mem_of_getElem? (i := 21) rfl))) rfl rfl rfl hd_X6_keyword ⟨Nat.le_of_ble_eq_true rfl, Nat.le_of_ble_eq_true rfl⟩) (rk_preV X hS hP h0 rfl rfl []) rfl rfl hl.1 rfl (lv_room (Nat.le_of_ble_eq_true rfl)) dX6_takeKnownName_13 ⟨Nat.zero_le _, Nat.zero_le _⟩) hS (fun _ h => h) (fun r1 s2 H locs h hP hS => ?_)
    refine lv_iconst (v := (-1 : Int32)) hx hb dX6_takeKnownName_16 (by decide) ?_
    refine lv_icmp_eq (tgt := 26) hx hb dX6_takeKnownName_17 (by decide) (fun c2 => ?_) (fun c2 => ?_)
    · have h := h.1 c2
      refine lv_aload_n hx hb dX6_takeKnownName_26 rfl (lv_at hl 0 rfl) ?_
      refine lv_aload_n hx hb dX6_takeKnownName_27 rfl (lv_at hl 2 rfl) ?_
      refine lv_aload_n hx hb dX6_takeKnownName_28 rfl (lv_at hl 0 rfl) ?_
      refine rk_get X hP (C := RX6) (T := TX6) (N := 8) (ci := 6) wix_6 h0 rfl rfl 6 (by decide) (wi_9 _ (List.mem_of_getElem? (i := 21) rfl)) rfl rfl dX6_takeKnownName_29 ?_
      refine lv_iload_n hx hb dX6_takeKnownName_32 rfl (lv_at hl 3 rfl) ?_
      refine rk_calli (va_runV (As := [.int (s2.1 v0 6), .int v3]) (rest := [.ref (B + v0)]) X.1 (mX9_numberOf l D cy B v2 (s2.1 v0 6) v3 s2 h2 h) (cwV 2 hts (gW_V (wi_14 _ (List.mem_of_getElem? (i := 4) rfl)) (wi_14 _ (List.mem_of_getElem? (i := 5) rfl)) (wi_14 _ (List.mem_of_getElem? (i := 6) rfl)) (wi_12 _ (List.mem_of_getElem? (i := 6) rfl)) (wi_14 _ (List.mem_of_getElem? (i := 3) rfl))) rfl rfl rfl hd_X9_numberOf ⟨Nat.le_of_ble_eq_true rfl, Nat.le_of_ble_eq_true rfl⟩) (rk_preV X hS hP h2 rfl rfl [.int (s2.1 v0 6), .int v3]) rfl rfl hl.1 rfl (lv_room (Nat.le_of_ble_eq_true rfl)) dX6_takeKnownName_33 ⟨Nat.zero_le _, Nat.zero_le _⟩) hS (fun _ h => h) (fun r2 s3 H locs h hP hS => ?_)
      refine rk_puti X hP hD hS (C := RX6) (T := TX6) (N := 8) (ci := 6) wix_6 h0 rfl rfl tyX6 tyX6_ok nmX6 6 (by decide) (wi_9 _ (List.mem_of_getElem? (i := 21) rfl)) rfl rfl (by decide +kernel) (Nat.le_of_ble_eq_true rfl) rfl dX6_takeKnownName_36 (fun H locs hP hS => ?_)
      obtain ⟨s4, es4⟩ : ∃ z : St, z = u1 s3 v0 6 r2 := ⟨_, rfl⟩
      rw [← es4] at hP
      have h := h s4 es4
      refine lv_aload_n hx hb dX6_takeKnownName_39 rfl (lv_at hl 0 rfl) ?_
      refine rk_get X hP (C := RX6) (T := TX6) (N := 8) (ci := 6) wix_6 h0 rfl rfl 6 (by decide) (wi_9 _ (List.mem_of_getElem? (i := 21) rfl)) rfl rfl dX6_takeKnownName_40 ?_
      refine lv_iconst (v := (-1 : Int32)) hx hb dX6_takeKnownName_43 (by decide) ?_
      refine lv_icmp_ne (tgt := 55) hx hb dX6_takeKnownName_44 (by decide) (fun c3 => ?_) (fun c3 => ?_)
      · have h := h.1 c3
        refine lv_iconst (v := (1 : Int32)) hx hb dX6_takeKnownName_55 (by decide) ?_
        refine lv_goto (tgt := 60) hx hb dX6_takeKnownName_56 (by decide) ?_
        exact rk_zret X kX_len true h hP hS dX6_takeKnownName_60
      · have h := h.2 c3
        refine lv_aload_n hx hb dX6_takeKnownName_47 rfl (lv_at hl 0 rfl) ?_
        refine lv_iconst (v := (3 : Int32)) hx hb dX6_takeKnownName_48 (by decide) ?_
        refine rk_callz (va_runV (As := [.int (3 : Int32)]) (rest := []) X.1 (mX6_fail l D cy B v0 (3 : Int32) s4 h0 h) (cwV 1 hts (gW_V (wi_11 _ (List.mem_of_getElem? (i := 0) rfl)) (wi_11 _ (List.mem_of_getElem? (i := 1) rfl)) (wi_11 _ (List.mem_of_getElem? (i := 2) rfl)) (wi_10 _ (List.mem_of_getElem? (i := 2) rfl)) (wi_10 _ (List.mem_of_getElem? (i := 22) rfl))) rfl rfl rfl hd_X6_fail ⟨Nat.le_of_ble_eq_true rfl, Nat.le_of_ble_eq_true rfl⟩) (rk_preV X hS hP h0 rfl rfl [.int (3 : Int32)]) rfl rfl hl.1 rfl (lv_room (Nat.le_of_ble_eq_true rfl)) dX6_takeKnownName_49 ⟨Nat.zero_le _, Nat.zero_le _⟩) hS (fun _ h => h) (fun r3 s5 H locs h hP hS => ?_)
        refine lv_if_eq (tgt := 59) hx hb dX6_takeKnownName_52 (by decide) (fun c4 => ?_) (fun c4 => ?_)
        · have h := h.1 (b2i_f c4)
          refine lv_iconst (v := (0 : Int32)) hx hb dX6_takeKnownName_59 (by decide) ?_
          exact rk_zret X kX_len false h hP hS dX6_takeKnownName_60
        · have h := h.2 (b2i_t c4)
          refine lv_iconst (v := (1 : Int32)) hx hb dX6_takeKnownName_55 (by decide) ?_
          refine lv_goto (tgt := 60) hx hb dX6_takeKnownName_56 (by decide) ?_
          exact rk_zret X kX_len true h hP hS dX6_takeKnownName_60
    · have h := h.2 c2
      exact tX6_takeKnownName_20 X _ _ h0 h _ _ _ hP hS (lv_sub hl [0] rfl)

theorem hd_X6_readNode : yX6_readNode.cls = RX6 ∧ yX6_readNode.cls ≠ "java/lang/invoke/MethodHandle" ∧ yX6_readNode.cls ≠ "java/lang/invoke/VarHandle" ∧ (parseMethodDescriptor yX6_readNode.desc).map (fun d => d.parameters.length) = some 2 := by decide +kernel
set_option maxRecDepth 100000 in
set_option maxHeartbeats 4000000 in
theorem mX6_readNode (l : Launch) (D : va_G) (cy : Nat → ClassId) (B : Nat) (v0 : Nat) (v1 : Nat) (v2 : Nat) (σ : St) (h0 : kX[v0]? = some 6) (h1 : kX[v1]? = some 20700) (h2 : kX[v2]? = some 9) {post : Bool → St → Prop} (h : wX6_readNode v0 v1 v2 σ post) : Met l yX6_readNode (Cond.code yX6_readNode cX6_readNode 3 (some .boolean) :: WALL) (rmD 4) (PcW D cy B kX σ [.ref (B + v0), .ref (B + v1), .ref (B + v2)]) (Qz post D cy B kX 346) 0 0 (AW B 346) := by
  refine Met.ofK (cc := cX6_readNode) (maxL := 3) (ret := (some .boolean)) (by decide +kernel) rfl kX_len ?_
  intro p e s m below meth c X hP
  obtain ⟨⟨hx, hb, hml, hown, hts⟩, hr, hlk, hK, hN, hZ⟩ := id X
  have hD : ∀ σ, va_D (AW B 346) (wW cy B kX σ) := AW_D kX_len
  have hS : va_S (AW B 346) s.heap s.heap [] := va_S.rf
  have hl := lv_entry ([.ref (B + v0), .ref (B + v1), .ref (B + v2)]) (n := 3) (Nat.le_of_ble_eq_true rfl)
  rw [lg_entry_eq]
  generalize (lg_sl ([.ref (B + v0), .ref (B + v1), .ref (B + v2)]) ++ List.replicate (3 - (lg_sl ([.ref (B + v0), .ref (B + v1), .ref (B + v2)])).length) Slot.unset).toArray = ls at hl ⊢
  have hl : lv_has ls 3 [(0, .ref (B + v0)), (1, .ref (B + v1)), (2, .ref (B + v2))] := hl
  unfold wX6_readNode at h
  refine lv_aload_n hx hb dX6_readNode_0 rfl (lv_at hl 2 rfl) ?_
  refine rk_get X hP (C := RX9) (T := TX9) (N := 10) (ci := 9) wix_9 h2 rfl rfl 5 (by decide) (wi_14 _ (List.mem_of_getElem? (i := 8) rfl)) rfl rfl dX6_readNode_1 ?_
  refine rk_get X hP (C := RX4) (T := TX4) (N := 4) (ci := 4) wix_4 (klX_X9_5 h2) rfl rfl 0 (by decide) (wi_14 _ (List.mem_of_getElem? (i := 9) rfl)) rfl rfl dX6_readNode_4 ?_
  refine lv_bipush (v := (6 : Int32)) hx hb dX6_readNode_7 (by decide) ?_
  refine lv_icmp_lt (tgt := 18) hx hb dX6_readNode_9 (by decide) (fun c1 => ?_) (fun c1 => ?_)
  · have h := h.1 c1
    refine lv_aload_n hx hb dX6_readNode_18 rfl (lv_at hl 0 rfl) ?_
    refine lv_aload_n hx hb dX6_readNode_19 rfl (lv_at hl 1 rfl) ?_
    refine lv_aload_n hx hb dX6_readNode_20 rfl (lv_at hl 2 rfl) ?_
    refine rk_callz (va_runV (As := [.ref (B + v1), .ref (B + v2)]) (rest := []) X.1 (mX6_takeNewName l D cy B v0 v1 v2 σ h0 h1 h2 h) (cwV 2 hts (gW_V (wi_12 _ (List.mem_of_getElem? (i := 15) rfl)) (wi_12 _ (List.mem_of_getElem? (i := 16) rfl)) (wi_12 _ (List.mem_of_getElem? (i := 17) rfl)) (wi_10 _ (List.mem_of_getElem? (i := 2) rfl)) (wi_12 _ (List.mem_of_getElem? (i := 7) rfl))) rfl rfl rfl hd_X6_takeNewName ⟨Nat.le_of_ble_eq_true rfl, Nat.le_of_ble_eq_true rfl⟩) (rk_preV X hS hP h0 rfl rfl [.ref (B + v1), .ref (B + v2)]) rfl rfl hl.1 rfl (lv_room (Nat.le_of_ble_eq_true rfl)) dX6_readNode_21 ⟨Nat.zero_le _, Nat.zero_le _⟩) hS (fun _ h => h) (fun r1 s1 H locs h hP hS => ?_)
    refine lv_if_ne (tgt := 29) hx hb dX6_readNode_24 (by decide) (fun c2 => ?_) (fun c2 => ?_)
    · have h := h.1 (b2i_t c2)
      refine lv_aload_n hx hb dX6_readNode_29 rfl (lv_at hl 2 rfl) ?_
      refine lv_aload_n hx hb dX6_readNode_30 rfl (lv_at hl 0 rfl) ?_
      refine rk_get X hP (C := RX6) (T := TX6) (N := 8) (ci := 6) wix_6 h0 rfl rfl 6 (by decide) (wi_9 _ (List.mem_of_getElem? (i := 21) rfl)) rfl rfl dX6_readNode_31 ?_
      refine lv_iconst (v := (4 : Int32)) hx hb dX6_readNode_34 (by decide) ?_
      refine lv_aload_n hx hb dX6_readNode_35 rfl (lv_at hl 2 rfl) ?_
      refine rk_get X hP (C := RX9) (T := TX9) (N := 10) (ci := 9) wix_9 h2 rfl rfl 5 (by decide) (wi_14 _ (List.mem_of_getElem? (i := 8) rfl)) rfl rfl dX6_readNode_36 ?_
      refine rk_get X hP (C := RX4) (T := TX4) (N := 4) (ci := 4) wix_4 (klX_X9_5 h2) rfl rfl 0 (by decide) (wi_14 _ (List.mem_of_getElem? (i := 9) rfl)) rfl rfl dX6_readNode_39 ?_
      refine rk_callv (va_runV (As := [.int (s1.1 v0 6), .int (4 : Int32), .int (s1.1 (v2 + 3) 0)]) (rest := []) X.1 (mX9_addName l D cy B v2 (s1.1 v0 6) (4 : Int32) (s1.1 (v2 + 3) 0) s1 h2 h) (cwV 3 hts (gW_V (wi_12 _ (List.mem_of_getElem? (i := 18) rfl)) (wi_12 _ (List.mem_of_getElem? (i := 19) rfl)) (wi_12 _ (List.mem_of_getElem? (i := 20) rfl)) (wi_12 _ (List.mem_of_getElem? (i := 6) rfl)) (wi_12 _ (List.mem_of_getElem? (i := 8) rfl))) rfl rfl rfl hd_X9_addName ⟨Nat.le_of_ble_eq_true rfl, Nat.le_of_ble_eq_true rfl⟩) (rk_preV X hS hP h2 rfl rfl [.int (s1.1 v0 6), .int (4 : Int32), .int (s1.1 (v2 + 3) 0)]) rfl rfl hl.1 rfl (lv_room (Nat.le_of_ble_eq_true rfl)) dX6_readNode_42 ⟨Nat.zero_le _, Nat.zero_le _⟩) hS (fun _ h => h) (fun s2 H locs h hP hS => ?_)
      refine lv_aload_n hx hb dX6_readNode_45 rfl (lv_at hl 0 rfl) ?_
      refine lv_aload_n hx hb dX6_readNode_46 rfl (lv_at hl 1 rfl) ?_
      refine lv_aload_n hx hb dX6_readNode_47 rfl (lv_at hl 2 rfl) ?_
      refine lv_iconst (v := (1 : Int32)) hx hb dX6_readNode_48 (by decide) ?_
      refine rk_callz (va_runV (As := [.ref (B + v1), .ref (B + v2), .int (1 : Int32)]) (rest := []) X.1 (mX6_takeKnownName l D cy B v0 v1 v2 (1 : Int32) s2 h0 h1 h2 h) (cwV 3 hts (gW_V (wi_14 _ (List.mem_of_getElem? (i := 10) rfl)) (wi_14 _ (List.mem_of_getElem? (i := 11) rfl)) (wi_14 _ (List.mem_of_getElem? (i := 12) rfl)) (wi_10 _ (List.mem_of_getElem? (i := 2) rfl)) (wi_14 _ (List.mem_of_getElem? (i := 7) rfl))) rfl rfl rfl hd_X6_takeKnownName ⟨Nat.le_of_ble_eq_true rfl, Nat.le_of_ble_eq_true rfl⟩) (rk_preV X hS hP h0 rfl rfl [.ref (B + v1), .ref (B + v2), .int (1 : Int32)]) rfl rfl hl.1 rfl (lv_room (Nat.le_of_ble_eq_true rfl)) dX6_readNode_49 ⟨Nat.zero_le _, Nat.zero_le _⟩) hS (fun _ h => h) (fun r2 s3 H locs h hP hS => ?_)
      refine lv_if_ne (tgt := 57) hx hb dX6_readNode_52 (by decide) (fun c3 => ?_) (fun c3 => ?_)
      · have h := h.1 (b2i_t c3)
        refine lv_aload_n hx hb dX6_readNode_57 rfl (lv_at hl 2 rfl) ?_
        refine rk_get X hP (C := RX9) (T := TX9) (N := 10) (ci := 9) wix_9 h2 rfl rfl 5 (by decide) (wi_14 _ (List.mem_of_getElem? (i := 8) rfl)) rfl rfl dX6_readNode_58 ?_
        refine lv_aload_n hx hb dX6_readNode_61 rfl (lv_at hl 2 rfl) ?_
        refine rk_get X hP (C := RX9) (T := TX9) (N := 10) (ci := 9) wix_9 h2 rfl rfl 2 (by decide) (wi_12 _ (List.mem_of_getElem? (i := 12) rfl)) rfl rfl dX6_readNode_62 ?_
        refine lv_aload_n hx hb dX6_readNode_65 rfl (lv_at hl 0 rfl) ?_
        refine rk_get X hP (C := RX6) (T := TX6) (N := 8) (ci := 6) wix_6 h0 rfl rfl 6 (by decide) (wi_9 _ (List.mem_of_getElem? (i := 21) rfl)) rfl rfl dX6_readNode_66 ?_
        refine lv_topi (fun x1 ex1 => ?_)
        have h := h x1 ex1
        obtain ⟨b1, h⟩ := h
        refine rk_aald X hP (C := RX7) (n := 8) (t0 := 6) (d := 20) (r := 2) (klX_X9_2 h2) (fun _ _ => rfl) rfl b1 dX6_readNode_69 ?_
        refine rk_callv (va_runV (As := [.ref (B + ((v2 + 1) + 20 + 2 * x1.toNatClampNeg))]) (rest := []) X.1 (mX4_addNode l D cy B (v2 + 3) ((v2 + 1) + 20 + 2 * x1.toNatClampNeg) s3 (klX_X9_5 h2) (klX_12 (klX_X9_2 h2) (vp_lt b1)) h) (cwV 1 hts (gW_V (wi_14 _ (List.mem_of_getElem? (i := 13) rfl)) (wi_14 _ (List.mem_of_getElem? (i := 14) rfl)) (wi_14 _ (List.mem_of_getElem? (i := 15) rfl)) (wi_0 _ (List.mem_of_getElem? (i := 23) rfl)) (wi_5 _ (List.mem_of_getElem? (i := 20) rfl))) rfl rfl rfl hd_X4_addNode ⟨Nat.le_of_ble_eq_true rfl, Nat.le_of_ble_eq_true rfl⟩) (rk_preV X hS hP (klX_X9_5 h2) rfl rfl [.ref (B + ((v2 + 1) + 20 + 2 * x1.toNatClampNeg))]) rfl rfl hl.1 rfl (lv_room (Nat.le_of_ble_eq_true rfl)) dX6_readNode_70 ⟨Nat.zero_le _, Nat.zero_le _⟩) hS (fun _ h => h) (fun s4 H locs h hP hS => ?_)
        refine lv_aload_n hx hb dX6_readNode_73 rfl (lv_at hl 0 rfl) ?_
        refine lv_aload_n hx hb dX6_readNode_74 rfl (lv_at hl 1 rfl) ?_
        refine rk_callz (va_runV (As := [.ref (B + v1)]) (rest := []) X.1 (mX6_takeEnd l D cy B v0 v1 s4 h0 h1 h) (cwV 1 hts (gW_V (wi_11 _ (List.mem_of_getElem? (i := 18) rfl)) (wi_11 _ (List.mem_of_getElem? (i := 19) rfl)) (wi_11 _ (List.mem_of_getElem? (i := 20) rfl)) (wi_10 _ (List.mem_of_getElem? (i := 2) rfl)) (wi_11 _ (List.mem_of_getElem? (i := 11) rfl))) rfl rfl rfl hd_X6_takeEnd ⟨Nat.le_of_ble_eq_true rfl, Nat.le_of_ble_eq_true rfl⟩) (rk_preV X hS hP h0 rfl rfl [.ref (B + v1)]) rfl rfl hl.1 rfl (lv_room (Nat.le_of_ble_eq_true rfl)) dX6_readNode_75 ⟨Nat.zero_le _, Nat.zero_le _⟩) hS (fun _ h => h) (fun r3 s5 H locs h hP hS => ?_)
        exact rk_zret X kX_len r3 h hP hS dX6_readNode_78
      · have h := h.2 (b2i_f c3)
        refine lv_iconst (v := (0 : Int32)) hx hb dX6_readNode_55 (by decide) ?_
        exact rk_zret X kX_len false h hP hS dX6_readNode_56
    · have h := h.2 (b2i_f c2)
      refine lv_iconst (v := (0 : Int32)) hx hb dX6_readNode_27 (by decide) ?_
      exact rk_zret X kX_len false h hP hS dX6_readNode_28
  · have h := h.2 c1
    refine lv_aload_n hx hb dX6_readNode_12 rfl (lv_at hl 0 rfl) ?_
    refine lv_iconst (v := (5 : Int32)) hx hb dX6_readNode_13 (by decide) ?_
    refine rk_callz (va_runV (As := [.int (5 : Int32)]) (rest := []) X.1 (mX6_fail l D cy B v0 (5 : Int32) σ h0 h) (cwV 1 hts (gW_V (wi_11 _ (List.mem_of_getElem? (i := 0) rfl)) (wi_11 _ (List.mem_of_getElem? (i := 1) rfl)) (wi_11 _ (List.mem_of_getElem? (i := 2) rfl)) (wi_10 _ (List.mem_of_getElem? (i := 2) rfl)) (wi_10 _ (List.mem_of_getElem? (i := 22) rfl))) rfl rfl rfl hd_X6_fail ⟨Nat.le_of_ble_eq_true rfl, Nat.le_of_ble_eq_true rfl⟩) (rk_preV X hS hP h0 rfl rfl [.int (5 : Int32)]) rfl rfl hl.1 rfl (lv_room (Nat.le_of_ble_eq_true rfl)) dX6_readNode_14 ⟨Nat.zero_le _, Nat.zero_le _⟩) hS (fun _ h => h) (fun r4 s6 H locs h hP hS => ?_)
    exact rk_zret X kX_len r4 h hP hS dX6_readNode_17

theorem hd_X6_takeLeg : yX6_takeLeg.cls = RX6 ∧ yX6_takeLeg.cls ≠ "java/lang/invoke/MethodHandle" ∧ yX6_takeLeg.cls ≠ "java/lang/invoke/VarHandle" ∧ (parseMethodDescriptor yX6_takeLeg.desc).map (fun d => d.parameters.length) = some 3 := by decide +kernel
set_option maxRecDepth 100000 in
set_option maxHeartbeats 4000000 in
theorem tX6_takeLeg_79 {p : Program} {l : Launch} {e : Env} {s : State} {m : MethodId} {av : Array Value} {below : List Frame} {meth : Method} {c : Code} {D : va_G} {cy : Nat → ClassId} {B : Nat} (X : kC p s m av meth c cX6_takeLeg 5 (some .boolean) WALL RX6 D cy (AW B 346)) {post : Bool → St → Prop} : ∀ (v0 : Nat) (σ : St), kX[v0]? = some 6 → wX6_takeLeg_79 post v0 σ → ∀ (H : Heap) (locs : List Loc) (ls : Array Slot), va_P D vwCl (wW cy B kX σ) H → va_S (AW B 346) s.heap H locs → lv_has ls 5 [(0, .ref (B + v0))] → W p l e (rmD 3) s m av below meth c H locs 0 0 (MQ below (Qz post D cy B kX 346) av s 0 0 (AW B 346)) (F0 m 79 ls []) := by
  obtain ⟨⟨hx, hb, hml, hown, hts⟩, hr, hlk, hK, hN, hZ⟩ := id X
  have hD : ∀ σ, va_D (AW B 346) (wW cy B kX σ) := AW_D kX_len
  intro v0 σ h0 h H locs ls hP hS hl
  unfold wX6_takeLeg_79 at h
  refine lv_aload_n hx hb dX6_takeLeg_79 rfl (lv_at hl 0 rfl) ?_
  refine lv_iconst (v := (2 : Int32)) hx hb dX6_takeLeg_80 (by decide) ?_
  refine rk_callz (va_runV (As := [.int (2 : Int32)]) (rest := []) X.1 (mX6_fail l D cy B v0 (2 : Int32) σ h0 h) (cwV 1 hts (gW_V (wi_11 _ (List.mem_of_getElem? (i := 0) rfl)) (wi_11 _ (List.mem_of_getElem? (i := 1) rfl)) (wi_11 _ (List.mem_of_getElem? (i := 2) rfl)) (wi_10 _ (List.mem_of_getElem? (i := 2) rfl)) (wi_10 _ (List.mem_of_getElem? (i := 22) rfl))) rfl rfl rfl hd_X6_fail ⟨Nat.le_of_ble_eq_true rfl, Nat.le_of_ble_eq_true rfl⟩) (rk_preV X hS hP h0 rfl rfl [.int (2 : Int32)]) rfl rfl hl.1 rfl (lv_room (Nat.le_of_ble_eq_true rfl)) dX6_takeLeg_81 ⟨Nat.zero_le _, Nat.zero_le _⟩) hS (fun _ h => h) (fun r1 s1 H locs h hP hS => ?_)
  exact rk_zret X kX_len r1 h hP hS dX6_takeLeg_84
set_option maxRecDepth 100000 in
set_option maxHeartbeats 4000000 in
theorem mX6_takeLeg (l : Launch) (D : va_G) (cy : Nat → ClassId) (B : Nat) (v0 : Nat) (v1 : Nat) (v2 : Nat) (v3 : Int32) (σ : St) (h0 : kX[v0]? = some 6) (h1 : kX[v1]? = some 20700) (h2 : kX[v2]? = some 9) {post : Bool → St → Prop} (h : wX6_takeLeg v0 v1 v2 v3 σ post) : Met l yX6_takeLeg (Cond.code yX6_takeLeg cX6_takeLeg 5 (some .boolean) :: WALL) (rmD 3) (PcW D cy B kX σ [.ref (B + v0), .ref (B + v1), .ref (B + v2), .int v3]) (Qz post D cy B kX 346) 0 0 (AW B 346) := by
  refine Met.ofK (cc := cX6_takeLeg) (maxL := 5) (ret := (some .boolean)) (by decide +kernel) rfl kX_len ?_
  intro p e s m below meth c X hP
  obtain ⟨⟨hx, hb, hml, hown, hts⟩, hr, hlk, hK, hN, hZ⟩ := id X
  have hD : ∀ σ, va_D (AW B 346) (wW cy B kX σ) := AW_D kX_len
  have hS : va_S (AW B 346) s.heap s.heap [] := va_S.rf
  have hl := lv_entry ([.ref (B + v0), .ref (B + v1), .ref (B + v2), .int v3]) (n := 5) (Nat.le_of_ble_eq_true rfl)
  rw [lg_entry_eq]
  generalize (lg_sl ([.ref (B + v0), .ref (B + v1), .ref (B + v2), .int v3]) ++ List.replicate (5 - (lg_sl ([.ref (B + v0), .ref (B + v1), .ref (B + v2), .int v3])).length) Slot.unset).toArray = ls at hl ⊢
  have hl : lv_has ls 5 [(0, .ref (B + v0)), (1, .ref (B + v1)), (2, .ref (B + v2)), (3, .int v3)] := hl
  unfold wX6_takeLeg at h
  refine lv_aload_n hx hb dX6_takeLeg_0 rfl (lv_at hl 0 rfl) ?_
  refine lv_aload_n hx hb dX6_takeLeg_1 rfl (lv_at hl 1 rfl) ?_
  refine lv_aload_n hx hb dX6_takeLeg_2 rfl (lv_at hl 2 rfl) ?_
  refine lv_iconst (v := (4 : Int32)) hx hb dX6_takeLeg_3 (by decide) ?_
  refine rk_callz (va_runV (As := [.ref (B + v1), .ref (B + v2), .int (4 : Int32)]) (rest := []) X.1 (mX6_takeKnownName l D cy B v0 v1 v2 (4 : Int32) σ h0 h1 h2 h) (cwV 3 hts (gW_V (wi_14 _ (List.mem_of_getElem? (i := 10) rfl)) (wi_14 _ (List.mem_of_getElem? (i := 11) rfl)) (wi_14 _ (List.mem_of_getElem? (i := 12) rfl)) (wi_10 _ (List.mem_of_getElem? (i := 2) rfl)) (wi_14 _ (List.mem_of_getElem? (i := 7) rfl))) rfl rfl rfl hd_X6_takeKnownName ⟨Nat.le_of_ble_eq_true rfl, Nat.le_of_ble_eq_true rfl⟩) (rk_preV X hS hP h0 rfl rfl [.ref (B + v1), .ref (B + v2), .int (4 : Int32)]) rfl rfl hl.1 rfl (lv_room (Nat.le_of_ble_eq_true rfl)) dX6_takeLeg_4 ⟨Nat.zero_le _, Nat.zero_le _⟩) hS (fun _ h => h) (fun r1 s1 H locs h hP hS => ?_)
  refine lv_if_ne (tgt := 12) hx hb dX6_takeLeg_7 (by decide) (fun c1 => ?_) (fun c1 => ?_)
  · have h := h.1 (b2i_t c1)
    refine lv_aload_n hx hb dX6_takeLeg_12 rfl (lv_at hl 0 rfl) ?_
    refine rk_get X hP (C := RX6) (T := TX6) (N := 8) (ci := 6) wix_6 h0 rfl rfl 6 (by decide) (wi_9 _ (List.mem_of_getElem? (i := 21) rfl)) rfl rfl dX6_takeLeg_13 ?_
    refine lv_topi (fun x1 ex1 => ?_)
    have h := h x1 ex1
    refine lv_istore (lv' := [(4, .int x1), (0, .ref (B + v0)), (1, .ref (B + v1)), (2, .ref (B + v2)), (3, .int v3)]) hx hb dX6_takeLeg_16 hl (by decide) rfl (fun ls hl => ?_)
    refine lv_aload_n hx hb dX6_takeLeg_18 rfl (lv_at hl 1 rfl) ?_
    refine lv_aload_n hx hb dX6_takeLeg_19 rfl (lv_at hl 2 rfl) ?_
    refine lv_iconst (v := (0 : Int32)) hx hb dX6_takeLeg_20 (by decide) ?_
    refine lv_aload_n hx hb dX6_takeLeg_21 rfl (lv_at hl 3 rfl) ?_
    refine rk_get X hP (C := RX9) (T := TX9) (N := 10) (ci := 9) wix_9 h2 rfl rfl 5 (by decide) (wi_14 _ (List.mem_of_getElem? (i := 8) rfl)) rfl rfl dX6_takeLeg_22 ?_
    refine rk_get X hP (C := RX4) (T := TX4) (N := 4) (ci := 4) wix_4 (klX_X9_5 h2) rfl rfl 2 (by decide) (wi_14 _ (List.mem_of_getElem? (i := 17) rfl)) rfl rfl dX6_takeLeg_25 ?_
    refine lv_iload hx hb dX6_takeLeg_28 (lv_at hl 0 rfl) ?_
    obtain ⟨b1, h⟩ := h
    refine rk_aald X hP (C := RX7) (n := 6) (t0 := 6) (d := 2) (r := 2) (klX_X4_2 (klX_X9_5 h2)) (fun _ _ => rfl) rfl b1 dX6_takeLeg_30 ?_
    refine rk_get X hP (C := RX7) (T := TX7) (N := 2) (ci := 7) wix_7 (klX_14 (klX_X4_2 (klX_X9_5 h2)) (vp_lt b1)) rfl rfl 0 (by decide) (wi_12 _ (List.mem_of_getElem? (i := 13) rfl)) rfl rfl dX6_takeLeg_31 ?_
    refine lv_iconst (v := (1 : Int32)) hx hb dX6_takeLeg_34 (by decide) ?_
    refine lv_isub hx hb dX6_takeLeg_35 ?_
    refine rk_callz (va_runV (As := [.ref (B + v1), .int (0 : Int32), .int ((s1.1 (((v2 + 3) + 1) + 2 + 2 * x1.toNatClampNeg) 0) - (1 : Int32))]) (rest := []) X.1 (mX6_takeNumber l D cy B v0 v1 (0 : Int32) ((s1.1 (((v2 + 3) + 1) + 2 + 2 * x1.toNatClampNeg) 0) - (1 : Int32)) s1 h0 h1 h) (cwV 3 hts (gW_V (wi_11 _ (List.mem_of_getElem? (i := 13) rfl)) (wi_11 _ (List.mem_of_getElem? (i := 14) rfl)) (wi_11 _ (List.mem_of_getElem? (i := 15) rfl)) (wi_10 _ (List.mem_of_getElem? (i := 2) rfl)) (wi_11 _ (List.mem_of_getElem? (i := 9) rfl))) rfl rfl rfl hd_X6_takeNumber ⟨Nat.le_of_ble_eq_true rfl, Nat.le_of_ble_eq_true rfl⟩) (rk_preV X hS hP h0 rfl rfl [.ref (B + v1), .int (0 : Int32), .int ((s1.1 (((v2 + 3) + 1) + 2 + 2 * x1.toNatClampNeg) 0) - (1 : Int32))]) rfl rfl hl.1 rfl (lv_room (Nat.le_of_ble_eq_true rfl)) dX6_takeLeg_36 ⟨Nat.zero_le _, Nat.zero_le _⟩) hS (fun _ h => h) (fun r2 s2 H locs h hP hS => ?_)
    refine lv_if_ne (tgt := 44) hx hb dX6_takeLeg_39 (by decide) (fun c2 => ?_) (fun c2 => ?_)
    · have h := h.1 (b2i_t c2)
      refine lv_aload_n hx hb dX6_takeLeg_44 rfl (lv_at hl 1 rfl) ?_
      refine lv_dup hx hb dX6_takeLeg_45 rfl ?_
      refine rk_get X hP (C := RX6) (T := TX6) (N := 8) (ci := 6) wix_6 h0 rfl rfl 6 (by decide) (wi_9 _ (List.mem_of_getElem? (i := 21) rfl)) rfl rfl dX6_takeLeg_46 ?_
      refine lv_iconst (v := (4 : Int32)) hx hb dX6_takeLeg_49 (by decide) ?_
      refine lv_iload hx hb dX6_takeLeg_50 (lv_at hl 0 rfl) ?_
      refine lv_imul hx hb dX6_takeLeg_52 ?_
      refine lv_iadd hx hb dX6_takeLeg_53 ?_
      refine rk_puti X hP hD hS (C := RX6) (T := TX6) (N := 8) (ci := 6) wix_6 h0 rfl rfl tyX6 tyX6_ok nmX6 6 (by decide) (wi_9 _ (List.mem_of_getElem? (i := 21) rfl)) rfl rfl (by decide +kernel) (Nat.le_of_ble_eq_true rfl) rfl dX6_takeLeg_54 (fun H locs hP hS => ?_)
      obtain ⟨s3, es3⟩ : ∃ z : St, z = u1 s2 v0 6 ((s2.1 v0 6) + ((4 : Int32) * x1)) := ⟨_, rfl⟩
      rw [← es3] at hP
      have h := h s3 es3
      refine lv_aload_n hx hb dX6_takeLeg_57 rfl (lv_at hl 1 rfl) ?_
      refine rk_get X hP (C := RX6) (T := TX6) (N := 8) (ci := 6) wix_6 h0 rfl rfl 6 (by decide) (wi_9 _ (List.mem_of_getElem? (i := 21) rfl)) rfl rfl dX6_takeLeg_58 ?_
      refine lv_iload_n hx hb dX6_takeLeg_61 rfl (lv_at hl 4 rfl) ?_
      refine lv_icmp_eq (tgt := 79) hx hb dX6_takeLeg_62 (by decide) (fun c3 => ?_) (fun c3 => ?_)
      · have h := h.1 c3
        exact tX6_takeLeg_79 X _ _ h0 h _ _ _ hP hS (lv_sub hl [1] rfl)
      · have h := h.2 c3
        refine lv_aload_n hx hb dX6_takeLeg_65 rfl (lv_at hl 3 rfl) ?_
        refine rk_get X hP (C := RX9) (T := TX9) (N := 10) (ci := 9) wix_9 h2 rfl rfl 5 (by decide) (wi_14 _ (List.mem_of_getElem? (i := 8) rfl)) rfl rfl dX6_takeLeg_66 ?_
        refine lv_aload_n hx hb dX6_takeLeg_69 rfl (lv_at hl 1 rfl) ?_
        refine rk_get X hP (C := RX6) (T := TX6) (N := 8) (ci := 6) wix_6 h0 rfl rfl 6 (by decide) (wi_9 _ (List.mem_of_getElem? (i := 21) rfl)) rfl rfl dX6_takeLeg_70 ?_
        refine rk_callz (va_runV (As := [.int (s3.1 v0 6)]) (rest := []) X.1 (mX4_hasWireAt l D cy B (v2 + 3) (s3.1 v0 6) s3 (klX_X9_5 h2) h) (cwV 1 hts (gW_V (wi_14 _ (List.mem_of_getElem? (i := 18) rfl)) (wi_5 _ (List.mem_of_getElem? (i := 13) rfl)) (wi_5 _ (List.mem_of_getElem? (i := 14) rfl)) (wi_0 _ (List.mem_of_getElem? (i := 23) rfl)) (wi_5 _ (List.mem_of_getElem? (i := 5) rfl))) rfl rfl rfl hd_X4_hasWireAt ⟨Nat.le_of_ble_eq_true rfl, Nat.le_of_ble_eq_true rfl⟩) (rk_preV X hS hP (klX_X9_5 h2) rfl rfl [.int (s3.1 v0 6)]) rfl rfl hl.1 rfl (lv_room (Nat.le_of_ble_eq_true rfl)) dX6_takeLeg_73 ⟨Nat.zero_le _, Nat.zero_le _⟩) hS (fun _ h => h) (fun r3 s4 H locs h hP hS => ?_)
        refine lv_if_eq (tgt := 85) hx hb dX6_takeLeg_76 (by decide) (fun c4 => ?_) (fun c4 => ?_)
        · have h := h.1 (b2i_f c4)
          refine lv_iconst (v := (1 : Int32)) hx hb dX6_takeLeg_85 (by decide) ?_
          exact rk_zret X kX_len true h hP hS dX6_takeLeg_86
        · have h := h.2 (b2i_t c4)
          exact tX6_takeLeg_79 X _ _ h0 h _ _ _ hP hS (lv_sub hl [1] rfl)
    · have h := h.2 (b2i_f c2)
      refine lv_iconst (v := (0 : Int32)) hx hb dX6_takeLeg_42 (by decide) ?_
      exact rk_zret X kX_len false h hP hS dX6_takeLeg_43
  · have h := h.2 (b2i_f c1)
    refine lv_iconst (v := (0 : Int32)) hx hb dX6_takeLeg_10 (by decide) ?_
    exact rk_zret X kX_len false h hP hS dX6_takeLeg_11

theorem hd_X6_readWire : yX6_readWire.cls = RX6 ∧ yX6_readWire.cls ≠ "java/lang/invoke/MethodHandle" ∧ yX6_readWire.cls ≠ "java/lang/invoke/VarHandle" ∧ (parseMethodDescriptor yX6_readWire.desc).map (fun d => d.parameters.length) = some 2 := by decide +kernel
set_option maxRecDepth 100000 in
set_option maxHeartbeats 4000000 in
theorem mX6_readWire (l : Launch) (D : va_G) (cy : Nat → ClassId) (B : Nat) (v0 : Nat) (v1 : Nat) (v2 : Nat) (σ : St) (h0 : kX[v0]? = some 6) (h1 : kX[v1]? = some 20700) (h2 : kX[v2]? = some 9) {post : Bool → St → Prop} (h : wX6_readWire v0 v1 v2 σ post) : Met l yX6_readWire (Cond.code yX6_readWire cX6_readWire 4 (some .boolean) :: WALL) (rmD 4) (PcW D cy B kX σ [.ref (B + v0), .ref (B + v1), .ref (B + v2)]) (Qz post D cy B kX 346) 0 0 (AW B 346) := by
  refine Met.ofK (cc := cX6_readWire) (maxL := 4) (ret := (some .boolean)) (by decide +kernel) rfl kX_len ?_
  intro p e s m below meth c X hP
  obtain ⟨⟨hx, hb, hml, hown, hts⟩, hr, hlk, hK, hN, hZ⟩ := id X
  have hD : ∀ σ, va_D (AW B 346) (wW cy B kX σ) := AW_D kX_len
  have hS : va_S (AW B 346) s.heap s.heap [] := va_S.rf
  have hl := lv_entry ([.ref (B + v0), .ref (B + v1), .ref (B + v2)]) (n := 4) (Nat.le_of_ble_eq_true rfl)
  rw [lg_entry_eq]
  generalize (lg_sl ([.ref (B + v0), .ref (B + v1), .ref (B + v2)]) ++ List.replicate (4 - (lg_sl ([.ref (B + v0), .ref (B + v1), .ref (B + v2)])).length) Slot.unset).toArray = ls at hl ⊢
  have hl : lv_has ls 4 [(0, .ref (B + v0)), (1, .ref (B + v1)), (2, .ref (B + v2))] := hl
  unfold wX6_readWire at h
  refine lv_aload_n hx hb dX6_readWire_0 rfl (lv_at hl 2 rfl) ?_
  refine rk_get X hP (C := RX9) (T := TX9) (N := 10) (ci := 9) wix_9 h2 rfl rfl 5 (by decide) (wi_14 _ (List.mem_of_getElem? (i := 8) rfl)) rfl rfl dX6_readWire_1 ?_
  refine rk_get X hP (C := RX4) (T := TX4) (N := 4) (ci := 4) wix_4 (klX_X9_5 h2) rfl rfl 1 (by decide) (wi_14 _ (List.mem_of_getElem? (i := 20) rfl)) rfl rfl dX6_readWire_4 ?_
  refine lv_bipush (v := (10 : Int32)) hx hb dX6_readWire_7 (by decide) ?_
  refine lv_icmp_lt (tgt := 18) hx hb dX6_readWire_9 (by decide) (fun c1 => ?_) (fun c1 => ?_)
  · have h := h.1 c1
    refine lv_aload_n hx hb dX6_readWire_18 rfl (lv_at hl 0 rfl) ?_
    refine lv_aload_n hx hb dX6_readWire_19 rfl (lv_at hl 1 rfl) ?_
    refine lv_aload_n hx hb dX6_readWire_20 rfl (lv_at hl 2 rfl) ?_
    refine lv_iconst (v := (-1 : Int32)) hx hb dX6_readWire_21 (by decide) ?_
    refine rk_callz (va_runV (As := [.ref (B + v1), .ref (B + v2), .int (-1 : Int32)]) (rest := []) X.1 (mX6_takeLeg l D cy B v0 v1 v2 (-1 : Int32) σ h0 h1 h2 h) (cwV 3 hts (gW_V (wi_14 _ (List.mem_of_getElem? (i := 21) rfl)) (wi_14 _ (List.mem_of_getElem? (i := 22) rfl)) (wi_14 _ (List.mem_of_getElem? (i := 23) rfl)) (wi_10 _ (List.mem_of_getElem? (i := 2) rfl)) (wi_14 _ (List.mem_of_getElem? (i := 19) rfl))) rfl rfl rfl hd_X6_takeLeg ⟨Nat.le_of_ble_eq_true rfl, Nat.le_of_ble_eq_true rfl⟩) (rk_preV X hS hP h0 rfl rfl [.ref (B + v1), .ref (B + v2), .int (-1 : Int32)]) rfl rfl hl.1 rfl (lv_room (Nat.le_of_ble_eq_true rfl)) dX6_readWire_22 ⟨Nat.zero_le _, Nat.zero_le _⟩) hS (fun _ h => h) (fun r1 s1 H locs h hP hS => ?_)
    refine lv_if_ne (tgt := 30) hx hb dX6_readWire_25 (by decide) (fun c2 => ?_) (fun c2 => ?_)
    · have h := h.1 (b2i_t c2)
      refine lv_aload_n hx hb dX6_readWire_30 rfl (lv_at hl 0 rfl) ?_
      refine rk_get X hP (C := RX6) (T := TX6) (N := 8) (ci := 6) wix_6 h0 rfl rfl 6 (by decide) (wi_9 _ (List.mem_of_getElem? (i := 21) rfl)) rfl rfl dX6_readWire_31 ?_
      refine lv_topi (fun x1 ex1 => ?_)
      have h := h x1 ex1
      refine lv_istore_n (lv' := [(3, .int x1), (0, .ref (B + v0)), (1, .ref (B + v1)), (2, .ref (B + v2))]) hx hb dX6_readWire_34 rfl hl (by decide) rfl (fun ls hl => ?_)
      refine lv_aload_n hx hb dX6_readWire_35 rfl (lv_at hl 1 rfl) ?_
      refine lv_aload_n hx hb dX6_readWire_36 rfl (lv_at hl 2 rfl) ?_
      refine lv_aload_n hx hb dX6_readWire_37 rfl (lv_at hl 3 rfl) ?_
      refine lv_iload_n hx hb dX6_readWire_38 rfl (lv_at hl 0 rfl) ?_
      refine rk_callz (va_runV (As := [.ref (B + v1), .ref (B + v2), .int x1]) (rest := []) X.1 (mX6_takeLeg l D cy B v0 v1 v2 x1 s1 h0 h1 h2 h) (cwV 3 hts (gW_V (wi_14 _ (List.mem_of_getElem? (i := 21) rfl)) (wi_14 _ (List.mem_of_getElem? (i := 22) rfl)) (wi_14 _ (List.mem_of_getElem? (i := 23) rfl)) (wi_10 _ (List.mem_of_getElem? (i := 2) rfl)) (wi_14 _ (List.mem_of_getElem? (i := 19) rfl))) rfl rfl rfl hd_X6_takeLeg ⟨Nat.le_of_ble_eq_true rfl, Nat.le_of_ble_eq_true rfl⟩) (rk_preV X hS hP h0 rfl rfl [.ref (B + v1), .ref (B + v2), .int x1]) rfl rfl hl.1 rfl (lv_room (Nat.le_of_ble_eq_true rfl)) dX6_readWire_39 ⟨Nat.zero_le _, Nat.zero_le _⟩) hS (fun _ h => h) (fun r2 s2 H locs h hP hS => ?_)
      refine lv_if_ne (tgt := 47) hx hb dX6_readWire_42 (by decide) (fun c3 => ?_) (fun c3 => ?_)
      · have h := h.1 (b2i_t c3)
        refine lv_aload_n hx hb dX6_readWire_47 rfl (lv_at hl 3 rfl) ?_
        refine rk_get X hP (C := RX9) (T := TX9) (N := 10) (ci := 9) wix_9 h2 rfl rfl 5 (by decide) (wi_14 _ (List.mem_of_getElem? (i := 8) rfl)) rfl rfl dX6_readWire_48 ?_
        refine lv_iload_n hx hb dX6_readWire_51 rfl (lv_at hl 0 rfl) ?_
        refine lv_aload_n hx hb dX6_readWire_52 rfl (lv_at hl 1 rfl) ?_
        refine rk_get X hP (C := RX6) (T := TX6) (N := 8) (ci := 6) wix_6 h0 rfl rfl 6 (by decide) (wi_9 _ (List.mem_of_getElem? (i := 21) rfl)) rfl rfl dX6_readWire_53 ?_
        refine rk_callv (va_runV (As := [.int x1, .int (s2.1 v0 6)]) (rest := []) X.1 (mX4_addWire l D cy B (v2 + 3) x1 (s2.1 v0 6) s2 (klX_X9_5 h2) h) (cwV 2 hts (gW_V (wi_15 _ (List.mem_of_getElem? (i := 0) rfl)) (wi_15 _ (List.mem_of_getElem? (i := 1) rfl)) (wi_15 _ (List.mem_of_getElem? (i := 2) rfl)) (wi_0 _ (List.mem_of_getElem? (i := 23) rfl)) (wi_5 _ (List.mem_of_getElem? (i := 21) rfl))) rfl rfl rfl hd_X4_addWire ⟨Nat.le_of_ble_eq_true rfl, Nat.le_of_ble_eq_true rfl⟩) (rk_preV X hS hP (klX_X9_5 h2) rfl rfl [.int x1, .int (s2.1 v0 6)]) rfl rfl hl.1 rfl (lv_room (Nat.le_of_ble_eq_true rfl)) dX6_readWire_56 ⟨Nat.zero_le _, Nat.zero_le _⟩) hS (fun _ h => h) (fun s3 H locs h hP hS => ?_)
        refine lv_aload_n hx hb dX6_readWire_59 rfl (lv_at hl 1 rfl) ?_
        refine lv_aload_n hx hb dX6_readWire_60 rfl (lv_at hl 2 rfl) ?_
        refine rk_callz (va_runV (As := [.ref (B + v1)]) (rest := []) X.1 (mX6_takeEnd l D cy B v0 v1 s3 h0 h1 h) (cwV 1 hts (gW_V (wi_11 _ (List.mem_of_getElem? (i := 18) rfl)) (wi_11 _ (List.mem_of_getElem? (i := 19) rfl)) (wi_11 _ (List.mem_of_getElem? (i := 20) rfl)) (wi_10 _ (List.mem_of_getElem? (i := 2) rfl)) (wi_11 _ (List.mem_of_getElem? (i := 11) rfl))) rfl rfl rfl hd_X6_takeEnd ⟨Nat.le_of_ble_eq_true rfl, Nat.le_of_ble_eq_true rfl⟩) (rk_preV X hS hP h0 rfl rfl [.ref (B + v1)]) rfl rfl hl.1 rfl (lv_room (Nat.le_of_ble_eq_true rfl)) dX6_readWire_61 ⟨Nat.zero_le _, Nat.zero_le _⟩) hS (fun _ h => h) (fun r3 s4 H locs h hP hS => ?_)
        exact rk_zret X kX_len r3 h hP hS dX6_readWire_64
      · have h := h.2 (b2i_f c3)
        refine lv_iconst (v := (0 : Int32)) hx hb dX6_readWire_45 (by decide) ?_
        exact rk_zret X kX_len false h hP hS dX6_readWire_46
    · have h := h.2 (b2i_f c2)
      refine lv_iconst (v := (0 : Int32)) hx hb dX6_readWire_28 (by decide) ?_
      exact rk_zret X kX_len false h hP hS dX6_readWire_29
  · have h := h.2 c1
    refine lv_aload_n hx hb dX6_readWire_12 rfl (lv_at hl 0 rfl) ?_
    refine lv_iconst (v := (5 : Int32)) hx hb dX6_readWire_13 (by decide) ?_
    refine rk_callz (va_runV (As := [.int (5 : Int32)]) (rest := []) X.1 (mX6_fail l D cy B v0 (5 : Int32) σ h0 h) (cwV 1 hts (gW_V (wi_11 _ (List.mem_of_getElem? (i := 0) rfl)) (wi_11 _ (List.mem_of_getElem? (i := 1) rfl)) (wi_11 _ (List.mem_of_getElem? (i := 2) rfl)) (wi_10 _ (List.mem_of_getElem? (i := 2) rfl)) (wi_10 _ (List.mem_of_getElem? (i := 22) rfl))) rfl rfl rfl hd_X6_fail ⟨Nat.le_of_ble_eq_true rfl, Nat.le_of_ble_eq_true rfl⟩) (rk_preV X hS hP h0 rfl rfl [.int (5 : Int32)]) rfl rfl hl.1 rfl (lv_room (Nat.le_of_ble_eq_true rfl)) dX6_readWire_14 ⟨Nat.zero_le _, Nat.zero_le _⟩) hS (fun _ h => h) (fun r4 s5 H locs h hP hS => ?_)
    exact rk_zret X kX_len r4 h hP hS dX6_readWire_17

theorem hd_X6_read : yX6_read.cls = RX6 ∧ yX6_read.cls ≠ "java/lang/invoke/MethodHandle" ∧ yX6_read.cls ≠ "java/lang/invoke/VarHandle" ∧ (parseMethodDescriptor yX6_read.desc).map (fun d => d.parameters.length) = some 3 := by decide +kernel
set_option maxRecDepth 100000 in
set_option maxHeartbeats 4000000 in
theorem tX6_read_182 {p : Program} {l : Launch} {e : Env} {s : State} {m : MethodId} {av : Array Value} {below : List Frame} {meth : Method} {c : Code} {D : va_G} {cy : Nat → ClassId} {B : Nat} (X : kC p s m av meth c cX6_read 7 (some .int) WALL RX6 D cy (AW B 346)) {post : Int32 → St → Prop} {R64 : Nat → Nat → Nat → Int32 → Int32 → St → Prop} (hR64 : ∀ (v0 : Nat) (v1 : Nat) (v3 : Nat) (v4 : Int32) (v5 : Int32) (σ : St), kX[v0]? = some 6 → kX[v1]? = some 20700 → kX[v3]? = some 9 → R64 v0 v1 v3 v4 v5 σ → ∀ (H : Heap) (locs : List Loc) (ls : Array Slot), va_P D vwCl (wW cy B kX σ) H → va_S (AW B 346) s.heap H locs → lv_has ls 7 [(0, .ref (B + v0)), (1, .ref (B + v1)), (3, .ref (B + v3)), (4, .int v4), (5, .int v5)] → W p l e (rmD 5) s m av below meth c H locs 0 0 (MQ below (va_Qi post (BW D cy B kX) (AW B 346)) av s 0 0 (AW B 346)) (F0 m 64 ls [])) : ∀ (v0 : Nat) (v1 : Nat) (v3 : Nat) (v4 : Int32) (v5 : Int32) (v6 : Int32) (σ : St), kX[v0]? = some 6 → kX[v1]? = some 20700 → kX[v3]? = some 9 → wX6_read_182 post R64 v0 v1 v3 v4 v5 v6 σ → ∀ (H : Heap) (locs : List Loc) (ls : Array Slot), va_P D vwCl (wW cy B kX σ) H → va_S (AW B 346) s.heap H locs → lv_has ls 7 [(0, .ref (B + v0)), (1, .ref (B + v1)), (3, .ref (B + v3)), (4, .int v4), (5, .int v5), (6, .int v6)] → W p l e (rmD 5) s m av below meth c H locs 0 0 (MQ below (va_Qi post (BW D cy B kX) (AW B 346)) av s 0 0 (AW B 346)) (F0 m 182 ls []) := by
  obtain ⟨⟨hx, hb, hml, hown, hts⟩, hr, hlk, hK, hN, hZ⟩ := id X
  have hD : ∀ σ, va_D (AW B 346) (wW cy B kX σ) := AW_D kX_len
  intro v0 v1 v3 v4 v5 v6 σ h0 h1 h3 h H locs ls hP hS hl
  unfold wX6_read_182 at h
  refine lv_iload hx hb dX6_read_182 (lv_at hl 5 rfl) ?_
  refine lv_if_ne (tgt := 192) hx hb dX6_read_184 (by decide) (fun c1 => ?_) (fun c1 => ?_)
  · have h := h.1 c1
    obtain ⟨x1, ex1⟩ : ∃ y : Int32, y = v4 + (1 : Int32) := ⟨_, rfl⟩
    have h := h x1 ex1
    refine lv_iinc (v := x1) (lv' := [(4, .int x1), (0, .ref (B + v0)), (1, .ref (B + v1)), (3, .ref (B + v3)), (5, .int v5), (6, .int v6)]) hx hb dX6_read_192 hl (k := 3) rfl (by rw [ex1]; rfl) (by decide) rfl (fun ls hl => ?_)
    refine lv_aload_n hx hb dX6_read_195 rfl (lv_at hl 1 rfl) ?_
    refine lv_aload_n hx hb dX6_read_196 rfl (lv_at hl 2 rfl) ?_
    refine rk_callv (va_runV (As := [.ref (B + v1)]) (rest := []) X.1 (mX6_advance l D cy B v0 v1 σ h0 h1 h) (cwV 1 hts (gW_V (wi_11 _ (List.mem_of_getElem? (i := 3) rfl)) (wi_11 _ (List.mem_of_getElem? (i := 4) rfl)) (wi_11 _ (List.mem_of_getElem? (i := 5) rfl)) (wi_10 _ (List.mem_of_getElem? (i := 2) rfl)) (wi_10 _ (List.mem_of_getElem? (i := 14) rfl))) rfl rfl rfl hd_X6_advance ⟨Nat.le_of_ble_eq_true rfl, Nat.le_of_ble_eq_true rfl⟩) (rk_preV X hS hP h0 rfl rfl [.ref (B + v1)]) rfl rfl hl.1 rfl (lv_room (Nat.le_of_ble_eq_true rfl)) dX6_read_197 ⟨Nat.zero_le _, Nat.zero_le _⟩) hS (fun _ h => h) (fun s1 H locs h hP hS => ?_)
    obtain ⟨x2, ex2⟩ : ∃ y : Int32, y = v5 + (1 : Int32) := ⟨_, rfl⟩
    have h := h x2 ex2
    refine lv_iinc (v := x2) (lv' := [(5, .int x2), (4, .int x1), (0, .ref (B + v0)), (1, .ref (B + v1)), (3, .ref (B + v3)), (6, .int v6)]) hx hb dX6_read_200 hl (k := 4) rfl (by rw [ex2]; rfl) (by decide) rfl (fun ls hl => ?_)
    refine lv_goto (tgt := 64) hx hb dX6_read_203 (by decide) ?_
    exact hR64 _ _ _ _ _ _ h0 h1 h3 h _ _ _ hP hS (lv_sub hl [2, 3, 4, 1, 0] rfl)
  · have h := h.2 c1
    refine lv_aload_n hx hb dX6_read_187 rfl (lv_at hl 0 rfl) ?_
    refine rk_get X hP (C := RX6) (T := TX6) (N := 8) (ci := 6) wix_6 h0 rfl rfl 7 (by decide) (wi_9 _ (List.mem_of_getElem? (i := 22) rfl)) rfl rfl dX6_read_188 ?_
    exact rk_iret X rfl kX_len h hP hS dX6_read_191
set_option maxRecDepth 100000 in
set_option maxHeartbeats 4000000 in
theorem tX6_read_64 {p : Program} {l : Launch} {e : Env} {s : State} {m : MethodId} {av : Array Value} {below : List Frame} {meth : Method} {c : Code} {D : va_G} {cy : Nat → ClassId} {B : Nat} (X : kC p s m av meth c cX6_read 7 (some .int) WALL RX6 D cy (AW B 346)) {post : Int32 → St → Prop} : ∀ (n : Nat) (v0 : Nat) (v1 : Nat) (v3 : Nat) (v4 : Int32) (v5 : Int32) (σ : St), kX[v0]? = some 6 → kX[v1]? = some 20700 → kX[v3]? = some 9 → wX6_read_64 post n v0 v1 v3 v4 v5 σ → ∀ (H : Heap) (locs : List Loc) (ls : Array Slot), va_P D vwCl (wW cy B kX σ) H → va_S (AW B 346) s.heap H locs → lv_has ls 7 [(0, .ref (B + v0)), (1, .ref (B + v1)), (3, .ref (B + v3)), (4, .int v4), (5, .int v5)] → W p l e (rmD 5) s m av below meth c H locs 0 0 (MQ below (va_Qi post (BW D cy B kX) (AW B 346)) av s 0 0 (AW B 346)) (F0 m 64 ls []) := by
  obtain ⟨⟨hx, hb, hml, hown, hts⟩, hr, hlk, hK, hN, hZ⟩ := id X
  have hD : ∀ σ, va_D (AW B 346) (wW cy B kX σ) := AW_D kX_len
  intro n
  induction n with
  | zero => intro v0 v1 v3 v4 v5 σ h0 h1 h3 h; exact absurd h id
  | succ n ih =>
    intro v0 v1 v3 v4 v5 σ h0 h1 h3 h H locs ls hP hS hl
    rw [wX6_read_64] at h
    refine lv_iload hx hb dX6_read_64 (lv_at hl 4 rfl) ?_
    refine lv_sipush (v := (700 : Int32)) hx hb dX6_read_66 (by decide) ?_
    refine lv_icmp_gt (tgt := 206) hx hb dX6_read_69 (by decide) (fun c1 => ?_) (fun c1 => ?_)
    · have h := h.1 c1
      refine lv_iload hx hb dX6_read_206 (lv_at hl 3 rfl) ?_
      exact rk_iret X rfl kX_len h hP hS dX6_read_208
    · have h := h.2 c1
      refine lv_aload_n hx hb dX6_read_72 rfl (lv_at hl 0 rfl) ?_
      refine rk_get X hP (C := RX6) (T := TX6) (N := 8) (ci := 6) wix_6 h0 rfl rfl 4 (by decide) (wi_9 _ (List.mem_of_getElem? (i := 19) rfl)) rfl rfl dX6_read_73 ?_
      refine lv_iconst (v := (3 : Int32)) hx hb dX6_read_76 (by decide) ?_
      refine lv_icmp_eq (tgt := 206) hx hb dX6_read_77 (by decide) (fun c2 => ?_) (fun c2 => ?_)
      · have h := h.1 c2
        refine lv_iload hx hb dX6_read_206 (lv_at hl 3 rfl) ?_
        exact rk_iret X rfl kX_len h hP hS dX6_read_208
      · have h := h.2 c2
        refine lv_aload_n hx hb dX6_read_80 rfl (lv_at hl 0 rfl) ?_
        refine rk_calli (va_runV (As := []) (rest := []) X.1 (mX6_keyword l D cy B v0 σ h0 h) (cwV 0 hts (gW_V (wi_12 _ (List.mem_of_getElem? (i := 0) rfl)) (wi_12 _ (List.mem_of_getElem? (i := 1) rfl)) (wi_12 _ (List.mem_of_getElem? (i := 2) rfl)) (wi_10 _ (List.mem_of_getElem? (i := 2) rfl)) (wi_10 _ (List.mem_of_getElem? (i := 21) rfl))) rfl rfl rfl hd_X6_keyword ⟨Nat.le_of_ble_eq_true rfl, Nat.le_of_ble_eq_true rfl⟩) (rk_preV X hS hP h0 rfl rfl []) rfl rfl hl.1 rfl (lv_room (Nat.le_of_ble_eq_true rfl)) dX6_read_81 ⟨Nat.zero_le _, Nat.zero_le _⟩) hS (fun _ h => h) (fun r1 s1 H locs h hP hS => ?_)
        by_cases c3 : r1 = (1 : Int32)
        · have h := h.1 c3
          refine lv_tableIn (tgt := 120) hx hb dX6_read_84 (by rw [c3]; decide) (by rw [c3]; decide) (by rw [c3]; rfl) (by decide) ?_
          refine lv_aload_n hx hb dX6_read_120 rfl (lv_at hl 0 rfl) ?_
          refine lv_aload_n hx hb dX6_read_121 rfl (lv_at hl 1 rfl) ?_
          refine lv_aload_n hx hb dX6_read_122 rfl (lv_at hl 2 rfl) ?_
          refine rk_callz (va_runV (As := [.ref (B + v1), .ref (B + v3)]) (rest := []) X.1 (mX6_readTable l D cy B v0 v1 v3 s1 h0 h1 h3 h) (cwV 2 hts (gW_V (wi_15 _ (List.mem_of_getElem? (i := 10) rfl)) (wi_15 _ (List.mem_of_getElem? (i := 11) rfl)) (wi_15 _ (List.mem_of_getElem? (i := 12) rfl)) (wi_10 _ (List.mem_of_getElem? (i := 2) rfl)) (wi_12 _ (List.mem_of_getElem? (i := 22) rfl))) rfl rfl rfl hd_X6_readTable ⟨Nat.le_of_ble_eq_true rfl, Nat.le_of_ble_eq_true rfl⟩) (rk_preV X hS hP h0 rfl rfl [.ref (B + v1), .ref (B + v3)]) rfl rfl hl.1 rfl (lv_room (Nat.le_of_ble_eq_true rfl)) dX6_read_123 ⟨Nat.zero_le _, Nat.zero_le _⟩) hS (fun _ h => h) (fun r2 s2 H locs h hP hS => ?_)
          refine lv_istore (lv' := [(6, .int (b2i r2)), (0, .ref (B + v0)), (1, .ref (B + v1)), (3, .ref (B + v3)), (4, .int v4), (5, .int v5)]) hx hb dX6_read_126 hl (by decide) rfl (fun ls hl => ?_)
          refine lv_goto (tgt := 182) hx hb dX6_read_128 (by decide) ?_
          exact tX6_read_182 X ih _ _ _ _ _ _ _ h0 h1 h3 h _ _ _ hP hS (lv_sub hl [1, 2, 3, 4, 5, 0] rfl)
        have h := h.2 c3
        by_cases c4 : r1 = (2 : Int32)
        · have h := h.1 c4
          refine lv_tableIn (tgt := 131) hx hb dX6_read_84 (by rw [c4]; decide) (by rw [c4]; decide) (by rw [c4]; rfl) (by decide) ?_
          refine lv_aload_n hx hb dX6_read_131 rfl (lv_at hl 0 rfl) ?_
          refine lv_aload_n hx hb dX6_read_132 rfl (lv_at hl 1 rfl) ?_
          refine lv_aload_n hx hb dX6_read_133 rfl (lv_at hl 2 rfl) ?_
          refine rk_callz (va_runV (As := [.ref (B + v1), .ref (B + v3)]) (rest := []) X.1 (mX6_readGate l D cy B v0 v1 v3 s1 h0 h1 h3 h) (cwV 2 hts (gW_V (wi_15 _ (List.mem_of_getElem? (i := 13) rfl)) (wi_15 _ (List.mem_of_getElem? (i := 14) rfl)) (wi_15 _ (List.mem_of_getElem? (i := 15) rfl)) (wi_10 _ (List.mem_of_getElem? (i := 2) rfl)) (wi_13 _ (List.mem_of_getElem? (i := 18) rfl))) rfl rfl rfl hd_X6_readGate ⟨Nat.le_of_ble_eq_true rfl, Nat.le_of_ble_eq_true rfl⟩) (rk_preV X hS hP h0 rfl rfl [.ref (B + v1), .ref (B + v3)]) rfl rfl hl.1 rfl (lv_room (Nat.le_of_ble_eq_true rfl)) dX6_read_134 ⟨Nat.zero_le _, Nat.zero_le _⟩) hS (fun _ h => h) (fun r3 s3 H locs h hP hS => ?_)
          refine lv_istore (lv' := [(6, .int (b2i r3)), (0, .ref (B + v0)), (1, .ref (B + v1)), (3, .ref (B + v3)), (4, .int v4), (5, .int v5)]) hx hb dX6_read_137 hl (by decide) rfl (fun ls hl => ?_)
          refine lv_goto (tgt := 182) hx hb dX6_read_139 (by decide) ?_
          exact tX6_read_182 X ih _ _ _ _ _ _ _ h0 h1 h3 h _ _ _ hP hS (lv_sub hl [1, 2, 3, 4, 5, 0] rfl)
        have h := h.2 c4
        by_cases c5 : r1 = (3 : Int32)
        · have h := h.1 c5
          refine lv_tableIn (tgt := 142) hx hb dX6_read_84 (by rw [c5]; decide) (by rw [c5]; decide) (by rw [c5]; rfl) (by decide) ?_
          refine lv_aload_n hx hb dX6_read_142 rfl (lv_at hl 0 rfl) ?_
          refine lv_aload_n hx hb dX6_read_143 rfl (lv_at hl 1 rfl) ?_
          refine lv_aload_n hx hb dX6_read_144 rfl (lv_at hl 2 rfl) ?_
          refine rk_callz (va_runV (As := [.ref (B + v1), .ref (B + v3)]) (rest := []) X.1 (mX6_readBase l D cy B v0 v1 v3 s1 h0 h1 h3 h) (cwV 2 hts (gW_V (wi_15 _ (List.mem_of_getElem? (i := 16) rfl)) (wi_15 _ (List.mem_of_getElem? (i := 17) rfl)) (wi_15 _ (List.mem_of_getElem? (i := 18) rfl)) (wi_10 _ (List.mem_of_getElem? (i := 2) rfl)) (wi_14 _ (List.mem_of_getElem? (i := 2) rfl))) rfl rfl rfl hd_X6_readBase ⟨Nat.le_of_ble_eq_true rfl, Nat.le_of_ble_eq_true rfl⟩) (rk_preV X hS hP h0 rfl rfl [.ref (B + v1), .ref (B + v3)]) rfl rfl hl.1 rfl (lv_room (Nat.le_of_ble_eq_true rfl)) dX6_read_145 ⟨Nat.zero_le _, Nat.zero_le _⟩) hS (fun _ h => h) (fun r4 s4 H locs h hP hS => ?_)
          refine lv_istore (lv' := [(6, .int (b2i r4)), (0, .ref (B + v0)), (1, .ref (B + v1)), (3, .ref (B + v3)), (4, .int v4), (5, .int v5)]) hx hb dX6_read_148 hl (by decide) rfl (fun ls hl => ?_)
          refine lv_goto (tgt := 182) hx hb dX6_read_150 (by decide) ?_
          exact tX6_read_182 X ih _ _ _ _ _ _ _ h0 h1 h3 h _ _ _ hP hS (lv_sub hl [1, 2, 3, 4, 5, 0] rfl)
        have h := h.2 c5
        by_cases c6 : r1 = (4 : Int32)
        · have h := h.1 c6
          refine lv_tableIn (tgt := 153) hx hb dX6_read_84 (by rw [c6]; decide) (by rw [c6]; decide) (by rw [c6]; rfl) (by decide) ?_
          refine lv_aload_n hx hb dX6_read_153 rfl (lv_at hl 0 rfl) ?_
          refine lv_aload_n hx hb dX6_read_154 rfl (lv_at hl 1 rfl) ?_
          refine lv_aload_n hx hb dX6_read_155 rfl (lv_at hl 2 rfl) ?_
          refine rk_callz (va_runV (As := [.ref (B + v1), .ref (B + v3)]) (rest := []) X.1 (mX6_readNode l D cy B v0 v1 v3 s1 h0 h1 h3 h) (cwV 2 hts (gW_V (wi_15 _ (List.mem_of_getElem? (i := 19) rfl)) (wi_15 _ (List.mem_of_getElem? (i := 20) rfl)) (wi_15 _ (List.mem_of_getElem? (i := 21) rfl)) (wi_10 _ (List.mem_of_getElem? (i := 2) rfl)) (wi_14 _ (List.mem_of_getElem? (i := 16) rfl))) rfl rfl rfl hd_X6_readNode ⟨Nat.le_of_ble_eq_true rfl, Nat.le_of_ble_eq_true rfl⟩) (rk_preV X hS hP h0 rfl rfl [.ref (B + v1), .ref (B + v3)]) rfl rfl hl.1 rfl (lv_room (Nat.le_of_ble_eq_true rfl)) dX6_read_156 ⟨Nat.zero_le _, Nat.zero_le _⟩) hS (fun _ h => h) (fun r5 s5 H locs h hP hS => ?_)
          refine lv_istore (lv' := [(6, .int (b2i r5)), (0, .ref (B + v0)), (1, .ref (B + v1)), (3, .ref (B + v3)), (4, .int v4), (5, .int v5)]) hx hb dX6_read_159 hl (by decide) rfl (fun ls hl => ?_)
          refine lv_goto (tgt := 182) hx hb dX6_read_161 (by decide) ?_
          exact tX6_read_182 X ih _ _ _ _ _ _ _ h0 h1 h3 h _ _ _ hP hS (lv_sub hl [1, 2, 3, 4, 5, 0] rfl)
        have h := h.2 c6
        by_cases c7 : r1 = (5 : Int32)
        · have h := h.1 c7
          refine lv_tableIn (tgt := 164) hx hb dX6_read_84 (by rw [c7]; decide) (by rw [c7]; decide) (by rw [c7]; rfl) (by decide) ?_
          refine lv_aload_n hx hb dX6_read_164 rfl (lv_at hl 0 rfl) ?_
          refine lv_aload_n hx hb dX6_read_165 rfl (lv_at hl 1 rfl) ?_
          refine lv_aload_n hx hb dX6_read_166 rfl (lv_at hl 2 rfl) ?_
          refine rk_callz (va_runV (As := [.ref (B + v1), .ref (B + v3)]) (rest := []) X.1 (mX6_readWire l D cy B v0 v1 v3 s1 h0 h1 h3 h) (cwV 2 hts (gW_V (wi_15 _ (List.mem_of_getElem? (i := 22) rfl)) (wi_15 _ (List.mem_of_getElem? (i := 23) rfl)) (wi_16 _ (List.mem_of_getElem? (i := 0) rfl)) (wi_10 _ (List.mem_of_getElem? (i := 2) rfl)) (wi_15 _ (List.mem_of_getElem? (i := 3) rfl))) rfl rfl rfl hd_X6_readWire ⟨Nat.le_of_ble_eq_true rfl, Nat.le_of_ble_eq_true rfl⟩) (rk_preV X hS hP h0 rfl rfl [.ref (B + v1), .ref (B + v3)]) rfl rfl hl.1 rfl (lv_room (Nat.le_of_ble_eq_true rfl)) dX6_read_167 ⟨Nat.zero_le _, Nat.zero_le _⟩) hS (fun _ h => h) (fun r6 s6 H locs h hP hS => ?_)
          refine lv_istore (lv' := [(6, .int (b2i r6)), (0, .ref (B + v0)), (1, .ref (B + v1)), (3, .ref (B + v3)), (4, .int v4), (5, .int v5)]) hx hb dX6_read_170 hl (by decide) rfl (fun ls hl => ?_)
          refine lv_goto (tgt := 182) hx hb dX6_read_172 (by decide) ?_
          exact tX6_read_182 X ih _ _ _ _ _ _ _ h0 h1 h3 h _ _ _ hP hS (lv_sub hl [1, 2, 3, 4, 5, 0] rfl)
        have h := h.2 c7
        refine lv_tableOut (tgt := 175) hx hb dX6_read_84 (sw_out1_5 c3 c4 c5 c6 c7) (by decide) ?_
        refine lv_aload_n hx hb dX6_read_175 rfl (lv_at hl 0 rfl) ?_
        refine lv_iconst (v := (1 : Int32)) hx hb dX6_read_176 (by decide) ?_
        refine rk_callz (va_runV (As := [.int (1 : Int32)]) (rest := []) X.1 (mX6_fail l D cy B v0 (1 : Int32) s1 h0 h) (cwV 1 hts (gW_V (wi_11 _ (List.mem_of_getElem? (i := 0) rfl)) (wi_11 _ (List.mem_of_getElem? (i := 1) rfl)) (wi_11 _ (List.mem_of_getElem? (i := 2) rfl)) (wi_10 _ (List.mem_of_getElem? (i := 2) rfl)) (wi_10 _ (List.mem_of_getElem? (i := 22) rfl))) rfl rfl rfl hd_X6_fail ⟨Nat.le_of_ble_eq_true rfl, Nat.le_of_ble_eq_true rfl⟩) (rk_preV X hS hP h0 rfl rfl [.int (1 : Int32)]) rfl rfl hl.1 rfl (lv_room (Nat.le_of_ble_eq_true rfl)) dX6_read_177 ⟨Nat.zero_le _, Nat.zero_le _⟩) hS (fun _ h => h) (fun r7 s7 H locs h hP hS => ?_)
        refine lv_istore (lv' := [(6, .int (b2i r7)), (0, .ref (B + v0)), (1, .ref (B + v1)), (3, .ref (B + v3)), (4, .int v4), (5, .int v5)]) hx hb dX6_read_180 hl (by decide) rfl (fun ls hl => ?_)
        exact tX6_read_182 X ih _ _ _ _ _ _ _ h0 h1 h3 h _ _ _ hP hS (lv_sub hl [1, 2, 3, 4, 5, 0] rfl)
set_option maxRecDepth 100000 in
set_option maxHeartbeats 4000000 in
theorem tX6_read_61 {p : Program} {l : Launch} {e : Env} {s : State} {m : MethodId} {av : Array Value} {below : List Frame} {meth : Method} {c : Code} {D : va_G} {cy : Nat → ClassId} {B : Nat} (X : kC p s m av meth c cX6_read 7 (some .int) WALL RX6 D cy (AW B 346)) {post : Int32 → St → Prop} : ∀ (v0 : Nat) (v1 : Nat) (v3 : Nat) (v4 : Int32) (σ : St), kX[v0]? = some 6 → kX[v1]? = some 20700 → kX[v3]? = some 9 → wX6_read_61 post v0 v1 v3 v4 σ → ∀ (H : Heap) (locs : List Loc) (ls : Array Slot), va_P D vwCl (wW cy B kX σ) H → va_S (AW B 346) s.heap H locs → lv_has ls 7 [(0, .ref (B + v0)), (1, .ref (B + v1)), (3, .ref (B + v3)), (4, .int v4)] → W p l e (rmD 5) s m av below meth c H locs 0 0 (MQ below (va_Qi post (BW D cy B kX) (AW B 346)) av s 0 0 (AW B 346)) (F0 m 61 ls []) := by
  obtain ⟨⟨hx, hb, hml, hown, hts⟩, hr, hlk, hK, hN, hZ⟩ := id X
  have hD : ∀ σ, va_D (AW B 346) (wW cy B kX σ) := AW_D kX_len
  intro v0 v1 v3 v4 σ h0 h1 h3 h H locs ls hP hS hl
  unfold wX6_read_61 at h
  refine lv_iconst (v := (0 : Int32)) hx hb dX6_read_61 (by decide) ?_
  refine lv_istore (lv' := [(5, .int (0 : Int32)), (0, .ref (B + v0)), (1, .ref (B + v1)), (3, .ref (B + v3)), (4, .int v4)]) hx hb dX6_read_62 hl (by decide) rfl (fun ls hl => ?_)
  obtain ⟨j, h⟩ := h
  exact tX6_read_64 X j _ _ _ _ _ _ h0 h1 h3 h _ _ _ hP hS (lv_sub hl [1, 2, 3, 4, 0] rfl)
set_option maxRecDepth 100000 in
set_option maxHeartbeats 4000000 in
theorem mX6_read (l : Launch) (D : va_G) (cy : Nat → ClassId) (B : Nat) (v0 : Nat) (v1 : Nat) (v2 : Int32) (v3 : Nat) (σ : St) (h0 : kX[v0]? = some 6) (h1 : kX[v1]? = some 20700) (h3 : kX[v3]? = some 9) {post : Int32 → St → Prop} (h : wX6_read v0 v1 v2 v3 σ post) : Met l yX6_read (Cond.code yX6_read cX6_read 7 (some .int) :: WALL) (rmD 5) (PcW D cy B kX σ [.ref (B + v0), .ref (B + v1), .int v2, .ref (B + v3)]) (va_Qi post (BW D cy B kX) (AW B 346)) 0 0 (AW B 346) := by
  refine Met.ofK (cc := cX6_read) (maxL := 7) (ret := (some .int)) (by decide +kernel) rfl kX_len ?_
  intro p e s m below meth c X hP
  obtain ⟨⟨hx, hb, hml, hown, hts⟩, hr, hlk, hK, hN, hZ⟩ := id X
  have hD : ∀ σ, va_D (AW B 346) (wW cy B kX σ) := AW_D kX_len
  have hS : va_S (AW B 346) s.heap s.heap [] := va_S.rf
  have hl := lv_entry ([.ref (B + v0), .ref (B + v1), .int v2, .ref (B + v3)]) (n := 7) (Nat.le_of_ble_eq_true rfl)
  rw [lg_entry_eq]
  generalize (lg_sl ([.ref (B + v0), .ref (B + v1), .int v2, .ref (B + v3)]) ++ List.replicate (7 - (lg_sl ([.ref (B + v0), .ref (B + v1), .int v2, .ref (B + v3)])).length) Slot.unset).toArray = ls at hl ⊢
  have hl : lv_has ls 7 [(0, .ref (B + v0)), (1, .ref (B + v1)), (2, .int v2), (3, .ref (B + v3))] := hl
  unfold wX6_read at h
  refine lv_aload_n hx hb dX6_read_0 rfl (lv_at hl 0 rfl) ?_
  refine lv_iconst (v := (0 : Int32)) hx hb dX6_read_1 (by decide) ?_
  refine rk_puti X hP hD hS (C := RX6) (T := TX6) (N := 8) (ci := 6) wix_6 h0 rfl rfl tyX6 tyX6_ok nmX6 2 (by decide) (wi_9 _ (List.mem_of_getElem? (i := 17) rfl)) rfl rfl (by decide +kernel) (Nat.le_of_ble_eq_true rfl) rfl dX6_read_2 (fun H locs hP hS => ?_)
  obtain ⟨s1, es1⟩ : ∃ z : St, z = u1 σ v0 2 (0 : Int32) := ⟨_, rfl⟩
  rw [← es1] at hP
  have h := h s1 es1
  refine lv_aload_n hx hb dX6_read_5 rfl (lv_at hl 0 rfl) ?_
  refine lv_iload_n hx hb dX6_read_6 rfl (lv_at hl 2 rfl) ?_
  refine lv_aload_n hx hb dX6_read_7 rfl (lv_at hl 1 rfl) ?_
  refine rk_alen X hP (n := 700) (t0 := 0) (ty := .byte) h1 rfl rfl dX6_read_8 ?_
  refine va_mmin hx hb (hml.trans hl.1.symm) hown (hts _ (wi_13 _ (List.mem_of_getElem? (i := 8) rfl))) (hts _ (wi_6 _ (List.mem_of_getElem? (i := 12) rfl))) (hts _ (wi_6 _ (List.mem_of_getElem? (i := 13) rfl))) (hts _ (wi_6 _ (List.mem_of_getElem? (i := 14) rfl))) (Nat.le_of_ble_eq_true rfl) (Nat.le_of_ble_eq_true rfl) (Nat.zero_le _) (Nat.zero_le _) dX6_read_9 ?_
  refine rk_puti X hP hD hS (C := RX6) (T := TX6) (N := 8) (ci := 6) wix_6 h0 rfl rfl tyX6 tyX6_ok nmX6 3 (by decide) (wi_9 _ (List.mem_of_getElem? (i := 18) rfl)) rfl rfl (by decide +kernel) (Nat.le_of_ble_eq_true rfl) rfl dX6_read_12 (fun H locs hP hS => ?_)
  obtain ⟨s2, es2⟩ : ∃ z : St, z = u1 s1 v0 3 (if (nI 700) < v2 then (nI 700) else v2) := ⟨_, rfl⟩
  rw [← es2] at hP
  have h := h s2 es2
  refine lv_aload_n hx hb dX6_read_15 rfl (lv_at hl 0 rfl) ?_
  refine lv_iconst (v := (0 : Int32)) hx hb dX6_read_16 (by decide) ?_
  refine rk_puti X hP hD hS (C := RX6) (T := TX6) (N := 8) (ci := 6) wix_6 h0 rfl rfl tyX6 tyX6_ok nmX6 7 (by decide) (wi_9 _ (List.mem_of_getElem? (i := 22) rfl)) rfl rfl (by decide +kernel) (Nat.le_of_ble_eq_true rfl) rfl dX6_read_17 (fun H locs hP hS => ?_)
  obtain ⟨s3, es3⟩ : ∃ z : St, z = u1 s2 v0 7 (0 : Int32) := ⟨_, rfl⟩
  rw [← es3] at hP
  have h := h s3 es3
  refine lv_aload_n hx hb dX6_read_20 rfl (lv_at hl 3 rfl) ?_
  refine rk_callv (va_runV (As := []) (rest := []) X.1 (mX9_clear l D cy B v3 s3 h3 h) (cwV 0 hts (gW_V (wi_15 _ (List.mem_of_getElem? (i := 4) rfl)) (wi_15 _ (List.mem_of_getElem? (i := 5) rfl)) (wi_15 _ (List.mem_of_getElem? (i := 6) rfl)) (wi_12 _ (List.mem_of_getElem? (i := 6) rfl)) (wi_10 _ (List.mem_of_getElem? (i := 4) rfl))) rfl rfl rfl hd_X9_clear ⟨Nat.le_of_ble_eq_true rfl, Nat.le_of_ble_eq_true rfl⟩) (rk_preV X hS hP h3 rfl rfl []) rfl rfl hl.1 rfl (lv_room (Nat.le_of_ble_eq_true rfl)) dX6_read_21 ⟨Nat.zero_le _, Nat.zero_le _⟩) hS (fun _ h => h) (fun s4 H locs h hP hS => ?_)
  refine lv_iconst (v := (0 : Int32)) hx hb dX6_read_24 (by decide) ?_
  refine lv_istore (lv' := [(4, .int (0 : Int32)), (0, .ref (B + v0)), (1, .ref (B + v1)), (2, .int v2), (3, .ref (B + v3))]) hx hb dX6_read_25 hl (by decide) rfl (fun ls hl => ?_)
  refine lv_aload_n hx hb dX6_read_27 rfl (lv_at hl 1 rfl) ?_
  refine lv_aload_n hx hb dX6_read_28 rfl (lv_at hl 2 rfl) ?_
  refine rk_callv (va_runV (As := [.ref (B + v1)]) (rest := []) X.1 (mX6_advance l D cy B v0 v1 s4 h0 h1 h) (cwV 1 hts (gW_V (wi_11 _ (List.mem_of_getElem? (i := 3) rfl)) (wi_11 _ (List.mem_of_getElem? (i := 4) rfl)) (wi_11 _ (List.mem_of_getElem? (i := 5) rfl)) (wi_10 _ (List.mem_of_getElem? (i := 2) rfl)) (wi_10 _ (List.mem_of_getElem? (i := 14) rfl))) rfl rfl rfl hd_X6_advance ⟨Nat.le_of_ble_eq_true rfl, Nat.le_of_ble_eq_true rfl⟩) (rk_preV X hS hP h0 rfl rfl [.ref (B + v1)]) rfl rfl hl.1 rfl (lv_room (Nat.le_of_ble_eq_true rfl)) dX6_read_29 ⟨Nat.zero_le _, Nat.zero_le _⟩) hS (fun _ h => h) (fun s5 H locs h hP hS => ?_)
  refine lv_aload_n hx hb dX6_read_32 rfl (lv_at hl 1 rfl) ?_
  refine rk_calli (va_runV (As := []) (rest := []) X.1 (mX6_keyword l D cy B v0 s5 h0 h) (cwV 0 hts (gW_V (wi_12 _ (List.mem_of_getElem? (i := 0) rfl)) (wi_12 _ (List.mem_of_getElem? (i := 1) rfl)) (wi_12 _ (List.mem_of_getElem? (i := 2) rfl)) (wi_10 _ (List.mem_of_getElem? (i := 2) rfl)) (wi_10 _ (List.mem_of_getElem? (i := 21) rfl))) rfl rfl rfl hd_X6_keyword ⟨Nat.le_of_ble_eq_true rfl, Nat.le_of_ble_eq_true rfl⟩) (rk_preV X hS hP h0 rfl rfl []) rfl rfl hl.1 rfl (lv_room (Nat.le_of_ble_eq_true rfl)) dX6_read_33 ⟨Nat.zero_le _, Nat.zero_le _⟩) hS (fun _ h => h) (fun r1 s6 H locs h hP hS => ?_)
  refine lv_if_ne (tgt := 61) hx hb dX6_read_36 (by decide) (fun c1 => ?_) (fun c1 => ?_)
  · have h := h.1 c1
    exact tX6_read_61 X _ _ _ _ _ h0 h1 h3 h _ _ _ hP hS (lv_sub hl [1, 2, 4, 0] rfl)
  · have h := h.2 c1
    refine lv_aload_n hx hb dX6_read_39 rfl (lv_at hl 1 rfl) ?_
    refine lv_aload_n hx hb dX6_read_40 rfl (lv_at hl 2 rfl) ?_
    refine lv_aload_n hx hb dX6_read_41 rfl (lv_at hl 4 rfl) ?_
    refine rk_callz (va_runV (As := [.ref (B + v1), .ref (B + v3)]) (rest := []) X.1 (mX6_readField l D cy B v0 v1 v3 s6 h0 h1 h3 h) (cwV 2 hts (gW_V (wi_15 _ (List.mem_of_getElem? (i := 7) rfl)) (wi_15 _ (List.mem_of_getElem? (i := 8) rfl)) (wi_15 _ (List.mem_of_getElem? (i := 9) rfl)) (wi_10 _ (List.mem_of_getElem? (i := 2) rfl)) (wi_11 _ (List.mem_of_getElem? (i := 21) rfl))) rfl rfl rfl hd_X6_readField ⟨Nat.le_of_ble_eq_true rfl, Nat.le_of_ble_eq_true rfl⟩) (rk_preV X hS hP h0 rfl rfl [.ref (B + v1), .ref (B + v3)]) rfl rfl hl.1 rfl (lv_room (Nat.le_of_ble_eq_true rfl)) dX6_read_42 ⟨Nat.zero_le _, Nat.zero_le _⟩) hS (fun _ h => h) (fun r2 s7 H locs h hP hS => ?_)
    refine lv_if_ne (tgt := 53) hx hb dX6_read_45 (by decide) (fun c2 => ?_) (fun c2 => ?_)
    · have h := h.1 (b2i_t c2)
      obtain ⟨x1, ex1⟩ : ∃ y : Int32, y = (0 : Int32) + (1 : Int32) := ⟨_, rfl⟩
      have h := h x1 ex1
      refine lv_iinc (v := x1) (lv' := [(4, .int x1), (0, .ref (B + v0)), (1, .ref (B + v1)), (2, .int v2), (3, .ref (B + v3))]) hx hb dX6_read_53 hl (k := 0) rfl (by rw [ex1]; rfl) (by decide) rfl (fun ls hl => ?_)
      refine lv_aload_n hx hb dX6_read_56 rfl (lv_at hl 1 rfl) ?_
      refine lv_aload_n hx hb dX6_read_57 rfl (lv_at hl 2 rfl) ?_
      refine rk_callv (va_runV (As := [.ref (B + v1)]) (rest := []) X.1 (mX6_advance l D cy B v0 v1 s7 h0 h1 h) (cwV 1 hts (gW_V (wi_11 _ (List.mem_of_getElem? (i := 3) rfl)) (wi_11 _ (List.mem_of_getElem? (i := 4) rfl)) (wi_11 _ (List.mem_of_getElem? (i := 5) rfl)) (wi_10 _ (List.mem_of_getElem? (i := 2) rfl)) (wi_10 _ (List.mem_of_getElem? (i := 14) rfl))) rfl rfl rfl hd_X6_advance ⟨Nat.le_of_ble_eq_true rfl, Nat.le_of_ble_eq_true rfl⟩) (rk_preV X hS hP h0 rfl rfl [.ref (B + v1)]) rfl rfl hl.1 rfl (lv_room (Nat.le_of_ble_eq_true rfl)) dX6_read_58 ⟨Nat.zero_le _, Nat.zero_le _⟩) hS (fun _ h => h) (fun s8 H locs h hP hS => ?_)
      exact tX6_read_61 X _ _ _ _ _ h0 h1 h3 h _ _ _ hP hS (lv_sub hl [1, 2, 4, 0] rfl)
    · have h := h.2 (b2i_f c2)
      refine lv_aload_n hx hb dX6_read_48 rfl (lv_at hl 1 rfl) ?_
      refine rk_get X hP (C := RX6) (T := TX6) (N := 8) (ci := 6) wix_6 h0 rfl rfl 7 (by decide) (wi_9 _ (List.mem_of_getElem? (i := 22) rfl)) rfl rfl dX6_read_49 ?_
      exact rk_iret X rfl kX_len h hP hS dX6_read_52
