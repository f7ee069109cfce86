theorem hd_X11_baseLine : yX11_baseLine.cls = RX11 ∧ yX11_baseLine.cls ≠ "java/lang/invoke/MethodHandle" ∧ yX11_baseLine.cls ≠ "java/lang/invoke/VarHandle" ∧ (parseMethodDescriptor yX11_baseLine.desc).map (fun d => d.parameters.length) = some 0 := by decide +kernel
set_option maxRecDepth 100000 in
set_option maxHeartbeats 4000000 in
theorem tX11_baseLine_166 {p : Program} {l : Launch} {e : Env} {s : State} {m : MethodId} {av : Array Value} {below : List Frame} {meth : Method} {c : Code} {D : va_G} {cy : Nat → ClassId} {B : Nat} (X : kC p s m av meth c cX11_baseLine 6 (some .boolean) WALL RX11 D cy (AW B 26)) {post : Bool → St → Prop} : ∀ (v0 : Nat) (v1 : Int32) (v2 : Int64) (t0 : Nat) (t1 : Int32) (σ : St), kM[v0]? = some 11 → kM[t0]? = some 11 → wX11_baseLine_166 post v0 v1 v2 t0 t1 σ → ∀ (H : Heap) (locs : List Loc) (ls : Array Slot), va_P D vwCl (wW cy B kM σ) H → va_S (AW B 26) s.heap H locs → lv_has ls 6 [(0, .ref (B + v0)), (1, .int v1), (2, .long v2)] → W p l e (rmD 13) s m av below meth c H locs 0 0 (MQ below (Qz post D cy B kM 26) av s 0 0 (AW B 26)) (F0 m 166 ls [.int t1, .ref (B + t0)]) := by
  obtain ⟨⟨hx, hb, hml, hown, hts⟩, hr, hlk, hK, hN, hZ⟩ := id X
  have hD : ∀ σ, va_D (AW B 26) (wW cy B kM σ) := AW_D kM_len
  intro v0 v1 v2 t0 t1 σ h0 g0 h H locs ls hP hS hl
  unfold wX11_baseLine_166 at h
  refine lv_iconst (v := (4 : Int32)) hx hb dX11_baseLine_166 (by decide) ?_
  refine rk_callz (va_runV (As := [.int t1, .int (4 : Int32)]) (rest := []) X.1 (mX11_must l D cy B t0 t1 (4 : Int32) σ g0 h) (cwV 2 hts (gW_V (wi_31 _ (List.mem_of_getElem? (i := 18) rfl)) (wi_31 _ (List.mem_of_getElem? (i := 19) rfl)) (wi_31 _ (List.mem_of_getElem? (i := 20) rfl)) (wi_30 _ (List.mem_of_getElem? (i := 9) rfl)) (wi_31 _ (List.mem_of_getElem? (i := 4) rfl))) rfl rfl rfl hd_X11_must ⟨Nat.le_of_ble_eq_true rfl, Nat.le_of_ble_eq_true rfl⟩) (rk_preV X hS hP g0 rfl rfl [.int t1, .int (4 : Int32)]) rfl rfl hl.1 rfl (lv_room (Nat.le_of_ble_eq_true rfl)) dX11_baseLine_167 ⟨Nat.zero_le _, Nat.zero_le _⟩) hS (fun _ h => h) (fun r1 s1 H locs h hP hS => ?_)
  refine lv_if_ne (tgt := 175) hx hb dX11_baseLine_170 (by decide) (fun c1 => ?_) (fun c1 => ?_)
  · have h := h.1 (b2i_t c1)
    refine lv_aload_n hx hb dX11_baseLine_175 rfl (lv_at hl 0 rfl) ?_
    refine rk_get X hP (C := RX11) (T := TX11) (N := 44) (ci := 11) wix_11 h0 rfl rfl 22 (by decide) (wi_29 _ (List.mem_of_getElem? (i := 8) rfl)) rfl rfl dX11_baseLine_176 ?_
    refine lv_iconst (v := (4 : Int32)) hx hb dX11_baseLine_179 (by decide) ?_
    refine lv_iload_n hx hb dX11_baseLine_180 rfl (lv_at hl 1 rfl) ?_
    refine lv_imul hx hb dX11_baseLine_181 ?_
    refine lv_iconst (v := (3 : Int32)) hx hb dX11_baseLine_182 (by decide) ?_
    refine lv_iadd hx hb dX11_baseLine_183 ?_
    refine lv_aload_n hx hb dX11_baseLine_184 rfl (lv_at hl 0 rfl) ?_
    refine rk_get X hP (C := RX11) (T := TX11) (N := 44) (ci := 11) wix_11 h0 rfl rfl 7 (by decide) (wi_30 _ (List.mem_of_getElem? (i := 16) rfl)) rfl rfl dX11_baseLine_185 ?_
    obtain ⟨b1, h⟩ := h
    refine rk_iast X hP hD hS (n := 40) (klM_X11_22 h0) (fun _ _ => rfl) b1 dX11_baseLine_188 (fun H locs hP hS => ?_)
    obtain ⟨s2, es2⟩ : ∃ z : St, z = u1 s1 (v0 + 11) (((4 : Int32) * v1) + (3 : Int32)).toNatClampNeg (s1.1 v0 7) := ⟨_, rfl⟩
    rw [← es2] at hP
    have h := h s2 es2
    refine lv_aload_n hx hb dX11_baseLine_189 rfl (lv_at hl 0 rfl) ?_
    refine rk_callv (va_runV (As := []) (rest := []) X.1 (mX11_steps l D cy B v0 s2 h0 h) (cwV 0 hts (gW_V (wi_31 _ (List.mem_of_getElem? (i := 21) rfl)) (wi_31 _ (List.mem_of_getElem? (i := 22) rfl)) (wi_31 _ (List.mem_of_getElem? (i := 23) rfl)) (wi_30 _ (List.mem_of_getElem? (i := 9) rfl)) (wi_30 _ (List.mem_of_getElem? (i := 12) rfl))) rfl rfl rfl hd_X11_steps ⟨Nat.le_of_ble_eq_true rfl, Nat.le_of_ble_eq_true rfl⟩) (rk_preV X hS hP h0 rfl rfl []) rfl rfl hl.1 rfl (lv_room (Nat.le_of_ble_eq_true rfl)) dX11_baseLine_190 ⟨Nat.zero_le _, Nat.zero_le _⟩) hS (fun _ h => h) (fun s3 H locs h hP hS => ?_)
    refine lv_aload_n hx hb dX11_baseLine_193 rfl (lv_at hl 0 rfl) ?_
    refine rk_get X hP (C := RX11) (T := TX11) (N := 44) (ci := 11) wix_11 h0 rfl rfl 18 (by decide) (wi_29 _ (List.mem_of_getElem? (i := 4) rfl)) rfl rfl dX11_baseLine_194 ?_
    refine lv_iload_n hx hb dX11_baseLine_197 rfl (lv_at hl 1 rfl) ?_
    refine lv_lload_n hx hb dX11_baseLine_198 rfl (lv_at hl 2 rfl) ?_
    obtain ⟨b2, h⟩ := h
    refine rk_last X hP hD hS (n := 10) (klM_X11_18 h0) (fun _ _ => rfl) b2 dX11_baseLine_199 (fun H locs hP hS => ?_)
    obtain ⟨s4, es4⟩ : ∃ z : St, z = u2 s3 (v0 + 7) v1.toNatClampNeg v2 := ⟨_, rfl⟩
    rw [← es4] at hP
    have h := h s4 es4
    refine lv_aload_n hx hb dX11_baseLine_200 rfl (lv_at hl 0 rfl) ?_
    refine rk_get X hP (C := RX11) (T := TX11) (N := 44) (ci := 11) wix_11 h0 rfl rfl 15 (by decide) (wi_29 _ (List.mem_of_getElem? (i := 0) rfl)) rfl rfl dX11_baseLine_201 ?_
    refine lv_aload_n hx hb dX11_baseLine_204 rfl (lv_at hl 0 rfl) ?_
    refine rk_get X hP (C := RX11) (T := TX11) (N := 44) (ci := 11) wix_11 h0 rfl rfl 12 (by decide) (wi_32 _ (List.mem_of_getElem? (i := 2) rfl)) rfl rfl dX11_baseLine_205 ?_
    refine lv_topi (fun x1 ex1 => ?_)
    have h := h x1 ex1
    refine lv_dup2_11 hx hb dX11_baseLine_208 rfl rfl ?_
    obtain ⟨b3, h⟩ := h
    refine rk_iald X hP (n := 2) (klM_X11_15 h0) (fun _ _ => rfl) b3 dX11_baseLine_209 ?_
    refine lv_iconst (v := (1 : Int32)) hx hb dX11_baseLine_210 (by decide) ?_
    refine lv_iadd hx hb dX11_baseLine_211 ?_
    obtain ⟨b4, h⟩ := h
    refine rk_iast X hP hD hS (n := 2) (klM_X11_15 h0) (fun _ _ => rfl) b4 dX11_baseLine_212 (fun H locs hP hS => ?_)
    obtain ⟨s5, es5⟩ : ∃ z : St, z = u1 s4 (v0 + 4) x1.toNatClampNeg ((s4.1 (v0 + 4) x1.toNatClampNeg) + (1 : Int32)) := ⟨_, rfl⟩
    rw [← es5] at hP
    have h := h s5 es5
    refine lv_iconst (v := (1 : Int32)) hx hb dX11_baseLine_213 (by decide) ?_
    exact rk_zret X kM_len true h hP hS dX11_baseLine_214
  · have h := h.2 (b2i_f c1)
    refine lv_iconst (v := (0 : Int32)) hx hb dX11_baseLine_173 (by decide) ?_
    exact rk_zret X kM_len false h hP hS dX11_baseLine_174
set_option maxRecDepth 100000 in
set_option maxHeartbeats 4000000 in
theorem tX11_baseLine_165 {p : Program} {l : Launch} {e : Env} {s : State} {m : MethodId} {av : Array Value} {below : List Frame} {meth : Method} {c : Code} {D : va_G} {cy : Nat → ClassId} {B : Nat} (X : kC p s m av meth c cX11_baseLine 6 (some .boolean) WALL RX11 D cy (AW B 26)) {post : Bool → St → Prop} : ∀ (v0 : Nat) (v1 : Int32) (v2 : Int64) (t0 : Nat) (σ : St), kM[v0]? = some 11 → kM[t0]? = some 11 → wX11_baseLine_165 post v0 v1 v2 t0 σ → ∀ (H : Heap) (locs : List Loc) (ls : Array Slot), va_P D vwCl (wW cy B kM σ) H → va_S (AW B 26) s.heap H locs → lv_has ls 6 [(0, .ref (B + v0)), (1, .int v1), (2, .long v2)] → W p l e (rmD 13) s m av below meth c H locs 0 0 (MQ below (Qz post D cy B kM 26) av s 0 0 (AW B 26)) (F0 m 165 ls [.ref (B + t0)]) := by
  obtain ⟨⟨hx, hb, hml, hown, hts⟩, hr, hlk, hK, hN, hZ⟩ := id X
  have hD : ∀ σ, va_D (AW B 26) (wW cy B kM σ) := AW_D kM_len
  intro v0 v1 v2 t0 σ h0 g0 h H locs ls hP hS hl
  unfold wX11_baseLine_165 at h
  refine lv_iconst (v := (0 : Int32)) hx hb dX11_baseLine_165 (by decide) ?_
  exact tX11_baseLine_166 X _ _ _ _ _ _ h0 g0 h _ _ _ hP hS (lv_sub hl [0, 1, 2] rfl)
set_option maxRecDepth 100000 in
set_option maxHeartbeats 4000000 in
theorem tX11_baseLine_100 {p : Program} {l : Launch} {e : Env} {s : State} {m : MethodId} {av : Array Value} {below : List Frame} {meth : Method} {c : Code} {D : va_G} {cy : Nat → ClassId} {B : Nat} (X : kC p s m av meth c cX11_baseLine 6 (some .boolean) WALL RX11 D cy (AW B 26)) {post : Bool → St → Prop} : ∀ (v0 : Nat) (v1 : Int32) (v2 : Int64) (v4 : Int32) (t0 : Nat) (t1 : Int32) (σ : St), kM[v0]? = some 11 → kM[t0]? = some 11 → wX11_baseLine_100 post v0 v1 v2 v4 t0 t1 σ → ∀ (H : Heap) (locs : List Loc) (ls : Array Slot), va_P D vwCl (wW cy B kM σ) H → va_S (AW B 26) s.heap H locs → lv_has ls 6 [(0, .ref (B + v0)), (1, .int v1), (2, .long v2), (4, .int v4)] → W p l e (rmD 13) s m av below meth c H locs 0 0 (MQ below (Qz post D cy B kM 26) av s 0 0 (AW B 26)) (F0 m 100 ls [.int t1, .ref (B + t0)]) := by
  obtain ⟨⟨hx, hb, hml, hown, hts⟩, hr, hlk, hK, hN, hZ⟩ := id X
  have hD : ∀ σ, va_D (AW B 26) (wW cy B kM σ) := AW_D kM_len
  intro v0 v1 v2 v4 t0 t1 σ h0 g0 h H locs ls hP hS hl
  unfold wX11_baseLine_100 at h
  refine lv_iconst (v := (1 : Int32)) hx hb dX11_baseLine_100 (by decide) ?_
  refine rk_callz (va_runV (As := [.int t1, .int (1 : Int32)]) (rest := []) X.1 (mX11_must l D cy B t0 t1 (1 : Int32) σ g0 h) (cwV 2 hts (gW_V (wi_31 _ (List.mem_of_getElem? (i := 18) rfl)) (wi_31 _ (List.mem_of_getElem? (i := 19) rfl)) (wi_31 _ (List.mem_of_getElem? (i := 20) rfl)) (wi_30 _ (List.mem_of_getElem? (i := 9) rfl)) (wi_31 _ (List.mem_of_getElem? (i := 4) rfl))) rfl rfl rfl hd_X11_must ⟨Nat.le_of_ble_eq_true rfl, Nat.le_of_ble_eq_true rfl⟩) (rk_preV X hS hP g0 rfl rfl [.int t1, .int (1 : Int32)]) rfl rfl hl.1 rfl (lv_room (Nat.le_of_ble_eq_true rfl)) dX11_baseLine_101 ⟨Nat.zero_le _, Nat.zero_le _⟩) hS (fun _ h => h) (fun r1 s1 H locs h hP hS => ?_)
  refine lv_if_eq (tgt := 173) hx hb dX11_baseLine_104 (by decide) (fun c1 => ?_) (fun c1 => ?_)
  · have h := h.1 (b2i_f c1)
    refine lv_iconst (v := (0 : Int32)) hx hb dX11_baseLine_173 (by decide) ?_
    exact rk_zret X kM_len false h hP hS dX11_baseLine_174
  · have h := h.2 (b2i_t c1)
    refine lv_aload_n hx hb dX11_baseLine_107 rfl (lv_at hl 0 rfl) ?_
    refine lv_aload_n hx hb dX11_baseLine_108 rfl (lv_at hl 0 rfl) ?_
    refine rk_get X hP (C := RX11) (T := TX11) (N := 44) (ci := 11) wix_11 h0 rfl rfl 7 (by decide) (wi_30 _ (List.mem_of_getElem? (i := 16) rfl)) rfl rfl dX11_baseLine_109 ?_
    refine lv_iload hx hb dX11_baseLine_112 (lv_at hl 3 rfl) ?_
    refine lv_icmp_ge (tgt := 165) hx hb dX11_baseLine_114 (by decide) (fun c2 => ?_) (fun c2 => ?_)
    · have h := h.1 c2
      exact tX11_baseLine_165 X _ _ _ _ _ h0 h0 h _ _ _ hP hS (lv_sub hl [0, 1, 2] rfl)
    · have h := h.2 c2
      refine lv_aload_n hx hb dX11_baseLine_117 rfl (lv_at hl 0 rfl) ?_
      refine rk_get X hP (C := RX11) (T := TX11) (N := 44) (ci := 11) wix_11 h0 rfl rfl 22 (by decide) (wi_29 _ (List.mem_of_getElem? (i := 8) rfl)) rfl rfl dX11_baseLine_118 ?_
      refine lv_iconst (v := (4 : Int32)) hx hb dX11_baseLine_121 (by decide) ?_
      refine lv_iload_n hx hb dX11_baseLine_122 rfl (lv_at hl 1 rfl) ?_
      refine lv_imul hx hb dX11_baseLine_123 ?_
      refine lv_topi (fun x1 ex1 => ?_)
      have h := h x1 ex1
      obtain ⟨b1, h⟩ := h
      refine rk_iald X hP (n := 40) (klM_X11_22 h0) (fun _ _ => rfl) b1 dX11_baseLine_124 ?_
      refine lv_aload_n hx hb dX11_baseLine_125 rfl (lv_at hl 0 rfl) ?_
      refine rk_get X hP (C := RX11) (T := TX11) (N := 44) (ci := 11) wix_11 h0 rfl rfl 7 (by decide) (wi_30 _ (List.mem_of_getElem? (i := 16) rfl)) rfl rfl dX11_baseLine_126 ?_
      refine lv_imul hx hb dX11_baseLine_129 ?_
      refine lv_aload_n hx hb dX11_baseLine_130 rfl (lv_at hl 0 rfl) ?_
      refine rk_get X hP (C := RX11) (T := TX11) (N := 44) (ci := 11) wix_11 h0 rfl rfl 22 (by decide) (wi_29 _ (List.mem_of_getElem? (i := 8) rfl)) rfl rfl dX11_baseLine_131 ?_
      refine lv_iconst (v := (4 : Int32)) hx hb dX11_baseLine_134 (by decide) ?_
      refine lv_iload_n hx hb dX11_baseLine_135 rfl (lv_at hl 1 rfl) ?_
      refine lv_imul hx hb dX11_baseLine_136 ?_
      refine lv_iconst (v := (1 : Int32)) hx hb dX11_baseLine_137 (by decide) ?_
      refine lv_iadd hx hb dX11_baseLine_138 ?_
      refine lv_topi (fun x2 ex2 => ?_)
      have h := h x2 ex2
      obtain ⟨b2, h⟩ := h
      refine rk_iald X hP (n := 40) (klM_X11_22 h0) (fun _ _ => rfl) b2 dX11_baseLine_139 ?_
      refine lv_aload_n hx hb dX11_baseLine_140 rfl (lv_at hl 0 rfl) ?_
      refine rk_get X hP (C := RX11) (T := TX11) (N := 44) (ci := 11) wix_11 h0 rfl rfl 22 (by decide) (wi_29 _ (List.mem_of_getElem? (i := 8) rfl)) rfl rfl dX11_baseLine_141 ?_
      refine lv_iconst (v := (4 : Int32)) hx hb dX11_baseLine_144 (by decide) ?_
      refine lv_iload_n hx hb dX11_baseLine_145 rfl (lv_at hl 1 rfl) ?_
      refine lv_imul hx hb dX11_baseLine_146 ?_
      refine lv_iconst (v := (2 : Int32)) hx hb dX11_baseLine_147 (by decide) ?_
      refine lv_iadd hx hb dX11_baseLine_148 ?_
      refine lv_topi (fun x3 ex3 => ?_)
      have h := h x3 ex3
      obtain ⟨b3, h⟩ := h
      refine rk_iald X hP (n := 40) (klM_X11_22 h0) (fun _ _ => rfl) b3 dX11_baseLine_149 ?_
      refine lv_imul hx hb dX11_baseLine_150 ?_
      refine lv_isub hx hb dX11_baseLine_151 ?_
      refine lv_i2l hx hb dX11_baseLine_152 rfl ?_
      refine lv_iload hx hb dX11_baseLine_153 (lv_at hl 3 rfl) ?_
      refine rk_calli (va_runS (As := [.long ((((s1.1 (v0 + 11) x1.toNatClampNeg) * (s1.1 v0 7)) - ((s1.1 (v0 + 11) x2.toNatClampNeg) * (s1.1 (v0 + 11) x3.toNatClampNeg))).toInt64), .int v4]) (rest := [.ref (B + v0)]) X.1 (mX11_modulo l D cy B ((((s1.1 (v0 + 11) x1.toNatClampNeg) * (s1.1 v0 7)) - ((s1.1 (v0 + 11) x2.toNatClampNeg) * (s1.1 (v0 + 11) x3.toNatClampNeg))).toInt64) v4 s1 h) (va_cwS 2 hts (gW_S (wi_33 _ (List.mem_of_getElem? (i := 8) rfl)) (wi_33 _ (List.mem_of_getElem? (i := 9) rfl)) (wi_30 _ (List.mem_of_getElem? (i := 9) rfl)) (wi_33 _ (List.mem_of_getElem? (i := 7) rfl))) rfl rfl rfl hd_X11_modulo ⟨Nat.le_of_ble_eq_true rfl, Nat.le_of_ble_eq_true rfl⟩) (rk_preS X hS hP [.long ((((s1.1 (v0 + 11) x1.toNatClampNeg) * (s1.1 v0 7)) - ((s1.1 (v0 + 11) x2.toNatClampNeg) * (s1.1 (v0 + 11) x3.toNatClampNeg))).toInt64), .int v4]) rfl rfl hl.1 rfl (lv_room (Nat.le_of_ble_eq_true rfl)) dX11_baseLine_155 ⟨Nat.zero_le _, Nat.zero_le _⟩) hS (fun _ h => h) (fun r2 s2 H locs h hP hS => ?_)
      refine lv_if_eq (tgt := 165) hx hb dX11_baseLine_158 (by decide) (fun c3 => ?_) (fun c3 => ?_)
      · have h := h.1 c3
        exact tX11_baseLine_165 X _ _ _ _ _ h0 h0 h _ _ _ hP hS (lv_sub hl [0, 1, 2] rfl)
      · have h := h.2 c3
        refine lv_iconst (v := (1 : Int32)) hx hb dX11_baseLine_161 (by decide) ?_
        refine lv_goto (tgt := 166) hx hb dX11_baseLine_162 (by decide) ?_
        exact tX11_baseLine_166 X _ _ _ _ _ _ h0 h0 h _ _ _ hP hS (lv_sub hl [0, 1, 2] rfl)
set_option maxRecDepth 100000 in
set_option maxHeartbeats 4000000 in
theorem tX11_baseLine_45 {p : Program} {l : Launch} {e : Env} {s : State} {m : MethodId} {av : Array Value} {below : List Frame} {meth : Method} {c : Code} {D : va_G} {cy : Nat → ClassId} {B : Nat} (X : kC p s m av meth c cX11_baseLine 6 (some .boolean) WALL RX11 D cy (AW B 26)) {post : Bool → St → Prop} : ∀ (n : Nat) (v0 : Nat) (v1 : Int32) (v2 : Int64) (v4 : Int32) (v5 : Int32) (σ : St), kM[v0]? = some 11 → wX11_baseLine_45 post n v0 v1 v2 v4 v5 σ → ∀ (H : Heap) (locs : List Loc) (ls : Array Slot), va_P D vwCl (wW cy B kM σ) H → va_S (AW B 26) s.heap H locs → lv_has ls 6 [(0, .ref (B + v0)), (1, .int v1), (2, .long v2), (4, .int v4), (5, .int v5)] → W p l e (rmD 13) s m av below meth c H locs 0 0 (MQ below (Qz post D cy B kM 26) av s 0 0 (AW B 26)) (F0 m 45 ls []) := by
  obtain ⟨⟨hx, hb, hml, hown, hts⟩, hr, hlk, hK, hN, hZ⟩ := id X
  have hD : ∀ σ, va_D (AW B 26) (wW cy B kM σ) := AW_D kM_len
  intro n
  induction n with
  | zero => intro v0 v1 v2 v4 v5 σ h0 h; exact absurd h id
  | succ n ih =>
    intro v0 v1 v2 v4 v5 σ h0 h H locs ls hP hS hl
    rw [wX11_baseLine_45] at h
    refine lv_iload hx hb dX11_baseLine_45 (lv_at hl 4 rfl) ?_
    refine lv_iconst (v := (3 : Int32)) hx hb dX11_baseLine_47 (by decide) ?_
    refine lv_icmp_ge (tgt := 86) hx hb dX11_baseLine_48 (by decide) (fun c1 => ?_) (fun c1 => ?_)
    · have h := h.1 c1
      refine lv_aload_n hx hb dX11_baseLine_86 rfl (lv_at hl 0 rfl) ?_
      refine lv_aload_n hx hb dX11_baseLine_87 rfl (lv_at hl 0 rfl) ?_
      refine rk_get X hP (C := RX11) (T := TX11) (N := 44) (ci := 11) wix_11 h0 rfl rfl 6 (by decide) (wi_30 _ (List.mem_of_getElem? (i := 15) rfl)) rfl rfl dX11_baseLine_88 ?_
      refine lv_iconst (v := (2 : Int32)) hx hb dX11_baseLine_91 (by decide) ?_
      refine lv_icmp_ne (tgt := 99) hx hb dX11_baseLine_92 (by decide) (fun c2 => ?_) (fun c2 => ?_)
      · have h := h.1 c2
        refine lv_iconst (v := (0 : Int32)) hx hb dX11_baseLine_99 (by decide) ?_
        exact tX11_baseLine_100 X _ _ _ _ _ _ _ h0 h0 h _ _ _ hP hS (lv_sub hl [0, 1, 2, 3] rfl)
      · have h := h.2 c2
        refine lv_iconst (v := (1 : Int32)) hx hb dX11_baseLine_95 (by decide) ?_
        refine lv_goto (tgt := 100) hx hb dX11_baseLine_96 (by decide) ?_
        exact tX11_baseLine_100 X _ _ _ _ _ _ _ h0 h0 h _ _ _ hP hS (lv_sub hl [0, 1, 2, 3] rfl)
    · have h := h.2 c1
      refine lv_aload_n hx hb dX11_baseLine_51 rfl (lv_at hl 0 rfl) ?_
      refine lv_iconst (v := (0 : Int32)) hx hb dX11_baseLine_52 (by decide) ?_
      refine lv_iload hx hb dX11_baseLine_53 (lv_at hl 3 rfl) ?_
      refine lv_iconst (v := (1 : Int32)) hx hb dX11_baseLine_55 (by decide) ?_
      refine lv_isub hx hb dX11_baseLine_56 ?_
      refine rk_callz (va_runV (As := [.int (0 : Int32), .int (v4 - (1 : Int32))]) (rest := []) X.1 (mX11_takesNumber l D cy B v0 (0 : Int32) (v4 - (1 : Int32)) σ h0 h) (cwV 2 hts (gW_V (wi_32 _ (List.mem_of_getElem? (i := 22) rfl)) (wi_32 _ (List.mem_of_getElem? (i := 23) rfl)) (wi_33 _ (List.mem_of_getElem? (i := 0) rfl)) (wi_30 _ (List.mem_of_getElem? (i := 9) rfl)) (wi_32 _ (List.mem_of_getElem? (i := 0) rfl))) rfl rfl rfl hd_X11_takesNumber ⟨Nat.le_of_ble_eq_true rfl, Nat.le_of_ble_eq_true rfl⟩) (rk_preV X hS hP h0 rfl rfl [.int (0 : Int32), .int (v4 - (1 : Int32))]) rfl rfl hl.1 rfl (lv_room (Nat.le_of_ble_eq_true rfl)) dX11_baseLine_57 ⟨Nat.zero_le _, Nat.zero_le _⟩) hS (fun _ h => h) (fun r1 s1 H locs h hP hS => ?_)
      refine lv_if_ne (tgt := 65) hx hb dX11_baseLine_60 (by decide) (fun c3 => ?_) (fun c3 => ?_)
      · have h := h.1 (b2i_t c3)
        refine lv_aload_n hx hb dX11_baseLine_65 rfl (lv_at hl 0 rfl) ?_
        refine rk_get X hP (C := RX11) (T := TX11) (N := 44) (ci := 11) wix_11 h0 rfl rfl 22 (by decide) (wi_29 _ (List.mem_of_getElem? (i := 8) rfl)) rfl rfl dX11_baseLine_66 ?_
        refine lv_iconst (v := (4 : Int32)) hx hb dX11_baseLine_69 (by decide) ?_
        refine lv_iload_n hx hb dX11_baseLine_70 rfl (lv_at hl 1 rfl) ?_
        refine lv_imul hx hb dX11_baseLine_71 ?_
        refine lv_iload hx hb dX11_baseLine_72 (lv_at hl 4 rfl) ?_
        refine lv_iadd hx hb dX11_baseLine_74 ?_
        refine lv_aload_n hx hb dX11_baseLine_75 rfl (lv_at hl 0 rfl) ?_
        refine rk_get X hP (C := RX11) (T := TX11) (N := 44) (ci := 11) wix_11 h0 rfl rfl 11 (by decide) (wi_31 _ (List.mem_of_getElem? (i := 17) rfl)) rfl rfl dX11_baseLine_76 ?_
        obtain ⟨b1, h⟩ := h
        refine rk_iast X hP hD hS (n := 40) (klM_X11_22 h0) (fun _ _ => rfl) b1 dX11_baseLine_79 (fun H locs hP hS => ?_)
        obtain ⟨s2, es2⟩ : ∃ z : St, z = u1 s1 (v0 + 11) (((4 : Int32) * v1) + v5).toNatClampNeg (s1.1 v0 11) := ⟨_, rfl⟩
        rw [← es2] at hP
        have h := h s2 es2
        obtain ⟨x1, ex1⟩ : ∃ y : Int32, y = v5 + (1 : Int32) := ⟨_, rfl⟩
        have h := h x1 ex1
        refine lv_iinc (v := x1) (lv' := [(5, .int x1), (0, .ref (B + v0)), (1, .int v1), (2, .long v2), (4, .int v4)]) hx hb dX11_baseLine_80 hl (k := 4) rfl (by rw [ex1]; rfl) (by decide) rfl (fun ls hl => ?_)
        refine lv_goto (tgt := 45) hx hb dX11_baseLine_83 (by decide) ?_
        exact ih _ _ _ _ _ _ h0 h _ _ _ hP hS (lv_sub hl [1, 2, 3, 4, 0] rfl)
      · have h := h.2 (b2i_f c3)
        refine lv_iconst (v := (0 : Int32)) hx hb dX11_baseLine_63 (by decide) ?_
        exact rk_zret X kM_len false h hP hS dX11_baseLine_64
set_option maxRecDepth 100000 in
set_option maxHeartbeats 4000000 in
theorem mX11_baseLine (l : Launch) (D : va_G) (cy : Nat → ClassId) (B : Nat) (v0 : Nat) (σ : St) (h0 : kM[v0]? = some 11) {post : Bool → St → Prop} (h : wX11_baseLine v0 σ post) : Met l yX11_baseLine (Cond.code yX11_baseLine cX11_baseLine 6 (some .boolean) :: WALL) (rmD 13) (PcW D cy B kM σ [.ref (B + v0)]) (Qz post D cy B kM 26) 0 0 (AW B 26) := by
  refine Met.ofK (cc := cX11_baseLine) (maxL := 6) (ret := (some .boolean)) (by decide +kernel) rfl kM_len ?_
  intro p e s m below meth c X hP
  obtain ⟨⟨hx, hb, hml, hown, hts⟩, hr, hlk, hK, hN, hZ⟩ := id X
  have hD : ∀ σ, va_D (AW B 26) (wW cy B kM σ) := AW_D kM_len
  have hS : va_S (AW B 26) s.heap s.heap [] := va_S.rf
  have hl := lv_entry ([.ref (B + v0)]) (n := 6) (Nat.le_of_ble_eq_true rfl)
  rw [lg_entry_eq]
  generalize (lg_sl ([.ref (B + v0)]) ++ List.replicate (6 - (lg_sl ([.ref (B + v0)])).length) Slot.unset).toArray = ls at hl ⊢
  have hl : lv_has ls 6 [(0, .ref (B + v0))] := hl
  unfold wX11_baseLine at h
  refine lv_aload_n hx hb dX11_baseLine_0 rfl (lv_at hl 0 rfl) ?_
  refine rk_callz (va_runV (As := []) (rest := []) X.1 (mX11_newName l D cy B v0 σ h0 h) (cwV 0 hts (gW_V (wi_32 _ (List.mem_of_getElem? (i := 19) rfl)) (wi_32 _ (List.mem_of_getElem? (i := 20) rfl)) (wi_32 _ (List.mem_of_getElem? (i := 21) rfl)) (wi_30 _ (List.mem_of_getElem? (i := 9) rfl)) (wi_32 _ (List.mem_of_getElem? (i := 18) rfl))) rfl rfl rfl hd_X11_newName ⟨Nat.le_of_ble_eq_true rfl, Nat.le_of_ble_eq_true rfl⟩) (rk_preV X hS hP h0 rfl rfl []) rfl rfl hl.1 rfl (lv_room (Nat.le_of_ble_eq_true rfl)) dX11_baseLine_1 ⟨Nat.zero_le _, Nat.zero_le _⟩) hS (fun _ h => h) (fun r1 s1 H locs h hP hS => ?_)
  refine lv_if_ne (tgt := 9) hx hb dX11_baseLine_4 (by decide) (fun c1 => ?_) (fun c1 => ?_)
  · have h := h.1 (b2i_t c1)
    refine lv_iconst (v := (5 : Int32)) hx hb dX11_baseLine_9 (by decide) ?_
    refine lv_aload_n hx hb dX11_baseLine_10 rfl (lv_at hl 0 rfl) ?_
    refine rk_get X hP (C := RX11) (T := TX11) (N := 44) (ci := 11) wix_11 h0 rfl rfl 12 (by decide) (wi_32 _ (List.mem_of_getElem? (i := 2) rfl)) rfl rfl dX11_baseLine_11 ?_
    refine lv_imul hx hb dX11_baseLine_14 ?_
    refine lv_aload_n hx hb dX11_baseLine_15 rfl (lv_at hl 0 rfl) ?_
    refine rk_get X hP (C := RX11) (T := TX11) (N := 44) (ci := 11) wix_11 h0 rfl rfl 15 (by decide) (wi_29 _ (List.mem_of_getElem? (i := 0) rfl)) rfl rfl dX11_baseLine_16 ?_
    refine lv_aload_n hx hb dX11_baseLine_19 rfl (lv_at hl 0 rfl) ?_
    refine rk_get X hP (C := RX11) (T := TX11) (N := 44) (ci := 11) wix_11 h0 rfl rfl 12 (by decide) (wi_32 _ (List.mem_of_getElem? (i := 2) rfl)) rfl rfl dX11_baseLine_20 ?_
    refine lv_topi (fun x1 ex1 => ?_)
    have h := h x1 ex1
    obtain ⟨b1, h⟩ := h
    refine rk_iald X hP (n := 2) (klM_X11_15 h0) (fun _ _ => rfl) b1 dX11_baseLine_23 ?_
    refine lv_iadd hx hb dX11_baseLine_24 ?_
    refine lv_topi (fun x2 ex2 => ?_)
    have h := h x2 ex2
    refine lv_istore_n (lv' := [(1, .int x2), (0, .ref (B + v0))]) hx hb dX11_baseLine_25 rfl hl (by decide) rfl (fun ls hl => ?_)
    refine lv_aload_n hx hb dX11_baseLine_26 rfl (lv_at hl 1 rfl) ?_
    refine rk_get X hP (C := RX11) (T := TX11) (N := 44) (ci := 11) wix_11 h0 rfl rfl 26 (by decide) (wi_32 _ (List.mem_of_getElem? (i := 5) rfl)) rfl rfl dX11_baseLine_27 ?_
    refine lv_topl (fun x3 ex3 => ?_)
    have h := h x3 ex3
    refine lv_lstore_n (lv' := [(2, .long x3), (1, .int x2), (0, .ref (B + v0))]) hx hb dX11_baseLine_30 rfl hl (by decide) rfl (fun ls hl => ?_)
    refine lv_aload_n hx hb dX11_baseLine_31 rfl (lv_at hl 2 rfl) ?_
    refine rk_get X hP (C := RX11) (T := TX11) (N := 44) (ci := 11) wix_11 h0 rfl rfl 13 (by decide) (wi_28 _ (List.mem_of_getElem? (i := 22) rfl)) rfl rfl dX11_baseLine_32 ?_
    refine lv_aload_n hx hb dX11_baseLine_35 rfl (lv_at hl 2 rfl) ?_
    refine rk_get X hP (C := RX11) (T := TX11) (N := 44) (ci := 11) wix_11 h0 rfl rfl 12 (by decide) (wi_32 _ (List.mem_of_getElem? (i := 2) rfl)) rfl rfl dX11_baseLine_36 ?_
    refine lv_topi (fun x4 ex4 => ?_)
    have h := h x4 ex4
    obtain ⟨b2, h⟩ := h
    refine rk_iald X hP (n := 2) (klM_X11_13 h0) (fun _ _ => rfl) b2 dX11_baseLine_39 ?_
    refine lv_topi (fun x5 ex5 => ?_)
    have h := h x5 ex5
    refine lv_istore (lv' := [(4, .int x5), (2, .long x3), (1, .int x2), (0, .ref (B + v0))]) hx hb dX11_baseLine_40 hl (by decide) rfl (fun ls hl => ?_)
    refine lv_iconst (v := (0 : Int32)) hx hb dX11_baseLine_42 (by decide) ?_
    refine lv_istore (lv' := [(5, .int (0 : Int32)), (4, .int x5), (2, .long x3), (1, .int x2), (0, .ref (B + v0))]) hx hb dX11_baseLine_43 hl (by decide) rfl (fun ls hl => ?_)
    obtain ⟨j, h⟩ := h
    exact tX11_baseLine_45 X j _ _ _ _ _ _ h0 h _ _ _ hP hS (lv_sub hl [4, 3, 2, 1, 0] rfl)
  · have h := h.2 (b2i_f c1)
    refine lv_iconst (v := (0 : Int32)) hx hb dX11_baseLine_7 (by decide) ?_
    exact rk_zret X kM_len false h hP hS dX11_baseLine_8

theorem hd_X11_nodeLine : yX11_nodeLine.cls = RX11 ∧ yX11_nodeLine.cls ≠ "java/lang/invoke/MethodHandle" ∧ yX11_nodeLine.cls ≠ "java/lang/invoke/VarHandle" ∧ (parseMethodDescriptor yX11_nodeLine.desc).map (fun d => d.parameters.length) = some 0 := by decide +kernel
set_option maxRecDepth 100000 in
set_option maxHeartbeats 4000000 in
theorem tX11_nodeLine_39 {p : Program} {l : Launch} {e : Env} {s : State} {m : MethodId} {av : Array Value} {below : List Frame} {meth : Method} {c : Code} {D : va_G} {cy : Nat → ClassId} {B : Nat} (X : kC p s m av meth c cX11_nodeLine 3 (some .boolean) WALL RX11 D cy (AW B 26)) {post : Bool → St → Prop} : ∀ (v0 : Nat) (v1 : Int64) (t0 : Nat) (t1 : Int32) (σ : St), kM[v0]? = some 11 → kM[t0]? = some 11 → wX11_nodeLine_39 post v0 v1 t0 t1 σ → ∀ (H : Heap) (locs : List Loc) (ls : Array Slot), va_P D vwCl (wW cy B kM σ) H → va_S (AW B 26) s.heap H locs → lv_has ls 3 [(0, .ref (B + v0)), (1, .long v1)] → W p l e (rmD 13) s m av below meth c H locs 0 0 (MQ below (Qz post D cy B kM 26) av s 0 0 (AW B 26)) (F0 m 39 ls [.int t1, .ref (B + t0)]) := by
  obtain ⟨⟨hx, hb, hml, hown, hts⟩, hr, hlk, hK, hN, hZ⟩ := id X
  have hD : ∀ σ, va_D (AW B 26) (wW cy B kM σ) := AW_D kM_len
  intro v0 v1 t0 t1 σ h0 g0 h H locs ls hP hS hl
  unfold wX11_nodeLine_39 at h
  refine lv_iconst (v := (3 : Int32)) hx hb dX11_nodeLine_39 (by decide) ?_
  refine rk_callz (va_runV (As := [.int t1, .int (3 : Int32)]) (rest := []) X.1 (mX11_must l D cy B t0 t1 (3 : Int32) σ g0 h) (cwV 2 hts (gW_V (wi_31 _ (List.mem_of_getElem? (i := 18) rfl)) (wi_31 _ (List.mem_of_getElem? (i := 19) rfl)) (wi_31 _ (List.mem_of_getElem? (i := 20) rfl)) (wi_30 _ (List.mem_of_getElem? (i := 9) rfl)) (wi_31 _ (List.mem_of_getElem? (i := 4) rfl))) rfl rfl rfl hd_X11_must ⟨Nat.le_of_ble_eq_true rfl, Nat.le_of_ble_eq_true rfl⟩) (rk_preV X hS hP g0 rfl rfl [.int t1, .int (3 : Int32)]) rfl rfl hl.1 rfl (lv_room (Nat.le_of_ble_eq_true rfl)) dX11_nodeLine_40 ⟨Nat.zero_le _, Nat.zero_le _⟩) hS (fun _ h => h) (fun r1 s1 H locs h hP hS => ?_)
  refine lv_if_ne (tgt := 48) hx hb dX11_nodeLine_43 (by decide) (fun c1 => ?_) (fun c1 => ?_)
  · have h := h.1 (b2i_t c1)
    refine lv_aload_n hx hb dX11_nodeLine_48 rfl (lv_at hl 0 rfl) ?_
    refine rk_get X hP (C := RX11) (T := TX11) (N := 44) (ci := 11) wix_11 h0 rfl rfl 23 (by decide) (wi_29 _ (List.mem_of_getElem? (i := 9) rfl)) rfl rfl dX11_nodeLine_49 ?_
    refine lv_bipush (v := (6 : Int32)) hx hb dX11_nodeLine_52 (by decide) ?_
    refine lv_aload_n hx hb dX11_nodeLine_54 rfl (lv_at hl 0 rfl) ?_
    refine rk_get X hP (C := RX11) (T := TX11) (N := 44) (ci := 11) wix_11 h0 rfl rfl 12 (by decide) (wi_32 _ (List.mem_of_getElem? (i := 2) rfl)) rfl rfl dX11_nodeLine_55 ?_
    refine lv_imul hx hb dX11_nodeLine_58 ?_
    refine lv_aload_n hx hb dX11_nodeLine_59 rfl (lv_at hl 0 rfl) ?_
    refine rk_get X hP (C := RX11) (T := TX11) (N := 44) (ci := 11) wix_11 h0 rfl rfl 16 (by decide) (wi_29 _ (List.mem_of_getElem? (i := 1) rfl)) rfl rfl dX11_nodeLine_60 ?_
    refine lv_aload_n hx hb dX11_nodeLine_63 rfl (lv_at hl 0 rfl) ?_
    refine rk_get X hP (C := RX11) (T := TX11) (N := 44) (ci := 11) wix_11 h0 rfl rfl 12 (by decide) (wi_32 _ (List.mem_of_getElem? (i := 2) rfl)) rfl rfl dX11_nodeLine_64 ?_
    refine lv_topi (fun x1 ex1 => ?_)
    have h := h x1 ex1
    obtain ⟨b1, h⟩ := h
    refine rk_iald X hP (n := 2) (klM_X11_16 h0) (fun _ _ => rfl) b1 dX11_nodeLine_67 ?_
    refine lv_iadd hx hb dX11_nodeLine_68 ?_
    refine lv_aload_n hx hb dX11_nodeLine_69 rfl (lv_at hl 0 rfl) ?_
    refine rk_calli (va_runV (As := []) (rest := [.int (((6 : Int32) * (s1.1 v0 12)) + (s1.1 (v0 + 5) x1.toNatClampNeg)), .ref (B + (v0 + 12))]) X.1 (mX11_tableNamed l D cy B v0 s1 h0 h) (cwV 0 hts (gW_V (wi_32 _ (List.mem_of_getElem? (i := 9) rfl)) (wi_32 _ (List.mem_of_getElem? (i := 10) rfl)) (wi_32 _ (List.mem_of_getElem? (i := 11) rfl)) (wi_30 _ (List.mem_of_getElem? (i := 9) rfl)) (wi_32 _ (List.mem_of_getElem? (i := 1) rfl))) rfl rfl rfl hd_X11_tableNamed ⟨Nat.le_of_ble_eq_true rfl, Nat.le_of_ble_eq_true rfl⟩) (rk_preV X hS hP h0 rfl rfl []) rfl rfl hl.1 rfl (lv_room (Nat.le_of_ble_eq_true rfl)) dX11_nodeLine_70 ⟨Nat.zero_le _, Nat.zero_le _⟩) hS (fun _ h => h) (fun r2 s2 H locs h hP hS => ?_)
    obtain ⟨b2, h⟩ := h
    refine rk_iast X hP hD hS (n := 12) (klM_X11_23 h0) (fun _ _ => rfl) b2 dX11_nodeLine_73 (fun H locs hP hS => ?_)
    obtain ⟨s3, es3⟩ : ∃ z : St, z = u1 s2 (v0 + 12) (((6 : Int32) * (s1.1 v0 12)) + (s1.1 (v0 + 5) x1.toNatClampNeg)).toNatClampNeg r2 := ⟨_, rfl⟩
    rw [← es3] at hP
    have h := h s3 es3
    refine lv_aload_n hx hb dX11_nodeLine_74 rfl (lv_at hl 0 rfl) ?_
    refine rk_callv (va_runV (As := []) (rest := []) X.1 (mX11_steps l D cy B v0 s3 h0 h) (cwV 0 hts (gW_V (wi_31 _ (List.mem_of_getElem? (i := 21) rfl)) (wi_31 _ (List.mem_of_getElem? (i := 22) rfl)) (wi_31 _ (List.mem_of_getElem? (i := 23) rfl)) (wi_30 _ (List.mem_of_getElem? (i := 9) rfl)) (wi_30 _ (List.mem_of_getElem? (i := 12) rfl))) rfl rfl rfl hd_X11_steps ⟨Nat.le_of_ble_eq_true rfl, Nat.le_of_ble_eq_true rfl⟩) (rk_preV X hS hP h0 rfl rfl []) rfl rfl hl.1 rfl (lv_room (Nat.le_of_ble_eq_true rfl)) dX11_nodeLine_75 ⟨Nat.zero_le _, Nat.zero_le _⟩) hS (fun _ h => h) (fun s4 H locs h hP hS => ?_)
    refine lv_aload_n hx hb dX11_nodeLine_78 rfl (lv_at hl 0 rfl) ?_
    refine rk_get X hP (C := RX11) (T := TX11) (N := 44) (ci := 11) wix_11 h0 rfl rfl 19 (by decide) (wi_29 _ (List.mem_of_getElem? (i := 5) rfl)) rfl rfl dX11_nodeLine_79 ?_
    refine lv_bipush (v := (6 : Int32)) hx hb dX11_nodeLine_82 (by decide) ?_
    refine lv_aload_n hx hb dX11_nodeLine_84 rfl (lv_at hl 0 rfl) ?_
    refine rk_get X hP (C := RX11) (T := TX11) (N := 44) (ci := 11) wix_11 h0 rfl rfl 12 (by decide) (wi_32 _ (List.mem_of_getElem? (i := 2) rfl)) rfl rfl dX11_nodeLine_85 ?_
    refine lv_imul hx hb dX11_nodeLine_88 ?_
    refine lv_aload_n hx hb dX11_nodeLine_89 rfl (lv_at hl 0 rfl) ?_
    refine rk_get X hP (C := RX11) (T := TX11) (N := 44) (ci := 11) wix_11 h0 rfl rfl 16 (by decide) (wi_29 _ (List.mem_of_getElem? (i := 1) rfl)) rfl rfl dX11_nodeLine_90 ?_
    refine lv_aload_n hx hb dX11_nodeLine_93 rfl (lv_at hl 0 rfl) ?_
    refine rk_get X hP (C := RX11) (T := TX11) (N := 44) (ci := 11) wix_11 h0 rfl rfl 12 (by decide) (wi_32 _ (List.mem_of_getElem? (i := 2) rfl)) rfl rfl dX11_nodeLine_94 ?_
    refine lv_topi (fun x2 ex2 => ?_)
    have h := h x2 ex2
    obtain ⟨b3, h⟩ := h
    refine rk_iald X hP (n := 2) (klM_X11_16 h0) (fun _ _ => rfl) b3 dX11_nodeLine_97 ?_
    refine lv_iadd hx hb dX11_nodeLine_98 ?_
    refine lv_lload_n hx hb dX11_nodeLine_99 rfl (lv_at hl 1 rfl) ?_
    obtain ⟨b4, h⟩ := h
    refine rk_last X hP hD hS (n := 12) (klM_X11_19 h0) (fun _ _ => rfl) b4 dX11_nodeLine_100 (fun H locs hP hS => ?_)
    obtain ⟨s5, es5⟩ : ∃ z : St, z = u2 s4 (v0 + 8) (((6 : Int32) * (s4.1 v0 12)) + (s4.1 (v0 + 5) x2.toNatClampNeg)).toNatClampNeg v1 := ⟨_, rfl⟩
    rw [← es5] at hP
    have h := h s5 es5
    refine lv_aload_n hx hb dX11_nodeLine_101 rfl (lv_at hl 0 rfl) ?_
    refine rk_get X hP (C := RX11) (T := TX11) (N := 44) (ci := 11) wix_11 h0 rfl rfl 16 (by decide) (wi_29 _ (List.mem_of_getElem? (i := 1) rfl)) rfl rfl dX11_nodeLine_102 ?_
    refine lv_aload_n hx hb dX11_nodeLine_105 rfl (lv_at hl 0 rfl) ?_
    refine rk_get X hP (C := RX11) (T := TX11) (N := 44) (ci := 11) wix_11 h0 rfl rfl 12 (by decide) (wi_32 _ (List.mem_of_getElem? (i := 2) rfl)) rfl rfl dX11_nodeLine_106 ?_
    refine lv_topi (fun x3 ex3 => ?_)
    have h := h x3 ex3
    refine lv_dup2_11 hx hb dX11_nodeLine_109 rfl rfl ?_
    obtain ⟨b5, h⟩ := h
    refine rk_iald X hP (n := 2) (klM_X11_16 h0) (fun _ _ => rfl) b5 dX11_nodeLine_110 ?_
    refine lv_iconst (v := (1 : Int32)) hx hb dX11_nodeLine_111 (by decide) ?_
    refine lv_iadd hx hb dX11_nodeLine_112 ?_
    obtain ⟨b6, h⟩ := h
    refine rk_iast X hP hD hS (n := 2) (klM_X11_16 h0) (fun _ _ => rfl) b6 dX11_nodeLine_113 (fun H locs hP hS => ?_)
    obtain ⟨s6, es6⟩ : ∃ z : St, z = u1 s5 (v0 + 5) x3.toNatClampNeg ((s5.1 (v0 + 5) x3.toNatClampNeg) + (1 : Int32)) := ⟨_, rfl⟩
    rw [← es6] at hP
    have h := h s6 es6
    refine lv_iconst (v := (1 : Int32)) hx hb dX11_nodeLine_114 (by decide) ?_
    exact rk_zret X kM_len true h hP hS dX11_nodeLine_115
  · have h := h.2 (b2i_f c1)
    refine lv_iconst (v := (0 : Int32)) hx hb dX11_nodeLine_46 (by decide) ?_
    exact rk_zret X kM_len false h hP hS dX11_nodeLine_47
set_option maxRecDepth 100000 in
set_option maxHeartbeats 4000000 in
theorem mX11_nodeLine (l : Launch) (D : va_G) (cy : Nat → ClassId) (B : Nat) (v0 : Nat) (σ : St) (h0 : kM[v0]? = some 11) {post : Bool → St → Prop} (h : wX11_nodeLine v0 σ post) : Met l yX11_nodeLine (Cond.code yX11_nodeLine cX11_nodeLine 3 (some .boolean) :: WALL) (rmD 13) (PcW D cy B kM σ [.ref (B + v0)]) (Qz post D cy B kM 26) 0 0 (AW B 26) := by
  refine Met.ofK (cc := cX11_nodeLine) (maxL := 3) (ret := (some .boolean)) (by decide +kernel) rfl kM_len ?_
  intro p e s m below meth c X hP
  obtain ⟨⟨hx, hb, hml, hown, hts⟩, hr, hlk, hK, hN, hZ⟩ := id X
  have hD : ∀ σ, va_D (AW B 26) (wW cy B kM σ) := AW_D kM_len
  have hS : va_S (AW B 26) s.heap s.heap [] := va_S.rf
  have hl := lv_entry ([.ref (B + v0)]) (n := 3) (Nat.le_of_ble_eq_true rfl)
  rw [lg_entry_eq]
  generalize (lg_sl ([.ref (B + v0)]) ++ List.replicate (3 - (lg_sl ([.ref (B + v0)])).length) Slot.unset).toArray = ls at hl ⊢
  have hl : lv_has ls 3 [(0, .ref (B + v0))] := hl
  unfold wX11_nodeLine at h
  refine lv_aload_n hx hb dX11_nodeLine_0 rfl (lv_at hl 0 rfl) ?_
  refine rk_callz (va_runV (As := []) (rest := []) X.1 (mX11_newName l D cy B v0 σ h0 h) (cwV 0 hts (gW_V (wi_32 _ (List.mem_of_getElem? (i := 19) rfl)) (wi_32 _ (List.mem_of_getElem? (i := 20) rfl)) (wi_32 _ (List.mem_of_getElem? (i := 21) rfl)) (wi_30 _ (List.mem_of_getElem? (i := 9) rfl)) (wi_32 _ (List.mem_of_getElem? (i := 18) rfl))) rfl rfl rfl hd_X11_newName ⟨Nat.le_of_ble_eq_true rfl, Nat.le_of_ble_eq_true rfl⟩) (rk_preV X hS hP h0 rfl rfl []) rfl rfl hl.1 rfl (lv_room (Nat.le_of_ble_eq_true rfl)) dX11_nodeLine_1 ⟨Nat.zero_le _, Nat.zero_le _⟩) hS (fun _ h => h) (fun r1 s1 H locs h hP hS => ?_)
  refine lv_if_ne (tgt := 9) hx hb dX11_nodeLine_4 (by decide) (fun c1 => ?_) (fun c1 => ?_)
  · have h := h.1 (b2i_t c1)
    refine lv_aload_n hx hb dX11_nodeLine_9 rfl (lv_at hl 0 rfl) ?_
    refine rk_get X hP (C := RX11) (T := TX11) (N := 44) (ci := 11) wix_11 h0 rfl rfl 26 (by decide) (wi_32 _ (List.mem_of_getElem? (i := 5) rfl)) rfl rfl dX11_nodeLine_10 ?_
    refine lv_topl (fun x1 ex1 => ?_)
    have h := h x1 ex1
    refine lv_lstore_n (lv' := [(1, .long x1), (0, .ref (B + v0))]) hx hb dX11_nodeLine_13 rfl hl (by decide) rfl (fun ls hl => ?_)
    refine lv_aload_n hx hb dX11_nodeLine_14 rfl (lv_at hl 1 rfl) ?_
    refine lv_aload_n hx hb dX11_nodeLine_15 rfl (lv_at hl 1 rfl) ?_
    refine rk_callz (va_runV (As := []) (rest := [.ref (B + v0)]) X.1 (mX11_isName l D cy B v0 s1 h0 h) (cwV 0 hts (gW_V (wi_32 _ (List.mem_of_getElem? (i := 6) rfl)) (wi_32 _ (List.mem_of_getElem? (i := 7) rfl)) (wi_32 _ (List.mem_of_getElem? (i := 8) rfl)) (wi_30 _ (List.mem_of_getElem? (i := 9) rfl)) (wi_31 _ (List.mem_of_getElem? (i := 16) rfl))) rfl rfl rfl hd_X11_isName ⟨Nat.le_of_ble_eq_true rfl, Nat.le_of_ble_eq_true rfl⟩) (rk_preV X hS hP h0 rfl rfl []) rfl rfl hl.1 rfl (lv_room (Nat.le_of_ble_eq_true rfl)) dX11_nodeLine_16 ⟨Nat.zero_le _, Nat.zero_le _⟩) hS (fun _ h => h) (fun r2 s2 H locs h hP hS => ?_)
    refine lv_iconst (v := (1 : Int32)) hx hb dX11_nodeLine_19 (by decide) ?_
    refine rk_callz (va_runV (As := [.int (b2i r2), .int (1 : Int32)]) (rest := []) X.1 (mX11_must l D cy B v0 (b2i r2) (1 : Int32) s2 h0 h) (cwV 2 hts (gW_V (wi_31 _ (List.mem_of_getElem? (i := 18) rfl)) (wi_31 _ (List.mem_of_getElem? (i := 19) rfl)) (wi_31 _ (List.mem_of_getElem? (i := 20) rfl)) (wi_30 _ (List.mem_of_getElem? (i := 9) rfl)) (wi_31 _ (List.mem_of_getElem? (i := 4) rfl))) rfl rfl rfl hd_X11_must ⟨Nat.le_of_ble_eq_true rfl, Nat.le_of_ble_eq_true rfl⟩) (rk_preV X hS hP h0 rfl rfl [.int (b2i r2), .int (1 : Int32)]) rfl rfl hl.1 rfl (lv_room (Nat.le_of_ble_eq_true rfl)) dX11_nodeLine_20 ⟨Nat.zero_le _, Nat.zero_le _⟩) hS (fun _ h => h) (fun r3 s3 H locs h hP hS => ?_)
    refine lv_if_eq (tgt := 46) hx hb dX11_nodeLine_23 (by decide) (fun c2 => ?_) (fun c2 => ?_)
    · have h := h.1 (b2i_f c2)
      refine lv_iconst (v := (0 : Int32)) hx hb dX11_nodeLine_46 (by decide) ?_
      exact rk_zret X kM_len false h hP hS dX11_nodeLine_47
    · have h := h.2 (b2i_t c2)
      refine lv_aload_n hx hb dX11_nodeLine_26 rfl (lv_at hl 1 rfl) ?_
      refine lv_aload_n hx hb dX11_nodeLine_27 rfl (lv_at hl 1 rfl) ?_
      refine rk_calli (va_runV (As := []) (rest := [.ref (B + v0)]) X.1 (mX11_tableNamed l D cy B v0 s3 h0 h) (cwV 0 hts (gW_V (wi_32 _ (List.mem_of_getElem? (i := 9) rfl)) (wi_32 _ (List.mem_of_getElem? (i := 10) rfl)) (wi_32 _ (List.mem_of_getElem? (i := 11) rfl)) (wi_30 _ (List.mem_of_getElem? (i := 9) rfl)) (wi_32 _ (List.mem_of_getElem? (i := 1) rfl))) rfl rfl rfl hd_X11_tableNamed ⟨Nat.le_of_ble_eq_true rfl, Nat.le_of_ble_eq_true rfl⟩) (rk_preV X hS hP h0 rfl rfl []) rfl rfl hl.1 rfl (lv_room (Nat.le_of_ble_eq_true rfl)) dX11_nodeLine_28 ⟨Nat.zero_le _, Nat.zero_le _⟩) hS (fun _ h => h) (fun r4 s4 H locs h hP hS => ?_)
      refine lv_if_lt (tgt := 38) hx hb dX11_nodeLine_31 (by decide) (fun c3 => ?_) (fun c3 => ?_)
      · have h := h.1 c3
        refine lv_iconst (v := (0 : Int32)) hx hb dX11_nodeLine_38 (by decide) ?_
        exact tX11_nodeLine_39 X _ _ _ _ _ h0 h0 h _ _ _ hP hS (lv_sub hl [1, 0] rfl)
      · have h := h.2 c3
        refine lv_iconst (v := (1 : Int32)) hx hb dX11_nodeLine_34 (by decide) ?_
        refine lv_goto (tgt := 39) hx hb dX11_nodeLine_35 (by decide) ?_
        exact tX11_nodeLine_39 X _ _ _ _ _ h0 h0 h _ _ _ hP hS (lv_sub hl [1, 0] rfl)
  · have h := h.2 (b2i_f c1)
    refine lv_iconst (v := (0 : Int32)) hx hb dX11_nodeLine_7 (by decide) ?_
    exact rk_zret X kM_len false h hP hS dX11_nodeLine_8

theorem hd_X11_takesEnd : yX11_takesEnd.cls = RX11 ∧ yX11_takesEnd.cls ≠ "java/lang/invoke/MethodHandle" ∧ yX11_takesEnd.cls ≠ "java/lang/invoke/VarHandle" ∧ (parseMethodDescriptor yX11_takesEnd.desc).map (fun d => d.parameters.length) = some 1 := by decide +kernel
set_option maxRecDepth 100000 in
set_option maxHeartbeats 4000000 in
theorem tX11_takesEnd_191 {p : Program} {l : Launch} {e : Env} {s : State} {m : MethodId} {av : Array Value} {below : List Frame} {meth : Method} {c : Code} {D : va_G} {cy : Nat → ClassId} {B : Nat} (X : kC p s m av meth c cX11_takesEnd 6 (some .boolean) WALL RX11 D cy (AW B 26)) {post : Bool → St → Prop} : ∀ (v0 : Nat) (v3 : Int32) (t0 : Nat) (t1 : Int32) (σ : St), kM[v0]? = some 11 → kM[t0]? = some 11 → wX11_takesEnd_191 post v0 v3 t0 t1 σ → ∀ (H : Heap) (locs : List Loc) (ls : Array Slot), va_P D vwCl (wW cy B kM σ) H → va_S (AW B 26) s.heap H locs → lv_has ls 6 [(0, .ref (B + v0)), (3, .int v3)] → W p l e (rmD 12) s m av below meth c H locs 0 0 (MQ below (Qz post D cy B kM 26) av s 0 0 (AW B 26)) (F0 m 191 ls [.int t1, .ref (B + t0)]) := by
  obtain ⟨⟨hx, hb, hml, hown, hts⟩, hr, hlk, hK, hN, hZ⟩ := id X
  have hD : ∀ σ, va_D (AW B 26) (wW cy B kM σ) := AW_D kM_len
  intro v0 v3 t0 t1 σ h0 g0 h H locs ls hP hS hl
  unfold wX11_takesEnd_191 at h
  refine lv_iconst (v := (2 : Int32)) hx hb dX11_takesEnd_191 (by decide) ?_
  refine rk_callz (va_runV (As := [.int t1, .int (2 : Int32)]) (rest := []) X.1 (mX11_must l D cy B t0 t1 (2 : Int32) σ g0 h) (cwV 2 hts (gW_V (wi_31 _ (List.mem_of_getElem? (i := 18) rfl)) (wi_31 _ (List.mem_of_getElem? (i := 19) rfl)) (wi_31 _ (List.mem_of_getElem? (i := 20) rfl)) (wi_30 _ (List.mem_of_getElem? (i := 9) rfl)) (wi_31 _ (List.mem_of_getElem? (i := 4) rfl))) rfl rfl rfl hd_X11_must ⟨Nat.le_of_ble_eq_true rfl, Nat.le_of_ble_eq_true rfl⟩) (rk_preV X hS hP g0 rfl rfl [.int t1, .int (2 : Int32)]) rfl rfl hl.1 rfl (lv_room (Nat.le_of_ble_eq_true rfl)) dX11_takesEnd_192 ⟨Nat.zero_le _, Nat.zero_le _⟩) hS (fun _ h => h) (fun r1 s1 H locs h hP hS => ?_)
  refine lv_if_eq (tgt := 207) hx hb dX11_takesEnd_195 (by decide) (fun c1 => ?_) (fun c1 => ?_)
  · have h := h.1 (b2i_f c1)
    refine lv_iconst (v := (0 : Int32)) hx hb dX11_takesEnd_207 (by decide) ?_
    exact rk_zret X kM_len false h hP hS dX11_takesEnd_208
  · have h := h.2 (b2i_t c1)
    refine lv_aload_n hx hb dX11_takesEnd_198 rfl (lv_at hl 0 rfl) ?_
    refine lv_iload_n hx hb dX11_takesEnd_199 rfl (lv_at hl 1 rfl) ?_
    refine lv_iconst (v := (4 : Int32)) hx hb dX11_takesEnd_200 (by decide) ?_
    refine rk_callz (va_runV (As := [.int v3, .int (4 : Int32)]) (rest := []) X.1 (mX11_must l D cy B v0 v3 (4 : Int32) s1 h0 h) (cwV 2 hts (gW_V (wi_31 _ (List.mem_of_getElem? (i := 18) rfl)) (wi_31 _ (List.mem_of_getElem? (i := 19) rfl)) (wi_31 _ (List.mem_of_getElem? (i := 20) rfl)) (wi_30 _ (List.mem_of_getElem? (i := 9) rfl)) (wi_31 _ (List.mem_of_getElem? (i := 4) rfl))) rfl rfl rfl hd_X11_must ⟨Nat.le_of_ble_eq_true rfl, Nat.le_of_ble_eq_true rfl⟩) (rk_preV X hS hP h0 rfl rfl [.int v3, .int (4 : Int32)]) rfl rfl hl.1 rfl (lv_room (Nat.le_of_ble_eq_true rfl)) dX11_takesEnd_201 ⟨Nat.zero_le _, Nat.zero_le _⟩) hS (fun _ h => h) (fun r2 s2 H locs h hP hS => ?_)
    refine lv_if_ne (tgt := 209) hx hb dX11_takesEnd_204 (by decide) (fun c2 => ?_) (fun c2 => ?_)
    · have h := h.1 (b2i_t c2)
      refine lv_aload_n hx hb dX11_takesEnd_209 rfl (lv_at hl 0 rfl) ?_
      refine rk_callv (va_runV (As := []) (rest := []) X.1 (mX11_steps l D cy B v0 s2 h0 h) (cwV 0 hts (gW_V (wi_31 _ (List.mem_of_getElem? (i := 21) rfl)) (wi_31 _ (List.mem_of_getElem? (i := 22) rfl)) (wi_31 _ (List.mem_of_getElem? (i := 23) rfl)) (wi_30 _ (List.mem_of_getElem? (i := 9) rfl)) (wi_30 _ (List.mem_of_getElem? (i := 12) rfl))) rfl rfl rfl hd_X11_steps ⟨Nat.le_of_ble_eq_true rfl, Nat.le_of_ble_eq_true rfl⟩) (rk_preV X hS hP h0 rfl rfl []) rfl rfl hl.1 rfl (lv_room (Nat.le_of_ble_eq_true rfl)) dX11_takesEnd_210 ⟨Nat.zero_le _, Nat.zero_le _⟩) hS (fun _ h => h) (fun s3 H locs h hP hS => ?_)
      refine lv_iconst (v := (1 : Int32)) hx hb dX11_takesEnd_213 (by decide) ?_
      exact rk_zret X kM_len true h hP hS dX11_takesEnd_214
    · have h := h.2 (b2i_f c2)
      refine lv_iconst (v := (0 : Int32)) hx hb dX11_takesEnd_207 (by decide) ?_
      exact rk_zret X kM_len false h hP hS dX11_takesEnd_208
set_option maxRecDepth 100000 in
set_option maxHeartbeats 4000000 in
theorem tX11_takesEnd_186 {p : Program} {l : Launch} {e : Env} {s : State} {m : MethodId} {av : Array Value} {below : List Frame} {meth : Method} {c : Code} {D : va_G} {cy : Nat → ClassId} {B : Nat} (X : kC p s m av meth c cX11_takesEnd 6 (some .boolean) WALL RX11 D cy (AW B 26)) {post : Bool → St → Prop} : ∀ (v0 : Nat) (v3 : Int32) (t0 : Nat) (σ : St), kM[v0]? = some 11 → kM[t0]? = some 11 → wX11_takesEnd_186 post v0 v3 t0 σ → ∀ (H : Heap) (locs : List Loc) (ls : Array Slot), va_P D vwCl (wW cy B kM σ) H → va_S (AW B 26) s.heap H locs → lv_has ls 6 [(0, .ref (B + v0)), (3, .int v3)] → W p l e (rmD 12) s m av below meth c H locs 0 0 (MQ below (Qz post D cy B kM 26) av s 0 0 (AW B 26)) (F0 m 186 ls [.ref (B + t0)]) := by
  obtain ⟨⟨hx, hb, hml, hown, hts⟩, hr, hlk, hK, hN, hZ⟩ := id X
  have hD : ∀ σ, va_D (AW B 26) (wW cy B kM σ) := AW_D kM_len
  intro v0 v3 t0 σ h0 g0 h H locs ls hP hS hl
  unfold wX11_takesEnd_186 at h
  refine lv_iconst (v := (1 : Int32)) hx hb dX11_takesEnd_186 (by decide) ?_
  refine lv_goto (tgt := 191) hx hb dX11_takesEnd_187 (by decide) ?_
  exact tX11_takesEnd_191 X _ _ _ _ _ h0 g0 h _ _ _ hP hS (lv_sub hl [0, 1] rfl)
set_option maxRecDepth 100000 in
set_option maxHeartbeats 4000000 in
theorem tX11_takesEnd_167 {p : Program} {l : Launch} {e : Env} {s : State} {m : MethodId} {av : Array Value} {below : List Frame} {meth : Method} {c : Code} {D : va_G} {cy : Nat → ClassId} {B : Nat} (X : kC p s m av meth c cX11_takesEnd 6 (some .boolean) WALL RX11 D cy (AW B 26)) {post : Bool → St → Prop} {R135 : Nat → Int32 → Int32 → Int32 → St → Prop} (hR135 : ∀ (v0 : Nat) (v3 : Int32) (v4 : Int32) (v5 : Int32) (σ : St), kM[v0]? = some 11 → R135 v0 v3 v4 v5 σ → ∀ (H : Heap) (locs : List Loc) (ls : Array Slot), va_P D vwCl (wW cy B kM σ) H → va_S (AW B 26) s.heap H locs → lv_has ls 6 [(0, .ref (B + v0)), (3, .int v3), (4, .int v4), (5, .int v5)] → W p l e (rmD 12) s m av below meth c H locs 0 0 (MQ below (Qz post D cy B kM 26) av s 0 0 (AW B 26)) (F0 m 135 ls [])) : ∀ (v0 : Nat) (v3 : Int32) (v5 : Int32) (t0 : Int32) (t1 : Int32) (σ : St), kM[v0]? = some 11 → wX11_takesEnd_167 post R135 v0 v3 v5 t0 t1 σ → ∀ (H : Heap) (locs : List Loc) (ls : Array Slot), va_P D vwCl (wW cy B kM σ) H → va_S (AW B 26) s.heap H locs → lv_has ls 6 [(0, .ref (B + v0)), (3, .int v3), (5, .int v5)] → W p l e (rmD 12) s m av below meth c H locs 0 0 (MQ below (Qz post D cy B kM 26) av s 0 0 (AW B 26)) (F0 m 167 ls [.int t1, .int t0]) := by
  obtain ⟨⟨hx, hb, hml, hown, hts⟩, hr, hlk, hK, hN, hZ⟩ := id X
  have hD : ∀ σ, va_D (AW B 26) (wW cy B kM σ) := AW_D kM_len
  intro v0 v3 v5 t0 t1 σ h0 h H locs ls hP hS hl
  unfold wX11_takesEnd_167 at h
  refine lv_iand hx hb dX11_takesEnd_167 ?_
  refine lv_topi (fun x1 ex1 => ?_)
  have h := h x1 ex1
  refine lv_istore (lv' := [(4, .int x1), (0, .ref (B + v0)), (3, .int v3), (5, .int v5)]) hx hb dX11_takesEnd_168 hl (by decide) rfl (fun ls hl => ?_)
  obtain ⟨x2, ex2⟩ : ∃ y : Int32, y = v5 + (1 : Int32) := ⟨_, rfl⟩
  have h := h x2 ex2
  refine lv_iinc (v := x2) (lv' := [(5, .int x2), (4, .int x1), (0, .ref (B + v0)), (3, .int v3)]) hx hb dX11_takesEnd_170 hl (k := 3) rfl (by rw [ex2]; rfl) (by decide) rfl (fun ls hl => ?_)
  refine lv_goto (tgt := 135) hx hb dX11_takesEnd_173 (by decide) ?_
  exact hR135 _ _ _ _ _ h0 h _ _ _ hP hS (lv_sub hl [2, 3, 1, 0] rfl)
set_option maxRecDepth 100000 in
set_option maxHeartbeats 4000000 in
theorem tX11_takesEnd_135 {p : Program} {l : Launch} {e : Env} {s : State} {m : MethodId} {av : Array Value} {below : List Frame} {meth : Method} {c : Code} {D : va_G} {cy : Nat → ClassId} {B : Nat} (X : kC p s m av meth c cX11_takesEnd 6 (some .boolean) WALL RX11 D cy (AW B 26)) {post : Bool → St → Prop} : ∀ (n : Nat) (v0 : Nat) (v3 : Int32) (v4 : Int32) (v5 : Int32) (σ : St), kM[v0]? = some 11 → wX11_takesEnd_135 post n v0 v3 v4 v5 σ → ∀ (H : Heap) (locs : List Loc) (ls : Array Slot), va_P D vwCl (wW cy B kM σ) H → va_S (AW B 26) s.heap H locs → lv_has ls 6 [(0, .ref (B + v0)), (3, .int v3), (4, .int v4), (5, .int v5)] → W p l e (rmD 12) s m av below meth c H locs 0 0 (MQ below (Qz post D cy B kM 26) av s 0 0 (AW B 26)) (F0 m 135 ls []) := by
  obtain ⟨⟨hx, hb, hml, hown, hts⟩, hr, hlk, hK, hN, hZ⟩ := id X
  have hD : ∀ σ, va_D (AW B 26) (wW cy B kM σ) := AW_D kM_len
  intro n
  induction n with
  | zero => intro v0 v3 v4 v5 σ h0 h; exact absurd h id
  | succ n ih =>
    intro v0 v3 v4 v5 σ h0 h H locs ls hP hS hl
    rw [wX11_takesEnd_135] at h
    refine lv_iload hx hb dX11_takesEnd_135 (lv_at hl 3 rfl) ?_
    refine lv_iconst (v := (2 : Int32)) hx hb dX11_takesEnd_137 (by decide) ?_
    refine lv_aload_n hx hb dX11_takesEnd_138 rfl (lv_at hl 0 rfl) ?_
    refine rk_get X hP (C := RX11) (T := TX11) (N := 44) (ci := 11) wix_11 h0 rfl rfl 24 (by decide) (wi_33 _ (List.mem_of_getElem? (i := 13) rfl)) rfl rfl dX11_takesEnd_139 ?_
    refine lv_imul hx hb dX11_takesEnd_142 ?_
    refine lv_icmp_ge (tgt := 176) hx hb dX11_takesEnd_143 (by decide) (fun c1 => ?_) (fun c1 => ?_)
    · have h := h.1 c1
      refine lv_aload_n hx hb dX11_takesEnd_176 rfl (lv_at hl 0 rfl) ?_
      refine lv_iload_n hx hb dX11_takesEnd_177 rfl (lv_at hl 1 rfl) ?_
      refine lv_if_eq (tgt := 186) hx hb dX11_takesEnd_178 (by decide) (fun c2 => ?_) (fun c2 => ?_)
      · have h := h.1 c2
        exact tX11_takesEnd_186 X _ _ _ _ h0 h0 h _ _ _ hP hS (lv_sub hl [0, 1] rfl)
      · have h := h.2 c2
        refine lv_iload hx hb dX11_takesEnd_181 (lv_at hl 2 rfl) ?_
        refine lv_if_eq (tgt := 190) hx hb dX11_takesEnd_183 (by decide) (fun c3 => ?_) (fun c3 => ?_)
        · have h := h.1 c3
          refine lv_iconst (v := (0 : Int32)) hx hb dX11_takesEnd_190 (by decide) ?_
          exact tX11_takesEnd_191 X _ _ _ _ _ h0 h0 h _ _ _ hP hS (lv_sub hl [0, 1] rfl)
        · have h := h.2 c3
          exact tX11_takesEnd_186 X _ _ _ _ h0 h0 h _ _ _ hP hS (lv_sub hl [0, 1] rfl)
    · have h := h.2 c1
      refine lv_iload hx hb dX11_takesEnd_146 (lv_at hl 2 rfl) ?_
      refine lv_aload_n hx hb dX11_takesEnd_148 rfl (lv_at hl 0 rfl) ?_
      refine rk_get X hP (C := RX11) (T := TX11) (N := 44) (ci := 11) wix_11 h0 rfl rfl 25 (by decide) (wi_29 _ (List.mem_of_getElem? (i := 10) rfl)) rfl rfl dX11_takesEnd_149 ?_
      refine lv_iload hx hb dX11_takesEnd_152 (lv_at hl 3 rfl) ?_
      obtain ⟨b1, h⟩ := h
      refine rk_iald X hP (n := 20) (klM_X11_25 h0) (fun _ _ => rfl) b1 dX11_takesEnd_154 ?_
      refine lv_aload_n hx hb dX11_takesEnd_155 rfl (lv_at hl 0 rfl) ?_
      refine rk_get X hP (C := RX11) (T := TX11) (N := 44) (ci := 11) wix_11 h0 rfl rfl 29 (by decide) (wi_33 _ (List.mem_of_getElem? (i := 12) rfl)) rfl rfl dX11_takesEnd_156 ?_
      refine lv_icmp_eq (tgt := 166) hx hb dX11_takesEnd_159 (by decide) (fun c4 => ?_) (fun c4 => ?_)
      · have h := h.1 c4
        refine lv_iconst (v := (0 : Int32)) hx hb dX11_takesEnd_166 (by decide) ?_
        exact tX11_takesEnd_167 X ih _ _ _ _ _ _ h0 h _ _ _ hP hS (lv_sub hl [0, 1, 3] rfl)
      · have h := h.2 c4
        refine lv_iconst (v := (1 : Int32)) hx hb dX11_takesEnd_162 (by decide) ?_
        refine lv_goto (tgt := 167) hx hb dX11_takesEnd_163 (by decide) ?_
        exact tX11_takesEnd_167 X ih _ _ _ _ _ _ h0 h _ _ _ hP hS (lv_sub hl [0, 1, 3] rfl)
set_option maxRecDepth 100000 in
set_option maxHeartbeats 4000000 in
theorem tX11_takesEnd_130 {p : Program} {l : Launch} {e : Env} {s : State} {m : MethodId} {av : Array Value} {below : List Frame} {meth : Method} {c : Code} {D : va_G} {cy : Nat → ClassId} {B : Nat} (X : kC p s m av meth c cX11_takesEnd 6 (some .boolean) WALL RX11 D cy (AW B 26)) {post : Bool → St → Prop} : ∀ (v0 : Nat) (v3 : Int32) (t0 : Int32) (σ : St), kM[v0]? = some 11 → wX11_takesEnd_130 post v0 v3 t0 σ → ∀ (H : Heap) (locs : List Loc) (ls : Array Slot), va_P D vwCl (wW cy B kM σ) H → va_S (AW B 26) s.heap H locs → lv_has ls 6 [(0, .ref (B + v0)), (3, .int v3)] → W p l e (rmD 12) s m av below meth c H locs 0 0 (MQ below (Qz post D cy B kM 26) av s 0 0 (AW B 26)) (F0 m 130 ls [.int t0]) := by
  obtain ⟨⟨hx, hb, hml, hown, hts⟩, hr, hlk, hK, hN, hZ⟩ := id X
  have hD : ∀ σ, va_D (AW B 26) (wW cy B kM σ) := AW_D kM_len
  intro v0 v3 t0 σ h0 h H locs ls hP hS hl
  unfold wX11_takesEnd_130 at h
  refine lv_istore (lv' := [(4, .int t0), (0, .ref (B + v0)), (3, .int v3)]) hx hb dX11_takesEnd_130 hl (by decide) rfl (fun ls hl => ?_)
  refine lv_iconst (v := (0 : Int32)) hx hb dX11_takesEnd_132 (by decide) ?_
  refine lv_istore (lv' := [(5, .int (0 : Int32)), (4, .int t0), (0, .ref (B + v0)), (3, .int v3)]) hx hb dX11_takesEnd_133 hl (by decide) rfl (fun ls hl => ?_)
  obtain ⟨j, h⟩ := h
  exact tX11_takesEnd_135 X j _ _ _ _ _ h0 h _ _ _ hP hS (lv_sub hl [2, 3, 1, 0] rfl)
set_option maxRecDepth 100000 in
set_option maxHeartbeats 4000000 in
theorem tX11_takesEnd_116 {p : Program} {l : Launch} {e : Env} {s : State} {m : MethodId} {av : Array Value} {below : List Frame} {meth : Method} {c : Code} {D : va_G} {cy : Nat → ClassId} {B : Nat} (X : kC p s m av meth c cX11_takesEnd 6 (some .boolean) WALL RX11 D cy (AW B 26)) {post : Bool → St → Prop} : ∀ (v0 : Nat) (v1 : Int32) (t0 : Int32) (σ : St), kM[v0]? = some 11 → wX11_takesEnd_116 post v0 v1 t0 σ → ∀ (H : Heap) (locs : List Loc) (ls : Array Slot), va_P D vwCl (wW cy B kM σ) H → va_S (AW B 26) s.heap H locs → lv_has ls 6 [(0, .ref (B + v0)), (1, .int v1)] → W p l e (rmD 12) s m av below meth c H locs 0 0 (MQ below (Qz post D cy B kM 26) av s 0 0 (AW B 26)) (F0 m 116 ls [.int t0]) := by
  obtain ⟨⟨hx, hb, hml, hown, hts⟩, hr, hlk, hK, hN, hZ⟩ := id X
  have hD : ∀ σ, va_D (AW B 26) (wW cy B kM σ) := AW_D kM_len
  intro v0 v1 t0 σ h0 h H locs ls hP hS hl
  unfold wX11_takesEnd_116 at h
  refine lv_istore_n (lv' := [(3, .int t0), (0, .ref (B + v0)), (1, .int v1)]) hx hb dX11_takesEnd_116 rfl hl (by decide) rfl (fun ls hl => ?_)
  refine lv_aload_n hx hb dX11_takesEnd_117 rfl (lv_at hl 1 rfl) ?_
  refine rk_get X hP (C := RX11) (T := TX11) (N := 44) (ci := 11) wix_11 h0 rfl rfl 29 (by decide) (wi_33 _ (List.mem_of_getElem? (i := 12) rfl)) rfl rfl dX11_takesEnd_118 ?_
  refine lv_iload_n hx hb dX11_takesEnd_121 rfl (lv_at hl 2 rfl) ?_
  refine lv_icmp_eq (tgt := 129) hx hb dX11_takesEnd_122 (by decide) (fun c1 => ?_) (fun c1 => ?_)
  · have h := h.1 c1
    refine lv_iconst (v := (0 : Int32)) hx hb dX11_takesEnd_129 (by decide) ?_
    exact tX11_takesEnd_130 X _ _ _ _ h0 h _ _ _ hP hS (lv_sub hl [1, 0] rfl)
  · have h := h.2 c1
    refine lv_iconst (v := (1 : Int32)) hx hb dX11_takesEnd_125 (by decide) ?_
    refine lv_goto (tgt := 130) hx hb dX11_takesEnd_126 (by decide) ?_
    exact tX11_takesEnd_130 X _ _ _ _ h0 h _ _ _ hP hS (lv_sub hl [1, 0] rfl)
set_option maxRecDepth 100000 in
set_option maxHeartbeats 4000000 in
theorem tX11_takesEnd_56 {p : Program} {l : Launch} {e : Env} {s : State} {m : MethodId} {av : Array Value} {below : List Frame} {meth : Method} {c : Code} {D : va_G} {cy : Nat → ClassId} {B : Nat} (X : kC p s m av meth c cX11_takesEnd 6 (some .boolean) WALL RX11 D cy (AW B 26)) {post : Bool → St → Prop} : ∀ (v0 : Nat) (v1 : Int32) (v2 : Int32) (t0 : Nat) (t1 : Int32) (σ : St), kM[v0]? = some 11 → kM[t0]? = some 11 → wX11_takesEnd_56 post v0 v1 v2 t0 t1 σ → ∀ (H : Heap) (locs : List Loc) (ls : Array Slot), va_P D vwCl (wW cy B kM σ) H → va_S (AW B 26) s.heap H locs → lv_has ls 6 [(0, .ref (B + v0)), (1, .int v1), (2, .int v2)] → W p l e (rmD 12) s m av below meth c H locs 0 0 (MQ below (Qz post D cy B kM 26) av s 0 0 (AW B 26)) (F0 m 56 ls [.int t1, .ref (B + t0)]) := by
  obtain ⟨⟨hx, hb, hml, hown, hts⟩, hr, hlk, hK, hN, hZ⟩ := id X
  have hD : ∀ σ, va_D (AW B 26) (wW cy B kM σ) := AW_D kM_len
  intro v0 v1 v2 t0 t1 σ h0 g0 h H locs ls hP hS hl
  unfold wX11_takesEnd_56 at h
  refine lv_iconst (v := (1 : Int32)) hx hb dX11_takesEnd_56 (by decide) ?_
  refine rk_callz (va_runV (As := [.int t1, .int (1 : Int32)]) (rest := []) X.1 (mX11_must l D cy B t0 t1 (1 : Int32) σ g0 h) (cwV 2 hts (gW_V (wi_31 _ (List.mem_of_getElem? (i := 18) rfl)) (wi_31 _ (List.mem_of_getElem? (i := 19) rfl)) (wi_31 _ (List.mem_of_getElem? (i := 20) rfl)) (wi_30 _ (List.mem_of_getElem? (i := 9) rfl)) (wi_31 _ (List.mem_of_getElem? (i := 4) rfl))) rfl rfl rfl hd_X11_must ⟨Nat.le_of_ble_eq_true rfl, Nat.le_of_ble_eq_true rfl⟩) (rk_preV X hS hP g0 rfl rfl [.int t1, .int (1 : Int32)]) rfl rfl hl.1 rfl (lv_room (Nat.le_of_ble_eq_true rfl)) dX11_takesEnd_57 ⟨Nat.zero_le _, Nat.zero_le _⟩) hS (fun _ h => h) (fun r1 s1 H locs h hP hS => ?_)
  refine lv_if_ne (tgt := 65) hx hb dX11_takesEnd_60 (by decide) (fun c1 => ?_) (fun c1 => ?_)
  · have h := h.1 (b2i_t c1)
    refine lv_aload_n hx hb dX11_takesEnd_65 rfl (lv_at hl 0 rfl) ?_
    refine lv_iconst (v := (4 : Int32)) hx hb dX11_takesEnd_66 (by decide) ?_
    refine lv_iload_n hx hb dX11_takesEnd_67 rfl (lv_at hl 2 rfl) ?_
    refine lv_imul hx hb dX11_takesEnd_68 ?_
    refine lv_aload_n hx hb dX11_takesEnd_69 rfl (lv_at hl 0 rfl) ?_
    refine rk_get X hP (C := RX11) (T := TX11) (N := 44) (ci := 11) wix_11 h0 rfl rfl 7 (by decide) (wi_30 _ (List.mem_of_getElem? (i := 16) rfl)) rfl rfl dX11_takesEnd_70 ?_
    refine lv_iadd hx hb dX11_takesEnd_73 ?_
    refine rk_puti X hP hD hS (C := RX11) (T := TX11) (N := 44) (ci := 11) wix_11 h0 rfl rfl tyX11 tyX11_ok nmX11 29 (by decide) (wi_33 _ (List.mem_of_getElem? (i := 12) rfl)) rfl rfl (by decide +kernel) (Nat.le_of_ble_eq_true rfl) rfl dX11_takesEnd_74 (fun H locs hP hS => ?_)
    obtain ⟨s2, es2⟩ : ∃ z : St, z = u1 s1 v0 29 (((4 : Int32) * v2) + (s1.1 v0 7)) := ⟨_, rfl⟩
    rw [← es2] at hP
    have h := h s2 es2
    refine lv_aload_n hx hb dX11_takesEnd_77 rfl (lv_at hl 0 rfl) ?_
    refine rk_get X hP (C := RX11) (T := TX11) (N := 44) (ci := 11) wix_11 h0 rfl rfl 7 (by decide) (wi_30 _ (List.mem_of_getElem? (i := 16) rfl)) rfl rfl dX11_takesEnd_78 ?_
    refine lv_aload_n hx hb dX11_takesEnd_81 rfl (lv_at hl 0 rfl) ?_
    refine rk_get X hP (C := RX11) (T := TX11) (N := 44) (ci := 11) wix_11 h0 rfl rfl 20 (by decide) (wi_29 _ (List.mem_of_getElem? (i := 6) rfl)) rfl rfl dX11_takesEnd_82 ?_
    refine lv_bipush (v := (8 : Int32)) hx hb dX11_takesEnd_85 (by decide) ?_
    refine lv_aload_n hx hb dX11_takesEnd_87 rfl (lv_at hl 0 rfl) ?_
    refine rk_get X hP (C := RX11) (T := TX11) (N := 44) (ci := 11) wix_11 h0 rfl rfl 12 (by decide) (wi_32 _ (List.mem_of_getElem? (i := 2) rfl)) rfl rfl dX11_takesEnd_88 ?_
    refine lv_imul hx hb dX11_takesEnd_91 ?_
    refine lv_aload_n hx hb dX11_takesEnd_92 rfl (lv_at hl 0 rfl) ?_
    refine rk_get X hP (C := RX11) (T := TX11) (N := 44) (ci := 11) wix_11 h0 rfl rfl 23 (by decide) (wi_29 _ (List.mem_of_getElem? (i := 9) rfl)) rfl rfl dX11_takesEnd_93 ?_
    refine lv_bipush (v := (6 : Int32)) hx hb dX11_takesEnd_96 (by decide) ?_
    refine lv_aload_n hx hb dX11_takesEnd_98 rfl (lv_at hl 0 rfl) ?_
    refine rk_get X hP (C := RX11) (T := TX11) (N := 44) (ci := 11) wix_11 h0 rfl rfl 12 (by decide) (wi_32 _ (List.mem_of_getElem? (i := 2) rfl)) rfl rfl dX11_takesEnd_99 ?_
    refine lv_imul hx hb dX11_takesEnd_102 ?_
    refine lv_iload_n hx hb dX11_takesEnd_103 rfl (lv_at hl 2 rfl) ?_
    refine lv_iadd hx hb dX11_takesEnd_104 ?_
    refine lv_topi (fun x1 ex1 => ?_)
    have h := h x1 ex1
    obtain ⟨b1, h⟩ := h
    refine rk_iald X hP (n := 12) (klM_X11_23 h0) (fun _ _ => rfl) b1 dX11_takesEnd_105 ?_
    refine lv_iadd hx hb dX11_takesEnd_106 ?_
    refine lv_topi (fun x2 ex2 => ?_)
    have h := h x2 ex2
    obtain ⟨b2, h⟩ := h
    refine rk_iald X hP (n := 16) (klM_X11_20 h0) (fun _ _ => rfl) b2 dX11_takesEnd_107 ?_
    refine lv_icmp_ge (tgt := 115) hx hb dX11_takesEnd_108 (by decide) (fun c2 => ?_) (fun c2 => ?_)
    · have h := h.1 c2
      refine lv_iconst (v := (0 : Int32)) hx hb dX11_takesEnd_115 (by decide) ?_
      exact tX11_takesEnd_116 X _ _ _ _ h0 h _ _ _ hP hS (lv_sub hl [0, 1] rfl)
    · have h := h.2 c2
      refine lv_iconst (v := (1 : Int32)) hx hb dX11_takesEnd_111 (by decide) ?_
      refine lv_goto (tgt := 116) hx hb dX11_takesEnd_112 (by decide) ?_
      exact tX11_takesEnd_116 X _ _ _ _ h0 h _ _ _ hP hS (lv_sub hl [0, 1] rfl)
  · have h := h.2 (b2i_f c1)
    refine lv_iconst (v := (0 : Int32)) hx hb dX11_takesEnd_63 (by decide) ?_
    exact rk_zret X kM_len false h hP hS dX11_takesEnd_64
set_option maxRecDepth 100000 in
set_option maxHeartbeats 4000000 in
theorem tX11_takesEnd_29 {p : Program} {l : Launch} {e : Env} {s : State} {m : MethodId} {av : Array Value} {below : List Frame} {meth : Method} {c : Code} {D : va_G} {cy : Nat → ClassId} {B : Nat} (X : kC p s m av meth c cX11_takesEnd 6 (some .boolean) WALL RX11 D cy (AW B 26)) {post : Bool → St → Prop} : ∀ (v0 : Nat) (v1 : Int32) (v2 : Int32) (t0 : Nat) (t1 : Int32) (σ : St), kM[v0]? = some 11 → kM[t0]? = some 11 → wX11_takesEnd_29 post v0 v1 v2 t0 t1 σ → ∀ (H : Heap) (locs : List Loc) (ls : Array Slot), va_P D vwCl (wW cy B kM σ) H → va_S (AW B 26) s.heap H locs → lv_has ls 6 [(0, .ref (B + v0)), (1, .int v1), (2, .int v2)] → W p l e (rmD 12) s m av below meth c H locs 0 0 (MQ below (Qz post D cy B kM 26) av s 0 0 (AW B 26)) (F0 m 29 ls [.int t1, .ref (B + t0)]) := by
  obtain ⟨⟨hx, hb, hml, hown, hts⟩, hr, hlk, hK, hN, hZ⟩ := id X
  have hD : ∀ σ, va_D (AW B 26) (wW cy B kM σ) := AW_D kM_len
  intro v0 v1 v2 t0 t1 σ h0 g0 h H locs ls hP hS hl
  unfold wX11_takesEnd_29 at h
  refine lv_iconst (v := (3 : Int32)) hx hb dX11_takesEnd_29 (by decide) ?_
  refine rk_callz (va_runV (As := [.int t1, .int (3 : Int32)]) (rest := []) X.1 (mX11_must l D cy B t0 t1 (3 : Int32) σ g0 h) (cwV 2 hts (gW_V (wi_31 _ (List.mem_of_getElem? (i := 18) rfl)) (wi_31 _ (List.mem_of_getElem? (i := 19) rfl)) (wi_31 _ (List.mem_of_getElem? (i := 20) rfl)) (wi_30 _ (List.mem_of_getElem? (i := 9) rfl)) (wi_31 _ (List.mem_of_getElem? (i := 4) rfl))) rfl rfl rfl hd_X11_must ⟨Nat.le_of_ble_eq_true rfl, Nat.le_of_ble_eq_true rfl⟩) (rk_preV X hS hP g0 rfl rfl [.int t1, .int (3 : Int32)]) rfl rfl hl.1 rfl (lv_room (Nat.le_of_ble_eq_true rfl)) dX11_takesEnd_30 ⟨Nat.zero_le _, Nat.zero_le _⟩) hS (fun _ h => h) (fun r1 s1 H locs h hP hS => ?_)
  refine lv_if_ne (tgt := 38) hx hb dX11_takesEnd_33 (by decide) (fun c1 => ?_) (fun c1 => ?_)
  · have h := h.1 (b2i_t c1)
    refine lv_aload_n hx hb dX11_takesEnd_38 rfl (lv_at hl 0 rfl) ?_
    refine rk_callv (va_runV (As := []) (rest := []) X.1 (mX11_steps l D cy B v0 s1 h0 h) (cwV 0 hts (gW_V (wi_31 _ (List.mem_of_getElem? (i := 21) rfl)) (wi_31 _ (List.mem_of_getElem? (i := 22) rfl)) (wi_31 _ (List.mem_of_getElem? (i := 23) rfl)) (wi_30 _ (List.mem_of_getElem? (i := 9) rfl)) (wi_30 _ (List.mem_of_getElem? (i := 12) rfl))) rfl rfl rfl hd_X11_steps ⟨Nat.le_of_ble_eq_true rfl, Nat.le_of_ble_eq_true rfl⟩) (rk_preV X hS hP h0 rfl rfl []) rfl rfl hl.1 rfl (lv_room (Nat.le_of_ble_eq_true rfl)) dX11_takesEnd_39 ⟨Nat.zero_le _, Nat.zero_le _⟩) hS (fun _ h => h) (fun s2 H locs h hP hS => ?_)
    refine lv_aload_n hx hb dX11_takesEnd_42 rfl (lv_at hl 0 rfl) ?_
    refine lv_aload_n hx hb dX11_takesEnd_43 rfl (lv_at hl 0 rfl) ?_
    refine rk_get X hP (C := RX11) (T := TX11) (N := 44) (ci := 11) wix_11 h0 rfl rfl 6 (by decide) (wi_30 _ (List.mem_of_getElem? (i := 15) rfl)) rfl rfl dX11_takesEnd_44 ?_
    refine lv_iconst (v := (2 : Int32)) hx hb dX11_takesEnd_47 (by decide) ?_
    refine lv_icmp_ne (tgt := 55) hx hb dX11_takesEnd_48 (by decide) (fun c2 => ?_) (fun c2 => ?_)
    · have h := h.1 c2
      refine lv_iconst (v := (0 : Int32)) hx hb dX11_takesEnd_55 (by decide) ?_
      exact tX11_takesEnd_56 X _ _ _ _ _ _ h0 h0 h _ _ _ hP hS (lv_sub hl [0, 1, 2] rfl)
    · have h := h.2 c2
      refine lv_iconst (v := (1 : Int32)) hx hb dX11_takesEnd_51 (by decide) ?_
      refine lv_goto (tgt := 56) hx hb dX11_takesEnd_52 (by decide) ?_
      exact tX11_takesEnd_56 X _ _ _ _ _ _ h0 h0 h _ _ _ hP hS (lv_sub hl [0, 1, 2] rfl)
  · have h := h.2 (b2i_f c1)
    refine lv_iconst (v := (0 : Int32)) hx hb dX11_takesEnd_36 (by decide) ?_
    exact rk_zret X kM_len false h hP hS dX11_takesEnd_37
set_option maxRecDepth 100000 in
set_option maxHeartbeats 4000000 in
theorem mX11_takesEnd (l : Launch) (D : va_G) (cy : Nat → ClassId) (B : Nat) (v0 : Nat) (v1 : Int32) (σ : St) (h0 : kM[v0]? = some 11) {post : Bool → St → Prop} (h : wX11_takesEnd v0 v1 σ post) : Met l yX11_takesEnd (Cond.code yX11_takesEnd cX11_takesEnd 6 (some .boolean) :: WALL) (rmD 12) (PcW D cy B kM σ [.ref (B + v0), .int v1]) (Qz post D cy B kM 26) 0 0 (AW B 26) := by
  refine Met.ofK (cc := cX11_takesEnd) (maxL := 6) (ret := (some .boolean)) (by decide +kernel) rfl kM_len ?_
  intro p e s m below meth c X hP
  obtain ⟨⟨hx, hb, hml, hown, hts⟩, hr, hlk, hK, hN, hZ⟩ := id X
  have hD : ∀ σ, va_D (AW B 26) (wW cy B kM σ) := AW_D kM_len
  have hS : va_S (AW B 26) s.heap s.heap [] := va_S.rf
  have hl := lv_entry ([.ref (B + v0), .int v1]) (n := 6) (Nat.le_of_ble_eq_true rfl)
  rw [lg_entry_eq]
  generalize (lg_sl ([.ref (B + v0), .int v1]) ++ List.replicate (6 - (lg_sl ([.ref (B + v0), .int v1])).length) Slot.unset).toArray = ls at hl ⊢
  have hl : lv_has ls 6 [(0, .ref (B + v0)), (1, .int v1)] := hl
  unfold wX11_takesEnd at h
  refine lv_aload_n hx hb dX11_takesEnd_0 rfl (lv_at hl 0 rfl) ?_
  refine lv_aload_n hx hb dX11_takesEnd_1 rfl (lv_at hl 0 rfl) ?_
  refine rk_callz (va_runV (As := []) (rest := [.ref (B + v0)]) X.1 (mX11_isName l D cy B v0 σ h0 h) (cwV 0 hts (gW_V (wi_32 _ (List.mem_of_getElem? (i := 6) rfl)) (wi_32 _ (List.mem_of_getElem? (i := 7) rfl)) (wi_32 _ (List.mem_of_getElem? (i := 8) rfl)) (wi_30 _ (List.mem_of_getElem? (i := 9) rfl)) (wi_31 _ (List.mem_of_getElem? (i := 16) rfl))) rfl rfl rfl hd_X11_isName ⟨Nat.le_of_ble_eq_true rfl, Nat.le_of_ble_eq_true rfl⟩) (rk_preV X hS hP h0 rfl rfl []) rfl rfl hl.1 rfl (lv_room (Nat.le_of_ble_eq_true rfl)) dX11_takesEnd_2 ⟨Nat.zero_le _, Nat.zero_le _⟩) hS (fun _ h => h) (fun r1 s1 H locs h hP hS => ?_)
  refine lv_iconst (v := (1 : Int32)) hx hb dX11_takesEnd_5 (by decide) ?_
  refine rk_callz (va_runV (As := [.int (b2i r1), .int (1 : Int32)]) (rest := []) X.1 (mX11_must l D cy B v0 (b2i r1) (1 : Int32) s1 h0 h) (cwV 2 hts (gW_V (wi_31 _ (List.mem_of_getElem? (i := 18) rfl)) (wi_31 _ (List.mem_of_getElem? (i := 19) rfl)) (wi_31 _ (List.mem_of_getElem? (i := 20) rfl)) (wi_30 _ (List.mem_of_getElem? (i := 9) rfl)) (wi_31 _ (List.mem_of_getElem? (i := 4) rfl))) rfl rfl rfl hd_X11_must ⟨Nat.le_of_ble_eq_true rfl, Nat.le_of_ble_eq_true rfl⟩) (rk_preV X hS hP h0 rfl rfl [.int (b2i r1), .int (1 : Int32)]) rfl rfl hl.1 rfl (lv_room (Nat.le_of_ble_eq_true rfl)) dX11_takesEnd_6 ⟨Nat.zero_le _, Nat.zero_le _⟩) hS (fun _ h => h) (fun r2 s2 H locs h hP hS => ?_)
  refine lv_if_ne (tgt := 14) hx hb dX11_takesEnd_9 (by decide) (fun c1 => ?_) (fun c1 => ?_)
  · have h := h.1 (b2i_t c1)
    refine lv_aload_n hx hb dX11_takesEnd_14 rfl (lv_at hl 0 rfl) ?_
    refine rk_calli (va_runV (As := []) (rest := []) X.1 (mX11_nodeNamed l D cy B v0 s2 h0 h) (cwV 0 hts (gW_V (wi_32 _ (List.mem_of_getElem? (i := 15) rfl)) (wi_32 _ (List.mem_of_getElem? (i := 16) rfl)) (wi_32 _ (List.mem_of_getElem? (i := 17) rfl)) (wi_30 _ (List.mem_of_getElem? (i := 9) rfl)) (wi_32 _ (List.mem_of_getElem? (i := 4) rfl))) rfl rfl rfl hd_X11_nodeNamed ⟨Nat.le_of_ble_eq_true rfl, Nat.le_of_ble_eq_true rfl⟩) (rk_preV X hS hP h0 rfl rfl []) rfl rfl hl.1 rfl (lv_room (Nat.le_of_ble_eq_true rfl)) dX11_takesEnd_15 ⟨Nat.zero_le _, Nat.zero_le _⟩) hS (fun _ h => h) (fun r3 s3 H locs h hP hS => ?_)
    refine lv_istore_n (lv' := [(2, .int r3), (0, .ref (B + v0)), (1, .int v1)]) hx hb dX11_takesEnd_18 rfl hl (by decide) rfl (fun ls hl => ?_)
    refine lv_aload_n hx hb dX11_takesEnd_19 rfl (lv_at hl 1 rfl) ?_
    refine lv_iload_n hx hb dX11_takesEnd_20 rfl (lv_at hl 0 rfl) ?_
    refine lv_if_lt (tgt := 28) hx hb dX11_takesEnd_21 (by decide) (fun c2 => ?_) (fun c2 => ?_)
    · have h := h.1 c2
      refine lv_iconst (v := (0 : Int32)) hx hb dX11_takesEnd_28 (by decide) ?_
      exact tX11_takesEnd_29 X _ _ _ _ _ _ h0 h0 h _ _ _ hP hS (lv_sub hl [1, 2, 0] rfl)
    · have h := h.2 c2
      refine lv_iconst (v := (1 : Int32)) hx hb dX11_takesEnd_24 (by decide) ?_
      refine lv_goto (tgt := 29) hx hb dX11_takesEnd_25 (by decide) ?_
      exact tX11_takesEnd_29 X _ _ _ _ _ _ h0 h0 h _ _ _ hP hS (lv_sub hl [1, 2, 0] rfl)
  · have h := h.2 (b2i_f c1)
    refine lv_iconst (v := (0 : Int32)) hx hb dX11_takesEnd_12 (by decide) ?_
    exact rk_zret X kM_len false h hP hS dX11_takesEnd_13

theorem hd_X11_wireLine : yX11_wireLine.cls = RX11 ∧ yX11_wireLine.cls ≠ "java/lang/invoke/MethodHandle" ∧ yX11_wireLine.cls ≠ "java/lang/invoke/VarHandle" ∧ (parseMethodDescriptor yX11_wireLine.desc).map (fun d => d.parameters.length) = some 0 := by decide +kernel
set_option maxRecDepth 100000 in
set_option maxHeartbeats 4000000 in
theorem mX11_wireLine (l : Launch) (D : va_G) (cy : Nat → ClassId) (B : Nat) (v0 : Nat) (σ : St) (h0 : kM[v0]? = some 11) {post : Bool → St → Prop} (h : wX11_wireLine v0 σ post) : Met l yX11_wireLine (Cond.code yX11_wireLine cX11_wireLine 2 (some .boolean) :: WALL) (rmD 13) (PcW D cy B kM σ [.ref (B + v0)]) (Qz post D cy B kM 26) 0 0 (AW B 26) := by
  refine Met.ofK (cc := cX11_wireLine) (maxL := 2) (ret := (some .boolean)) (by decide +kernel) rfl kM_len ?_
  intro p e s m below meth c X hP
  obtain ⟨⟨hx, hb, hml, hown, hts⟩, hr, hlk, hK, hN, hZ⟩ := id X
  have hD : ∀ σ, va_D (AW B 26) (wW cy B kM σ) := AW_D kM_len
  have hS : va_S (AW B 26) s.heap s.heap [] := va_S.rf
  have hl := lv_entry ([.ref (B + v0)]) (n := 2) (Nat.le_of_ble_eq_true rfl)
  rw [lg_entry_eq]
  generalize (lg_sl ([.ref (B + v0)]) ++ List.replicate (2 - (lg_sl ([.ref (B + v0)])).length) Slot.unset).toArray = ls at hl ⊢
  have hl : lv_has ls 2 [(0, .ref (B + v0))] := hl
  unfold wX11_wireLine at h
  refine lv_aload_n hx hb dX11_wireLine_0 rfl (lv_at hl 0 rfl) ?_
  refine lv_iconst (v := (-1 : Int32)) hx hb dX11_wireLine_1 (by decide) ?_
  refine rk_callz (va_runV (As := [.int (-1 : Int32)]) (rest := []) X.1 (mX11_takesEnd l D cy B v0 (-1 : Int32) σ h0 h) (cwV 1 hts (gW_V (wi_33 _ (List.mem_of_getElem? (i := 15) rfl)) (wi_33 _ (List.mem_of_getElem? (i := 16) rfl)) (wi_33 _ (List.mem_of_getElem? (i := 17) rfl)) (wi_30 _ (List.mem_of_getElem? (i := 9) rfl)) (wi_33 _ (List.mem_of_getElem? (i := 14) rfl))) rfl rfl rfl hd_X11_takesEnd ⟨Nat.le_of_ble_eq_true rfl, Nat.le_of_ble_eq_true rfl⟩) (rk_preV X hS hP h0 rfl rfl [.int (-1 : Int32)]) rfl rfl hl.1 rfl (lv_room (Nat.le_of_ble_eq_true rfl)) dX11_wireLine_2 ⟨Nat.zero_le _, Nat.zero_le _⟩) hS (fun _ h => h) (fun r1 s1 H locs h hP hS => ?_)
  refine lv_if_ne (tgt := 10) hx hb dX11_wireLine_5 (by decide) (fun c1 => ?_) (fun c1 => ?_)
  · have h := h.1 (b2i_t c1)
    refine lv_aload_n hx hb dX11_wireLine_10 rfl (lv_at hl 0 rfl) ?_
    refine rk_get X hP (C := RX11) (T := TX11) (N := 44) (ci := 11) wix_11 h0 rfl rfl 29 (by decide) (wi_33 _ (List.mem_of_getElem? (i := 12) rfl)) rfl rfl dX11_wireLine_11 ?_
    refine lv_topi (fun x1 ex1 => ?_)
    have h := h x1 ex1
    refine lv_istore_n (lv' := [(1, .int x1), (0, .ref (B + v0))]) hx hb dX11_wireLine_14 rfl hl (by decide) rfl (fun ls hl => ?_)
    refine lv_aload_n hx hb dX11_wireLine_15 rfl (lv_at hl 1 rfl) ?_
    refine lv_iload_n hx hb dX11_wireLine_16 rfl (lv_at hl 0 rfl) ?_
    refine rk_callz (va_runV (As := [.int x1]) (rest := []) X.1 (mX11_takesEnd l D cy B v0 x1 s1 h0 h) (cwV 1 hts (gW_V (wi_33 _ (List.mem_of_getElem? (i := 15) rfl)) (wi_33 _ (List.mem_of_getElem? (i := 16) rfl)) (wi_33 _ (List.mem_of_getElem? (i := 17) rfl)) (wi_30 _ (List.mem_of_getElem? (i := 9) rfl)) (wi_33 _ (List.mem_of_getElem? (i := 14) rfl))) rfl rfl rfl hd_X11_takesEnd ⟨Nat.le_of_ble_eq_true rfl, Nat.le_of_ble_eq_true rfl⟩) (rk_preV X hS hP h0 rfl rfl [.int x1]) rfl rfl hl.1 rfl (lv_room (Nat.le_of_ble_eq_true rfl)) dX11_wireLine_17 ⟨Nat.zero_le _, Nat.zero_le _⟩) hS (fun _ h => h) (fun r2 s2 H locs h hP hS => ?_)
    refine lv_if_ne (tgt := 25) hx hb dX11_wireLine_20 (by decide) (fun c2 => ?_) (fun c2 => ?_)
    · have h := h.1 (b2i_t c2)
      refine lv_aload_n hx hb dX11_wireLine_25 rfl (lv_at hl 1 rfl) ?_
      refine rk_get X hP (C := RX11) (T := TX11) (N := 44) (ci := 11) wix_11 h0 rfl rfl 25 (by decide) (wi_29 _ (List.mem_of_getElem? (i := 10) rfl)) rfl rfl dX11_wireLine_26 ?_
      refine lv_iconst (v := (2 : Int32)) hx hb dX11_wireLine_29 (by decide) ?_
      refine lv_aload_n hx hb dX11_wireLine_30 rfl (lv_at hl 1 rfl) ?_
      refine rk_get X hP (C := RX11) (T := TX11) (N := 44) (ci := 11) wix_11 h0 rfl rfl 24 (by decide) (wi_33 _ (List.mem_of_getElem? (i := 13) rfl)) rfl rfl dX11_wireLine_31 ?_
      refine lv_imul hx hb dX11_wireLine_34 ?_
      refine lv_iload_n hx hb dX11_wireLine_35 rfl (lv_at hl 0 rfl) ?_
      obtain ⟨b1, h⟩ := h
      refine rk_iast X hP hD hS (n := 20) (klM_X11_25 h0) (fun _ _ => rfl) b1 dX11_wireLine_36 (fun H locs hP hS => ?_)
      obtain ⟨s3, es3⟩ : ∃ z : St, z = u1 s2 (v0 + 13) ((2 : Int32) * (s2.1 v0 24)).toNatClampNeg x1 := ⟨_, rfl⟩
      rw [← es3] at hP
      have h := h s3 es3
      refine lv_aload_n hx hb dX11_wireLine_37 rfl (lv_at hl 1 rfl) ?_
      refine rk_get X hP (C := RX11) (T := TX11) (N := 44) (ci := 11) wix_11 h0 rfl rfl 25 (by decide) (wi_29 _ (List.mem_of_getElem? (i := 10) rfl)) rfl rfl dX11_wireLine_38 ?_
      refine lv_iconst (v := (2 : Int32)) hx hb dX11_wireLine_41 (by decide) ?_
      refine lv_aload_n hx hb dX11_wireLine_42 rfl (lv_at hl 1 rfl) ?_
      refine rk_get X hP (C := RX11) (T := TX11) (N := 44) (ci := 11) wix_11 h0 rfl rfl 24 (by decide) (wi_33 _ (List.mem_of_getElem? (i := 13) rfl)) rfl rfl dX11_wireLine_43 ?_
      refine lv_imul hx hb dX11_wireLine_46 ?_
      refine lv_iconst (v := (1 : Int32)) hx hb dX11_wireLine_47 (by decide) ?_
      refine lv_iadd hx hb dX11_wireLine_48 ?_
      refine lv_aload_n hx hb dX11_wireLine_49 rfl (lv_at hl 1 rfl) ?_
      refine rk_get X hP (C := RX11) (T := TX11) (N := 44) (ci := 11) wix_11 h0 rfl rfl 29 (by decide) (wi_33 _ (List.mem_of_getElem? (i := 12) rfl)) rfl rfl dX11_wireLine_50 ?_
      obtain ⟨b2, h⟩ := h
      refine rk_iast X hP hD hS (n := 20) (klM_X11_25 h0) (fun _ _ => rfl) b2 dX11_wireLine_53 (fun H locs hP hS => ?_)
      obtain ⟨s4, es4⟩ : ∃ z : St, z = u1 s3 (v0 + 13) (((2 : Int32) * (s3.1 v0 24)) + (1 : Int32)).toNatClampNeg (s3.1 v0 29) := ⟨_, rfl⟩
      rw [← es4] at hP
      have h := h s4 es4
      refine lv_aload_n hx hb dX11_wireLine_54 rfl (lv_at hl 1 rfl) ?_
      refine lv_dup hx hb dX11_wireLine_55 rfl ?_
      refine rk_get X hP (C := RX11) (T := TX11) (N := 44) (ci := 11) wix_11 h0 rfl rfl 24 (by decide) (wi_33 _ (List.mem_of_getElem? (i := 13) rfl)) rfl rfl dX11_wireLine_56 ?_
      refine lv_iconst (v := (1 : Int32)) hx hb dX11_wireLine_59 (by decide) ?_
      refine lv_iadd hx hb dX11_wireLine_60 ?_
      refine rk_puti X hP hD hS (C := RX11) (T := TX11) (N := 44) (ci := 11) wix_11 h0 rfl rfl tyX11 tyX11_ok nmX11 24 (by decide) (wi_33 _ (List.mem_of_getElem? (i := 13) rfl)) rfl rfl (by decide +kernel) (Nat.le_of_ble_eq_true rfl) rfl dX11_wireLine_61 (fun H locs hP hS => ?_)
      obtain ⟨s5, es5⟩ : ∃ z : St, z = u1 s4 v0 24 ((s4.1 v0 24) + (1 : Int32)) := ⟨_, rfl⟩
      rw [← es5] at hP
      have h := h s5 es5
      refine lv_iconst (v := (1 : Int32)) hx hb dX11_wireLine_64 (by decide) ?_
      exact rk_zret X kM_len true h hP hS dX11_wireLine_65
    · have h := h.2 (b2i_f c2)
      refine lv_iconst (v := (0 : Int32)) hx hb dX11_wireLine_23 (by decide) ?_
      exact rk_zret X kM_len false h hP hS dX11_wireLine_24
  · have h := h.2 (b2i_f c1)
    refine lv_iconst (v := (0 : Int32)) hx hb dX11_wireLine_8 (by decide) ?_
    exact rk_zret X kM_len false h hP hS dX11_wireLine_9

theorem hd_X11_lineHere : yX11_lineHere.cls = RX11 ∧ yX11_lineHere.cls ≠ "java/lang/invoke/MethodHandle" ∧ yX11_lineHere.cls ≠ "java/lang/invoke/VarHandle" ∧ (parseMethodDescriptor yX11_lineHere.desc).map (fun d => d.parameters.length) = some 0 := by decide +kernel
set_option maxRecDepth 100000 in
set_option maxHeartbeats 4000000 in
theorem tX11_lineHere_266 {p : Program} {l : Launch} {e : Env} {s : State} {m : MethodId} {av : Array Value} {below : List Frame} {meth : Method} {c : Code} {D : va_G} {cy : Nat → ClassId} {B : Nat} (X : kC p s m av meth c cX11_lineHere 4 (some .boolean) WALL RX11 D cy (AW B 26)) {post : Bool → St → Prop} : ∀ (v0 : Nat) (t0 : Nat) (t1 : Int32) (σ : St), kM[v0]? = some 11 → kM[t0]? = some 11 → wX11_lineHere_266 post v0 t0 t1 σ → ∀ (H : Heap) (locs : List Loc) (ls : Array Slot), va_P D vwCl (wW cy B kM σ) H → va_S (AW B 26) s.heap H locs → lv_has ls 4 [(0, .ref (B + v0))] → W p l e (rmD 14) s m av below meth c H locs 0 0 (MQ below (Qz post D cy B kM 26) av s 0 0 (AW B 26)) (F0 m 266 ls [.int t1, .ref (B + t0)]) := by
  obtain ⟨⟨hx, hb, hml, hown, hts⟩, hr, hlk, hK, hN, hZ⟩ := id X
  have hD : ∀ σ, va_D (AW B 26) (wW cy B kM σ) := AW_D kM_len
  obtain ⟨adK, adV, hvS, hvR, hvA, hvB, hvC, hvZ⟩ := id hZ
  intro v0 t0 t1 σ h0 g0 h H locs ls hP hS hl
  unfold wX11_lineHere_266 at h
  refine lv_iconst (v := (1 : Int32)) hx hb dX11_lineHere_266 (by decide) ?_
  refine rk_callz (va_runV (As := [.int t1, .int (1 : Int32)]) (rest := []) X.1 (mX11_must l D cy B t0 t1 (1 : Int32) σ g0 h) (cwV 2 hts (gW_V (wi_31 _ (List.mem_of_getElem? (i := 18) rfl)) (wi_31 _ (List.mem_of_getElem? (i := 19) rfl)) (wi_31 _ (List.mem_of_getElem? (i := 20) rfl)) (wi_30 _ (List.mem_of_getElem? (i := 9) rfl)) (wi_31 _ (List.mem_of_getElem? (i := 4) rfl))) rfl rfl rfl hd_X11_must ⟨Nat.le_of_ble_eq_true rfl, Nat.le_of_ble_eq_true rfl⟩) (rk_preV X hS hP g0 rfl rfl [.int t1, .int (1 : Int32)]) rfl rfl hl.1 rfl (lv_room (Nat.le_of_ble_eq_true rfl)) dX11_lineHere_267 ⟨Nat.zero_le _, Nat.zero_le _⟩) hS (fun _ h => h) (fun r1 s1 H locs h hP hS => ?_)
  refine lv_if_ne (tgt := 275) hx hb dX11_lineHere_270 (by decide) (fun c1 => ?_) (fun c1 => ?_)
  · have h := h.1 (b2i_t c1)
    refine lv_aload_n hx hb dX11_lineHere_275 rfl (lv_at hl 0 rfl) ?_
    refine rk_callv (va_runV (As := []) (rest := []) X.1 (mX11_steps l D cy B v0 s1 h0 h) (cwV 0 hts (gW_V (wi_31 _ (List.mem_of_getElem? (i := 21) rfl)) (wi_31 _ (List.mem_of_getElem? (i := 22) rfl)) (wi_31 _ (List.mem_of_getElem? (i := 23) rfl)) (wi_30 _ (List.mem_of_getElem? (i := 9) rfl)) (wi_30 _ (List.mem_of_getElem? (i := 12) rfl))) rfl rfl rfl hd_X11_steps ⟨Nat.le_of_ble_eq_true rfl, Nat.le_of_ble_eq_true rfl⟩) (rk_preV X hS hP h0 rfl rfl []) rfl rfl hl.1 rfl (lv_room (Nat.le_of_ble_eq_true rfl)) dX11_lineHere_276 ⟨Nat.zero_le _, Nat.zero_le _⟩) hS (fun _ h => h) (fun s2 H locs h hP hS => ?_)
    refine lv_iconst (v := (1 : Int32)) hx hb dX11_lineHere_279 (by decide) ?_
    exact rk_zret X kM_len true h hP hS dX11_lineHere_280
  · have h := h.2 (b2i_f c1)
    refine lv_iconst (v := (0 : Int32)) hx hb dX11_lineHere_273 (by decide) ?_
    exact rk_zret X kM_len false h hP hS dX11_lineHere_274
set_option maxRecDepth 100000 in
set_option maxHeartbeats 4000000 in
theorem tX11_lineHere_247 {p : Program} {l : Launch} {e : Env} {s : State} {m : MethodId} {av : Array Value} {below : List Frame} {meth : Method} {c : Code} {D : va_G} {cy : Nat → ClassId} {B : Nat} (X : kC p s m av meth c cX11_lineHere 4 (some .boolean) WALL RX11 D cy (AW B 26)) {post : Bool → St → Prop} : ∀ (v0 : Nat) (t0 : Int32) (σ : St), kM[v0]? = some 11 → wX11_lineHere_247 post v0 t0 σ → ∀ (H : Heap) (locs : List Loc) (ls : Array Slot), va_P D vwCl (wW cy B kM σ) H → va_S (AW B 26) s.heap H locs → lv_has ls 4 [(0, .ref (B + v0))] → W p l e (rmD 14) s m av below meth c H locs 0 0 (MQ below (Qz post D cy B kM 26) av s 0 0 (AW B 26)) (F0 m 247 ls [.int t0]) := by
  obtain ⟨⟨hx, hb, hml, hown, hts⟩, hr, hlk, hK, hN, hZ⟩ := id X
  have hD : ∀ σ, va_D (AW B 26) (wW cy B kM σ) := AW_D kM_len
  obtain ⟨adK, adV, hvS, hvR, hvA, hvB, hvC, hvZ⟩ := id hZ
  intro v0 t0 σ h0 h H locs ls hP hS hl
  unfold wX11_lineHere_247 at h
  refine lv_istore_n (lv' := [(3, .int t0), (0, .ref (B + v0))]) hx hb dX11_lineHere_247 rfl hl (by decide) rfl (fun ls hl => ?_)
  refine lv_iload_n hx hb dX11_lineHere_248 rfl (lv_at hl 0 rfl) ?_
  refine lv_if_eq (tgt := 273) hx hb dX11_lineHere_249 (by decide) (fun c1 => ?_) (fun c1 => ?_)
  · have h := h.1 c1
    refine lv_iconst (v := (0 : Int32)) hx hb dX11_lineHere_273 (by decide) ?_
    exact rk_zret X kM_len false h hP hS dX11_lineHere_274
  · have h := h.2 c1
    refine lv_aload_n hx hb dX11_lineHere_252 rfl (lv_at hl 1 rfl) ?_
    refine lv_aload_n hx hb dX11_lineHere_253 rfl (lv_at hl 1 rfl) ?_
    refine rk_get X hP (C := RX11) (T := TX11) (N := 44) (ci := 11) wix_11 h0 rfl rfl 6 (by decide) (wi_30 _ (List.mem_of_getElem? (i := 15) rfl)) rfl rfl dX11_lineHere_254 ?_
    refine lv_iconst (v := (3 : Int32)) hx hb dX11_lineHere_257 (by decide) ?_
    refine lv_icmp_ne (tgt := 265) hx hb dX11_lineHere_258 (by decide) (fun c2 => ?_) (fun c2 => ?_)
    · have h := h.1 c2
      refine lv_iconst (v := (0 : Int32)) hx hb dX11_lineHere_265 (by decide) ?_
      exact tX11_lineHere_266 X _ _ _ _ h0 h0 h _ _ _ hP hS (lv_sub hl [1] rfl)
    · have h := h.2 c2
      refine lv_iconst (v := (1 : Int32)) hx hb dX11_lineHere_261 (by decide) ?_
      refine lv_goto (tgt := 266) hx hb dX11_lineHere_262 (by decide) ?_
      exact tX11_lineHere_266 X _ _ _ _ h0 h0 h _ _ _ hP hS (lv_sub hl [1] rfl)
set_option maxRecDepth 100000 in
set_option maxHeartbeats 4000000 in
theorem tX11_lineHere_180 {p : Program} {l : Launch} {e : Env} {s : State} {m : MethodId} {av : Array Value} {below : List Frame} {meth : Method} {c : Code} {D : va_G} {cy : Nat → ClassId} {B : Nat} (X : kC p s m av meth c cX11_lineHere 4 (some .boolean) WALL RX11 D cy (AW B 26)) {post : Bool → St → Prop} : ∀ (v0 : Nat) (v1 : Int32) (t0 : Int32) (σ : St), kM[v0]? = some 11 → wX11_lineHere_180 post v0 v1 t0 σ → ∀ (H : Heap) (locs : List Loc) (ls : Array Slot), va_P D vwCl (wW cy B kM σ) H → va_S (AW B 26) s.heap H locs → lv_has ls 4 [(0, .ref (B + v0)), (1, .int v1)] → W p l e (rmD 14) s m av below meth c H locs 0 0 (MQ below (Qz post D cy B kM 26) av s 0 0 (AW B 26)) (F0 m 180 ls [.int t0]) := by
  obtain ⟨⟨hx, hb, hml, hown, hts⟩, hr, hlk, hK, hN, hZ⟩ := id X
  have hD : ∀ σ, va_D (AW B 26) (wW cy B kM σ) := AW_D kM_len
  obtain ⟨adK, adV, hvS, hvR, hvA, hvB, hvC, hvZ⟩ := id hZ
  intro v0 v1 t0 σ h0 h H locs ls hP hS hl
  unfold wX11_lineHere_180 at h
  refine lv_istore_n (lv' := [(2, .int t0), (0, .ref (B + v0)), (1, .int v1)]) hx hb dX11_lineHere_180 rfl hl (by decide) rfl (fun ls hl => ?_)
  refine lv_aload_n hx hb dX11_lineHere_181 rfl (lv_at hl 1 rfl) ?_
  refine lv_iload_n hx hb dX11_lineHere_182 rfl (lv_at hl 0 rfl) ?_
  refine lv_iconst (v := (5 : Int32)) hx hb dX11_lineHere_183 (by decide) ?_
  refine rk_callz (va_runV (As := [.int t0, .int (5 : Int32)]) (rest := []) X.1 (mX11_must l D cy B v0 t0 (5 : Int32) σ h0 h) (cwV 2 hts (gW_V (wi_31 _ (List.mem_of_getElem? (i := 18) rfl)) (wi_31 _ (List.mem_of_getElem? (i := 19) rfl)) (wi_31 _ (List.mem_of_getElem? (i := 20) rfl)) (wi_30 _ (List.mem_of_getElem? (i := 9) rfl)) (wi_31 _ (List.mem_of_getElem? (i := 4) rfl))) rfl rfl rfl hd_X11_must ⟨Nat.le_of_ble_eq_true rfl, Nat.le_of_ble_eq_true rfl⟩) (rk_preV X hS hP h0 rfl rfl [.int t0, .int (5 : Int32)]) rfl rfl hl.1 rfl (lv_room (Nat.le_of_ble_eq_true rfl)) dX11_lineHere_184 ⟨Nat.zero_le _, Nat.zero_le _⟩) hS (fun _ h => h) (fun r1 s1 H locs h hP hS => ?_)
  refine lv_if_ne (tgt := 192) hx hb dX11_lineHere_187 (by decide) (fun c1 => ?_) (fun c1 => ?_)
  · have h := h.1 (b2i_t c1)
    refine lv_aload_n hx hb dX11_lineHere_192 rfl (lv_at hl 1 rfl) ?_
    refine rk_callv (va_runV (As := []) (rest := []) X.1 (mX11_steps l D cy B v0 s1 h0 h) (cwV 0 hts (gW_V (wi_31 _ (List.mem_of_getElem? (i := 21) rfl)) (wi_31 _ (List.mem_of_getElem? (i := 22) rfl)) (wi_31 _ (List.mem_of_getElem? (i := 23) rfl)) (wi_30 _ (List.mem_of_getElem? (i := 9) rfl)) (wi_30 _ (List.mem_of_getElem? (i := 12) rfl))) rfl rfl rfl hd_X11_steps ⟨Nat.le_of_ble_eq_true rfl, Nat.le_of_ble_eq_true rfl⟩) (rk_preV X hS hP h0 rfl rfl []) rfl rfl hl.1 rfl (lv_room (Nat.le_of_ble_eq_true rfl)) dX11_lineHere_193 ⟨Nat.zero_le _, Nat.zero_le _⟩) hS (fun _ h => h) (fun s2 H locs h hP hS => ?_)
    refine lv_iload_n hx hb dX11_lineHere_196 rfl (lv_at hl 2 rfl) ?_
    refine lv_if_ne (tgt := 207) hx hb dX11_lineHere_197 (by decide) (fun c2 => ?_) (fun c2 => ?_)
    · have h := h.1 c2
      refine lv_iload_n hx hb dX11_lineHere_207 rfl (lv_at hl 2 rfl) ?_
      refine lv_iconst (v := (1 : Int32)) hx hb dX11_lineHere_208 (by decide) ?_
      refine lv_icmp_ne (tgt := 219) hx hb dX11_lineHere_209 (by decide) (fun c3 => ?_) (fun c3 => ?_)
      · have h := h.1 c3
        refine lv_iload_n hx hb dX11_lineHere_219 rfl (lv_at hl 2 rfl) ?_
        refine lv_iconst (v := (2 : Int32)) hx hb dX11_lineHere_220 (by decide) ?_
        refine lv_icmp_ne (tgt := 231) hx hb dX11_lineHere_221 (by decide) (fun c4 => ?_) (fun c4 => ?_)
        · have h := h.1 c4
          refine lv_iload_n hx hb dX11_lineHere_231 rfl (lv_at hl 2 rfl) ?_
          refine lv_iconst (v := (3 : Int32)) hx hb dX11_lineHere_232 (by decide) ?_
          refine lv_icmp_ne (tgt := 243) hx hb dX11_lineHere_233 (by decide) (fun c5 => ?_) (fun c5 => ?_)
          · have h := h.1 c5
            refine lv_aload_n hx hb dX11_lineHere_243 rfl (lv_at hl 1 rfl) ?_
            refine rk_callz (va_runV (As := []) (rest := []) X.1 (mX11_wireLine l D cy B v0 s2 h0 h) (cwV 0 hts (gW_V (wi_34 _ (List.mem_of_getElem? (i := 7) rfl)) (wi_34 _ (List.mem_of_getElem? (i := 8) rfl)) (wi_34 _ (List.mem_of_getElem? (i := 9) rfl)) (wi_30 _ (List.mem_of_getElem? (i := 9) rfl)) (wi_33 _ (List.mem_of_getElem? (i := 18) rfl))) rfl rfl rfl hd_X11_wireLine ⟨Nat.le_of_ble_eq_true rfl, Nat.le_of_ble_eq_true rfl⟩) (rk_preV X hS hP h0 rfl rfl []) rfl rfl hl.1 rfl (lv_room (Nat.le_of_ble_eq_true rfl)) dX11_lineHere_244 ⟨Nat.zero_le _, Nat.zero_le _⟩) hS (fun _ h => h) (fun r2 s3 H locs h hP hS => ?_)
            exact tX11_lineHere_247 X _ _ _ h0 h _ _ _ hP hS (lv_sub hl [1] rfl)
          · have h := h.2 c5
            refine lv_aload_n hx hb dX11_lineHere_236 rfl (lv_at hl 1 rfl) ?_
            refine rk_callz (va_runV (As := []) (rest := []) X.1 (mX11_nodeLine l D cy B v0 s2 h0 h) (cwV 0 hts (gW_V (wi_34 _ (List.mem_of_getElem? (i := 4) rfl)) (wi_34 _ (List.mem_of_getElem? (i := 5) rfl)) (wi_34 _ (List.mem_of_getElem? (i := 6) rfl)) (wi_30 _ (List.mem_of_getElem? (i := 9) rfl)) (wi_33 _ (List.mem_of_getElem? (i := 11) rfl))) rfl rfl rfl hd_X11_nodeLine ⟨Nat.le_of_ble_eq_true rfl, Nat.le_of_ble_eq_true rfl⟩) (rk_preV X hS hP h0 rfl rfl []) rfl rfl hl.1 rfl (lv_room (Nat.le_of_ble_eq_true rfl)) dX11_lineHere_237 ⟨Nat.zero_le _, Nat.zero_le _⟩) hS (fun _ h => h) (fun r3 s4 H locs h hP hS => ?_)
            refine lv_goto (tgt := 247) hx hb dX11_lineHere_240 (by decide) ?_
            exact tX11_lineHere_247 X _ _ _ h0 h _ _ _ hP hS (lv_sub hl [1] rfl)
        · have h := h.2 c4
          refine lv_aload_n hx hb dX11_lineHere_224 rfl (lv_at hl 1 rfl) ?_
          refine rk_callz (va_runV (As := []) (rest := []) X.1 (mX11_baseLine l D cy B v0 s2 h0 h) (cwV 0 hts (gW_V (wi_34 _ (List.mem_of_getElem? (i := 1) rfl)) (wi_34 _ (List.mem_of_getElem? (i := 2) rfl)) (wi_34 _ (List.mem_of_getElem? (i := 3) rfl)) (wi_30 _ (List.mem_of_getElem? (i := 9) rfl)) (wi_33 _ (List.mem_of_getElem? (i := 10) rfl))) rfl rfl rfl hd_X11_baseLine ⟨Nat.le_of_ble_eq_true rfl, Nat.le_of_ble_eq_true rfl⟩) (rk_preV X hS hP h0 rfl rfl []) rfl rfl hl.1 rfl (lv_room (Nat.le_of_ble_eq_true rfl)) dX11_lineHere_225 ⟨Nat.zero_le _, Nat.zero_le _⟩) hS (fun _ h => h) (fun r4 s5 H locs h hP hS => ?_)
          refine lv_goto (tgt := 247) hx hb dX11_lineHere_228 (by decide) ?_
          exact tX11_lineHere_247 X _ _ _ h0 h _ _ _ hP hS (lv_sub hl [1] rfl)
      · have h := h.2 c3
        refine lv_aload_n hx hb dX11_lineHere_212 rfl (lv_at hl 1 rfl) ?_
        refine rk_callz (va_runV (As := []) (rest := []) X.1 (mX11_gateLine l D cy B v0 s2 h0 h) (cwV 0 hts (gW_V (wi_33 _ (List.mem_of_getElem? (i := 22) rfl)) (wi_33 _ (List.mem_of_getElem? (i := 23) rfl)) (wi_34 _ (List.mem_of_getElem? (i := 0) rfl)) (wi_30 _ (List.mem_of_getElem? (i := 9) rfl)) (wi_33 _ (List.mem_of_getElem? (i := 6) rfl))) rfl rfl rfl hd_X11_gateLine ⟨Nat.le_of_ble_eq_true rfl, Nat.le_of_ble_eq_true rfl⟩) (rk_preV X hS hP h0 rfl rfl []) rfl rfl hl.1 rfl (lv_room (Nat.le_of_ble_eq_true rfl)) dX11_lineHere_213 ⟨Nat.zero_le _, Nat.zero_le _⟩) hS (fun _ h => h) (fun r5 s6 H locs h hP hS => ?_)
        refine lv_goto (tgt := 247) hx hb dX11_lineHere_216 (by decide) ?_
        exact tX11_lineHere_247 X _ _ _ h0 h _ _ _ hP hS (lv_sub hl [1] rfl)
    · have h := h.2 c2
      refine lv_aload_n hx hb dX11_lineHere_200 rfl (lv_at hl 1 rfl) ?_
      refine rk_callz (va_runV (As := []) (rest := []) X.1 (mX11_tableLine l D cy B v0 s2 h0 h) (cwV 0 hts (gW_V (wi_33 _ (List.mem_of_getElem? (i := 19) rfl)) (wi_33 _ (List.mem_of_getElem? (i := 20) rfl)) (wi_33 _ (List.mem_of_getElem? (i := 21) rfl)) (wi_30 _ (List.mem_of_getElem? (i := 9) rfl)) (wi_33 _ (List.mem_of_getElem? (i := 1) rfl))) rfl rfl rfl hd_X11_tableLine ⟨Nat.le_of_ble_eq_true rfl, Nat.le_of_ble_eq_true rfl⟩) (rk_preV X hS hP h0 rfl rfl []) rfl rfl hl.1 rfl (lv_room (Nat.le_of_ble_eq_true rfl)) dX11_lineHere_201 ⟨Nat.zero_le _, Nat.zero_le _⟩) hS (fun _ h => h) (fun r6 s7 H locs h hP hS => ?_)
      refine lv_goto (tgt := 247) hx hb dX11_lineHere_204 (by decide) ?_
      exact tX11_lineHere_247 X _ _ _ h0 h _ _ _ hP hS (lv_sub hl [1] rfl)
  · have h := h.2 (b2i_f c1)
    refine lv_iconst (v := (0 : Int32)) hx hb dX11_lineHere_190 (by decide) ?_
    exact rk_zret X kM_len false h hP hS dX11_lineHere_191
set_option maxRecDepth 100000 in
set_option maxHeartbeats 4000000 in
theorem tX11_lineHere_77 {p : Program} {l : Launch} {e : Env} {s : State} {m : MethodId} {av : Array Value} {below : List Frame} {meth : Method} {c : Code} {D : va_G} {cy : Nat → ClassId} {B : Nat} (X : kC p s m av meth c cX11_lineHere 4 (some .boolean) WALL RX11 D cy (AW B 26)) {post : Bool → St → Prop} : ∀ (v0 : Nat) (v1 : Int32) (t0 : Nat) (t1 : Int32) (σ : St), kM[v0]? = some 11 → kM[t0]? = some 11 → wX11_lineHere_77 post v0 v1 t0 t1 σ → ∀ (H : Heap) (locs : List Loc) (ls : Array Slot), va_P D vwCl (wW cy B kM σ) H → va_S (AW B 26) s.heap H locs → lv_has ls 4 [(0, .ref (B + v0)), (1, .int v1)] → W p l e (rmD 14) s m av below meth c H locs 0 0 (MQ below (Qz post D cy B kM 26) av s 0 0 (AW B 26)) (F0 m 77 ls [.int t1, .ref (B + t0)]) := by
  obtain ⟨⟨hx, hb, hml, hown, hts⟩, hr, hlk, hK, hN, hZ⟩ := id X
  have hD : ∀ σ, va_D (AW B 26) (wW cy B kM σ) := AW_D kM_len
  obtain ⟨adK, adV, hvS, hvR, hvA, hvB, hvC, hvZ⟩ := id hZ
  intro v0 v1 t0 t1 σ h0 g0 h H locs ls hP hS hl
  unfold wX11_lineHere_77 at h
  refine lv_iconst (v := (1 : Int32)) hx hb dX11_lineHere_77 (by decide) ?_
  refine rk_callz (va_runV (As := [.int t1, .int (1 : Int32)]) (rest := []) X.1 (mX11_must l D cy B t0 t1 (1 : Int32) σ g0 h) (cwV 2 hts (gW_V (wi_31 _ (List.mem_of_getElem? (i := 18) rfl)) (wi_31 _ (List.mem_of_getElem? (i := 19) rfl)) (wi_31 _ (List.mem_of_getElem? (i := 20) rfl)) (wi_30 _ (List.mem_of_getElem? (i := 9) rfl)) (wi_31 _ (List.mem_of_getElem? (i := 4) rfl))) rfl rfl rfl hd_X11_must ⟨Nat.le_of_ble_eq_true rfl, Nat.le_of_ble_eq_true rfl⟩) (rk_preV X hS hP g0 rfl rfl [.int t1, .int (1 : Int32)]) rfl rfl hl.1 rfl (lv_room (Nat.le_of_ble_eq_true rfl)) dX11_lineHere_78 ⟨Nat.zero_le _, Nat.zero_le _⟩) hS (fun _ h => h) (fun r1 s1 H locs h hP hS => ?_)
  refine lv_if_ne (tgt := 86) hx hb dX11_lineHere_81 (by decide) (fun c1 => ?_) (fun c1 => ?_)
  · have h := h.1 (b2i_t c1)
    refine lv_iload_n hx hb dX11_lineHere_86 rfl (lv_at hl 1 rfl) ?_
    refine lv_iconst (v := (2 : Int32)) hx hb dX11_lineHere_87 (by decide) ?_
    refine lv_icmp_ge (tgt := 113) hx hb dX11_lineHere_88 (by decide) (fun c2 => ?_) (fun c2 => ?_)
    · have h := h.1 c2
      refine lv_iload_n hx hb dX11_lineHere_113 rfl (lv_at hl 1 rfl) ?_
      refine lv_iconst (v := (2 : Int32)) hx hb dX11_lineHere_114 (by decide) ?_
      refine lv_icmp_ne (tgt := 139) hx hb dX11_lineHere_115 (by decide) (fun c3 => ?_) (fun c3 => ?_)
      · have h := h.1 c3
        refine lv_iload_n hx hb dX11_lineHere_139 rfl (lv_at hl 1 rfl) ?_
        refine lv_iconst (v := (3 : Int32)) hx hb dX11_lineHere_140 (by decide) ?_
        refine lv_icmp_ne (tgt := 166) hx hb dX11_lineHere_141 (by decide) (fun c4 => ?_) (fun c4 => ?_)
        · have h := h.1 c4
          refine lv_aload_n hx hb dX11_lineHere_166 rfl (lv_at hl 0 rfl) ?_
          refine rk_get X hP (C := RX11) (T := TX11) (N := 44) (ci := 11) wix_11 h0 rfl rfl 24 (by decide) (wi_33 _ (List.mem_of_getElem? (i := 13) rfl)) rfl rfl dX11_lineHere_167 ?_
          refine lv_bipush (v := (10 : Int32)) hx hb dX11_lineHere_170 (by decide) ?_
          refine lv_icmp_ge (tgt := 179) hx hb dX11_lineHere_172 (by decide) (fun c5 => ?_) (fun c5 => ?_)
          · have h := h.1 c5
            refine lv_iconst (v := (0 : Int32)) hx hb dX11_lineHere_179 (by decide) ?_
            exact tX11_lineHere_180 X _ _ _ _ h0 h _ _ _ hP hS (lv_sub hl [0, 1] rfl)
          · have h := h.2 c5
            refine lv_iconst (v := (1 : Int32)) hx hb dX11_lineHere_175 (by decide) ?_
            refine lv_goto (tgt := 180) hx hb dX11_lineHere_176 (by decide) ?_
            exact tX11_lineHere_180 X _ _ _ _ h0 h _ _ _ hP hS (lv_sub hl [0, 1] rfl)
        · have h := h.2 c4
          refine lv_aload_n hx hb dX11_lineHere_144 rfl (lv_at hl 0 rfl) ?_
          refine rk_get X hP (C := RX11) (T := TX11) (N := 44) (ci := 11) wix_11 h0 rfl rfl 16 (by decide) (wi_29 _ (List.mem_of_getElem? (i := 1) rfl)) rfl rfl dX11_lineHere_145 ?_
          refine lv_aload_n hx hb dX11_lineHere_148 rfl (lv_at hl 0 rfl) ?_
          refine rk_get X hP (C := RX11) (T := TX11) (N := 44) (ci := 11) wix_11 h0 rfl rfl 12 (by decide) (wi_32 _ (List.mem_of_getElem? (i := 2) rfl)) rfl rfl dX11_lineHere_149 ?_
          refine lv_topi (fun x1 ex1 => ?_)
          have h := h x1 ex1
          obtain ⟨b1, h⟩ := h
          refine rk_iald X hP (n := 2) (klM_X11_16 h0) (fun _ _ => rfl) b1 dX11_lineHere_152 ?_
          refine lv_bipush (v := (6 : Int32)) hx hb dX11_lineHere_153 (by decide) ?_
          refine lv_icmp_ge (tgt := 162) hx hb dX11_lineHere_155 (by decide) (fun c6 => ?_) (fun c6 => ?_)
          · have h := h.1 c6
            refine lv_iconst (v := (0 : Int32)) hx hb dX11_lineHere_162 (by decide) ?_
            refine lv_goto (tgt := 180) hx hb dX11_lineHere_163 (by decide) ?_
            exact tX11_lineHere_180 X _ _ _ _ h0 h _ _ _ hP hS (lv_sub hl [0, 1] rfl)
          · have h := h.2 c6
            refine lv_iconst (v := (1 : Int32)) hx hb dX11_lineHere_158 (by decide) ?_
            refine lv_goto (tgt := 180) hx hb dX11_lineHere_159 (by decide) ?_
            exact tX11_lineHere_180 X _ _ _ _ h0 h _ _ _ hP hS (lv_sub hl [0, 1] rfl)
      · have h := h.2 c3
        refine lv_aload_n hx hb dX11_lineHere_118 rfl (lv_at hl 0 rfl) ?_
        refine rk_get X hP (C := RX11) (T := TX11) (N := 44) (ci := 11) wix_11 h0 rfl rfl 15 (by decide) (wi_29 _ (List.mem_of_getElem? (i := 0) rfl)) rfl rfl dX11_lineHere_119 ?_
        refine lv_aload_n hx hb dX11_lineHere_122 rfl (lv_at hl 0 rfl) ?_
        refine rk_get X hP (C := RX11) (T := TX11) (N := 44) (ci := 11) wix_11 h0 rfl rfl 12 (by decide) (wi_32 _ (List.mem_of_getElem? (i := 2) rfl)) rfl rfl dX11_lineHere_123 ?_
        refine lv_topi (fun x2 ex2 => ?_)
        have h := h x2 ex2
        obtain ⟨b2, h⟩ := h
        refine rk_iald X hP (n := 2) (klM_X11_15 h0) (fun _ _ => rfl) b2 dX11_lineHere_126 ?_
        refine lv_iconst (v := (5 : Int32)) hx hb dX11_lineHere_127 (by decide) ?_
        refine lv_icmp_ge (tgt := 135) hx hb dX11_lineHere_128 (by decide) (fun c7 => ?_) (fun c7 => ?_)
        · have h := h.1 c7
          refine lv_iconst (v := (0 : Int32)) hx hb dX11_lineHere_135 (by decide) ?_
          refine lv_goto (tgt := 180) hx hb dX11_lineHere_136 (by decide) ?_
          exact tX11_lineHere_180 X _ _ _ _ h0 h _ _ _ hP hS (lv_sub hl [0, 1] rfl)
        · have h := h.2 c7
          refine lv_iconst (v := (1 : Int32)) hx hb dX11_lineHere_131 (by decide) ?_
          refine lv_goto (tgt := 180) hx hb dX11_lineHere_132 (by decide) ?_
          exact tX11_lineHere_180 X _ _ _ _ h0 h _ _ _ hP hS (lv_sub hl [0, 1] rfl)
    · have h := h.2 c2
      refine lv_aload_n hx hb dX11_lineHere_91 rfl (lv_at hl 0 rfl) ?_
      refine rk_get X hP (C := RX11) (T := TX11) (N := 44) (ci := 11) wix_11 h0 rfl rfl 14 (by decide) (wi_28 _ (List.mem_of_getElem? (i := 23) rfl)) rfl rfl dX11_lineHere_92 ?_
      refine lv_aload_n hx hb dX11_lineHere_95 rfl (lv_at hl 0 rfl) ?_
      refine rk_get X hP (C := RX11) (T := TX11) (N := 44) (ci := 11) wix_11 h0 rfl rfl 12 (by decide) (wi_32 _ (List.mem_of_getElem? (i := 2) rfl)) rfl rfl dX11_lineHere_96 ?_
      refine lv_topi (fun x3 ex3 => ?_)
      have h := h x3 ex3
      obtain ⟨b3, h⟩ := h
      refine rk_iald X hP (n := 2) (klM_X11_14 h0) (fun _ _ => rfl) b3 dX11_lineHere_99 ?_
      refine lv_bipush (v := (8 : Int32)) hx hb dX11_lineHere_100 (by decide) ?_
      refine lv_icmp_ge (tgt := 109) hx hb dX11_lineHere_102 (by decide) (fun c8 => ?_) (fun c8 => ?_)
      · have h := h.1 c8
        refine lv_iconst (v := (0 : Int32)) hx hb dX11_lineHere_109 (by decide) ?_
        refine lv_goto (tgt := 180) hx hb dX11_lineHere_110 (by decide) ?_
        exact tX11_lineHere_180 X _ _ _ _ h0 h _ _ _ hP hS (lv_sub hl [0, 1] rfl)
      · have h := h.2 c8
        refine lv_iconst (v := (1 : Int32)) hx hb dX11_lineHere_105 (by decide) ?_
        refine lv_goto (tgt := 180) hx hb dX11_lineHere_106 (by decide) ?_
        exact tX11_lineHere_180 X _ _ _ _ h0 h _ _ _ hP hS (lv_sub hl [0, 1] rfl)
  · have h := h.2 (b2i_f c1)
    refine lv_iconst (v := (0 : Int32)) hx hb dX11_lineHere_84 (by decide) ?_
    exact rk_zret X kM_len false h hP hS dX11_lineHere_85
set_option maxRecDepth 100000 in
set_option maxHeartbeats 4000000 in
theorem tX11_lineHere_66 {p : Program} {l : Launch} {e : Env} {s : State} {m : MethodId} {av : Array Value} {below : List Frame} {meth : Method} {c : Code} {D : va_G} {cy : Nat → ClassId} {B : Nat} (X : kC p s m av meth c cX11_lineHere 4 (some .boolean) WALL RX11 D cy (AW B 26)) {post : Bool → St → Prop} : ∀ (v0 : Nat) (t0 : Int32) (σ : St), kM[v0]? = some 11 → wX11_lineHere_66 post v0 t0 σ → ∀ (H : Heap) (locs : List Loc) (ls : Array Slot), va_P D vwCl (wW cy B kM σ) H → va_S (AW B 26) s.heap H locs → lv_has ls 4 [(0, .ref (B + v0))] → W p l e (rmD 14) s m av below meth c H locs 0 0 (MQ below (Qz post D cy B kM 26) av s 0 0 (AW B 26)) (F0 m 66 ls [.int t0]) := by
  obtain ⟨⟨hx, hb, hml, hown, hts⟩, hr, hlk, hK, hN, hZ⟩ := id X
  have hD : ∀ σ, va_D (AW B 26) (wW cy B kM σ) := AW_D kM_len
  obtain ⟨adK, adV, hvS, hvR, hvA, hvB, hvC, hvZ⟩ := id hZ
  intro v0 t0 σ h0 h H locs ls hP hS hl
  unfold wX11_lineHere_66 at h
  refine lv_istore_n (lv' := [(1, .int t0), (0, .ref (B + v0))]) hx hb dX11_lineHere_66 rfl hl (by decide) rfl (fun ls hl => ?_)
  refine lv_aload_n hx hb dX11_lineHere_67 rfl (lv_at hl 1 rfl) ?_
  refine lv_iload_n hx hb dX11_lineHere_68 rfl (lv_at hl 0 rfl) ?_
  refine lv_if_lt (tgt := 76) hx hb dX11_lineHere_69 (by decide) (fun c1 => ?_) (fun c1 => ?_)
  · have h := h.1 c1
    refine lv_iconst (v := (0 : Int32)) hx hb dX11_lineHere_76 (by decide) ?_
    exact tX11_lineHere_77 X _ _ _ _ _ h0 h0 h _ _ _ hP hS (lv_sub hl [1, 0] rfl)
  · have h := h.2 c1
    refine lv_iconst (v := (1 : Int32)) hx hb dX11_lineHere_72 (by decide) ?_
    refine lv_goto (tgt := 77) hx hb dX11_lineHere_73 (by decide) ?_
    exact tX11_lineHere_77 X _ _ _ _ _ h0 h0 h _ _ _ hP hS (lv_sub hl [1, 0] rfl)
set_option maxRecDepth 100000 in
set_option maxHeartbeats 4000000 in
theorem mX11_lineHere (l : Launch) (D : va_G) (cy : Nat → ClassId) (B : Nat) (v0 : Nat) (σ : St) (h0 : kM[v0]? = some 11) {post : Bool → St → Prop} (h : wX11_lineHere v0 σ post) : Met l yX11_lineHere (Cond.code yX11_lineHere cX11_lineHere 4 (some .boolean) :: WALL) (rmD 14) (PcW D cy B kM σ [.ref (B + v0)]) (Qz post D cy B kM 26) 0 0 (AW B 26) := by
  refine Met.ofK (cc := cX11_lineHere) (maxL := 4) (ret := (some .boolean)) (by decide +kernel) rfl kM_len ?_
  intro p e s m below meth c X hP
  obtain ⟨⟨hx, hb, hml, hown, hts⟩, hr, hlk, hK, hN, hZ⟩ := id X
  have hD : ∀ σ, va_D (AW B 26) (wW cy B kM σ) := AW_D kM_len
  have hS : va_S (AW B 26) s.heap s.heap [] := va_S.rf
  obtain ⟨adK, adV, hvS, hvR, hvA, hvB, hvC, hvZ⟩ := id hZ
  have hl := lv_entry ([.ref (B + v0)]) (n := 4) (Nat.le_of_ble_eq_true rfl)
  rw [lg_entry_eq]
  generalize (lg_sl ([.ref (B + v0)]) ++ List.replicate (4 - (lg_sl ([.ref (B + v0)])).length) Slot.unset).toArray = ls at hl ⊢
  have hl : lv_has ls 4 [(0, .ref (B + v0))] := hl
  unfold wX11_lineHere at h
  refine lv_aload_n hx hb dX11_lineHere_0 rfl (lv_at hl 0 rfl) ?_
  refine va_ldcS (tx := "table") (index := 162) hx hb hown (hvR 1 (by decide)).1 dX11_lineHere_1 ?_
  refine rk_callz (rk_is (rest := []) X hS hP (k := 1) (by decide) hvS h0 (wi_31 _ (List.mem_of_getElem? (i := 13) rfl)) hl.1 (Nat.le_of_ble_eq_true rfl) (Nat.le_of_ble_eq_true rfl) (Nat.le_of_ble_eq_true rfl) dX11_lineHere_3 h) hS (fun _ h => h) (fun r1 s1 H locs h hP hS => ?_)
  refine lv_if_eq (tgt := 13) hx hb dX11_lineHere_6 (by decide) (fun c1 => ?_) (fun c1 => ?_)
  · have h := h.1 (b2i_f c1)
    refine lv_aload_n hx hb dX11_lineHere_13 rfl (lv_at hl 0 rfl) ?_
    refine va_ldcS (tx := "gate") (index := 164) hx hb hown (hvR 2 (by decide)).1 dX11_lineHere_14 ?_
    refine rk_callz (rk_is (rest := []) X hS hP (k := 2) (by decide) hvS h0 (wi_31 _ (List.mem_of_getElem? (i := 13) rfl)) hl.1 (Nat.le_of_ble_eq_true rfl) (Nat.le_of_ble_eq_true rfl) (Nat.le_of_ble_eq_true rfl) dX11_lineHere_16 h) hS (fun _ h => h) (fun r2 s2 H locs h hP hS => ?_)
    refine lv_if_eq (tgt := 26) hx hb dX11_lineHere_19 (by decide) (fun c2 => ?_) (fun c2 => ?_)
    · have h := h.1 (b2i_f c2)
      refine lv_aload_n hx hb dX11_lineHere_26 rfl (lv_at hl 0 rfl) ?_
      refine va_ldcS (tx := "base") (index := 166) hx hb hown (hvR 3 (by decide)).1 dX11_lineHere_27 ?_
      refine rk_callz (rk_is (rest := []) X hS hP (k := 3) (by decide) hvS h0 (wi_31 _ (List.mem_of_getElem? (i := 13) rfl)) hl.1 (Nat.le_of_ble_eq_true rfl) (Nat.le_of_ble_eq_true rfl) (Nat.le_of_ble_eq_true rfl) dX11_lineHere_29 h) hS (fun _ h => h) (fun r3 s3 H locs h hP hS => ?_)
      refine lv_if_eq (tgt := 39) hx hb dX11_lineHere_32 (by decide) (fun c3 => ?_) (fun c3 => ?_)
      · have h := h.1 (b2i_f c3)
        refine lv_aload_n hx hb dX11_lineHere_39 rfl (lv_at hl 0 rfl) ?_
        refine va_ldcS (tx := "node") (index := 167) hx hb hown (hvR 4 (by decide)).1 dX11_lineHere_40 ?_
        refine rk_callz (rk_is (rest := []) X hS hP (k := 4) (by decide) hvS h0 (wi_31 _ (List.mem_of_getElem? (i := 13) rfl)) hl.1 (Nat.le_of_ble_eq_true rfl) (Nat.le_of_ble_eq_true rfl) (Nat.le_of_ble_eq_true rfl) dX11_lineHere_42 h) hS (fun _ h => h) (fun r4 s4 H locs h hP hS => ?_)
        refine lv_if_eq (tgt := 52) hx hb dX11_lineHere_45 (by decide) (fun c4 => ?_) (fun c4 => ?_)
        · have h := h.1 (b2i_f c4)
          refine lv_aload_n hx hb dX11_lineHere_52 rfl (lv_at hl 0 rfl) ?_
          refine va_ldcS (tx := "wire") (index := 169) hx hb hown (hvR 5 (by decide)).1 dX11_lineHere_53 ?_
          refine rk_callz (rk_is (rest := []) X hS hP (k := 5) (by decide) hvS h0 (wi_31 _ (List.mem_of_getElem? (i := 13) rfl)) hl.1 (Nat.le_of_ble_eq_true rfl) (Nat.le_of_ble_eq_true rfl) (Nat.le_of_ble_eq_true rfl) dX11_lineHere_55 h) hS (fun _ h => h) (fun r5 s5 H locs h hP hS => ?_)
          refine lv_if_eq (tgt := 65) hx hb dX11_lineHere_58 (by decide) (fun c5 => ?_) (fun c5 => ?_)
          · have h := h.1 (b2i_f c5)
            refine lv_iconst (v := (-1 : Int32)) hx hb dX11_lineHere_65 (by decide) ?_
            exact tX11_lineHere_66 X _ _ _ h0 h _ _ _ hP hS (lv_sub hl [0] rfl)
          · have h := h.2 (b2i_t c5)
            refine lv_iconst (v := (4 : Int32)) hx hb dX11_lineHere_61 (by decide) ?_
            refine lv_goto (tgt := 66) hx hb dX11_lineHere_62 (by decide) ?_
            exact tX11_lineHere_66 X _ _ _ h0 h _ _ _ hP hS (lv_sub hl [0] rfl)
        · have h := h.2 (b2i_t c4)
          refine lv_iconst (v := (3 : Int32)) hx hb dX11_lineHere_48 (by decide) ?_
          refine lv_goto (tgt := 66) hx hb dX11_lineHere_49 (by decide) ?_
          exact tX11_lineHere_66 X _ _ _ h0 h _ _ _ hP hS (lv_sub hl [0] rfl)
      · have h := h.2 (b2i_t c3)
        refine lv_iconst (v := (2 : Int32)) hx hb dX11_lineHere_35 (by decide) ?_
        refine lv_goto (tgt := 66) hx hb dX11_lineHere_36 (by decide) ?_
        exact tX11_lineHere_66 X _ _ _ h0 h _ _ _ hP hS (lv_sub hl [0] rfl)
    · have h := h.2 (b2i_t c2)
      refine lv_iconst (v := (1 : Int32)) hx hb dX11_lineHere_22 (by decide) ?_
      refine lv_goto (tgt := 66) hx hb dX11_lineHere_23 (by decide) ?_
      exact tX11_lineHere_66 X _ _ _ h0 h _ _ _ hP hS (lv_sub hl [0] rfl)
  · have h := h.2 (b2i_t c1)
    refine lv_iconst (v := (0 : Int32)) hx hb dX11_lineHere_9 (by decide) ?_
    refine lv_goto (tgt := 66) hx hb dX11_lineHere_10 (by decide) ?_
    exact tX11_lineHere_66 X _ _ _ h0 h _ _ _ hP hS (lv_sub hl [0] rfl)

theorem hd_X11_isPrime : yX11_isPrime.cls ≠ "java/lang/invoke/MethodHandle" ∧ yX11_isPrime.cls ≠ "java/lang/invoke/VarHandle" ∧ (parseMethodDescriptor yX11_isPrime.desc).map (fun d => d.parameters.length) = some 1 := by decide +kernel
set_option maxRecDepth 100000 in
set_option maxHeartbeats 4000000 in
theorem tX11_isPrime_2 {p : Program} {l : Launch} {e : Env} {s : State} {m : MethodId} {av : Array Value} {below : List Frame} {meth : Method} {c : Code} {D : va_G} {cy : Nat → ClassId} {B : Nat} (X : kC p s m av meth c cX11_isPrime 2 (some .boolean) WALL RX11 D cy (AW B 26)) {post : Bool → St → Prop} : ∀ (n : Nat) (v0 : Int32) (v1 : Int32) (σ : St), wX11_isPrime_2 post n v0 v1 σ → ∀ (H : Heap) (locs : List Loc) (ls : Array Slot), va_P D vwCl (wW cy B kM σ) H → va_S (AW B 26) s.heap H locs → lv_has ls 2 [(0, .int v0), (1, .int v1)] → W p l e (rmD 0) s m av below meth c H locs 0 0 (MQ below (Qz post D cy B kM 26) av s 0 0 (AW B 26)) (F0 m 2 ls []) := by
  obtain ⟨⟨hx, hb, hml, hown, hts⟩, hr, hlk, hK, hN, hZ⟩ := id X
  have hD : ∀ σ, va_D (AW B 26) (wW cy B kM σ) := AW_D kM_len
  intro n
  induction n with
  | zero => intro v0 v1 σ h; exact absurd h id
  | succ n ih =>
    intro v0 v1 σ h H locs ls hP hS hl
    rw [wX11_isPrime_2] at h
    refine lv_iload_n hx hb dX11_isPrime_2 rfl (lv_at hl 1 rfl) ?_
    refine lv_iload_n hx hb dX11_isPrime_3 rfl (lv_at hl 1 rfl) ?_
    refine lv_imul hx hb dX11_isPrime_4 ?_
    refine lv_iload_n hx hb dX11_isPrime_5 rfl (lv_at hl 0 rfl) ?_
    refine lv_icmp_gt (tgt := 23) hx hb dX11_isPrime_6 (by decide) (fun c1 => ?_) (fun c1 => ?_)
    · have h := h.1 c1
      refine lv_iconst (v := (1 : Int32)) hx hb dX11_isPrime_23 (by decide) ?_
      exact rk_zret X kM_len true h hP hS dX11_isPrime_24
    · have h := h.2 c1
      refine lv_iload_n hx hb dX11_isPrime_9 rfl (lv_at hl 0 rfl) ?_
      refine lv_iload_n hx hb dX11_isPrime_10 rfl (lv_at hl 1 rfl) ?_
      obtain ⟨z1, h⟩ := h
      refine lv_irem hx hb dX11_isPrime_11 z1 ?_
      refine lv_if_ne (tgt := 17) hx hb dX11_isPrime_12 (by decide) (fun c2 => ?_) (fun c2 => ?_)
      · have h := h.1 c2
        obtain ⟨x1, ex1⟩ : ∃ y : Int32, y = v1 + (1 : Int32) := ⟨_, rfl⟩
        have h := h x1 ex1
        refine lv_iinc (v := x1) (lv' := [(1, .int x1), (0, .int v0)]) hx hb dX11_isPrime_17 hl (k := 1) rfl (by rw [ex1]; rfl) (by decide) rfl (fun ls hl => ?_)
        refine lv_goto (tgt := 2) hx hb dX11_isPrime_20 (by decide) ?_
        exact ih _ _ _ h _ _ _ hP hS (lv_sub hl [1, 0] rfl)
      · have h := h.2 c2
        refine lv_iconst (v := (0 : Int32)) hx hb dX11_isPrime_15 (by decide) ?_
        exact rk_zret X kM_len false h hP hS dX11_isPrime_16
set_option maxRecDepth 100000 in
set_option maxHeartbeats 4000000 in
theorem mX11_isPrime (l : Launch) (D : va_G) (cy : Nat → ClassId) (B : Nat) (v0 : Int32) (σ : St) {post : Bool → St → Prop} (h : wX11_isPrime v0 σ post) : Met l yX11_isPrime (Cond.code yX11_isPrime cX11_isPrime 2 (some .boolean) :: WALL) (rmD 0) (PcW D cy B kM σ [.int v0]) (Qz post D cy B kM 26) 0 0 (AW B 26) := by
  refine Met.ofK (cc := cX11_isPrime) (maxL := 2) (ret := (some .boolean)) (by decide +kernel) rfl kM_len ?_
  intro p e s m below meth c X hP
  obtain ⟨⟨hx, hb, hml, hown, hts⟩, hr, hlk, hK, hN, hZ⟩ := id X
  have hD : ∀ σ, va_D (AW B 26) (wW cy B kM σ) := AW_D kM_len
  have hS : va_S (AW B 26) s.heap s.heap [] := va_S.rf
  have hl := lv_entry ([.int v0]) (n := 2) (Nat.le_of_ble_eq_true rfl)
  rw [lg_entry_eq]
  generalize (lg_sl ([.int v0]) ++ List.replicate (2 - (lg_sl ([.int v0])).length) Slot.unset).toArray = ls at hl ⊢
  have hl : lv_has ls 2 [(0, .int v0)] := hl
  unfold wX11_isPrime at h
  refine lv_iconst (v := (2 : Int32)) hx hb dX11_isPrime_0 (by decide) ?_
  refine lv_istore_n (lv' := [(1, .int (2 : Int32)), (0, .int v0)]) hx hb dX11_isPrime_1 rfl hl (by decide) rfl (fun ls hl => ?_)
  obtain ⟨j, h⟩ := h
  exact tX11_isPrime_2 X j _ _ _ h _ _ _ hP hS (lv_sub hl [1, 0] rfl)

theorem hd_X11_fieldLine : yX11_fieldLine.cls = RX11 ∧ yX11_fieldLine.cls ≠ "java/lang/invoke/MethodHandle" ∧ yX11_fieldLine.cls ≠ "java/lang/invoke/VarHandle" ∧ (parseMethodDescriptor yX11_fieldLine.desc).map (fun d => d.parameters.length) = some 0 := by decide +kernel
set_option maxRecDepth 100000 in
set_option maxHeartbeats 4000000 in
theorem tX11_fieldLine_95 {p : Program} {l : Launch} {e : Env} {s : State} {m : MethodId} {av : Array Value} {below : List Frame} {meth : Method} {c : Code} {D : va_G} {cy : Nat → ClassId} {B : Nat} (X : kC p s m av meth c cX11_fieldLine 1 (some .boolean) WALL RX11 D cy (AW B 26)) {post : Bool → St → Prop} : ∀ (v0 : Nat) (t0 : Nat) (t1 : Int32) (σ : St), kM[v0]? = some 11 → kM[t0]? = some 11 → wX11_fieldLine_95 post v0 t0 t1 σ → ∀ (H : Heap) (locs : List Loc) (ls : Array Slot), va_P D vwCl (wW cy B kM σ) H → va_S (AW B 26) s.heap H locs → lv_has ls 1 [(0, .ref (B + v0))] → W p l e (rmD 2) s m av below meth c H locs 0 0 (MQ below (Qz post D cy B kM 26) av s 0 0 (AW B 26)) (F0 m 95 ls [.int t1, .ref (B + t0)]) := by
  obtain ⟨⟨hx, hb, hml, hown, hts⟩, hr, hlk, hK, hN, hZ⟩ := id X
  have hD : ∀ σ, va_D (AW B 26) (wW cy B kM σ) := AW_D kM_len
  intro v0 t0 t1 σ h0 g0 h H locs ls hP hS hl
  unfold wX11_fieldLine_95 at h
  refine lv_iconst (v := (1 : Int32)) hx hb dX11_fieldLine_95 (by decide) ?_
  refine rk_callz (va_runV (As := [.int t1, .int (1 : Int32)]) (rest := []) X.1 (mX11_must l D cy B t0 t1 (1 : Int32) σ g0 h) (cwV 2 hts (gW_V (wi_31 _ (List.mem_of_getElem? (i := 18) rfl)) (wi_31 _ (List.mem_of_getElem? (i := 19) rfl)) (wi_31 _ (List.mem_of_getElem? (i := 20) rfl)) (wi_30 _ (List.mem_of_getElem? (i := 9) rfl)) (wi_31 _ (List.mem_of_getElem? (i := 4) rfl))) rfl rfl rfl hd_X11_must ⟨Nat.le_of_ble_eq_true rfl, Nat.le_of_ble_eq_true rfl⟩) (rk_preV X hS hP g0 rfl rfl [.int t1, .int (1 : Int32)]) rfl rfl hl.1 rfl (lv_room (Nat.le_of_ble_eq_true rfl)) dX11_fieldLine_96 ⟨Nat.zero_le _, Nat.zero_le _⟩) hS (fun _ h => h) (fun r1 s1 H locs h hP hS => ?_)
  refine lv_if_ne (tgt := 104) hx hb dX11_fieldLine_99 (by decide) (fun c1 => ?_) (fun c1 => ?_)
  · have h := h.1 (b2i_t c1)
    refine lv_aload_n hx hb dX11_fieldLine_104 rfl (lv_at hl 0 rfl) ?_
    refine rk_callv (va_runV (As := []) (rest := []) X.1 (mX11_steps l D cy B v0 s1 h0 h) (cwV 0 hts (gW_V (wi_31 _ (List.mem_of_getElem? (i := 21) rfl)) (wi_31 _ (List.mem_of_getElem? (i := 22) rfl)) (wi_31 _ (List.mem_of_getElem? (i := 23) rfl)) (wi_30 _ (List.mem_of_getElem? (i := 9) rfl)) (wi_30 _ (List.mem_of_getElem? (i := 12) rfl))) rfl rfl rfl hd_X11_steps ⟨Nat.le_of_ble_eq_true rfl, Nat.le_of_ble_eq_true rfl⟩) (rk_preV X hS hP h0 rfl rfl []) rfl rfl hl.1 rfl (lv_room (Nat.le_of_ble_eq_true rfl)) dX11_fieldLine_105 ⟨Nat.zero_le _, Nat.zero_le _⟩) hS (fun _ h => h) (fun s2 H locs h hP hS => ?_)
    refine lv_iconst (v := (1 : Int32)) hx hb dX11_fieldLine_108 (by decide) ?_
    exact rk_zret X kM_len true h hP hS dX11_fieldLine_109
  · have h := h.2 (b2i_f c1)
    refine lv_iconst (v := (0 : Int32)) hx hb dX11_fieldLine_102 (by decide) ?_
    exact rk_zret X kM_len false h hP hS dX11_fieldLine_103
set_option maxRecDepth 100000 in
set_option maxHeartbeats 4000000 in
theorem tX11_fieldLine_58 {p : Program} {l : Launch} {e : Env} {s : State} {m : MethodId} {av : Array Value} {below : List Frame} {meth : Method} {c : Code} {D : va_G} {cy : Nat → ClassId} {B : Nat} (X : kC p s m av meth c cX11_fieldLine 1 (some .boolean) WALL RX11 D cy (AW B 26)) {post : Bool → St → Prop} : ∀ (v0 : Nat) (t0 : Nat) (t1 : Int32) (σ : St), kM[v0]? = some 11 → kM[t0]? = some 11 → wX11_fieldLine_58 post v0 t0 t1 σ → ∀ (H : Heap) (locs : List Loc) (ls : Array Slot), va_P D vwCl (wW cy B kM σ) H → va_S (AW B 26) s.heap H locs → lv_has ls 1 [(0, .ref (B + v0))] → W p l e (rmD 2) s m av below meth c H locs 0 0 (MQ below (Qz post D cy B kM 26) av s 0 0 (AW B 26)) (F0 m 58 ls [.int t1, .ref (B + t0)]) := by
  obtain ⟨⟨hx, hb, hml, hown, hts⟩, hr, hlk, hK, hN, hZ⟩ := id X
  have hD : ∀ σ, va_D (AW B 26) (wW cy B kM σ) := AW_D kM_len
  intro v0 t0 t1 σ h0 g0 h H locs ls hP hS hl
  unfold wX11_fieldLine_58 at h
  refine lv_iconst (v := (4 : Int32)) hx hb dX11_fieldLine_58 (by decide) ?_
  refine rk_callz (va_runV (As := [.int t1, .int (4 : Int32)]) (rest := []) X.1 (mX11_must l D cy B t0 t1 (4 : Int32) σ g0 h) (cwV 2 hts (gW_V (wi_31 _ (List.mem_of_getElem? (i := 18) rfl)) (wi_31 _ (List.mem_of_getElem? (i := 19) rfl)) (wi_31 _ (List.mem_of_getElem? (i := 20) rfl)) (wi_30 _ (List.mem_of_getElem? (i := 9) rfl)) (wi_31 _ (List.mem_of_getElem? (i := 4) rfl))) rfl rfl rfl hd_X11_must ⟨Nat.le_of_ble_eq_true rfl, Nat.le_of_ble_eq_true rfl⟩) (rk_preV X hS hP g0 rfl rfl [.int t1, .int (4 : Int32)]) rfl rfl hl.1 rfl (lv_room (Nat.le_of_ble_eq_true rfl)) dX11_fieldLine_59 ⟨Nat.zero_le _, Nat.zero_le _⟩) hS (fun _ h => h) (fun r1 s1 H locs h hP hS => ?_)
  refine lv_if_ne (tgt := 67) hx hb dX11_fieldLine_62 (by decide) (fun c1 => ?_) (fun c1 => ?_)
  · have h := h.1 (b2i_t c1)
    refine lv_aload_n hx hb dX11_fieldLine_67 rfl (lv_at hl 0 rfl) ?_
    refine rk_get X hP (C := RX11) (T := TX11) (N := 44) (ci := 11) wix_11 h0 rfl rfl 13 (by decide) (wi_28 _ (List.mem_of_getElem? (i := 22) rfl)) rfl rfl dX11_fieldLine_68 ?_
    refine lv_iconst (v := (1 : Int32)) hx hb dX11_fieldLine_71 (by decide) ?_
    refine lv_aload_n hx hb dX11_fieldLine_72 rfl (lv_at hl 0 rfl) ?_
    refine rk_get X hP (C := RX11) (T := TX11) (N := 44) (ci := 11) wix_11 h0 rfl rfl 7 (by decide) (wi_30 _ (List.mem_of_getElem? (i := 16) rfl)) rfl rfl dX11_fieldLine_73 ?_
    have b1 : vp_in (1 : Int32) 2 := by unfold vp_in; decide
    refine rk_iast X hP hD hS (n := 2) (klM_X11_13 h0) (fun _ _ => rfl) b1 dX11_fieldLine_76 (fun H locs hP hS => ?_)
    obtain ⟨s2, es2⟩ : ∃ z : St, z = u1 s1 (v0 + 2) (1 : Int32).toNatClampNeg (s1.1 v0 7) := ⟨_, rfl⟩
    rw [← es2] at hP
    have h := h s2 es2
    refine lv_aload_n hx hb dX11_fieldLine_77 rfl (lv_at hl 0 rfl) ?_
    refine rk_callv (va_runV (As := []) (rest := []) X.1 (mX11_steps l D cy B v0 s2 h0 h) (cwV 0 hts (gW_V (wi_31 _ (List.mem_of_getElem? (i := 21) rfl)) (wi_31 _ (List.mem_of_getElem? (i := 22) rfl)) (wi_31 _ (List.mem_of_getElem? (i := 23) rfl)) (wi_30 _ (List.mem_of_getElem? (i := 9) rfl)) (wi_30 _ (List.mem_of_getElem? (i := 12) rfl))) rfl rfl rfl hd_X11_steps ⟨Nat.le_of_ble_eq_true rfl, Nat.le_of_ble_eq_true rfl⟩) (rk_preV X hS hP h0 rfl rfl []) rfl rfl hl.1 rfl (lv_room (Nat.le_of_ble_eq_true rfl)) dX11_fieldLine_78 ⟨Nat.zero_le _, Nat.zero_le _⟩) hS (fun _ h => h) (fun s3 H locs h hP hS => ?_)
    refine lv_aload_n hx hb dX11_fieldLine_81 rfl (lv_at hl 0 rfl) ?_
    refine lv_aload_n hx hb dX11_fieldLine_82 rfl (lv_at hl 0 rfl) ?_
    refine rk_get X hP (C := RX11) (T := TX11) (N := 44) (ci := 11) wix_11 h0 rfl rfl 6 (by decide) (wi_30 _ (List.mem_of_getElem? (i := 15) rfl)) rfl rfl dX11_fieldLine_83 ?_
    refine lv_iconst (v := (3 : Int32)) hx hb dX11_fieldLine_86 (by decide) ?_
    refine lv_icmp_ne (tgt := 94) hx hb dX11_fieldLine_87 (by decide) (fun c2 => ?_) (fun c2 => ?_)
    · have h := h.1 c2
      refine lv_iconst (v := (0 : Int32)) hx hb dX11_fieldLine_94 (by decide) ?_
      exact tX11_fieldLine_95 X _ _ _ _ h0 h0 h _ _ _ hP hS (lv_sub hl [0] rfl)
    · have h := h.2 c2
      refine lv_iconst (v := (1 : Int32)) hx hb dX11_fieldLine_90 (by decide) ?_
      refine lv_goto (tgt := 95) hx hb dX11_fieldLine_91 (by decide) ?_
      exact tX11_fieldLine_95 X _ _ _ _ h0 h0 h _ _ _ hP hS (lv_sub hl [0] rfl)
  · have h := h.2 (b2i_f c1)
    refine lv_iconst (v := (0 : Int32)) hx hb dX11_fieldLine_65 (by decide) ?_
    exact rk_zret X kM_len false h hP hS dX11_fieldLine_66
set_option maxRecDepth 100000 in
set_option maxHeartbeats 4000000 in
theorem tX11_fieldLine_57 {p : Program} {l : Launch} {e : Env} {s : State} {m : MethodId} {av : Array Value} {below : List Frame} {meth : Method} {c : Code} {D : va_G} {cy : Nat → ClassId} {B : Nat} (X : kC p s m av meth c cX11_fieldLine 1 (some .boolean) WALL RX11 D cy (AW B 26)) {post : Bool → St → Prop} : ∀ (v0 : Nat) (t0 : Nat) (σ : St), kM[v0]? = some 11 → kM[t0]? = some 11 → wX11_fieldLine_57 post v0 t0 σ → ∀ (H : Heap) (locs : List Loc) (ls : Array Slot), va_P D vwCl (wW cy B kM σ) H → va_S (AW B 26) s.heap H locs → lv_has ls 1 [(0, .ref (B + v0))] → W p l e (rmD 2) s m av below meth c H locs 0 0 (MQ below (Qz post D cy B kM 26) av s 0 0 (AW B 26)) (F0 m 57 ls [.ref (B + t0)]) := by
  obtain ⟨⟨hx, hb, hml, hown, hts⟩, hr, hlk, hK, hN, hZ⟩ := id X
  have hD : ∀ σ, va_D (AW B 26) (wW cy B kM σ) := AW_D kM_len
  intro v0 t0 σ h0 g0 h H locs ls hP hS hl
  unfold wX11_fieldLine_57 at h
  refine lv_iconst (v := (0 : Int32)) hx hb dX11_fieldLine_57 (by decide) ?_
  exact tX11_fieldLine_58 X _ _ _ _ h0 g0 h _ _ _ hP hS (lv_sub hl [0] rfl)
set_option maxRecDepth 100000 in
set_option maxHeartbeats 4000000 in
theorem tX11_fieldLine_18 {p : Program} {l : Launch} {e : Env} {s : State} {m : MethodId} {av : Array Value} {below : List Frame} {meth : Method} {c : Code} {D : va_G} {cy : Nat → ClassId} {B : Nat} (X : kC p s m av meth c cX11_fieldLine 1 (some .boolean) WALL RX11 D cy (AW B 26)) {post : Bool → St → Prop} : ∀ (v0 : Nat) (t0 : Nat) (t1 : Int32) (σ : St), kM[v0]? = some 11 → kM[t0]? = some 11 → wX11_fieldLine_18 post v0 t0 t1 σ → ∀ (H : Heap) (locs : List Loc) (ls : Array Slot), va_P D vwCl (wW cy B kM σ) H → va_S (AW B 26) s.heap H locs → lv_has ls 1 [(0, .ref (B + v0))] → W p l e (rmD 2) s m av below meth c H locs 0 0 (MQ below (Qz post D cy B kM 26) av s 0 0 (AW B 26)) (F0 m 18 ls [.int t1, .ref (B + t0)]) := by
  obtain ⟨⟨hx, hb, hml, hown, hts⟩, hr, hlk, hK, hN, hZ⟩ := id X
  have hD : ∀ σ, va_D (AW B 26) (wW cy B kM σ) := AW_D kM_len
  intro v0 t0 t1 σ h0 g0 h H locs ls hP hS hl
  unfold wX11_fieldLine_18 at h
  refine lv_iconst (v := (1 : Int32)) hx hb dX11_fieldLine_18 (by decide) ?_
  refine rk_callz (va_runV (As := [.int t1, .int (1 : Int32)]) (rest := []) X.1 (mX11_must l D cy B t0 t1 (1 : Int32) σ g0 h) (cwV 2 hts (gW_V (wi_31 _ (List.mem_of_getElem? (i := 18) rfl)) (wi_31 _ (List.mem_of_getElem? (i := 19) rfl)) (wi_31 _ (List.mem_of_getElem? (i := 20) rfl)) (wi_30 _ (List.mem_of_getElem? (i := 9) rfl)) (wi_31 _ (List.mem_of_getElem? (i := 4) rfl))) rfl rfl rfl hd_X11_must ⟨Nat.le_of_ble_eq_true rfl, Nat.le_of_ble_eq_true rfl⟩) (rk_preV X hS hP g0 rfl rfl [.int t1, .int (1 : Int32)]) rfl rfl hl.1 rfl (lv_room (Nat.le_of_ble_eq_true rfl)) dX11_fieldLine_19 ⟨Nat.zero_le _, Nat.zero_le _⟩) hS (fun _ h => h) (fun r1 s1 H locs h hP hS => ?_)
  refine lv_if_eq (tgt := 65) hx hb dX11_fieldLine_22 (by decide) (fun c1 => ?_) (fun c1 => ?_)
  · have h := h.1 (b2i_f c1)
    refine lv_iconst (v := (0 : Int32)) hx hb dX11_fieldLine_65 (by decide) ?_
    exact rk_zret X kM_len false h hP hS dX11_fieldLine_66
  · have h := h.2 (b2i_t c1)
    refine lv_aload_n hx hb dX11_fieldLine_25 rfl (lv_at hl 0 rfl) ?_
    refine lv_aload_n hx hb dX11_fieldLine_26 rfl (lv_at hl 0 rfl) ?_
    refine rk_get X hP (C := RX11) (T := TX11) (N := 44) (ci := 11) wix_11 h0 rfl rfl 7 (by decide) (wi_30 _ (List.mem_of_getElem? (i := 16) rfl)) rfl rfl dX11_fieldLine_27 ?_
    refine lv_i2l hx hb dX11_fieldLine_30 rfl ?_
    refine lv_ldc2 (v := (3 : Int64)) hx hb hown (hts (.constantLong RX11 240 (3 : Int64)) (wi_34 _ (List.mem_of_getElem? (i := 12) rfl))) dX11_fieldLine_31 ?_
    refine lv_ldc2 (v := (97 : Int64)) hx hb hown (hts (.constantLong RX11 122 (97 : Int64)) (wi_30 _ (List.mem_of_getElem? (i := 18) rfl))) dX11_fieldLine_34 ?_
    refine rk_callz (va_runS (As := [.long ((s1.1 v0 7).toInt64), .long (3 : Int64), .long (97 : Int64)]) (rest := [.ref (B + v0)]) X.1 (mX11_within l D cy B ((s1.1 v0 7).toInt64) (3 : Int64) (97 : Int64) s1 h) (va_cwS 3 hts (gW_S (wi_31 _ (List.mem_of_getElem? (i := 2) rfl)) (wi_31 _ (List.mem_of_getElem? (i := 3) rfl)) (wi_30 _ (List.mem_of_getElem? (i := 9) rfl)) (wi_30 _ (List.mem_of_getElem? (i := 2) rfl))) rfl rfl rfl hd_X11_within ⟨Nat.le_of_ble_eq_true rfl, Nat.le_of_ble_eq_true rfl⟩) (rk_preS X hS hP [.long ((s1.1 v0 7).toInt64), .long (3 : Int64), .long (97 : Int64)]) rfl rfl hl.1 rfl (lv_room (Nat.le_of_ble_eq_true rfl)) dX11_fieldLine_37 ⟨Nat.zero_le _, Nat.zero_le _⟩) hS (fun _ h => h) (fun r2 s2 H locs h hP hS => ?_)
    refine lv_if_eq (tgt := 57) hx hb dX11_fieldLine_40 (by decide) (fun c2 => ?_) (fun c2 => ?_)
    · have h := h.1 (b2i_f c2)
      exact tX11_fieldLine_57 X _ _ _ h0 h0 h _ _ _ hP hS (lv_sub hl [0] rfl)
    · have h := h.2 (b2i_t c2)
      refine lv_aload_n hx hb dX11_fieldLine_43 rfl (lv_at hl 0 rfl) ?_
      refine rk_get X hP (C := RX11) (T := TX11) (N := 44) (ci := 11) wix_11 h0 rfl rfl 7 (by decide) (wi_30 _ (List.mem_of_getElem? (i := 16) rfl)) rfl rfl dX11_fieldLine_44 ?_
      refine rk_callz (va_runS (As := [.int (s2.1 v0 7)]) (rest := [.ref (B + v0)]) X.1 (mX11_isPrime l D cy B (s2.1 v0 7) s2 h) (va_cwS 1 hts (gW_S (wi_34 _ (List.mem_of_getElem? (i := 13) rfl)) (wi_34 _ (List.mem_of_getElem? (i := 14) rfl)) (wi_30 _ (List.mem_of_getElem? (i := 9) rfl)) (wi_34 _ (List.mem_of_getElem? (i := 11) rfl))) rfl rfl rfl hd_X11_isPrime ⟨Nat.le_of_ble_eq_true rfl, Nat.le_of_ble_eq_true rfl⟩) (rk_preS X hS hP [.int (s2.1 v0 7)]) rfl rfl hl.1 rfl (lv_room (Nat.le_of_ble_eq_true rfl)) dX11_fieldLine_47 ⟨Nat.zero_le _, Nat.zero_le _⟩) hS (fun _ h => h) (fun r3 s3 H locs h hP hS => ?_)
      refine lv_if_eq (tgt := 57) hx hb dX11_fieldLine_50 (by decide) (fun c3 => ?_) (fun c3 => ?_)
      · have h := h.1 (b2i_f c3)
        exact tX11_fieldLine_57 X _ _ _ h0 h0 h _ _ _ hP hS (lv_sub hl [0] rfl)
      · have h := h.2 (b2i_t c3)
        refine lv_iconst (v := (1 : Int32)) hx hb dX11_fieldLine_53 (by decide) ?_
        refine lv_goto (tgt := 58) hx hb dX11_fieldLine_54 (by decide) ?_
        exact tX11_fieldLine_58 X _ _ _ _ h0 h0 h _ _ _ hP hS (lv_sub hl [0] rfl)
set_option maxRecDepth 100000 in
set_option maxHeartbeats 4000000 in
theorem mX11_fieldLine (l : Launch) (D : va_G) (cy : Nat → ClassId) (B : Nat) (v0 : Nat) (σ : St) (h0 : kM[v0]? = some 11) {post : Bool → St → Prop} (h : wX11_fieldLine v0 σ post) : Met l yX11_fieldLine (Cond.code yX11_fieldLine cX11_fieldLine 1 (some .boolean) :: WALL) (rmD 2) (PcW D cy B kM σ [.ref (B + v0)]) (Qz post D cy B kM 26) 0 0 (AW B 26) := by
  refine Met.ofK (cc := cX11_fieldLine) (maxL := 1) (ret := (some .boolean)) (by decide +kernel) rfl kM_len ?_
  intro p e s m below meth c X hP
  obtain ⟨⟨hx, hb, hml, hown, hts⟩, hr, hlk, hK, hN, hZ⟩ := id X
  have hD : ∀ σ, va_D (AW B 26) (wW cy B kM σ) := AW_D kM_len
  have hS : va_S (AW B 26) s.heap s.heap [] := va_S.rf
  have hl := lv_entry ([.ref (B + v0)]) (n := 1) (Nat.le_of_ble_eq_true rfl)
  rw [lg_entry_eq]
  generalize (lg_sl ([.ref (B + v0)]) ++ List.replicate (1 - (lg_sl ([.ref (B + v0)])).length) Slot.unset).toArray = ls at hl ⊢
  have hl : lv_has ls 1 [(0, .ref (B + v0))] := hl
  unfold wX11_fieldLine at h
  refine lv_aload_n hx hb dX11_fieldLine_0 rfl (lv_at hl 0 rfl) ?_
  refine rk_callv (va_runV (As := []) (rest := []) X.1 (mX11_steps l D cy B v0 σ h0 h) (cwV 0 hts (gW_V (wi_31 _ (List.mem_of_getElem? (i := 21) rfl)) (wi_31 _ (List.mem_of_getElem? (i := 22) rfl)) (wi_31 _ (List.mem_of_getElem? (i := 23) rfl)) (wi_30 _ (List.mem_of_getElem? (i := 9) rfl)) (wi_30 _ (List.mem_of_getElem? (i := 12) rfl))) rfl rfl rfl hd_X11_steps ⟨Nat.le_of_ble_eq_true rfl, Nat.le_of_ble_eq_true rfl⟩) (rk_preV X hS hP h0 rfl rfl []) rfl rfl hl.1 rfl (lv_room (Nat.le_of_ble_eq_true rfl)) dX11_fieldLine_1 ⟨Nat.zero_le _, Nat.zero_le _⟩) hS (fun _ h => h) (fun s1 H locs h hP hS => ?_)
  refine lv_aload_n hx hb dX11_fieldLine_4 rfl (lv_at hl 0 rfl) ?_
  refine lv_aload_n hx hb dX11_fieldLine_5 rfl (lv_at hl 0 rfl) ?_
  refine rk_get X hP (C := RX11) (T := TX11) (N := 44) (ci := 11) wix_11 h0 rfl rfl 6 (by decide) (wi_30 _ (List.mem_of_getElem? (i := 15) rfl)) rfl rfl dX11_fieldLine_6 ?_
  refine lv_iconst (v := (2 : Int32)) hx hb dX11_fieldLine_9 (by decide) ?_
  refine lv_icmp_ne (tgt := 17) hx hb dX11_fieldLine_10 (by decide) (fun c1 => ?_) (fun c1 => ?_)
  · have h := h.1 c1
    refine lv_iconst (v := (0 : Int32)) hx hb dX11_fieldLine_17 (by decide) ?_
    exact tX11_fieldLine_18 X _ _ _ _ h0 h0 h _ _ _ hP hS (lv_sub hl [0] rfl)
  · have h := h.2 c1
    refine lv_iconst (v := (1 : Int32)) hx hb dX11_fieldLine_13 (by decide) ?_
    refine lv_goto (tgt := 18) hx hb dX11_fieldLine_14 (by decide) ?_
    exact tX11_fieldLine_18 X _ _ _ _ h0 h0 h _ _ _ hP hS (lv_sub hl [0] rfl)

theorem hd_X11_copies : yX11_copies.cls = RX11 ∧ yX11_copies.cls ≠ "java/lang/invoke/MethodHandle" ∧ yX11_copies.cls ≠ "java/lang/invoke/VarHandle" ∧ (parseMethodDescriptor yX11_copies.desc).map (fun d => d.parameters.length) = some 0 := by decide +kernel
set_option maxRecDepth 100000 in
set_option maxHeartbeats 4000000 in
theorem tX11_copies_291 {p : Program} {l : Launch} {e : Env} {s : State} {m : MethodId} {av : Array Value} {below : List Frame} {meth : Method} {c : Code} {D : va_G} {cy : Nat → ClassId} {B : Nat} (X : kC p s m av meth c cX11_copies 3 none WALL RX11 D cy (AW B 26)) {post : St → Prop} : ∀ (n : Nat) (v0 : Nat) (v1 : Int32) (σ : St), kM[v0]? = some 11 → wX11_copies_291 post n v0 v1 σ → ∀ (H : Heap) (locs : List Loc) (ls : Array Slot), va_P D vwCl (wW cy B kM σ) H → va_S (AW B 26) s.heap H locs → lv_has ls 3 [(0, .ref (B + v0)), (1, .int v1)] → W p l e (rmD 0) s m av below meth c H locs 0 0 (MQ below (va_Qv post (BW D cy B kM) (AW B 26)) av s 0 0 (AW B 26)) (F0 m 291 ls []) := by
  obtain ⟨⟨hx, hb, hml, hown, hts⟩, hr, hlk, hK, hN, hZ⟩ := id X
  have hD : ∀ σ, va_D (AW B 26) (wW cy B kM σ) := AW_D kM_len
  intro n
  induction n with
  | zero => intro v0 v1 σ h0 h; exact absurd h id
  | succ n ih =>
    intro v0 v1 σ h0 h H locs ls hP hS hl
    rw [wX11_copies_291] at h
    refine lv_iload_n hx hb dX11_copies_291 rfl (lv_at hl 1 rfl) ?_
    refine lv_iconst (v := (2 : Int32)) hx hb dX11_copies_292 (by decide) ?_
    refine lv_aload_n hx hb dX11_copies_293 rfl (lv_at hl 0 rfl) ?_
    refine rk_get X hP (C := RX11) (T := TX11) (N := 44) (ci := 11) wix_11 h0 rfl rfl 24 (by decide) (wi_33 _ (List.mem_of_getElem? (i := 13) rfl)) rfl rfl dX11_copies_294 ?_
    refine lv_imul hx hb dX11_copies_297 ?_
    refine lv_icmp_ge (tgt := 322) hx hb dX11_copies_298 (by decide) (fun c1 => ?_) (fun c1 => ?_)
    · have h := h.1 c1
      refine lv_aload_n hx hb dX11_copies_322 rfl (lv_at hl 0 rfl) ?_
      refine rk_get X hP (C := RX11) (T := TX11) (N := 44) (ci := 11) wix_11 h0 rfl rfl 30 (by decide) (wi_29 _ (List.mem_of_getElem? (i := 13) rfl)) rfl rfl dX11_copies_323 ?_
      refine lv_bipush (v := (116 : Int32)) hx hb dX11_copies_326 (by decide) ?_
      refine lv_aload_n hx hb dX11_copies_328 rfl (lv_at hl 0 rfl) ?_
      refine rk_get X hP (C := RX11) (T := TX11) (N := 44) (ci := 11) wix_11 h0 rfl rfl 24 (by decide) (wi_33 _ (List.mem_of_getElem? (i := 13) rfl)) rfl rfl dX11_copies_329 ?_
      have b1 : vp_in (116 : Int32) 117 := by unfold vp_in; decide
      refine rk_iast X hP hD hS (n := 117) (klM_X11_30 h0) (fun _ _ => rfl) b1 dX11_copies_332 (fun H locs hP hS => ?_)
      obtain ⟨s1, es1⟩ : ∃ z : St, z = u1 σ (v0 + 16) (116 : Int32).toNatClampNeg (σ.1 v0 24) := ⟨_, rfl⟩
      rw [← es1] at hP
      have h := h s1 es1
      exact rk_vret X kM_len h hP hS dX11_copies_333
    · have h := h.2 c1
      refine lv_aload_n hx hb dX11_copies_301 rfl (lv_at hl 0 rfl) ?_
      refine rk_get X hP (C := RX11) (T := TX11) (N := 44) (ci := 11) wix_11 h0 rfl rfl 30 (by decide) (wi_29 _ (List.mem_of_getElem? (i := 13) rfl)) rfl rfl dX11_copies_302 ?_
      refine lv_bipush (v := (96 : Int32)) hx hb dX11_copies_305 (by decide) ?_
      refine lv_iload_n hx hb dX11_copies_307 rfl (lv_at hl 1 rfl) ?_
      refine lv_iadd hx hb dX11_copies_308 ?_
      refine lv_aload_n hx hb dX11_copies_309 rfl (lv_at hl 0 rfl) ?_
      refine rk_get X hP (C := RX11) (T := TX11) (N := 44) (ci := 11) wix_11 h0 rfl rfl 25 (by decide) (wi_29 _ (List.mem_of_getElem? (i := 10) rfl)) rfl rfl dX11_copies_310 ?_
      refine lv_iload_n hx hb dX11_copies_313 rfl (lv_at hl 1 rfl) ?_
      obtain ⟨b2, h⟩ := h
      refine rk_iald X hP (n := 20) (klM_X11_25 h0) (fun _ _ => rfl) b2 dX11_copies_314 ?_
      obtain ⟨b3, h⟩ := h
      refine rk_iast X hP hD hS (n := 117) (klM_X11_30 h0) (fun _ _ => rfl) b3 dX11_copies_315 (fun H locs hP hS => ?_)
      obtain ⟨s2, es2⟩ : ∃ z : St, z = u1 σ (v0 + 16) ((96 : Int32) + v1).toNatClampNeg (σ.1 (v0 + 13) v1.toNatClampNeg) := ⟨_, rfl⟩
      rw [← es2] at hP
      have h := h s2 es2
      obtain ⟨x1, ex1⟩ : ∃ y : Int32, y = v1 + (1 : Int32) := ⟨_, rfl⟩
      have h := h x1 ex1
      refine lv_iinc (v := x1) (lv' := [(1, .int x1), (0, .ref (B + v0))]) hx hb dX11_copies_316 hl (k := 1) rfl (by rw [ex1]; rfl) (by decide) rfl (fun ls hl => ?_)
      refine lv_goto (tgt := 291) hx hb dX11_copies_319 (by decide) ?_
      exact ih _ _ _ h0 h _ _ _ hP hS (lv_sub hl [1, 0] rfl)
set_option maxRecDepth 100000 in
set_option maxHeartbeats 4000000 in
theorem tX11_copies_244 {p : Program} {l : Launch} {e : Env} {s : State} {m : MethodId} {av : Array Value} {below : List Frame} {meth : Method} {c : Code} {D : va_G} {cy : Nat → ClassId} {B : Nat} (X : kC p s m av meth c cX11_copies 3 none WALL RX11 D cy (AW B 26)) {post : St → Prop} {R202 : Nat → Int32 → St → Prop} (hR202 : ∀ (v0 : Nat) (v1 : Int32) (σ : St), kM[v0]? = some 11 → R202 v0 v1 σ → ∀ (H : Heap) (locs : List Loc) (ls : Array Slot), va_P D vwCl (wW cy B kM σ) H → va_S (AW B 26) s.heap H locs → lv_has ls 3 [(0, .ref (B + v0)), (1, .int v1)] → W p l e (rmD 0) s m av below meth c H locs 0 0 (MQ below (va_Qv post (BW D cy B kM) (AW B 26)) av s 0 0 (AW B 26)) (F0 m 202 ls [])) : ∀ (n : Nat) (v0 : Nat) (v1 : Int32) (v2 : Int32) (σ : St), kM[v0]? = some 11 → wX11_copies_244 post R202 n v0 v1 v2 σ → ∀ (H : Heap) (locs : List Loc) (ls : Array Slot), va_P D vwCl (wW cy B kM σ) H → va_S (AW B 26) s.heap H locs → lv_has ls 3 [(0, .ref (B + v0)), (1, .int v1), (2, .int v2)] → W p l e (rmD 0) s m av below meth c H locs 0 0 (MQ below (va_Qv post (BW D cy B kM) (AW B 26)) av s 0 0 (AW B 26)) (F0 m 244 ls []) := by
  obtain ⟨⟨hx, hb, hml, hown, hts⟩, hr, hlk, hK, hN, hZ⟩ := id X
  have hD : ∀ σ, va_D (AW B 26) (wW cy B kM σ) := AW_D kM_len
  intro n
  induction n with
  | zero => intro v0 v1 v2 σ h0 h; exact absurd h id
  | succ n ih =>
    intro v0 v1 v2 σ h0 h H locs ls hP hS hl
    rw [wX11_copies_244] at h
    refine lv_iload_n hx hb dX11_copies_244 rfl (lv_at hl 2 rfl) ?_
    refine lv_bipush (v := (16 : Int32)) hx hb dX11_copies_245 (by decide) ?_
    refine lv_icmp_ge (tgt := 283) hx hb dX11_copies_247 (by decide) (fun c1 => ?_) (fun c1 => ?_)
    · have h := h.1 c1
      obtain ⟨x1, ex1⟩ : ∃ y : Int32, y = v1 + (1 : Int32) := ⟨_, rfl⟩
      have h := h x1 ex1
      refine lv_iinc (v := x1) (lv' := [(1, .int x1), (0, .ref (B + v0)), (2, .int v2)]) hx hb dX11_copies_283 hl (k := 1) rfl (by rw [ex1]; rfl) (by decide) rfl (fun ls hl => ?_)
      refine lv_goto (tgt := 202) hx hb dX11_copies_286 (by decide) ?_
      exact hR202 _ _ _ h0 h _ _ _ hP hS (lv_sub hl [1, 0] rfl)
    · have h := h.2 c1
      refine lv_aload_n hx hb dX11_copies_250 rfl (lv_at hl 0 rfl) ?_
      refine rk_get X hP (C := RX11) (T := TX11) (N := 44) (ci := 11) wix_11 h0 rfl rfl 30 (by decide) (wi_29 _ (List.mem_of_getElem? (i := 13) rfl)) rfl rfl dX11_copies_251 ?_
      refine lv_bipush (v := (16 : Int32)) hx hb dX11_copies_254 (by decide) ?_
      refine lv_iload_n hx hb dX11_copies_256 rfl (lv_at hl 1 rfl) ?_
      refine lv_imul hx hb dX11_copies_257 ?_
      refine lv_iload_n hx hb dX11_copies_258 rfl (lv_at hl 2 rfl) ?_
      refine lv_iadd hx hb dX11_copies_259 ?_
      refine lv_aload_n hx hb dX11_copies_260 rfl (lv_at hl 0 rfl) ?_
      refine rk_get X hP (C := RX11) (T := TX11) (N := 44) (ci := 11) wix_11 h0 rfl rfl 21 (by decide) (wi_29 _ (List.mem_of_getElem? (i := 7) rfl)) rfl rfl dX11_copies_261 ?_
      refine lv_bipush (v := (16 : Int32)) hx hb dX11_copies_264 (by decide) ?_
      refine lv_aload_n hx hb dX11_copies_266 rfl (lv_at hl 0 rfl) ?_
      refine rk_get X hP (C := RX11) (T := TX11) (N := 44) (ci := 11) wix_11 h0 rfl rfl 23 (by decide) (wi_29 _ (List.mem_of_getElem? (i := 9) rfl)) rfl rfl dX11_copies_267 ?_
      refine lv_iload_n hx hb dX11_copies_270 rfl (lv_at hl 1 rfl) ?_
      obtain ⟨b1, h⟩ := h
      refine rk_iald X hP (n := 12) (klM_X11_23 h0) (fun _ _ => rfl) b1 dX11_copies_271 ?_
      refine lv_imul hx hb dX11_copies_272 ?_
      refine lv_iload_n hx hb dX11_copies_273 rfl (lv_at hl 2 rfl) ?_
      refine lv_iadd hx hb dX11_copies_274 ?_
      refine lv_topi (fun x2 ex2 => ?_)
      have h := h x2 ex2
      obtain ⟨b2, h⟩ := h
      refine rk_iald X hP (n := 256) (klM_X11_21 h0) (fun _ _ => rfl) b2 dX11_copies_275 ?_
      obtain ⟨b3, h⟩ := h
      refine rk_iast X hP hD hS (n := 117) (klM_X11_30 h0) (fun _ _ => rfl) b3 dX11_copies_276 (fun H locs hP hS => ?_)
      obtain ⟨s1, es1⟩ : ∃ z : St, z = u1 σ (v0 + 16) (((16 : Int32) * v1) + v2).toNatClampNeg (σ.1 (v0 + 10) x2.toNatClampNeg) := ⟨_, rfl⟩
      rw [← es1] at hP
      have h := h s1 es1
      obtain ⟨x3, ex3⟩ : ∃ y : Int32, y = v2 + (1 : Int32) := ⟨_, rfl⟩
      have h := h x3 ex3
      refine lv_iinc (v := x3) (lv' := [(2, .int x3), (0, .ref (B + v0)), (1, .int v1)]) hx hb dX11_copies_277 hl (k := 2) rfl (by rw [ex3]; rfl) (by decide) rfl (fun ls hl => ?_)
      refine lv_goto (tgt := 244) hx hb dX11_copies_280 (by decide) ?_
      exact ih _ _ _ _ h0 h _ _ _ hP hS (lv_sub hl [1, 2, 0] rfl)
set_option maxRecDepth 100000 in
set_option maxHeartbeats 4000000 in
theorem tX11_copies_202 {p : Program} {l : Launch} {e : Env} {s : State} {m : MethodId} {av : Array Value} {below : List Frame} {meth : Method} {c : Code} {D : va_G} {cy : Nat → ClassId} {B : Nat} (X : kC p s m av meth c cX11_copies 3 none WALL RX11 D cy (AW B 26)) {post : St → Prop} : ∀ (n : Nat) (v0 : Nat) (v1 : Int32) (σ : St), kM[v0]? = some 11 → wX11_copies_202 post n v0 v1 σ → ∀ (H : Heap) (locs : List Loc) (ls : Array Slot), va_P D vwCl (wW cy B kM σ) H → va_S (AW B 26) s.heap H locs → lv_has ls 3 [(0, .ref (B + v0)), (1, .int v1)] → W p l e (rmD 0) s m av below meth c H locs 0 0 (MQ below (va_Qv post (BW D cy B kM) (AW B 26)) av s 0 0 (AW B 26)) (F0 m 202 ls []) := by
  obtain ⟨⟨hx, hb, hml, hown, hts⟩, hr, hlk, hK, hN, hZ⟩ := id X
  have hD : ∀ σ, va_D (AW B 26) (wW cy B kM σ) := AW_D kM_len
  intro n
  induction n with
  | zero => intro v0 v1 σ h0 h; exact absurd h id
  | succ n ih =>
    intro v0 v1 σ h0 h H locs ls hP hS hl
    rw [wX11_copies_202] at h
    refine lv_iload_n hx hb dX11_copies_202 rfl (lv_at hl 1 rfl) ?_
    refine lv_aload_n hx hb dX11_copies_203 rfl (lv_at hl 0 rfl) ?_
    refine rk_get X hP (C := RX11) (T := TX11) (N := 44) (ci := 11) wix_11 h0 rfl rfl 16 (by decide) (wi_29 _ (List.mem_of_getElem? (i := 1) rfl)) rfl rfl dX11_copies_204 ?_
    refine lv_iconst (v := (0 : Int32)) hx hb dX11_copies_207 (by decide) ?_
    have b1 : vp_in (0 : Int32) 2 := by unfold vp_in; decide
    refine rk_iald X hP (n := 2) (klM_X11_16 h0) (fun _ _ => rfl) b1 dX11_copies_208 ?_
    refine lv_icmp_ge (tgt := 289) hx hb dX11_copies_209 (by decide) (fun c1 => ?_) (fun c1 => ?_)
    · have h := h.1 c1
      refine lv_iconst (v := (0 : Int32)) hx hb dX11_copies_289 (by decide) ?_
      refine lv_istore_n (lv' := [(1, .int (0 : Int32)), (0, .ref (B + v0))]) hx hb dX11_copies_290 rfl hl (by decide) rfl (fun ls hl => ?_)
      obtain ⟨j, h⟩ := h
      exact tX11_copies_291 X j _ _ _ h0 h _ _ _ hP hS (lv_sub hl [1, 0] rfl)
    · have h := h.2 c1
      refine lv_aload_n hx hb dX11_copies_212 rfl (lv_at hl 0 rfl) ?_
      refine rk_get X hP (C := RX11) (T := TX11) (N := 44) (ci := 11) wix_11 h0 rfl rfl 19 (by decide) (wi_29 _ (List.mem_of_getElem? (i := 5) rfl)) rfl rfl dX11_copies_213 ?_
      refine lv_iload_n hx hb dX11_copies_216 rfl (lv_at hl 1 rfl) ?_
      refine lv_aload_n hx hb dX11_copies_217 rfl (lv_at hl 0 rfl) ?_
      refine rk_get X hP (C := RX11) (T := TX11) (N := 44) (ci := 11) wix_11 h0 rfl rfl 19 (by decide) (wi_29 _ (List.mem_of_getElem? (i := 5) rfl)) rfl rfl dX11_copies_218 ?_
      refine lv_bipush (v := (6 : Int32)) hx hb dX11_copies_221 (by decide) ?_
      refine lv_iload_n hx hb dX11_copies_223 rfl (lv_at hl 1 rfl) ?_
      refine lv_iadd hx hb dX11_copies_224 ?_
      refine lv_topi (fun x1 ex1 => ?_)
      have h := h x1 ex1
      obtain ⟨b2, h⟩ := h
      refine rk_lald X hP (n := 12) (klM_X11_19 h0) (fun _ _ => rfl) b2 dX11_copies_225 ?_
      obtain ⟨b3, h⟩ := h
      refine rk_last X hP hD hS (n := 12) (klM_X11_19 h0) (fun _ _ => rfl) b3 dX11_copies_226 (fun H locs hP hS => ?_)
      obtain ⟨s1, es1⟩ : ∃ z : St, z = u2 σ (v0 + 8) v1.toNatClampNeg (σ.2 (v0 + 8) x1.toNatClampNeg) := ⟨_, rfl⟩
      rw [← es1] at hP
      have h := h s1 es1
      refine lv_aload_n hx hb dX11_copies_227 rfl (lv_at hl 0 rfl) ?_
      refine rk_get X hP (C := RX11) (T := TX11) (N := 44) (ci := 11) wix_11 h0 rfl rfl 23 (by decide) (wi_29 _ (List.mem_of_getElem? (i := 9) rfl)) rfl rfl dX11_copies_228 ?_
      refine lv_iload_n hx hb dX11_copies_231 rfl (lv_at hl 1 rfl) ?_
      refine lv_aload_n hx hb dX11_copies_232 rfl (lv_at hl 0 rfl) ?_
      refine rk_get X hP (C := RX11) (T := TX11) (N := 44) (ci := 11) wix_11 h0 rfl rfl 23 (by decide) (wi_29 _ (List.mem_of_getElem? (i := 9) rfl)) rfl rfl dX11_copies_233 ?_
      refine lv_bipush (v := (6 : Int32)) hx hb dX11_copies_236 (by decide) ?_
      refine lv_iload_n hx hb dX11_copies_238 rfl (lv_at hl 1 rfl) ?_
      refine lv_iadd hx hb dX11_copies_239 ?_
      refine lv_topi (fun x2 ex2 => ?_)
      have h := h x2 ex2
      obtain ⟨b4, h⟩ := h
      refine rk_iald X hP (n := 12) (klM_X11_23 h0) (fun _ _ => rfl) b4 dX11_copies_240 ?_
      obtain ⟨b5, h⟩ := h
      refine rk_iast X hP hD hS (n := 12) (klM_X11_23 h0) (fun _ _ => rfl) b5 dX11_copies_241 (fun H locs hP hS => ?_)
      obtain ⟨s2, es2⟩ : ∃ z : St, z = u1 s1 (v0 + 12) v1.toNatClampNeg (s1.1 (v0 + 12) x2.toNatClampNeg) := ⟨_, rfl⟩
      rw [← es2] at hP
      have h := h s2 es2
      refine lv_iconst (v := (0 : Int32)) hx hb dX11_copies_242 (by decide) ?_
      refine lv_istore_n (lv' := [(2, .int (0 : Int32)), (0, .ref (B + v0)), (1, .int v1)]) hx hb dX11_copies_243 rfl hl (by decide) rfl (fun ls hl => ?_)
      obtain ⟨j, h⟩ := h
      exact tX11_copies_244 X ih j _ _ _ _ h0 h _ _ _ hP hS (lv_sub hl [1, 2, 0] rfl)
set_option maxRecDepth 100000 in
set_option maxHeartbeats 4000000 in
theorem tX11_copies_181 {p : Program} {l : Launch} {e : Env} {s : State} {m : MethodId} {av : Array Value} {below : List Frame} {meth : Method} {c : Code} {D : va_G} {cy : Nat → ClassId} {B : Nat} (X : kC p s m av meth c cX11_copies 3 none WALL RX11 D cy (AW B 26)) {post : St → Prop} : ∀ (n : Nat) (v0 : Nat) (v1 : Int32) (σ : St), kM[v0]? = some 11 → wX11_copies_181 post n v0 v1 σ → ∀ (H : Heap) (locs : List Loc) (ls : Array Slot), va_P D vwCl (wW cy B kM σ) H → va_S (AW B 26) s.heap H locs → lv_has ls 3 [(0, .ref (B + v0)), (1, .int v1)] → W p l e (rmD 0) s m av below meth c H locs 0 0 (MQ below (va_Qv post (BW D cy B kM) (AW B 26)) av s 0 0 (AW B 26)) (F0 m 181 ls []) := by
  obtain ⟨⟨hx, hb, hml, hown, hts⟩, hr, hlk, hK, hN, hZ⟩ := id X
  have hD : ∀ σ, va_D (AW B 26) (wW cy B kM σ) := AW_D kM_len
  intro n
  induction n with
  | zero => intro v0 v1 σ h0 h; exact absurd h id
  | succ n ih =>
    intro v0 v1 σ h0 h H locs ls hP hS hl
    rw [wX11_copies_181] at h
    refine lv_iload_n hx hb dX11_copies_181 rfl (lv_at hl 1 rfl) ?_
    refine lv_bipush (v := (117 : Int32)) hx hb dX11_copies_182 (by decide) ?_
    refine lv_icmp_ge (tgt := 200) hx hb dX11_copies_184 (by decide) (fun c1 => ?_) (fun c1 => ?_)
    · have h := h.1 c1
      refine lv_iconst (v := (0 : Int32)) hx hb dX11_copies_200 (by decide) ?_
      refine lv_istore_n (lv' := [(1, .int (0 : Int32)), (0, .ref (B + v0))]) hx hb dX11_copies_201 rfl hl (by decide) rfl (fun ls hl => ?_)
      obtain ⟨j, h⟩ := h
      exact tX11_copies_202 X j _ _ _ h0 h _ _ _ hP hS (lv_sub hl [1, 0] rfl)
    · have h := h.2 c1
      refine lv_aload_n hx hb dX11_copies_187 rfl (lv_at hl 0 rfl) ?_
      refine rk_get X hP (C := RX11) (T := TX11) (N := 44) (ci := 11) wix_11 h0 rfl rfl 30 (by decide) (wi_29 _ (List.mem_of_getElem? (i := 13) rfl)) rfl rfl dX11_copies_188 ?_
      refine lv_iload_n hx hb dX11_copies_191 rfl (lv_at hl 1 rfl) ?_
      refine lv_iconst (v := (0 : Int32)) hx hb dX11_copies_192 (by decide) ?_
      obtain ⟨b1, h⟩ := h
      refine rk_iast X hP hD hS (n := 117) (klM_X11_30 h0) (fun _ _ => rfl) b1 dX11_copies_193 (fun H locs hP hS => ?_)
      obtain ⟨s1, es1⟩ : ∃ z : St, z = u1 σ (v0 + 16) v1.toNatClampNeg (0 : Int32) := ⟨_, rfl⟩
      rw [← es1] at hP
      have h := h s1 es1
      obtain ⟨x1, ex1⟩ : ∃ y : Int32, y = v1 + (1 : Int32) := ⟨_, rfl⟩
      have h := h x1 ex1
      refine lv_iinc (v := x1) (lv' := [(1, .int x1), (0, .ref (B + v0))]) hx hb dX11_copies_194 hl (k := 1) rfl (by rw [ex1]; rfl) (by decide) rfl (fun ls hl => ?_)
      refine lv_goto (tgt := 181) hx hb dX11_copies_197 (by decide) ?_
      exact ih _ _ _ h0 h _ _ _ hP hS (lv_sub hl [1, 0] rfl)
set_option maxRecDepth 100000 in
set_option maxHeartbeats 4000000 in
theorem tX11_copies_152 {p : Program} {l : Launch} {e : Env} {s : State} {m : MethodId} {av : Array Value} {below : List Frame} {meth : Method} {c : Code} {D : va_G} {cy : Nat → ClassId} {B : Nat} (X : kC p s m av meth c cX11_copies 3 none WALL RX11 D cy (AW B 26)) {post : St → Prop} : ∀ (n : Nat) (v0 : Nat) (v1 : Int32) (σ : St), kM[v0]? = some 11 → wX11_copies_152 post n v0 v1 σ → ∀ (H : Heap) (locs : List Loc) (ls : Array Slot), va_P D vwCl (wW cy B kM σ) H → va_S (AW B 26) s.heap H locs → lv_has ls 3 [(0, .ref (B + v0)), (1, .int v1)] → W p l e (rmD 0) s m av below meth c H locs 0 0 (MQ below (va_Qv post (BW D cy B kM) (AW B 26)) av s 0 0 (AW B 26)) (F0 m 152 ls []) := by
  obtain ⟨⟨hx, hb, hml, hown, hts⟩, hr, hlk, hK, hN, hZ⟩ := id X
  have hD : ∀ σ, va_D (AW B 26) (wW cy B kM σ) := AW_D kM_len
  intro n
  induction n with
  | zero => intro v0 v1 σ h0 h; exact absurd h id
  | succ n ih =>
    intro v0 v1 σ h0 h H locs ls hP hS hl
    rw [wX11_copies_152] at h
    refine lv_iload_n hx hb dX11_copies_152 rfl (lv_at hl 1 rfl) ?_
    refine lv_bipush (v := (20 : Int32)) hx hb dX11_copies_153 (by decide) ?_
    refine lv_icmp_ge (tgt := 179) hx hb dX11_copies_155 (by decide) (fun c1 => ?_) (fun c1 => ?_)
    · have h := h.1 c1
      refine lv_iconst (v := (0 : Int32)) hx hb dX11_copies_179 (by decide) ?_
      refine lv_istore_n (lv' := [(1, .int (0 : Int32)), (0, .ref (B + v0))]) hx hb dX11_copies_180 rfl hl (by decide) rfl (fun ls hl => ?_)
      obtain ⟨j, h⟩ := h
      exact tX11_copies_181 X j _ _ _ h0 h _ _ _ hP hS (lv_sub hl [1, 0] rfl)
    · have h := h.2 c1
      refine lv_aload_n hx hb dX11_copies_158 rfl (lv_at hl 0 rfl) ?_
      refine rk_get X hP (C := RX11) (T := TX11) (N := 44) (ci := 11) wix_11 h0 rfl rfl 22 (by decide) (wi_29 _ (List.mem_of_getElem? (i := 8) rfl)) rfl rfl dX11_copies_159 ?_
      refine lv_iload_n hx hb dX11_copies_162 rfl (lv_at hl 1 rfl) ?_
      refine lv_aload_n hx hb dX11_copies_163 rfl (lv_at hl 0 rfl) ?_
      refine rk_get X hP (C := RX11) (T := TX11) (N := 44) (ci := 11) wix_11 h0 rfl rfl 22 (by decide) (wi_29 _ (List.mem_of_getElem? (i := 8) rfl)) rfl rfl dX11_copies_164 ?_
      refine lv_bipush (v := (20 : Int32)) hx hb dX11_copies_167 (by decide) ?_
      refine lv_iload_n hx hb dX11_copies_169 rfl (lv_at hl 1 rfl) ?_
      refine lv_iadd hx hb dX11_copies_170 ?_
      refine lv_topi (fun x1 ex1 => ?_)
      have h := h x1 ex1
      obtain ⟨b1, h⟩ := h
      refine rk_iald X hP (n := 40) (klM_X11_22 h0) (fun _ _ => rfl) b1 dX11_copies_171 ?_
      obtain ⟨b2, h⟩ := h
      refine rk_iast X hP hD hS (n := 40) (klM_X11_22 h0) (fun _ _ => rfl) b2 dX11_copies_172 (fun H locs hP hS => ?_)
      obtain ⟨s1, es1⟩ : ∃ z : St, z = u1 σ (v0 + 11) v1.toNatClampNeg (σ.1 (v0 + 11) x1.toNatClampNeg) := ⟨_, rfl⟩
      rw [← es1] at hP
      have h := h s1 es1
      obtain ⟨x2, ex2⟩ : ∃ y : Int32, y = v1 + (1 : Int32) := ⟨_, rfl⟩
      have h := h x2 ex2
      refine lv_iinc (v := x2) (lv' := [(1, .int x2), (0, .ref (B + v0))]) hx hb dX11_copies_173 hl (k := 1) rfl (by rw [ex2]; rfl) (by decide) rfl (fun ls hl => ?_)
      refine lv_goto (tgt := 152) hx hb dX11_copies_176 (by decide) ?_
      exact ih _ _ _ h0 h _ _ _ hP hS (lv_sub hl [1, 0] rfl)
set_option maxRecDepth 100000 in
set_option maxHeartbeats 4000000 in
theorem tX11_copies_125 {p : Program} {l : Launch} {e : Env} {s : State} {m : MethodId} {av : Array Value} {below : List Frame} {meth : Method} {c : Code} {D : va_G} {cy : Nat → ClassId} {B : Nat} (X : kC p s m av meth c cX11_copies 3 none WALL RX11 D cy (AW B 26)) {post : St → Prop} : ∀ (n : Nat) (v0 : Nat) (v1 : Int32) (σ : St), kM[v0]? = some 11 → wX11_copies_125 post n v0 v1 σ → ∀ (H : Heap) (locs : List Loc) (ls : Array Slot), va_P D vwCl (wW cy B kM σ) H → va_S (AW B 26) s.heap H locs → lv_has ls 3 [(0, .ref (B + v0)), (1, .int v1)] → W p l e (rmD 0) s m av below meth c H locs 0 0 (MQ below (va_Qv post (BW D cy B kM) (AW B 26)) av s 0 0 (AW B 26)) (F0 m 125 ls []) := by
  obtain ⟨⟨hx, hb, hml, hown, hts⟩, hr, hlk, hK, hN, hZ⟩ := id X
  have hD : ∀ σ, va_D (AW B 26) (wW cy B kM σ) := AW_D kM_len
  intro n
  induction n with
  | zero => intro v0 v1 σ h0 h; exact absurd h id
  | succ n ih =>
    intro v0 v1 σ h0 h H locs ls hP hS hl
    rw [wX11_copies_125] at h
    refine lv_iload_n hx hb dX11_copies_125 rfl (lv_at hl 1 rfl) ?_
    refine lv_iconst (v := (5 : Int32)) hx hb dX11_copies_126 (by decide) ?_
    refine lv_icmp_ge (tgt := 150) hx hb dX11_copies_127 (by decide) (fun c1 => ?_) (fun c1 => ?_)
    · have h := h.1 c1
      refine lv_iconst (v := (0 : Int32)) hx hb dX11_copies_150 (by decide) ?_
      refine lv_istore_n (lv' := [(1, .int (0 : Int32)), (0, .ref (B + v0))]) hx hb dX11_copies_151 rfl hl (by decide) rfl (fun ls hl => ?_)
      obtain ⟨j, h⟩ := h
      exact tX11_copies_152 X j _ _ _ h0 h _ _ _ hP hS (lv_sub hl [1, 0] rfl)
    · have h := h.2 c1
      refine lv_aload_n hx hb dX11_copies_130 rfl (lv_at hl 0 rfl) ?_
      refine rk_get X hP (C := RX11) (T := TX11) (N := 44) (ci := 11) wix_11 h0 rfl rfl 18 (by decide) (wi_29 _ (List.mem_of_getElem? (i := 4) rfl)) rfl rfl dX11_copies_131 ?_
      refine lv_iload_n hx hb dX11_copies_134 rfl (lv_at hl 1 rfl) ?_
      refine lv_aload_n hx hb dX11_copies_135 rfl (lv_at hl 0 rfl) ?_
      refine rk_get X hP (C := RX11) (T := TX11) (N := 44) (ci := 11) wix_11 h0 rfl rfl 18 (by decide) (wi_29 _ (List.mem_of_getElem? (i := 4) rfl)) rfl rfl dX11_copies_136 ?_
      refine lv_iconst (v := (5 : Int32)) hx hb dX11_copies_139 (by decide) ?_
      refine lv_iload_n hx hb dX11_copies_140 rfl (lv_at hl 1 rfl) ?_
      refine lv_iadd hx hb dX11_copies_141 ?_
      refine lv_topi (fun x1 ex1 => ?_)
      have h := h x1 ex1
      obtain ⟨b1, h⟩ := h
      refine rk_lald X hP (n := 10) (klM_X11_18 h0) (fun _ _ => rfl) b1 dX11_copies_142 ?_
      obtain ⟨b2, h⟩ := h
      refine rk_last X hP hD hS (n := 10) (klM_X11_18 h0) (fun _ _ => rfl) b2 dX11_copies_143 (fun H locs hP hS => ?_)
      obtain ⟨s1, es1⟩ : ∃ z : St, z = u2 σ (v0 + 7) v1.toNatClampNeg (σ.2 (v0 + 7) x1.toNatClampNeg) := ⟨_, rfl⟩
      rw [← es1] at hP
      have h := h s1 es1
      obtain ⟨x2, ex2⟩ : ∃ y : Int32, y = v1 + (1 : Int32) := ⟨_, rfl⟩
      have h := h x2 ex2
      refine lv_iinc (v := x2) (lv' := [(1, .int x2), (0, .ref (B + v0))]) hx hb dX11_copies_144 hl (k := 1) rfl (by rw [ex2]; rfl) (by decide) rfl (fun ls hl => ?_)
      refine lv_goto (tgt := 125) hx hb dX11_copies_147 (by decide) ?_
      exact ih _ _ _ h0 h _ _ _ hP hS (lv_sub hl [1, 0] rfl)
set_option maxRecDepth 100000 in
set_option maxHeartbeats 4000000 in
theorem tX11_copies_94 {p : Program} {l : Launch} {e : Env} {s : State} {m : MethodId} {av : Array Value} {below : List Frame} {meth : Method} {c : Code} {D : va_G} {cy : Nat → ClassId} {B : Nat} (X : kC p s m av meth c cX11_copies 3 none WALL RX11 D cy (AW B 26)) {post : St → Prop} : ∀ (n : Nat) (v0 : Nat) (v1 : Int32) (σ : St), kM[v0]? = some 11 → wX11_copies_94 post n v0 v1 σ → ∀ (H : Heap) (locs : List Loc) (ls : Array Slot), va_P D vwCl (wW cy B kM σ) H → va_S (AW B 26) s.heap H locs → lv_has ls 3 [(0, .ref (B + v0)), (1, .int v1)] → W p l e (rmD 0) s m av below meth c H locs 0 0 (MQ below (va_Qv post (BW D cy B kM) (AW B 26)) av s 0 0 (AW B 26)) (F0 m 94 ls []) := by
  obtain ⟨⟨hx, hb, hml, hown, hts⟩, hr, hlk, hK, hN, hZ⟩ := id X
  have hD : ∀ σ, va_D (AW B 26) (wW cy B kM σ) := AW_D kM_len
  intro n
  induction n with
  | zero => intro v0 v1 σ h0 h; exact absurd h id
  | succ n ih =>
    intro v0 v1 σ h0 h H locs ls hP hS hl
    rw [wX11_copies_94] at h
    refine lv_iload_n hx hb dX11_copies_94 rfl (lv_at hl 1 rfl) ?_
    refine lv_sipush (v := (128 : Int32)) hx hb dX11_copies_95 (by decide) ?_
    refine lv_icmp_ge (tgt := 123) hx hb dX11_copies_98 (by decide) (fun c1 => ?_) (fun c1 => ?_)
    · have h := h.1 c1
      refine lv_iconst (v := (0 : Int32)) hx hb dX11_copies_123 (by decide) ?_
      refine lv_istore_n (lv' := [(1, .int (0 : Int32)), (0, .ref (B + v0))]) hx hb dX11_copies_124 rfl hl (by decide) rfl (fun ls hl => ?_)
      obtain ⟨j, h⟩ := h
      exact tX11_copies_125 X j _ _ _ h0 h _ _ _ hP hS (lv_sub hl [1, 0] rfl)
    · have h := h.2 c1
      refine lv_aload_n hx hb dX11_copies_101 rfl (lv_at hl 0 rfl) ?_
      refine rk_get X hP (C := RX11) (T := TX11) (N := 44) (ci := 11) wix_11 h0 rfl rfl 21 (by decide) (wi_29 _ (List.mem_of_getElem? (i := 7) rfl)) rfl rfl dX11_copies_102 ?_
      refine lv_iload_n hx hb dX11_copies_105 rfl (lv_at hl 1 rfl) ?_
      refine lv_aload_n hx hb dX11_copies_106 rfl (lv_at hl 0 rfl) ?_
      refine rk_get X hP (C := RX11) (T := TX11) (N := 44) (ci := 11) wix_11 h0 rfl rfl 21 (by decide) (wi_29 _ (List.mem_of_getElem? (i := 7) rfl)) rfl rfl dX11_copies_107 ?_
      refine lv_sipush (v := (128 : Int32)) hx hb dX11_copies_110 (by decide) ?_
      refine lv_iload_n hx hb dX11_copies_113 rfl (lv_at hl 1 rfl) ?_
      refine lv_iadd hx hb dX11_copies_114 ?_
      refine lv_topi (fun x1 ex1 => ?_)
      have h := h x1 ex1
      obtain ⟨b1, h⟩ := h
      refine rk_iald X hP (n := 256) (klM_X11_21 h0) (fun _ _ => rfl) b1 dX11_copies_115 ?_
      obtain ⟨b2, h⟩ := h
      refine rk_iast X hP hD hS (n := 256) (klM_X11_21 h0) (fun _ _ => rfl) b2 dX11_copies_116 (fun H locs hP hS => ?_)
      obtain ⟨s1, es1⟩ : ∃ z : St, z = u1 σ (v0 + 10) v1.toNatClampNeg (σ.1 (v0 + 10) x1.toNatClampNeg) := ⟨_, rfl⟩
      rw [← es1] at hP
      have h := h s1 es1
      obtain ⟨x2, ex2⟩ : ∃ y : Int32, y = v1 + (1 : Int32) := ⟨_, rfl⟩
      have h := h x2 ex2
      refine lv_iinc (v := x2) (lv' := [(1, .int x2), (0, .ref (B + v0))]) hx hb dX11_copies_117 hl (k := 1) rfl (by rw [ex2]; rfl) (by decide) rfl (fun ls hl => ?_)
      refine lv_goto (tgt := 94) hx hb dX11_copies_120 (by decide) ?_
      exact ih _ _ _ h0 h _ _ _ hP hS (lv_sub hl [1, 0] rfl)
set_option maxRecDepth 100000 in
set_option maxHeartbeats 4000000 in
theorem tX11_copies_50 {p : Program} {l : Launch} {e : Env} {s : State} {m : MethodId} {av : Array Value} {below : List Frame} {meth : Method} {c : Code} {D : va_G} {cy : Nat → ClassId} {B : Nat} (X : kC p s m av meth c cX11_copies 3 none WALL RX11 D cy (AW B 26)) {post : St → Prop} : ∀ (n : Nat) (v0 : Nat) (v1 : Int32) (σ : St), kM[v0]? = some 11 → wX11_copies_50 post n v0 v1 σ → ∀ (H : Heap) (locs : List Loc) (ls : Array Slot), va_P D vwCl (wW cy B kM σ) H → va_S (AW B 26) s.heap H locs → lv_has ls 3 [(0, .ref (B + v0)), (1, .int v1)] → W p l e (rmD 0) s m av below meth c H locs 0 0 (MQ below (va_Qv post (BW D cy B kM) (AW B 26)) av s 0 0 (AW B 26)) (F0 m 50 ls []) := by
  obtain ⟨⟨hx, hb, hml, hown, hts⟩, hr, hlk, hK, hN, hZ⟩ := id X
  have hD : ∀ σ, va_D (AW B 26) (wW cy B kM σ) := AW_D kM_len
  intro n
  induction n with
  | zero => intro v0 v1 σ h0 h; exact absurd h id
  | succ n ih =>
    intro v0 v1 σ h0 h H locs ls hP hS hl
    rw [wX11_copies_50] at h
    refine lv_iload_n hx hb dX11_copies_50 rfl (lv_at hl 1 rfl) ?_
    refine lv_bipush (v := (8 : Int32)) hx hb dX11_copies_51 (by decide) ?_
    refine lv_icmp_ge (tgt := 92) hx hb dX11_copies_53 (by decide) (fun c1 => ?_) (fun c1 => ?_)
    · have h := h.1 c1
      refine lv_iconst (v := (0 : Int32)) hx hb dX11_copies_92 (by decide) ?_
      refine lv_istore_n (lv' := [(1, .int (0 : Int32)), (0, .ref (B + v0))]) hx hb dX11_copies_93 rfl hl (by decide) rfl (fun ls hl => ?_)
      obtain ⟨j, h⟩ := h
      exact tX11_copies_94 X j _ _ _ h0 h _ _ _ hP hS (lv_sub hl [1, 0] rfl)
    · have h := h.2 c1
      refine lv_aload_n hx hb dX11_copies_56 rfl (lv_at hl 0 rfl) ?_
      refine rk_get X hP (C := RX11) (T := TX11) (N := 44) (ci := 11) wix_11 h0 rfl rfl 17 (by decide) (wi_29 _ (List.mem_of_getElem? (i := 3) rfl)) rfl rfl dX11_copies_57 ?_
      refine lv_iload_n hx hb dX11_copies_60 rfl (lv_at hl 1 rfl) ?_
      refine lv_aload_n hx hb dX11_copies_61 rfl (lv_at hl 0 rfl) ?_
      refine rk_get X hP (C := RX11) (T := TX11) (N := 44) (ci := 11) wix_11 h0 rfl rfl 17 (by decide) (wi_29 _ (List.mem_of_getElem? (i := 3) rfl)) rfl rfl dX11_copies_62 ?_
      refine lv_bipush (v := (8 : Int32)) hx hb dX11_copies_65 (by decide) ?_
      refine lv_iload_n hx hb dX11_copies_67 rfl (lv_at hl 1 rfl) ?_
      refine lv_iadd hx hb dX11_copies_68 ?_
      refine lv_topi (fun x1 ex1 => ?_)
      have h := h x1 ex1
      obtain ⟨b1, h⟩ := h
      refine rk_lald X hP (n := 16) (klM_X11_17 h0) (fun _ _ => rfl) b1 dX11_copies_69 ?_
      obtain ⟨b2, h⟩ := h
      refine rk_last X hP hD hS (n := 16) (klM_X11_17 h0) (fun _ _ => rfl) b2 dX11_copies_70 (fun H locs hP hS => ?_)
      obtain ⟨s1, es1⟩ : ∃ z : St, z = u2 σ (v0 + 6) v1.toNatClampNeg (σ.2 (v0 + 6) x1.toNatClampNeg) := ⟨_, rfl⟩
      rw [← es1] at hP
      have h := h s1 es1
      refine lv_aload_n hx hb dX11_copies_71 rfl (lv_at hl 0 rfl) ?_
      refine rk_get X hP (C := RX11) (T := TX11) (N := 44) (ci := 11) wix_11 h0 rfl rfl 20 (by decide) (wi_29 _ (List.mem_of_getElem? (i := 6) rfl)) rfl rfl dX11_copies_72 ?_
      refine lv_iload_n hx hb dX11_copies_75 rfl (lv_at hl 1 rfl) ?_
      refine lv_aload_n hx hb dX11_copies_76 rfl (lv_at hl 0 rfl) ?_
      refine rk_get X hP (C := RX11) (T := TX11) (N := 44) (ci := 11) wix_11 h0 rfl rfl 20 (by decide) (wi_29 _ (List.mem_of_getElem? (i := 6) rfl)) rfl rfl dX11_copies_77 ?_
      refine lv_bipush (v := (8 : Int32)) hx hb dX11_copies_80 (by decide) ?_
      refine lv_iload_n hx hb dX11_copies_82 rfl (lv_at hl 1 rfl) ?_
      refine lv_iadd hx hb dX11_copies_83 ?_
      refine lv_topi (fun x2 ex2 => ?_)
      have h := h x2 ex2
      obtain ⟨b3, h⟩ := h
      refine rk_iald X hP (n := 16) (klM_X11_20 h0) (fun _ _ => rfl) b3 dX11_copies_84 ?_
      obtain ⟨b4, h⟩ := h
      refine rk_iast X hP hD hS (n := 16) (klM_X11_20 h0) (fun _ _ => rfl) b4 dX11_copies_85 (fun H locs hP hS => ?_)
      obtain ⟨s2, es2⟩ : ∃ z : St, z = u1 s1 (v0 + 9) v1.toNatClampNeg (s1.1 (v0 + 9) x2.toNatClampNeg) := ⟨_, rfl⟩
      rw [← es2] at hP
      have h := h s2 es2
      obtain ⟨x3, ex3⟩ : ∃ y : Int32, y = v1 + (1 : Int32) := ⟨_, rfl⟩
      have h := h x3 ex3
      refine lv_iinc (v := x3) (lv' := [(1, .int x3), (0, .ref (B + v0))]) hx hb dX11_copies_86 hl (k := 1) rfl (by rw [ex3]; rfl) (by decide) rfl (fun ls hl => ?_)
      refine lv_goto (tgt := 50) hx hb dX11_copies_89 (by decide) ?_
      exact ih _ _ _ h0 h _ _ _ hP hS (lv_sub hl [1, 0] rfl)
set_option maxRecDepth 100000 in
set_option maxHeartbeats 4000000 in
theorem mX11_copies (l : Launch) (D : va_G) (cy : Nat → ClassId) (B : Nat) (v0 : Nat) (σ : St) (h0 : kM[v0]? = some 11) {post : St → Prop} (h : wX11_copies v0 σ post) : Met l yX11_copies (Cond.code yX11_copies cX11_copies 3 none :: WALL) (rmD 0) (PcW D cy B kM σ [.ref (B + v0)]) (va_Qv post (BW D cy B kM) (AW B 26)) 0 0 (AW B 26) := by
  refine Met.ofK (cc := cX11_copies) (maxL := 3) (ret := none) (by decide +kernel) rfl kM_len ?_
  intro p e s m below meth c X hP
  obtain ⟨⟨hx, hb, hml, hown, hts⟩, hr, hlk, hK, hN, hZ⟩ := id X
  have hD : ∀ σ, va_D (AW B 26) (wW cy B kM σ) := AW_D kM_len
  have hS : va_S (AW B 26) s.heap s.heap [] := va_S.rf
  have hl := lv_entry ([.ref (B + v0)]) (n := 3) (Nat.le_of_ble_eq_true rfl)
  rw [lg_entry_eq]
  generalize (lg_sl ([.ref (B + v0)]) ++ List.replicate (3 - (lg_sl ([.ref (B + v0)])).length) Slot.unset).toArray = ls at hl ⊢
  have hl : lv_has ls 3 [(0, .ref (B + v0))] := hl
  unfold wX11_copies at h
  refine lv_aload_n hx hb dX11_copies_0 rfl (lv_at hl 0 rfl) ?_
  refine rk_get X hP (C := RX11) (T := TX11) (N := 44) (ci := 11) wix_11 h0 rfl rfl 13 (by decide) (wi_28 _ (List.mem_of_getElem? (i := 22) rfl)) rfl rfl dX11_copies_1 ?_
  refine lv_iconst (v := (0 : Int32)) hx hb dX11_copies_4 (by decide) ?_
  refine lv_aload_n hx hb dX11_copies_5 rfl (lv_at hl 0 rfl) ?_
  refine rk_get X hP (C := RX11) (T := TX11) (N := 44) (ci := 11) wix_11 h0 rfl rfl 13 (by decide) (wi_28 _ (List.mem_of_getElem? (i := 22) rfl)) rfl rfl dX11_copies_6 ?_
  refine lv_iconst (v := (1 : Int32)) hx hb dX11_copies_9 (by decide) ?_
  have b1 : vp_in (1 : Int32) 2 := by unfold vp_in; decide
  refine rk_iald X hP (n := 2) (klM_X11_13 h0) (fun _ _ => rfl) b1 dX11_copies_10 ?_
  have b2 : vp_in (0 : Int32) 2 := by unfold vp_in; decide
  refine rk_iast X hP hD hS (n := 2) (klM_X11_13 h0) (fun _ _ => rfl) b2 dX11_copies_11 (fun H locs hP hS => ?_)
  obtain ⟨s1, es1⟩ : ∃ z : St, z = u1 σ (v0 + 2) (0 : Int32).toNatClampNeg (σ.1 (v0 + 2) (1 : Int32).toNatClampNeg) := ⟨_, rfl⟩
  rw [← es1] at hP
  have h := h s1 es1
  refine lv_aload_n hx hb dX11_copies_12 rfl (lv_at hl 0 rfl) ?_
  refine rk_get X hP (C := RX11) (T := TX11) (N := 44) (ci := 11) wix_11 h0 rfl rfl 14 (by decide) (wi_28 _ (List.mem_of_getElem? (i := 23) rfl)) rfl rfl dX11_copies_13 ?_
  refine lv_iconst (v := (0 : Int32)) hx hb dX11_copies_16 (by decide) ?_
  refine lv_aload_n hx hb dX11_copies_17 rfl (lv_at hl 0 rfl) ?_
  refine rk_get X hP (C := RX11) (T := TX11) (N := 44) (ci := 11) wix_11 h0 rfl rfl 14 (by decide) (wi_28 _ (List.mem_of_getElem? (i := 23) rfl)) rfl rfl dX11_copies_18 ?_
  refine lv_iconst (v := (1 : Int32)) hx hb dX11_copies_21 (by decide) ?_
  have b3 : vp_in (1 : Int32) 2 := by unfold vp_in; decide
  refine rk_iald X hP (n := 2) (klM_X11_14 h0) (fun _ _ => rfl) b3 dX11_copies_22 ?_
  have b4 : vp_in (0 : Int32) 2 := by unfold vp_in; decide
  refine rk_iast X hP hD hS (n := 2) (klM_X11_14 h0) (fun _ _ => rfl) b4 dX11_copies_23 (fun H locs hP hS => ?_)
  obtain ⟨s2, es2⟩ : ∃ z : St, z = u1 s1 (v0 + 3) (0 : Int32).toNatClampNeg (s1.1 (v0 + 3) (1 : Int32).toNatClampNeg) := ⟨_, rfl⟩
  rw [← es2] at hP
  have h := h s2 es2
  refine lv_aload_n hx hb dX11_copies_24 rfl (lv_at hl 0 rfl) ?_
  refine rk_get X hP (C := RX11) (T := TX11) (N := 44) (ci := 11) wix_11 h0 rfl rfl 15 (by decide) (wi_29 _ (List.mem_of_getElem? (i := 0) rfl)) rfl rfl dX11_copies_25 ?_
  refine lv_iconst (v := (0 : Int32)) hx hb dX11_copies_28 (by decide) ?_
  refine lv_aload_n hx hb dX11_copies_29 rfl (lv_at hl 0 rfl) ?_
  refine rk_get X hP (C := RX11) (T := TX11) (N := 44) (ci := 11) wix_11 h0 rfl rfl 15 (by decide) (wi_29 _ (List.mem_of_getElem? (i := 0) rfl)) rfl rfl dX11_copies_30 ?_
  refine lv_iconst (v := (1 : Int32)) hx hb dX11_copies_33 (by decide) ?_
  have b5 : vp_in (1 : Int32) 2 := by unfold vp_in; decide
  refine rk_iald X hP (n := 2) (klM_X11_15 h0) (fun _ _ => rfl) b5 dX11_copies_34 ?_
  have b6 : vp_in (0 : Int32) 2 := by unfold vp_in; decide
  refine rk_iast X hP hD hS (n := 2) (klM_X11_15 h0) (fun _ _ => rfl) b6 dX11_copies_35 (fun H locs hP hS => ?_)
  obtain ⟨s3, es3⟩ : ∃ z : St, z = u1 s2 (v0 + 4) (0 : Int32).toNatClampNeg (s2.1 (v0 + 4) (1 : Int32).toNatClampNeg) := ⟨_, rfl⟩
  rw [← es3] at hP
  have h := h s3 es3
  refine lv_aload_n hx hb dX11_copies_36 rfl (lv_at hl 0 rfl) ?_
  refine rk_get X hP (C := RX11) (T := TX11) (N := 44) (ci := 11) wix_11 h0 rfl rfl 16 (by decide) (wi_29 _ (List.mem_of_getElem? (i := 1) rfl)) rfl rfl dX11_copies_37 ?_
  refine lv_iconst (v := (0 : Int32)) hx hb dX11_copies_40 (by decide) ?_
  refine lv_aload_n hx hb dX11_copies_41 rfl (lv_at hl 0 rfl) ?_
  refine rk_get X hP (C := RX11) (T := TX11) (N := 44) (ci := 11) wix_11 h0 rfl rfl 16 (by decide) (wi_29 _ (List.mem_of_getElem? (i := 1) rfl)) rfl rfl dX11_copies_42 ?_
  refine lv_iconst (v := (1 : Int32)) hx hb dX11_copies_45 (by decide) ?_
  have b7 : vp_in (1 : Int32) 2 := by unfold vp_in; decide
  refine rk_iald X hP (n := 2) (klM_X11_16 h0) (fun _ _ => rfl) b7 dX11_copies_46 ?_
  have b8 : vp_in (0 : Int32) 2 := by unfold vp_in; decide
  refine rk_iast X hP hD hS (n := 2) (klM_X11_16 h0) (fun _ _ => rfl) b8 dX11_copies_47 (fun H locs hP hS => ?_)
  obtain ⟨s4, es4⟩ : ∃ z : St, z = u1 s3 (v0 + 5) (0 : Int32).toNatClampNeg (s3.1 (v0 + 5) (1 : Int32).toNatClampNeg) := ⟨_, rfl⟩
  rw [← es4] at hP
  have h := h s4 es4
  refine lv_iconst (v := (0 : Int32)) hx hb dX11_copies_48 (by decide) ?_
  refine lv_istore_n (lv' := [(1, .int (0 : Int32)), (0, .ref (B + v0))]) hx hb dX11_copies_49 rfl hl (by decide) rfl (fun ls hl => ?_)
  obtain ⟨j, h⟩ := h
  exact tX11_copies_50 X j _ _ _ h0 h _ _ _ hP hS (lv_sub hl [1, 0] rfl)

theorem hd_X11_net : yX11_net.cls = RX11 ∧ yX11_net.cls ≠ "java/lang/invoke/MethodHandle" ∧ yX11_net.cls ≠ "java/lang/invoke/VarHandle" ∧ (parseMethodDescriptor yX11_net.desc).map (fun d => d.parameters.length) = some 1 := by decide +kernel
set_option maxRecDepth 100000 in
set_option maxHeartbeats 4000000 in
theorem tX11_net_151 {p : Program} {l : Launch} {e : Env} {s : State} {m : MethodId} {av : Array Value} {below : List Frame} {meth : Method} {c : Code} {D : va_G} {cy : Nat → ClassId} {B : Nat} (X : kC p s m av meth c cX11_net 4 (some .int) WALL RX11 D cy (AW B 26)) {post : Int32 → St → Prop} : ∀ (v0 : Nat) (v2 : Int32) (v3 : Int32) (σ : St), kM[v0]? = some 11 → wX11_net_151 post v0 v2 v3 σ → ∀ (H : Heap) (locs : List Loc) (ls : Array Slot), va_P D vwCl (wW cy B kM σ) H → va_S (AW B 26) s.heap H locs → lv_has ls 4 [(0, .ref (B + v0)), (2, .int v2), (3, .int v3)] → W p l e (rmD 15) s m av below meth c H locs 0 0 (MQ below (va_Qi post (BW D cy B kM) (AW B 26)) av s 0 0 (AW B 26)) (F0 m 151 ls []) := by
  obtain ⟨⟨hx, hb, hml, hown, hts⟩, hr, hlk, hK, hN, hZ⟩ := id X
  have hD : ∀ σ, va_D (AW B 26) (wW cy B kM σ) := AW_D kM_len
  obtain ⟨adK, adV, hvS, hvR, hvA, hvB, hvC, hvZ⟩ := id hZ
  intro v0 v2 v3 σ h0 h H locs ls hP hS hl
  unfold wX11_net_151 at h
  refine lv_aload_n hx hb dX11_net_151 rfl (lv_at hl 0 rfl) ?_
  refine lv_iconst (v := (0 : Int32)) hx hb dX11_net_152 (by decide) ?_
  refine rk_puti X hP hD hS (C := RX11) (T := TX11) (N := 44) (ci := 11) wix_11 h0 rfl rfl tyX11 tyX11_ok nmX11 12 (by decide) (wi_32 _ (List.mem_of_getElem? (i := 2) rfl)) rfl rfl (by decide +kernel) (Nat.le_of_ble_eq_true rfl) rfl dX11_net_153 (fun H locs hP hS => ?_)
  obtain ⟨s1, es1⟩ : ∃ z : St, z = u1 σ v0 12 (0 : Int32) := ⟨_, rfl⟩
  rw [← es1] at hP
  have h := h s1 es1
  refine lv_iload_n hx hb dX11_net_156 rfl (lv_at hl 2 rfl) ?_
  refine lv_if_ne (tgt := 176) hx hb dX11_net_157 (by decide) (fun c1 => ?_) (fun c1 => ?_)
  · have h := h.1 c1
    refine lv_aload_n hx hb dX11_net_176 rfl (lv_at hl 0 rfl) ?_
    refine rk_callv (va_runV (As := []) (rest := []) X.1 (mX11_copies l D cy B v0 s1 h0 h) (cwV 0 hts (gW_V (wi_35 _ (List.mem_of_getElem? (i := 0) rfl)) (wi_35 _ (List.mem_of_getElem? (i := 1) rfl)) (wi_35 _ (List.mem_of_getElem? (i := 2) rfl)) (wi_30 _ (List.mem_of_getElem? (i := 9) rfl)) (wi_34 _ (List.mem_of_getElem? (i := 16) rfl))) rfl rfl rfl hd_X11_copies ⟨Nat.le_of_ble_eq_true rfl, Nat.le_of_ble_eq_true rfl⟩) (rk_preV X hS hP h0 rfl rfl []) rfl rfl hl.1 rfl (lv_room (Nat.le_of_ble_eq_true rfl)) dX11_net_177 ⟨Nat.zero_le _, Nat.zero_le _⟩) hS (fun _ h => h) (fun s2 H locs h hP hS => ?_)
    refine lv_aload_n hx hb dX11_net_180 rfl (lv_at hl 0 rfl) ?_
    refine lv_iconst (v := (0 : Int32)) hx hb dX11_net_181 (by decide) ?_
    refine rk_puti X hP hD hS (C := RX11) (T := TX11) (N := 44) (ci := 11) wix_11 h0 rfl rfl tyX11 tyX11_ok nmX11 32 (by decide) (wi_34 _ (List.mem_of_getElem? (i := 17) rfl)) rfl rfl (by decide +kernel) (Nat.le_of_ble_eq_true rfl) rfl dX11_net_182 (fun H locs hP hS => ?_)
    obtain ⟨s3, es3⟩ : ∃ z : St, z = u1 s2 v0 32 (0 : Int32) := ⟨_, rfl⟩
    rw [← es3] at hP
    have h := h s3 es3
    refine lv_aload_n hx hb dX11_net_185 rfl (lv_at hl 0 rfl) ?_
    refine rk_get X hP (C := RX11) (T := TX11) (N := 44) (ci := 11) wix_11 h0 rfl rfl 34 (by decide) (wi_29 _ (List.mem_of_getElem? (i := 16) rfl)) rfl rfl dX11_net_186 ?_
    refine lv_iconst (v := (0 : Int32)) hx hb dX11_net_189 (by decide) ?_
    refine lv_iconst (v := (0 : Int32)) hx hb dX11_net_190 (by decide) ?_
    have b1 : vp_in (0 : Int32) 2 := by unfold vp_in; decide
    refine rk_zast X hP hD hS (n := 2) (klM_X11_34 h0) (fun _ _ => rfl) b1 dX11_net_191 (fun H locs hP hS => ?_)
    obtain ⟨s4, es4⟩ : ∃ z : St, z = u1 s3 (v0 + 19) (0 : Int32).toNatClampNeg (vp_nar .boolean (0 : Int32)) := ⟨_, rfl⟩
    rw [← es4] at hP
    have h := h s4 es4
    refine lv_aload_n hx hb dX11_net_192 rfl (lv_at hl 0 rfl) ?_
    refine rk_get X hP (C := RX11) (T := TX11) (N := 44) (ci := 11) wix_11 h0 rfl rfl 34 (by decide) (wi_29 _ (List.mem_of_getElem? (i := 16) rfl)) rfl rfl dX11_net_193 ?_
    refine lv_iconst (v := (1 : Int32)) hx hb dX11_net_196 (by decide) ?_
    refine lv_iconst (v := (0 : Int32)) hx hb dX11_net_197 (by decide) ?_
    have b2 : vp_in (1 : Int32) 2 := by unfold vp_in; decide
    refine rk_zast X hP hD hS (n := 2) (klM_X11_34 h0) (fun _ _ => rfl) b2 dX11_net_198 (fun H locs hP hS => ?_)
    obtain ⟨s5, es5⟩ : ∃ z : St, z = u1 s4 (v0 + 19) (1 : Int32).toNatClampNeg (vp_nar .boolean (0 : Int32)) := ⟨_, rfl⟩
    rw [← es5] at hP
    have h := h s5 es5
    refine lv_iload_n hx hb dX11_net_199 rfl (lv_at hl 1 rfl) ?_
    exact rk_iret X rfl kM_len h hP hS dX11_net_200
  · have h := h.2 c1
    refine lv_bipush (v := (-2 : Int32)) hx hb dX11_net_160 (by decide) ?_
    refine lv_bipush (v := (8 : Int32)) hx hb dX11_net_162 (by decide) ?_
    refine lv_aload_n hx hb dX11_net_164 rfl (lv_at hl 0 rfl) ?_
    refine rk_get X hP (C := RX11) (T := TX11) (N := 44) (ci := 11) wix_11 h0 rfl rfl 10 (by decide) (wi_31 _ (List.mem_of_getElem? (i := 6) rfl)) rfl rfl dX11_net_165 ?_
    refine lv_imul hx hb dX11_net_168 ?_
    refine lv_aload_n hx hb dX11_net_169 rfl (lv_at hl 0 rfl) ?_
    refine rk_get X hP (C := RX11) (T := TX11) (N := 44) (ci := 11) wix_11 h0 rfl rfl 9 (by decide) (wi_31 _ (List.mem_of_getElem? (i := 5) rfl)) rfl rfl dX11_net_170 ?_
    refine lv_iadd hx hb dX11_net_173 ?_
    refine lv_isub hx hb dX11_net_174 ?_
    exact rk_iret X rfl kM_len h hP hS dX11_net_175
set_option maxRecDepth 100000 in
set_option maxHeartbeats 4000000 in
theorem tX11_net_129 {p : Program} {l : Launch} {e : Env} {s : State} {m : MethodId} {av : Array Value} {below : List Frame} {meth : Method} {c : Code} {D : va_G} {cy : Nat → ClassId} {B : Nat} (X : kC p s m av meth c cX11_net 4 (some .int) WALL RX11 D cy (AW B 26)) {post : Int32 → St → Prop} : ∀ (n : Nat) (v0 : Nat) (v2 : Int32) (v3 : Int32) (σ : St), kM[v0]? = some 11 → wX11_net_129 post n v0 v2 v3 σ → ∀ (H : Heap) (locs : List Loc) (ls : Array Slot), va_P D vwCl (wW cy B kM σ) H → va_S (AW B 26) s.heap H locs → lv_has ls 4 [(0, .ref (B + v0)), (2, .int v2), (3, .int v3)] → W p l e (rmD 15) s m av below meth c H locs 0 0 (MQ below (va_Qi post (BW D cy B kM) (AW B 26)) av s 0 0 (AW B 26)) (F0 m 129 ls []) := by
  obtain ⟨⟨hx, hb, hml, hown, hts⟩, hr, hlk, hK, hN, hZ⟩ := id X
  have hD : ∀ σ, va_D (AW B 26) (wW cy B kM σ) := AW_D kM_len
  obtain ⟨adK, adV, hvS, hvR, hvA, hvB, hvC, hvZ⟩ := id hZ
  intro n
  induction n with
  | zero => intro v0 v2 v3 σ h0 h; exact absurd h id
  | succ n ih =>
    intro v0 v2 v3 σ h0 h H locs ls hP hS hl
    rw [wX11_net_129] at h
    refine lv_iload_n hx hb dX11_net_129 rfl (lv_at hl 2 rfl) ?_
    refine lv_if_eq (tgt := 151) hx hb dX11_net_130 (by decide) (fun c1 => ?_) (fun c1 => ?_)
    · have h := h.1 c1
      exact tX11_net_151 X _ _ _ _ h0 h _ _ _ hP hS (lv_sub hl [0, 1, 2] rfl)
    · have h := h.2 c1
      refine lv_aload_n hx hb dX11_net_133 rfl (lv_at hl 0 rfl) ?_
      refine rk_get X hP (C := RX11) (T := TX11) (N := 44) (ci := 11) wix_11 h0 rfl rfl 6 (by decide) (wi_30 _ (List.mem_of_getElem? (i := 15) rfl)) rfl rfl dX11_net_134 ?_
      refine lv_if_eq (tgt := 151) hx hb dX11_net_137 (by decide) (fun c2 => ?_) (fun c2 => ?_)
      · have h := h.1 c2
        exact tX11_net_151 X _ _ _ _ h0 h _ _ _ hP hS (lv_sub hl [0, 1, 2] rfl)
      · have h := h.2 c2
        refine lv_aload_n hx hb dX11_net_140 rfl (lv_at hl 0 rfl) ?_
        refine rk_callz (va_runV (As := []) (rest := []) X.1 (mX11_lineHere l D cy B v0 σ h0 h) (cwV 0 hts (gW_V (wi_34 _ (List.mem_of_getElem? (i := 21) rfl)) (wi_34 _ (List.mem_of_getElem? (i := 22) rfl)) (wi_34 _ (List.mem_of_getElem? (i := 23) rfl)) (wi_30 _ (List.mem_of_getElem? (i := 9) rfl)) (wi_34 _ (List.mem_of_getElem? (i := 10) rfl))) rfl rfl rfl hd_X11_lineHere ⟨Nat.le_of_ble_eq_true rfl, Nat.le_of_ble_eq_true rfl⟩) (rk_preV X hS hP h0 rfl rfl []) rfl rfl hl.1 rfl (lv_room (Nat.le_of_ble_eq_true rfl)) dX11_net_141 ⟨Nat.zero_le _, Nat.zero_le _⟩) hS (fun _ h => h) (fun r1 s1 H locs h hP hS => ?_)
        refine lv_istore_n (lv' := [(3, .int (b2i r1)), (0, .ref (B + v0)), (2, .int v2)]) hx hb dX11_net_144 rfl hl (by decide) rfl (fun ls hl => ?_)
        obtain ⟨x1, ex1⟩ : ∃ y : Int32, y = v2 + (1 : Int32) := ⟨_, rfl⟩
        have h := h x1 ex1
        refine lv_iinc (v := x1) (lv' := [(2, .int x1), (3, .int (b2i r1)), (0, .ref (B + v0))]) hx hb dX11_net_145 hl (k := 2) rfl (by rw [ex1]; rfl) (by decide) rfl (fun ls hl => ?_)
        refine lv_goto (tgt := 129) hx hb dX11_net_148 (by decide) ?_
        exact ih _ _ _ _ h0 h _ _ _ hP hS (lv_sub hl [2, 0, 1] rfl)
set_option maxRecDepth 100000 in
set_option maxHeartbeats 4000000 in
theorem tX11_net_84 {p : Program} {l : Launch} {e : Env} {s : State} {m : MethodId} {av : Array Value} {below : List Frame} {meth : Method} {c : Code} {D : va_G} {cy : Nat → ClassId} {B : Nat} (X : kC p s m av meth c cX11_net 4 (some .int) WALL RX11 D cy (AW B 26)) {post : Int32 → St → Prop} : ∀ (n : Nat) (v0 : Nat) (v2 : Int32) (σ : St), kM[v0]? = some 11 → wX11_net_84 post n v0 v2 σ → ∀ (H : Heap) (locs : List Loc) (ls : Array Slot), va_P D vwCl (wW cy B kM σ) H → va_S (AW B 26) s.heap H locs → lv_has ls 4 [(0, .ref (B + v0)), (2, .int v2)] → W p l e (rmD 15) s m av below meth c H locs 0 0 (MQ below (va_Qi post (BW D cy B kM) (AW B 26)) av s 0 0 (AW B 26)) (F0 m 84 ls []) := by
  obtain ⟨⟨hx, hb, hml, hown, hts⟩, hr, hlk, hK, hN, hZ⟩ := id X
  have hD : ∀ σ, va_D (AW B 26) (wW cy B kM σ) := AW_D kM_len
  obtain ⟨adK, adV, hvS, hvR, hvA, hvB, hvC, hvZ⟩ := id hZ
  intro n
  induction n with
  | zero => intro v0 v2 σ h0 h; exact absurd h id
  | succ n ih =>
    intro v0 v2 σ h0 h H locs ls hP hS hl
    rw [wX11_net_84] at h
    refine lv_iload_n hx hb dX11_net_84 rfl (lv_at hl 1 rfl) ?_
    refine lv_sipush (v := (256 : Int32)) hx hb dX11_net_85 (by decide) ?_
    refine lv_icmp_ge (tgt := 104) hx hb dX11_net_88 (by decide) (fun c1 => ?_) (fun c1 => ?_)
    · have h := h.1 c1
      refine lv_aload_n hx hb dX11_net_104 rfl (lv_at hl 0 rfl) ?_
      refine rk_callv (va_runV (As := []) (rest := []) X.1 (mX11_steps l D cy B v0 σ h0 h) (cwV 0 hts (gW_V (wi_31 _ (List.mem_of_getElem? (i := 21) rfl)) (wi_31 _ (List.mem_of_getElem? (i := 22) rfl)) (wi_31 _ (List.mem_of_getElem? (i := 23) rfl)) (wi_30 _ (List.mem_of_getElem? (i := 9) rfl)) (wi_30 _ (List.mem_of_getElem? (i := 12) rfl))) rfl rfl rfl hd_X11_steps ⟨Nat.le_of_ble_eq_true rfl, Nat.le_of_ble_eq_true rfl⟩) (rk_preV X hS hP h0 rfl rfl []) rfl rfl hl.1 rfl (lv_room (Nat.le_of_ble_eq_true rfl)) dX11_net_105 ⟨Nat.zero_le _, Nat.zero_le _⟩) hS (fun _ h => h) (fun s1 H locs h hP hS => ?_)
      refine lv_iconst (v := (0 : Int32)) hx hb dX11_net_108 (by decide) ?_
      refine lv_istore_n (lv' := [(2, .int (0 : Int32)), (0, .ref (B + v0))]) hx hb dX11_net_109 rfl hl (by decide) rfl (fun ls hl => ?_)
      refine lv_iconst (v := (1 : Int32)) hx hb dX11_net_110 (by decide) ?_
      refine lv_istore_n (lv' := [(3, .int (1 : Int32)), (2, .int (0 : Int32)), (0, .ref (B + v0))]) hx hb dX11_net_111 rfl hl (by decide) rfl (fun ls hl => ?_)
      refine lv_aload_n hx hb dX11_net_112 rfl (lv_at hl 2 rfl) ?_
      refine va_ldcS (tx := "field") (index := 156) hx hb hown (hvR 0 (by decide)).1 dX11_net_113 ?_
      refine rk_callz (rk_is (rest := []) X hS hP (k := 0) (by decide) hvS h0 (wi_31 _ (List.mem_of_getElem? (i := 13) rfl)) hl.1 (Nat.le_of_ble_eq_true rfl) (Nat.le_of_ble_eq_true rfl) (Nat.le_of_ble_eq_true rfl) dX11_net_115 h) hS (fun _ h => h) (fun r1 s2 H locs h hP hS => ?_)
      refine lv_if_eq (tgt := 129) hx hb dX11_net_118 (by decide) (fun c2 => ?_) (fun c2 => ?_)
      · have h := h.1 (b2i_f c2)
        obtain ⟨j, h⟩ := h
        exact tX11_net_129 X j _ _ _ _ h0 h _ _ _ hP hS (lv_sub hl [2, 1, 0] rfl)
      · have h := h.2 (b2i_t c2)
        refine lv_aload_n hx hb dX11_net_121 rfl (lv_at hl 2 rfl) ?_
        refine rk_callz (va_runV (As := []) (rest := []) X.1 (mX11_fieldLine l D cy B v0 s2 h0 h) (cwV 0 hts (gW_V (wi_34 _ (List.mem_of_getElem? (i := 18) rfl)) (wi_34 _ (List.mem_of_getElem? (i := 19) rfl)) (wi_34 _ (List.mem_of_getElem? (i := 20) rfl)) (wi_30 _ (List.mem_of_getElem? (i := 9) rfl)) (wi_34 _ (List.mem_of_getElem? (i := 15) rfl))) rfl rfl rfl hd_X11_fieldLine ⟨Nat.le_of_ble_eq_true rfl, Nat.le_of_ble_eq_true rfl⟩) (rk_preV X hS hP h0 rfl rfl []) rfl rfl hl.1 rfl (lv_room (Nat.le_of_ble_eq_true rfl)) dX11_net_122 ⟨Nat.zero_le _, Nat.zero_le _⟩) hS (fun _ h => h) (fun r2 s3 H locs h hP hS => ?_)
        refine lv_istore_n (lv' := [(3, .int (b2i r2)), (2, .int (0 : Int32)), (0, .ref (B + v0))]) hx hb dX11_net_125 rfl hl (by decide) rfl (fun ls hl => ?_)
        obtain ⟨x1, ex1⟩ : ∃ y : Int32, y = (0 : Int32) + (1 : Int32) := ⟨_, rfl⟩
        have h := h x1 ex1
        refine lv_iinc (v := x1) (lv' := [(2, .int x1), (3, .int (b2i r2)), (0, .ref (B + v0))]) hx hb dX11_net_126 hl (k := 1) rfl (by rw [ex1]; rfl) (by decide) rfl (fun ls hl => ?_)
        obtain ⟨j, h⟩ := h
        exact tX11_net_129 X j _ _ _ _ h0 h _ _ _ hP hS (lv_sub hl [2, 0, 1] rfl)
    · have h := h.2 c1
      refine lv_aload_n hx hb dX11_net_91 rfl (lv_at hl 0 rfl) ?_
      refine rk_get X hP (C := RX11) (T := TX11) (N := 44) (ci := 11) wix_11 h0 rfl rfl 21 (by decide) (wi_29 _ (List.mem_of_getElem? (i := 7) rfl)) rfl rfl dX11_net_92 ?_
      refine lv_iload_n hx hb dX11_net_95 rfl (lv_at hl 1 rfl) ?_
      refine lv_iconst (v := (0 : Int32)) hx hb dX11_net_96 (by decide) ?_
      obtain ⟨b1, h⟩ := h
      refine rk_iast X hP hD hS (n := 256) (klM_X11_21 h0) (fun _ _ => rfl) b1 dX11_net_97 (fun H locs hP hS => ?_)
      obtain ⟨s4, es4⟩ : ∃ z : St, z = u1 σ (v0 + 10) v2.toNatClampNeg (0 : Int32) := ⟨_, rfl⟩
      rw [← es4] at hP
      have h := h s4 es4
      obtain ⟨x2, ex2⟩ : ∃ y : Int32, y = v2 + (1 : Int32) := ⟨_, rfl⟩
      have h := h x2 ex2
      refine lv_iinc (v := x2) (lv' := [(2, .int x2), (0, .ref (B + v0))]) hx hb dX11_net_98 hl (k := 1) rfl (by rw [ex2]; rfl) (by decide) rfl (fun ls hl => ?_)
      refine lv_goto (tgt := 84) hx hb dX11_net_101 (by decide) ?_
      exact ih _ _ _ h0 h _ _ _ hP hS (lv_sub hl [1, 0] rfl)
set_option maxRecDepth 100000 in
set_option maxHeartbeats 4000000 in
theorem mX11_net (l : Launch) (D : va_G) (cy : Nat → ClassId) (B : Nat) (v0 : Nat) (v1 : Int32) (σ : St) (h0 : kM[v0]? = some 11) {post : Int32 → St → Prop} (h : wX11_net v0 v1 σ post) : Met l yX11_net (Cond.code yX11_net cX11_net 4 (some .int) :: WALL) (rmD 15) (PcW D cy B kM σ [.ref (B + v0), .int v1]) (va_Qi post (BW D cy B kM) (AW B 26)) 0 0 (AW B 26) := by
  refine Met.ofK (cc := cX11_net) (maxL := 4) (ret := (some .int)) (by decide +kernel) rfl kM_len ?_
  intro p e s m below meth c X hP
  obtain ⟨⟨hx, hb, hml, hown, hts⟩, hr, hlk, hK, hN, hZ⟩ := id X
  have hD : ∀ σ, va_D (AW B 26) (wW cy B kM σ) := AW_D kM_len
  have hS : va_S (AW B 26) s.heap s.heap [] := va_S.rf
  obtain ⟨adK, adV, hvS, hvR, hvA, hvB, hvC, hvZ⟩ := id hZ
  have hl := lv_entry ([.ref (B + v0), .int v1]) (n := 4) (Nat.le_of_ble_eq_true rfl)
  rw [lg_entry_eq]
  generalize (lg_sl ([.ref (B + v0), .int v1]) ++ List.replicate (4 - (lg_sl ([.ref (B + v0), .int v1])).length) Slot.unset).toArray = ls at hl ⊢
  have hl : lv_has ls 4 [(0, .ref (B + v0)), (1, .int v1)] := hl
  unfold wX11_net at h
  refine lv_aload_n hx hb dX11_net_0 rfl (lv_at hl 0 rfl) ?_
  refine lv_iconst (v := (0 : Int32)) hx hb dX11_net_1 (by decide) ?_
  refine rk_puti X hP hD hS (C := RX11) (T := TX11) (N := 44) (ci := 11) wix_11 h0 rfl rfl tyX11 tyX11_ok nmX11 0 (by decide) (wi_30 _ (List.mem_of_getElem? (i := 1) rfl)) rfl rfl (by decide +kernel) (Nat.le_of_ble_eq_true rfl) rfl dX11_net_2 (fun H locs hP hS => ?_)
  obtain ⟨s1, es1⟩ : ∃ z : St, z = u1 σ v0 0 (0 : Int32) := ⟨_, rfl⟩
  rw [← es1] at hP
  have h := h s1 es1
  refine lv_iload_n hx hb dX11_net_5 rfl (lv_at hl 1 rfl) ?_
  refine lv_i2l hx hb dX11_net_6 rfl ?_
  refine lv_lconst (v := (0 : Int64)) hx hb dX11_net_7 (by decide) ?_
  refine lv_aload_n hx hb dX11_net_8 rfl (lv_at hl 0 rfl) ?_
  refine rk_get X hP (C := RX11) (T := TX11) (N := 44) (ci := 11) wix_11 h0 rfl rfl 2 (by decide) (wi_30 _ (List.mem_of_getElem? (i := 4) rfl)) rfl rfl dX11_net_9 ?_
  refine lv_i2l hx hb dX11_net_12 rfl ?_
  refine rk_callz (va_runS (As := [.long (v1.toInt64), .long (0 : Int64), .long ((s1.1 v0 2).toInt64)]) (rest := []) X.1 (mX11_within l D cy B (v1.toInt64) (0 : Int64) ((s1.1 v0 2).toInt64) s1 h) (va_cwS 3 hts (gW_S (wi_31 _ (List.mem_of_getElem? (i := 2) rfl)) (wi_31 _ (List.mem_of_getElem? (i := 3) rfl)) (wi_30 _ (List.mem_of_getElem? (i := 9) rfl)) (wi_30 _ (List.mem_of_getElem? (i := 2) rfl))) rfl rfl rfl hd_X11_within ⟨Nat.le_of_ble_eq_true rfl, Nat.le_of_ble_eq_true rfl⟩) (rk_preS X hS hP [.long (v1.toInt64), .long (0 : Int64), .long ((s1.1 v0 2).toInt64)]) rfl rfl hl.1 rfl (lv_room (Nat.le_of_ble_eq_true rfl)) dX11_net_13 ⟨Nat.zero_le _, Nat.zero_le _⟩) hS (fun _ h => h) (fun r1 s2 H locs h hP hS => ?_)
  refine lv_if_ne (tgt := 21) hx hb dX11_net_16 (by decide) (fun c1 => ?_) (fun c1 => ?_)
  · have h := h.1 (b2i_t c1)
    refine lv_aload_n hx hb dX11_net_21 rfl (lv_at hl 0 rfl) ?_
    refine lv_iconst (v := (0 : Int32)) hx hb dX11_net_22 (by decide) ?_
    refine rk_puti X hP hD hS (C := RX11) (T := TX11) (N := 44) (ci := 11) wix_11 h0 rfl rfl tyX11 tyX11_ok nmX11 2 (by decide) (wi_30 _ (List.mem_of_getElem? (i := 4) rfl)) rfl rfl (by decide +kernel) (Nat.le_of_ble_eq_true rfl) rfl dX11_net_23 (fun H locs hP hS => ?_)
    obtain ⟨s3, es3⟩ : ∃ z : St, z = u1 s2 v0 2 (0 : Int32) := ⟨_, rfl⟩
    rw [← es3] at hP
    have h := h s3 es3
    refine lv_aload_n hx hb dX11_net_26 rfl (lv_at hl 0 rfl) ?_
    refine lv_iload_n hx hb dX11_net_27 rfl (lv_at hl 1 rfl) ?_
    refine rk_puti X hP hD hS (C := RX11) (T := TX11) (N := 44) (ci := 11) wix_11 h0 rfl rfl tyX11 tyX11_ok nmX11 3 (by decide) (wi_30 _ (List.mem_of_getElem? (i := 11) rfl)) rfl rfl (by decide +kernel) (Nat.le_of_ble_eq_true rfl) rfl dX11_net_28 (fun H locs hP hS => ?_)
    obtain ⟨s4, es4⟩ : ∃ z : St, z = u1 s3 v0 3 v1 := ⟨_, rfl⟩
    rw [← es4] at hP
    have h := h s4 es4
    refine lv_aload_n hx hb dX11_net_31 rfl (lv_at hl 0 rfl) ?_
    refine lv_iconst (v := (0 : Int32)) hx hb dX11_net_32 (by decide) ?_
    refine rk_puti X hP hD hS (C := RX11) (T := TX11) (N := 44) (ci := 11) wix_11 h0 rfl rfl tyX11 tyX11_ok nmX11 5 (by decide) (wi_30 _ (List.mem_of_getElem? (i := 13) rfl)) rfl rfl (by decide +kernel) (Nat.le_of_ble_eq_true rfl) rfl dX11_net_33 (fun H locs hP hS => ?_)
    obtain ⟨s5, es5⟩ : ∃ z : St, z = u1 s4 v0 5 (0 : Int32) := ⟨_, rfl⟩
    rw [← es5] at hP
    have h := h s5 es5
    refine lv_aload_n hx hb dX11_net_36 rfl (lv_at hl 0 rfl) ?_
    refine lv_iconst (v := (0 : Int32)) hx hb dX11_net_37 (by decide) ?_
    refine rk_puti X hP hD hS (C := RX11) (T := TX11) (N := 44) (ci := 11) wix_11 h0 rfl rfl tyX11 tyX11_ok nmX11 9 (by decide) (wi_31 _ (List.mem_of_getElem? (i := 5) rfl)) rfl rfl (by decide +kernel) (Nat.le_of_ble_eq_true rfl) rfl dX11_net_38 (fun H locs hP hS => ?_)
    obtain ⟨s6, es6⟩ : ∃ z : St, z = u1 s5 v0 9 (0 : Int32) := ⟨_, rfl⟩
    rw [← es6] at hP
    have h := h s6 es6
    refine lv_aload_n hx hb dX11_net_41 rfl (lv_at hl 0 rfl) ?_
    refine lv_iconst (v := (1 : Int32)) hx hb dX11_net_42 (by decide) ?_
    refine rk_puti X hP hD hS (C := RX11) (T := TX11) (N := 44) (ci := 11) wix_11 h0 rfl rfl tyX11 tyX11_ok nmX11 12 (by decide) (wi_32 _ (List.mem_of_getElem? (i := 2) rfl)) rfl rfl (by decide +kernel) (Nat.le_of_ble_eq_true rfl) rfl dX11_net_43 (fun H locs hP hS => ?_)
    obtain ⟨s7, es7⟩ : ∃ z : St, z = u1 s6 v0 12 (1 : Int32) := ⟨_, rfl⟩
    rw [← es7] at hP
    have h := h s7 es7
    refine lv_aload_n hx hb dX11_net_46 rfl (lv_at hl 0 rfl) ?_
    refine rk_get X hP (C := RX11) (T := TX11) (N := 44) (ci := 11) wix_11 h0 rfl rfl 13 (by decide) (wi_28 _ (List.mem_of_getElem? (i := 22) rfl)) rfl rfl dX11_net_47 ?_
    refine lv_iconst (v := (1 : Int32)) hx hb dX11_net_50 (by decide) ?_
    refine lv_bipush (v := (7 : Int32)) hx hb dX11_net_51 (by decide) ?_
    have b1 : vp_in (1 : Int32) 2 := by unfold vp_in; decide
    refine rk_iast X hP hD hS (n := 2) (klM_X11_13 h0) (fun _ _ => rfl) b1 dX11_net_53 (fun H locs hP hS => ?_)
    obtain ⟨s8, es8⟩ : ∃ z : St, z = u1 s7 (v0 + 2) (1 : Int32).toNatClampNeg (7 : Int32) := ⟨_, rfl⟩
    rw [← es8] at hP
    have h := h s8 es8
    refine lv_aload_n hx hb dX11_net_54 rfl (lv_at hl 0 rfl) ?_
    refine rk_get X hP (C := RX11) (T := TX11) (N := 44) (ci := 11) wix_11 h0 rfl rfl 14 (by decide) (wi_28 _ (List.mem_of_getElem? (i := 23) rfl)) rfl rfl dX11_net_55 ?_
    refine lv_iconst (v := (1 : Int32)) hx hb dX11_net_58 (by decide) ?_
    refine lv_iconst (v := (0 : Int32)) hx hb dX11_net_59 (by decide) ?_
    have b2 : vp_in (1 : Int32) 2 := by unfold vp_in; decide
    refine rk_iast X hP hD hS (n := 2) (klM_X11_14 h0) (fun _ _ => rfl) b2 dX11_net_60 (fun H locs hP hS => ?_)
    obtain ⟨s9, es9⟩ : ∃ z : St, z = u1 s8 (v0 + 3) (1 : Int32).toNatClampNeg (0 : Int32) := ⟨_, rfl⟩
    rw [← es9] at hP
    have h := h s9 es9
    refine lv_aload_n hx hb dX11_net_61 rfl (lv_at hl 0 rfl) ?_
    refine rk_get X hP (C := RX11) (T := TX11) (N := 44) (ci := 11) wix_11 h0 rfl rfl 15 (by decide) (wi_29 _ (List.mem_of_getElem? (i := 0) rfl)) rfl rfl dX11_net_62 ?_
    refine lv_iconst (v := (1 : Int32)) hx hb dX11_net_65 (by decide) ?_
    refine lv_iconst (v := (0 : Int32)) hx hb dX11_net_66 (by decide) ?_
    have b3 : vp_in (1 : Int32) 2 := by unfold vp_in; decide
    refine rk_iast X hP hD hS (n := 2) (klM_X11_15 h0) (fun _ _ => rfl) b3 dX11_net_67 (fun H locs hP hS => ?_)
    obtain ⟨s10, es10⟩ : ∃ z : St, z = u1 s9 (v0 + 4) (1 : Int32).toNatClampNeg (0 : Int32) := ⟨_, rfl⟩
    rw [← es10] at hP
    have h := h s10 es10
    refine lv_aload_n hx hb dX11_net_68 rfl (lv_at hl 0 rfl) ?_
    refine rk_get X hP (C := RX11) (T := TX11) (N := 44) (ci := 11) wix_11 h0 rfl rfl 16 (by decide) (wi_29 _ (List.mem_of_getElem? (i := 1) rfl)) rfl rfl dX11_net_69 ?_
    refine lv_iconst (v := (1 : Int32)) hx hb dX11_net_72 (by decide) ?_
    refine lv_iconst (v := (0 : Int32)) hx hb dX11_net_73 (by decide) ?_
    have b4 : vp_in (1 : Int32) 2 := by unfold vp_in; decide
    refine rk_iast X hP hD hS (n := 2) (klM_X11_16 h0) (fun _ _ => rfl) b4 dX11_net_74 (fun H locs hP hS => ?_)
    obtain ⟨s11, es11⟩ : ∃ z : St, z = u1 s10 (v0 + 5) (1 : Int32).toNatClampNeg (0 : Int32) := ⟨_, rfl⟩
    rw [← es11] at hP
    have h := h s11 es11
    refine lv_aload_n hx hb dX11_net_75 rfl (lv_at hl 0 rfl) ?_
    refine lv_iconst (v := (0 : Int32)) hx hb dX11_net_76 (by decide) ?_
    refine rk_puti X hP hD hS (C := RX11) (T := TX11) (N := 44) (ci := 11) wix_11 h0 rfl rfl tyX11 tyX11_ok nmX11 24 (by decide) (wi_33 _ (List.mem_of_getElem? (i := 13) rfl)) rfl rfl (by decide +kernel) (Nat.le_of_ble_eq_true rfl) rfl dX11_net_77 (fun H locs hP hS => ?_)
    obtain ⟨s12, es12⟩ : ∃ z : St, z = u1 s11 v0 24 (0 : Int32) := ⟨_, rfl⟩
    rw [← es12] at hP
    have h := h s12 es12
    refine lv_sipush (v := (128 : Int32)) hx hb dX11_net_80 (by decide) ?_
    refine lv_istore_n (lv' := [(2, .int (128 : Int32)), (0, .ref (B + v0)), (1, .int v1)]) hx hb dX11_net_83 rfl hl (by decide) rfl (fun ls hl => ?_)
    obtain ⟨j, h⟩ := h
    exact tX11_net_84 X j _ _ _ h0 h _ _ _ hP hS (lv_sub hl [1, 0] rfl)
  · have h := h.2 (b2i_f c1)
    refine lv_iconst (v := (-1 : Int32)) hx hb dX11_net_19 (by decide) ?_
    exact rk_iret X rfl kM_len h hP hS dX11_net_20

theorem hd_X11_p : yX11_p.cls = RX11 ∧ yX11_p.cls ≠ "java/lang/invoke/MethodHandle" ∧ yX11_p.cls ≠ "java/lang/invoke/VarHandle" ∧ (parseMethodDescriptor yX11_p.desc).map (fun d => d.parameters.length) = some 0 := by decide +kernel
set_option maxRecDepth 100000 in
set_option maxHeartbeats 4000000 in
theorem mX11_p (l : Launch) (D : va_G) (cy : Nat → ClassId) (B : Nat) (v0 : Nat) (σ : St) (h0 : kM[v0]? = some 11) {post : Int32 → St → Prop} (h : wX11_p v0 σ post) : Met l yX11_p (Cond.code yX11_p cX11_p 1 (some .int) :: WALL) (rmD 0) (PcW D cy B kM σ [.ref (B + v0)]) (va_Qi post (BW D cy B kM) (AW B 26)) 0 0 (AW B 26) := by
  refine Met.ofK (cc := cX11_p) (maxL := 1) (ret := (some .int)) (by decide +kernel) rfl kM_len ?_
  intro p e s m below meth c X hP
  obtain ⟨⟨hx, hb, hml, hown, hts⟩, hr, hlk, hK, hN, hZ⟩ := id X
  have hD : ∀ σ, va_D (AW B 26) (wW cy B kM σ) := AW_D kM_len
  have hS : va_S (AW B 26) s.heap s.heap [] := va_S.rf
  have hl := lv_entry ([.ref (B + v0)]) (n := 1) (Nat.le_of_ble_eq_true rfl)
  rw [lg_entry_eq]
  generalize (lg_sl ([.ref (B + v0)]) ++ List.replicate (1 - (lg_sl ([.ref (B + v0)])).length) Slot.unset).toArray = ls at hl ⊢
  have hl : lv_has ls 1 [(0, .ref (B + v0))] := hl
  unfold wX11_p at h
  refine lv_aload_n hx hb dX11_p_0 rfl (lv_at hl 0 rfl) ?_
  refine rk_get X hP (C := RX11) (T := TX11) (N := 44) (ci := 11) wix_11 h0 rfl rfl 13 (by decide) (wi_28 _ (List.mem_of_getElem? (i := 22) rfl)) rfl rfl dX11_p_1 ?_
  refine lv_iconst (v := (0 : Int32)) hx hb dX11_p_4 (by decide) ?_
  have b1 : vp_in (0 : Int32) 2 := by unfold vp_in; decide
  refine rk_iald X hP (n := 2) (klM_X11_13 h0) (fun _ _ => rfl) b1 dX11_p_5 ?_
  exact rk_iret X rfl kM_len h hP hS dX11_p_6

theorem hd_X11_isTable : yX11_isTable.cls = RX11 ∧ yX11_isTable.cls ≠ "java/lang/invoke/MethodHandle" ∧ yX11_isTable.cls ≠ "java/lang/invoke/VarHandle" ∧ (parseMethodDescriptor yX11_isTable.desc).map (fun d => d.parameters.length) = some 1 := by decide +kernel
set_option maxRecDepth 100000 in
set_option maxHeartbeats 4000000 in
theorem mX11_isTable (l : Launch) (D : va_G) (cy : Nat → ClassId) (B : Nat) (v0 : Nat) (v1 : Int32) (σ : St) (h0 : kM[v0]? = some 11) {post : Bool → St → Prop} (h : wX11_isTable v0 v1 σ post) : Met l yX11_isTable (Cond.code yX11_isTable cX11_isTable 2 (some .boolean) :: WALL) (rmD 1) (PcW D cy B kM σ [.ref (B + v0), .int v1]) (Qz post D cy B kM 26) 0 0 (AW B 26) := by
  refine Met.ofK (cc := cX11_isTable) (maxL := 2) (ret := (some .boolean)) (by decide +kernel) rfl kM_len ?_
  intro p e s m below meth c X hP
  obtain ⟨⟨hx, hb, hml, hown, hts⟩, hr, hlk, hK, hN, hZ⟩ := id X
  have hD : ∀ σ, va_D (AW B 26) (wW cy B kM σ) := AW_D kM_len
  have hS : va_S (AW B 26) s.heap s.heap [] := va_S.rf
  have hl := lv_entry ([.ref (B + v0), .int v1]) (n := 2) (Nat.le_of_ble_eq_true rfl)
  rw [lg_entry_eq]
  generalize (lg_sl ([.ref (B + v0), .int v1]) ++ List.replicate (2 - (lg_sl ([.ref (B + v0), .int v1])).length) Slot.unset).toArray = ls at hl ⊢
  have hl : lv_has ls 2 [(0, .ref (B + v0)), (1, .int v1)] := hl
  unfold wX11_isTable at h
  refine lv_iload_n hx hb dX11_isTable_0 rfl (lv_at hl 1 rfl) ?_
  refine lv_i2l hx hb dX11_isTable_1 rfl ?_
  refine lv_lconst (v := (0 : Int64)) hx hb dX11_isTable_2 (by decide) ?_
  refine lv_aload_n hx hb dX11_isTable_3 rfl (lv_at hl 0 rfl) ?_
  refine rk_get X hP (C := RX11) (T := TX11) (N := 44) (ci := 11) wix_11 h0 rfl rfl 14 (by decide) (wi_28 _ (List.mem_of_getElem? (i := 23) rfl)) rfl rfl dX11_isTable_4 ?_
  refine lv_iconst (v := (0 : Int32)) hx hb dX11_isTable_7 (by decide) ?_
  have b1 : vp_in (0 : Int32) 2 := by unfold vp_in; decide
  refine rk_iald X hP (n := 2) (klM_X11_14 h0) (fun _ _ => rfl) b1 dX11_isTable_8 ?_
  refine lv_iconst (v := (1 : Int32)) hx hb dX11_isTable_9 (by decide) ?_
  refine lv_isub hx hb dX11_isTable_10 ?_
  refine lv_i2l hx hb dX11_isTable_11 rfl ?_
  refine rk_callz (va_runS (As := [.long (v1.toInt64), .long (0 : Int64), .long (((σ.1 (v0 + 3) (0 : Int32).toNatClampNeg) - (1 : Int32)).toInt64)]) (rest := []) X.1 (mX11_within l D cy B (v1.toInt64) (0 : Int64) (((σ.1 (v0 + 3) (0 : Int32).toNatClampNeg) - (1 : Int32)).toInt64) σ h) (va_cwS 3 hts (gW_S (wi_31 _ (List.mem_of_getElem? (i := 2) rfl)) (wi_31 _ (List.mem_of_getElem? (i := 3) rfl)) (wi_30 _ (List.mem_of_getElem? (i := 9) rfl)) (wi_30 _ (List.mem_of_getElem? (i := 2) rfl))) rfl rfl rfl hd_X11_within ⟨Nat.le_of_ble_eq_true rfl, Nat.le_of_ble_eq_true rfl⟩) (rk_preS X hS hP [.long (v1.toInt64), .long (0 : Int64), .long (((σ.1 (v0 + 3) (0 : Int32).toNatClampNeg) - (1 : Int32)).toInt64)]) rfl rfl hl.1 rfl (lv_room (Nat.le_of_ble_eq_true rfl)) dX11_isTable_12 ⟨Nat.zero_le _, Nat.zero_le _⟩) hS (fun _ h => h) (fun r1 s1 H locs h hP hS => ?_)
  exact rk_zret X kM_len r1 h hP hS dX11_isTable_15

theorem hd_X11_isBase : yX11_isBase.cls = RX11 ∧ yX11_isBase.cls ≠ "java/lang/invoke/MethodHandle" ∧ yX11_isBase.cls ≠ "java/lang/invoke/VarHandle" ∧ (parseMethodDescriptor yX11_isBase.desc).map (fun d => d.parameters.length) = some 1 := by decide +kernel
set_option maxRecDepth 100000 in
set_option maxHeartbeats 4000000 in
theorem mX11_isBase (l : Launch) (D : va_G) (cy : Nat → ClassId) (B : Nat) (v0 : Nat) (v1 : Int32) (σ : St) (h0 : kM[v0]? = some 11) {post : Bool → St → Prop} (h : wX11_isBase v0 v1 σ post) : Met l yX11_isBase (Cond.code yX11_isBase cX11_isBase 2 (some .boolean) :: WALL) (rmD 1) (PcW D cy B kM σ [.ref (B + v0), .int v1]) (Qz post D cy B kM 26) 0 0 (AW B 26) := by
  refine Met.ofK (cc := cX11_isBase) (maxL := 2) (ret := (some .boolean)) (by decide +kernel) rfl kM_len ?_
  intro p e s m below meth c X hP
  obtain ⟨⟨hx, hb, hml, hown, hts⟩, hr, hlk, hK, hN, hZ⟩ := id X
  have hD : ∀ σ, va_D (AW B 26) (wW cy B kM σ) := AW_D kM_len
  have hS : va_S (AW B 26) s.heap s.heap [] := va_S.rf
  have hl := lv_entry ([.ref (B + v0), .int v1]) (n := 2) (Nat.le_of_ble_eq_true rfl)
  rw [lg_entry_eq]
  generalize (lg_sl ([.ref (B + v0), .int v1]) ++ List.replicate (2 - (lg_sl ([.ref (B + v0), .int v1])).length) Slot.unset).toArray = ls at hl ⊢
  have hl : lv_has ls 2 [(0, .ref (B + v0)), (1, .int v1)] := hl
  unfold wX11_isBase at h
  refine lv_iload_n hx hb dX11_isBase_0 rfl (lv_at hl 1 rfl) ?_
  refine lv_i2l hx hb dX11_isBase_1 rfl ?_
  refine lv_lconst (v := (0 : Int64)) hx hb dX11_isBase_2 (by decide) ?_
  refine lv_aload_n hx hb dX11_isBase_3 rfl (lv_at hl 0 rfl) ?_
  refine rk_get X hP (C := RX11) (T := TX11) (N := 44) (ci := 11) wix_11 h0 rfl rfl 15 (by decide) (wi_29 _ (List.mem_of_getElem? (i := 0) rfl)) rfl rfl dX11_isBase_4 ?_
  refine lv_iconst (v := (0 : Int32)) hx hb dX11_isBase_7 (by decide) ?_
  have b1 : vp_in (0 : Int32) 2 := by unfold vp_in; decide
  refine rk_iald X hP (n := 2) (klM_X11_15 h0) (fun _ _ => rfl) b1 dX11_isBase_8 ?_
  refine lv_iconst (v := (1 : Int32)) hx hb dX11_isBase_9 (by decide) ?_
  refine lv_isub hx hb dX11_isBase_10 ?_
  refine lv_i2l hx hb dX11_isBase_11 rfl ?_
  refine rk_callz (va_runS (As := [.long (v1.toInt64), .long (0 : Int64), .long (((σ.1 (v0 + 4) (0 : Int32).toNatClampNeg) - (1 : Int32)).toInt64)]) (rest := []) X.1 (mX11_within l D cy B (v1.toInt64) (0 : Int64) (((σ.1 (v0 + 4) (0 : Int32).toNatClampNeg) - (1 : Int32)).toInt64) σ h) (va_cwS 3 hts (gW_S (wi_31 _ (List.mem_of_getElem? (i := 2) rfl)) (wi_31 _ (List.mem_of_getElem? (i := 3) rfl)) (wi_30 _ (List.mem_of_getElem? (i := 9) rfl)) (wi_30 _ (List.mem_of_getElem? (i := 2) rfl))) rfl rfl rfl hd_X11_within ⟨Nat.le_of_ble_eq_true rfl, Nat.le_of_ble_eq_true rfl⟩) (rk_preS X hS hP [.long (v1.toInt64), .long (0 : Int64), .long (((σ.1 (v0 + 4) (0 : Int32).toNatClampNeg) - (1 : Int32)).toInt64)]) rfl rfl hl.1 rfl (lv_room (Nat.le_of_ble_eq_true rfl)) dX11_isBase_12 ⟨Nat.zero_le _, Nat.zero_le _⟩) hS (fun _ h => h) (fun r1 s1 H locs h hP hS => ?_)
  exact rk_zret X kM_len r1 h hP hS dX11_isBase_15

theorem hd_X11_isNode : yX11_isNode.cls = RX11 ∧ yX11_isNode.cls ≠ "java/lang/invoke/MethodHandle" ∧ yX11_isNode.cls ≠ "java/lang/invoke/VarHandle" ∧ (parseMethodDescriptor yX11_isNode.desc).map (fun d => d.parameters.length) = some 1 := by decide +kernel
set_option maxRecDepth 100000 in
set_option maxHeartbeats 4000000 in
theorem mX11_isNode (l : Launch) (D : va_G) (cy : Nat → ClassId) (B : Nat) (v0 : Nat) (v1 : Int32) (σ : St) (h0 : kM[v0]? = some 11) {post : Bool → St → Prop} (h : wX11_isNode v0 v1 σ post) : Met l yX11_isNode (Cond.code yX11_isNode cX11_isNode 2 (some .boolean) :: WALL) (rmD 1) (PcW D cy B kM σ [.ref (B + v0), .int v1]) (Qz post D cy B kM 26) 0 0 (AW B 26) := by
  refine Met.ofK (cc := cX11_isNode) (maxL := 2) (ret := (some .boolean)) (by decide +kernel) rfl kM_len ?_
  intro p e s m below meth c X hP
  obtain ⟨⟨hx, hb, hml, hown, hts⟩, hr, hlk, hK, hN, hZ⟩ := id X
  have hD : ∀ σ, va_D (AW B 26) (wW cy B kM σ) := AW_D kM_len
  have hS : va_S (AW B 26) s.heap s.heap [] := va_S.rf
  have hl := lv_entry ([.ref (B + v0), .int v1]) (n := 2) (Nat.le_of_ble_eq_true rfl)
  rw [lg_entry_eq]
  generalize (lg_sl ([.ref (B + v0), .int v1]) ++ List.replicate (2 - (lg_sl ([.ref (B + v0), .int v1])).length) Slot.unset).toArray = ls at hl ⊢
  have hl : lv_has ls 2 [(0, .ref (B + v0)), (1, .int v1)] := hl
  unfold wX11_isNode at h
  refine lv_iload_n hx hb dX11_isNode_0 rfl (lv_at hl 1 rfl) ?_
  refine lv_i2l hx hb dX11_isNode_1 rfl ?_
  refine lv_lconst (v := (0 : Int64)) hx hb dX11_isNode_2 (by decide) ?_
  refine lv_aload_n hx hb dX11_isNode_3 rfl (lv_at hl 0 rfl) ?_
  refine rk_get X hP (C := RX11) (T := TX11) (N := 44) (ci := 11) wix_11 h0 rfl rfl 16 (by decide) (wi_29 _ (List.mem_of_getElem? (i := 1) rfl)) rfl rfl dX11_isNode_4 ?_
  refine lv_iconst (v := (0 : Int32)) hx hb dX11_isNode_7 (by decide) ?_
  have b1 : vp_in (0 : Int32) 2 := by unfold vp_in; decide
  refine rk_iald X hP (n := 2) (klM_X11_16 h0) (fun _ _ => rfl) b1 dX11_isNode_8 ?_
  refine lv_iconst (v := (1 : Int32)) hx hb dX11_isNode_9 (by decide) ?_
  refine lv_isub hx hb dX11_isNode_10 ?_
  refine lv_i2l hx hb dX11_isNode_11 rfl ?_
  refine rk_callz (va_runS (As := [.long (v1.toInt64), .long (0 : Int64), .long (((σ.1 (v0 + 5) (0 : Int32).toNatClampNeg) - (1 : Int32)).toInt64)]) (rest := []) X.1 (mX11_within l D cy B (v1.toInt64) (0 : Int64) (((σ.1 (v0 + 5) (0 : Int32).toNatClampNeg) - (1 : Int32)).toInt64) σ h) (va_cwS 3 hts (gW_S (wi_31 _ (List.mem_of_getElem? (i := 2) rfl)) (wi_31 _ (List.mem_of_getElem? (i := 3) rfl)) (wi_30 _ (List.mem_of_getElem? (i := 9) rfl)) (wi_30 _ (List.mem_of_getElem? (i := 2) rfl))) rfl rfl rfl hd_X11_within ⟨Nat.le_of_ble_eq_true rfl, Nat.le_of_ble_eq_true rfl⟩) (rk_preS X hS hP [.long (v1.toInt64), .long (0 : Int64), .long (((σ.1 (v0 + 5) (0 : Int32).toNatClampNeg) - (1 : Int32)).toInt64)]) rfl rfl hl.1 rfl (lv_room (Nat.le_of_ble_eq_true rfl)) dX11_isNode_12 ⟨Nat.zero_le _, Nat.zero_le _⟩) hS (fun _ h => h) (fun r1 s1 H locs h hP hS => ?_)
  exact rk_zret X kM_len r1 h hP hS dX11_isNode_15

theorem hd_X11_isWire : yX11_isWire.cls = RX11 ∧ yX11_isWire.cls ≠ "java/lang/invoke/MethodHandle" ∧ yX11_isWire.cls ≠ "java/lang/invoke/VarHandle" ∧ (parseMethodDescriptor yX11_isWire.desc).map (fun d => d.parameters.length) = some 1 := by decide +kernel
set_option maxRecDepth 100000 in
set_option maxHeartbeats 4000000 in
theorem mX11_isWire (l : Launch) (D : va_G) (cy : Nat → ClassId) (B : Nat) (v0 : Nat) (v1 : Int32) (σ : St) (h0 : kM[v0]? = some 11) {post : Bool → St → Prop} (h : wX11_isWire v0 v1 σ post) : Met l yX11_isWire (Cond.code yX11_isWire cX11_isWire 2 (some .boolean) :: WALL) (rmD 1) (PcW D cy B kM σ [.ref (B + v0), .int v1]) (Qz post D cy B kM 26) 0 0 (AW B 26) := by
  refine Met.ofK (cc := cX11_isWire) (maxL := 2) (ret := (some .boolean)) (by decide +kernel) rfl kM_len ?_
  intro p e s m below meth c X hP
  obtain ⟨⟨hx, hb, hml, hown, hts⟩, hr, hlk, hK, hN, hZ⟩ := id X
  have hD : ∀ σ, va_D (AW B 26) (wW cy B kM σ) := AW_D kM_len
  have hS : va_S (AW B 26) s.heap s.heap [] := va_S.rf
  have hl := lv_entry ([.ref (B + v0), .int v1]) (n := 2) (Nat.le_of_ble_eq_true rfl)
  rw [lg_entry_eq]
  generalize (lg_sl ([.ref (B + v0), .int v1]) ++ List.replicate (2 - (lg_sl ([.ref (B + v0), .int v1])).length) Slot.unset).toArray = ls at hl ⊢
  have hl : lv_has ls 2 [(0, .ref (B + v0)), (1, .int v1)] := hl
  unfold wX11_isWire at h
  refine lv_iload_n hx hb dX11_isWire_0 rfl (lv_at hl 1 rfl) ?_
  refine lv_i2l hx hb dX11_isWire_1 rfl ?_
  refine lv_lconst (v := (0 : Int64)) hx hb dX11_isWire_2 (by decide) ?_
  refine lv_aload_n hx hb dX11_isWire_3 rfl (lv_at hl 0 rfl) ?_
  refine rk_get X hP (C := RX11) (T := TX11) (N := 44) (ci := 11) wix_11 h0 rfl rfl 30 (by decide) (wi_29 _ (List.mem_of_getElem? (i := 13) rfl)) rfl rfl dX11_isWire_4 ?_
  refine lv_bipush (v := (116 : Int32)) hx hb dX11_isWire_7 (by decide) ?_
  have b1 : vp_in (116 : Int32) 117 := by unfold vp_in; decide
  refine rk_iald X hP (n := 117) (klM_X11_30 h0) (fun _ _ => rfl) b1 dX11_isWire_9 ?_
  refine lv_iconst (v := (1 : Int32)) hx hb dX11_isWire_10 (by decide) ?_
  refine lv_isub hx hb dX11_isWire_11 ?_
  refine lv_i2l hx hb dX11_isWire_12 rfl ?_
  refine rk_callz (va_runS (As := [.long (v1.toInt64), .long (0 : Int64), .long (((σ.1 (v0 + 16) (116 : Int32).toNatClampNeg) - (1 : Int32)).toInt64)]) (rest := []) X.1 (mX11_within l D cy B (v1.toInt64) (0 : Int64) (((σ.1 (v0 + 16) (116 : Int32).toNatClampNeg) - (1 : Int32)).toInt64) σ h) (va_cwS 3 hts (gW_S (wi_31 _ (List.mem_of_getElem? (i := 2) rfl)) (wi_31 _ (List.mem_of_getElem? (i := 3) rfl)) (wi_30 _ (List.mem_of_getElem? (i := 9) rfl)) (wi_30 _ (List.mem_of_getElem? (i := 2) rfl))) rfl rfl rfl hd_X11_within ⟨Nat.le_of_ble_eq_true rfl, Nat.le_of_ble_eq_true rfl⟩) (rk_preS X hS hP [.long (v1.toInt64), .long (0 : Int64), .long (((σ.1 (v0 + 16) (116 : Int32).toNatClampNeg) - (1 : Int32)).toInt64)]) rfl rfl hl.1 rfl (lv_room (Nat.le_of_ble_eq_true rfl)) dX11_isWire_13 ⟨Nat.zero_le _, Nat.zero_le _⟩) hS (fun _ h => h) (fun r1 s1 H locs h hP hS => ?_)
  exact rk_zret X kM_len r1 h hP hS dX11_isWire_16

theorem hd_X11_legsAt : yX11_legsAt.cls = RX11 ∧ yX11_legsAt.cls ≠ "java/lang/invoke/MethodHandle" ∧ yX11_legsAt.cls ≠ "java/lang/invoke/VarHandle" ∧ (parseMethodDescriptor yX11_legsAt.desc).map (fun d => d.parameters.length) = some 1 := by decide +kernel
set_option maxRecDepth 100000 in
set_option maxHeartbeats 4000000 in
theorem mX11_legsAt (l : Launch) (D : va_G) (cy : Nat → ClassId) (B : Nat) (v0 : Nat) (v1 : Int32) (σ : St) (h0 : kM[v0]? = some 11) {post : Int32 → St → Prop} (h : wX11_legsAt v0 v1 σ post) : Met l yX11_legsAt (Cond.code yX11_legsAt cX11_legsAt 2 (some .int) :: WALL) (rmD 0) (PcW D cy B kM σ [.ref (B + v0), .int v1]) (va_Qi post (BW D cy B kM) (AW B 26)) 0 0 (AW B 26) := by
  refine Met.ofK (cc := cX11_legsAt) (maxL := 2) (ret := (some .int)) (by decide +kernel) rfl kM_len ?_
  intro p e s m below meth c X hP
  obtain ⟨⟨hx, hb, hml, hown, hts⟩, hr, hlk, hK, hN, hZ⟩ := id X
  have hD : ∀ σ, va_D (AW B 26) (wW cy B kM σ) := AW_D kM_len
  have hS : va_S (AW B 26) s.heap s.heap [] := va_S.rf
  have hl := lv_entry ([.ref (B + v0), .int v1]) (n := 2) (Nat.le_of_ble_eq_true rfl)
  rw [lg_entry_eq]
  generalize (lg_sl ([.ref (B + v0), .int v1]) ++ List.replicate (2 - (lg_sl ([.ref (B + v0), .int v1])).length) Slot.unset).toArray = ls at hl ⊢
  have hl : lv_has ls 2 [(0, .ref (B + v0)), (1, .int v1)] := hl
  unfold wX11_legsAt at h
  refine lv_aload_n hx hb dX11_legsAt_0 rfl (lv_at hl 0 rfl) ?_
  refine rk_get X hP (C := RX11) (T := TX11) (N := 44) (ci := 11) wix_11 h0 rfl rfl 20 (by decide) (wi_29 _ (List.mem_of_getElem? (i := 6) rfl)) rfl rfl dX11_legsAt_1 ?_
  refine lv_aload_n hx hb dX11_legsAt_4 rfl (lv_at hl 0 rfl) ?_
  refine rk_get X hP (C := RX11) (T := TX11) (N := 44) (ci := 11) wix_11 h0 rfl rfl 23 (by decide) (wi_29 _ (List.mem_of_getElem? (i := 9) rfl)) rfl rfl dX11_legsAt_5 ?_
  refine lv_iload_n hx hb dX11_legsAt_8 rfl (lv_at hl 1 rfl) ?_
  obtain ⟨b1, h⟩ := h
  refine rk_iald X hP (n := 12) (klM_X11_23 h0) (fun _ _ => rfl) b1 dX11_legsAt_9 ?_
  refine lv_topi (fun x1 ex1 => ?_)
  have h := h x1 ex1
  obtain ⟨b2, h⟩ := h
  refine rk_iald X hP (n := 16) (klM_X11_20 h0) (fun _ _ => rfl) b2 dX11_legsAt_10 ?_
  exact rk_iret X rfl kM_len h hP hS dX11_legsAt_11

theorem hd_X11_bits : yX11_bits.cls ≠ "java/lang/invoke/MethodHandle" ∧ yX11_bits.cls ≠ "java/lang/invoke/VarHandle" ∧ (parseMethodDescriptor yX11_bits.desc).map (fun d => d.parameters.length) = some 1 := by decide +kernel
set_option maxRecDepth 100000 in
set_option maxHeartbeats 4000000 in
theorem tX11_bits_4 {p : Program} {l : Launch} {e : Env} {s : State} {m : MethodId} {av : Array Value} {below : List Frame} {meth : Method} {c : Code} {D : va_G} {cy : Nat → ClassId} {B : Nat} (X : kC p s m av meth c cX11_bits 3 (some .int) WALL RX11 D cy (AW B 26)) {post : Int32 → St → Prop} : ∀ (n : Nat) (v1 : Int32) (v2 : Int32) (σ : St), wX11_bits_4 post n v1 v2 σ → ∀ (H : Heap) (locs : List Loc) (ls : Array Slot), va_P D vwCl (wW cy B kM σ) H → va_S (AW B 26) s.heap H locs → lv_has ls 3 [(1, .int v1), (2, .int v2)] → W p l e (rmD 0) s m av below meth c H locs 0 0 (MQ below (va_Qi post (BW D cy B kM) (AW B 26)) av s 0 0 (AW B 26)) (F0 m 4 ls []) := by
  obtain ⟨⟨hx, hb, hml, hown, hts⟩, hr, hlk, hK, hN, hZ⟩ := id X
  have hD : ∀ σ, va_D (AW B 26) (wW cy B kM σ) := AW_D kM_len
  intro n
  induction n with
  | zero => intro v1 v2 σ h; exact absurd h id
  | succ n ih =>
    intro v1 v2 σ h H locs ls hP hS hl
    rw [wX11_bits_4] at h
    refine lv_iload_n hx hb dX11_bits_4 rfl (lv_at hl 1 rfl) ?_
    refine lv_if_eq (tgt := 20) hx hb dX11_bits_5 (by decide) (fun c1 => ?_) (fun c1 => ?_)
    · have h := h.1 c1
      refine lv_iload_n hx hb dX11_bits_20 rfl (lv_at hl 0 rfl) ?_
      exact rk_iret X rfl kM_len h hP hS dX11_bits_21
    · have h := h.2 c1
      obtain ⟨x1, ex1⟩ : ∃ y : Int32, y = v1 + (1 : Int32) := ⟨_, rfl⟩
      have h := h x1 ex1
      refine lv_iinc (v := x1) (lv' := [(1, .int x1), (2, .int v2)]) hx hb dX11_bits_8 hl (k := 0) rfl (by rw [ex1]; rfl) (by decide) rfl (fun ls hl => ?_)
      refine lv_iload_n hx hb dX11_bits_11 rfl (lv_at hl 1 rfl) ?_
      refine lv_iload_n hx hb dX11_bits_12 rfl (lv_at hl 1 rfl) ?_
      refine lv_iconst (v := (1 : Int32)) hx hb dX11_bits_13 (by decide) ?_
      refine lv_isub hx hb dX11_bits_14 ?_
      refine lv_iand hx hb dX11_bits_15 ?_
      refine lv_topi (fun x2 ex2 => ?_)
      have h := h x2 ex2
      refine lv_istore_n (lv' := [(2, .int x2), (1, .int x1)]) hx hb dX11_bits_16 rfl hl (by decide) rfl (fun ls hl => ?_)
      refine lv_goto (tgt := 4) hx hb dX11_bits_17 (by decide) ?_
      exact ih _ _ _ h _ _ _ hP hS (lv_sub hl [1, 0] rfl)
set_option maxRecDepth 100000 in
set_option maxHeartbeats 4000000 in
theorem mX11_bits (l : Launch) (D : va_G) (cy : Nat → ClassId) (B : Nat) (v0 : Int32) (σ : St) {post : Int32 → St → Prop} (h : wX11_bits v0 σ post) : Met l yX11_bits (Cond.code yX11_bits cX11_bits 3 (some .int) :: WALL) (rmD 0) (PcW D cy B kM σ [.int v0]) (va_Qi post (BW D cy B kM) (AW B 26)) 0 0 (AW B 26) := by
  refine Met.ofK (cc := cX11_bits) (maxL := 3) (ret := (some .int)) (by decide +kernel) rfl kM_len ?_
  intro p e s m below meth c X hP
  obtain ⟨⟨hx, hb, hml, hown, hts⟩, hr, hlk, hK, hN, hZ⟩ := id X
  have hD : ∀ σ, va_D (AW B 26) (wW cy B kM σ) := AW_D kM_len
  have hS : va_S (AW B 26) s.heap s.heap [] := va_S.rf
  have hl := lv_entry ([.int v0]) (n := 3) (Nat.le_of_ble_eq_true rfl)
  rw [lg_entry_eq]
  generalize (lg_sl ([.int v0]) ++ List.replicate (3 - (lg_sl ([.int v0])).length) Slot.unset).toArray = ls at hl ⊢
  have hl : lv_has ls 3 [(0, .int v0)] := hl
  unfold wX11_bits at h
  refine lv_iconst (v := (0 : Int32)) hx hb dX11_bits_0 (by decide) ?_
  refine lv_istore_n (lv' := [(1, .int (0 : Int32)), (0, .int v0)]) hx hb dX11_bits_1 rfl hl (by decide) rfl (fun ls hl => ?_)
  refine lv_iload_n hx hb dX11_bits_2 rfl (lv_at hl 1 rfl) ?_
  refine lv_istore_n (lv' := [(2, .int v0), (1, .int (0 : Int32)), (0, .int v0)]) hx hb dX11_bits_3 rfl hl (by decide) rfl (fun ls hl => ?_)
  obtain ⟨j, h⟩ := h
  exact tX11_bits_4 X j _ _ _ h _ _ _ hP hS (lv_sub hl [1, 0] rfl)

theorem hd_X11_laysTable : yX11_laysTable.cls = RX11 ∧ yX11_laysTable.cls ≠ "java/lang/invoke/MethodHandle" ∧ yX11_laysTable.cls ≠ "java/lang/invoke/VarHandle" ∧ (parseMethodDescriptor yX11_laysTable.desc).map (fun d => d.parameters.length) = some 1 := by decide +kernel
set_option maxRecDepth 100000 in
set_option maxHeartbeats 4000000 in
theorem tX11_laysTable_12 {p : Program} {l : Launch} {e : Env} {s : State} {m : MethodId} {av : Array Value} {below : List Frame} {meth : Method} {c : Code} {D : va_G} {cy : Nat → ClassId} {B : Nat} (X : kC p s m av meth c cX11_laysTable 3 none WALL RX11 D cy (AW B 26)) {post : St → Prop} : ∀ (n : Nat) (v0 : Nat) (v1 : Int32) (v2 : Int32) (σ : St), kM[v0]? = some 11 → wX11_laysTable_12 post n v0 v1 v2 σ → ∀ (H : Heap) (locs : List Loc) (ls : Array Slot), va_P D vwCl (wW cy B kM σ) H → va_S (AW B 26) s.heap H locs → lv_has ls 3 [(0, .ref (B + v0)), (1, .int v1), (2, .int v2)] → W p l e (rmD 0) s m av below meth c H locs 0 0 (MQ below (va_Qv post (BW D cy B kM) (AW B 26)) av s 0 0 (AW B 26)) (F0 m 12 ls []) := by
  obtain ⟨⟨hx, hb, hml, hown, hts⟩, hr, hlk, hK, hN, hZ⟩ := id X
  have hD : ∀ σ, va_D (AW B 26) (wW cy B kM σ) := AW_D kM_len
  intro n
  induction n with
  | zero => intro v0 v1 v2 σ h0 h; exact absurd h id
  | succ n ih =>
    intro v0 v1 v2 σ h0 h H locs ls hP hS hl
    rw [wX11_laysTable_12] at h
    refine lv_iload_n hx hb dX11_laysTable_12 rfl (lv_at hl 2 rfl) ?_
    refine lv_iconst (v := (1 : Int32)) hx hb dX11_laysTable_13 (by decide) ?_
    refine lv_aload_n hx hb dX11_laysTable_14 rfl (lv_at hl 0 rfl) ?_
    refine rk_get X hP (C := RX11) (T := TX11) (N := 44) (ci := 11) wix_11 h0 rfl rfl 36 (by decide) (wi_35 _ (List.mem_of_getElem? (i := 12) rfl)) rfl rfl dX11_laysTable_15 ?_
    refine lv_ishl hx hb dX11_laysTable_18 ?_
    refine lv_icmp_ge (tgt := 45) hx hb dX11_laysTable_19 (by decide) (fun c1 => ?_) (fun c1 => ?_)
    · have h := h.1 c1
      exact rk_vret X kM_len h hP hS dX11_laysTable_45
    · have h := h.2 c1
      refine lv_aload_n hx hb dX11_laysTable_22 rfl (lv_at hl 0 rfl) ?_
      refine rk_get X hP (C := RX11) (T := TX11) (N := 44) (ci := 11) wix_11 h0 rfl rfl 35 (by decide) (wi_29 _ (List.mem_of_getElem? (i := 17) rfl)) rfl rfl dX11_laysTable_23 ?_
      refine lv_iload_n hx hb dX11_laysTable_26 rfl (lv_at hl 2 rfl) ?_
      refine lv_aload_n hx hb dX11_laysTable_27 rfl (lv_at hl 0 rfl) ?_
      refine rk_get X hP (C := RX11) (T := TX11) (N := 44) (ci := 11) wix_11 h0 rfl rfl 21 (by decide) (wi_29 _ (List.mem_of_getElem? (i := 7) rfl)) rfl rfl dX11_laysTable_28 ?_
      refine lv_bipush (v := (16 : Int32)) hx hb dX11_laysTable_31 (by decide) ?_
      refine lv_iload_n hx hb dX11_laysTable_33 rfl (lv_at hl 1 rfl) ?_
      refine lv_imul hx hb dX11_laysTable_34 ?_
      refine lv_iload_n hx hb dX11_laysTable_35 rfl (lv_at hl 2 rfl) ?_
      refine lv_iadd hx hb dX11_laysTable_36 ?_
      refine lv_topi (fun x1 ex1 => ?_)
      have h := h x1 ex1
      obtain ⟨b1, h⟩ := h
      refine rk_iald X hP (n := 256) (klM_X11_21 h0) (fun _ _ => rfl) b1 dX11_laysTable_37 ?_
      obtain ⟨b2, h⟩ := h
      refine rk_iast X hP hD hS (n := 16) (klM_X11_35 h0) (fun _ _ => rfl) b2 dX11_laysTable_38 (fun H locs hP hS => ?_)
      obtain ⟨s1, es1⟩ : ∃ z : St, z = u1 σ (v0 + 20) v2.toNatClampNeg (σ.1 (v0 + 10) x1.toNatClampNeg) := ⟨_, rfl⟩
      rw [← es1] at hP
      have h := h s1 es1
      obtain ⟨x2, ex2⟩ : ∃ y : Int32, y = v2 + (1 : Int32) := ⟨_, rfl⟩
      have h := h x2 ex2
      refine lv_iinc (v := x2) (lv' := [(2, .int x2), (0, .ref (B + v0)), (1, .int v1)]) hx hb dX11_laysTable_39 hl (k := 2) rfl (by rw [ex2]; rfl) (by decide) rfl (fun ls hl => ?_)
      refine lv_goto (tgt := 12) hx hb dX11_laysTable_42 (by decide) ?_
      exact ih _ _ _ _ h0 h _ _ _ hP hS (lv_sub hl [1, 2, 0] rfl)
set_option maxRecDepth 100000 in
set_option maxHeartbeats 4000000 in
theorem mX11_laysTable (l : Launch) (D : va_G) (cy : Nat → ClassId) (B : Nat) (v0 : Nat) (v1 : Int32) (σ : St) (h0 : kM[v0]? = some 11) {post : St → Prop} (h : wX11_laysTable v0 v1 σ post) : Met l yX11_laysTable (Cond.code yX11_laysTable cX11_laysTable 3 none :: WALL) (rmD 0) (PcW D cy B kM σ [.ref (B + v0), .int v1]) (va_Qv post (BW D cy B kM) (AW B 26)) 0 0 (AW B 26) := by
  refine Met.ofK (cc := cX11_laysTable) (maxL := 3) (ret := none) (by decide +kernel) rfl kM_len ?_
  intro p e s m below meth c X hP
  obtain ⟨⟨hx, hb, hml, hown, hts⟩, hr, hlk, hK, hN, hZ⟩ := id X
  have hD : ∀ σ, va_D (AW B 26) (wW cy B kM σ) := AW_D kM_len
  have hS : va_S (AW B 26) s.heap s.heap [] := va_S.rf
  have hl := lv_entry ([.ref (B + v0), .int v1]) (n := 3) (Nat.le_of_ble_eq_true rfl)
  rw [lg_entry_eq]
  generalize (lg_sl ([.ref (B + v0), .int v1]) ++ List.replicate (3 - (lg_sl ([.ref (B + v0), .int v1])).length) Slot.unset).toArray = ls at hl ⊢
  have hl : lv_has ls 3 [(0, .ref (B + v0)), (1, .int v1)] := hl
  unfold wX11_laysTable at h
  refine lv_aload_n hx hb dX11_laysTable_0 rfl (lv_at hl 0 rfl) ?_
  refine lv_aload_n hx hb dX11_laysTable_1 rfl (lv_at hl 0 rfl) ?_
  refine rk_get X hP (C := RX11) (T := TX11) (N := 44) (ci := 11) wix_11 h0 rfl rfl 20 (by decide) (wi_29 _ (List.mem_of_getElem? (i := 6) rfl)) rfl rfl dX11_laysTable_2 ?_
  refine lv_iload_n hx hb dX11_laysTable_5 rfl (lv_at hl 1 rfl) ?_
  obtain ⟨b1, h⟩ := h
  refine rk_iald X hP (n := 16) (klM_X11_20 h0) (fun _ _ => rfl) b1 dX11_laysTable_6 ?_
  refine rk_puti X hP hD hS (C := RX11) (T := TX11) (N := 44) (ci := 11) wix_11 h0 rfl rfl tyX11 tyX11_ok nmX11 36 (by decide) (wi_35 _ (List.mem_of_getElem? (i := 12) rfl)) rfl rfl (by decide +kernel) (Nat.le_of_ble_eq_true rfl) rfl dX11_laysTable_7 (fun H locs hP hS => ?_)
  obtain ⟨s1, es1⟩ : ∃ z : St, z = u1 σ v0 36 (σ.1 (v0 + 9) v1.toNatClampNeg) := ⟨_, rfl⟩
  rw [← es1] at hP
  have h := h s1 es1
  refine lv_iconst (v := (0 : Int32)) hx hb dX11_laysTable_10 (by decide) ?_
  refine lv_istore_n (lv' := [(2, .int (0 : Int32)), (0, .ref (B + v0)), (1, .int v1)]) hx hb dX11_laysTable_11 rfl hl (by decide) rfl (fun ls hl => ?_)
  obtain ⟨j, h⟩ := h
  exact tX11_laysTable_12 X j _ _ _ _ h0 h _ _ _ hP hS (lv_sub hl [1, 2, 0] rfl)
