/-! the JDK's text methods over the claim's constants -/
def SV (A : Nat → Prop) (q k : Nat) (U : State) : Prop := ∃ v, va_O "java/lang/String" q A U U.heap ∧ va_OF "java/lang/String" "coder" "B" (.int 0) q A U U.heap ∧ va_OF "java/lang/String" "value" "[B" (.ref v) q A U U.heap ∧ va_T .byte v (sLen.getD k 0) (fun j => .int ((sByt.getD k []).getD j 0)) A U U.heap ∧ va_Z "java/lang/String" "COMPACT_STRINGS" "Z" (.int 1) A U U.heap ∧ va_Zq "jdk/internal/util/Preconditions" "SIOOBE_FORMATTER" "Ljava/util/function/BiFunction;" A U U.heap
theorem SV.moved {A : Nat → Prop} {q k : Nat} {u U : State} (hvm : u.vm.Alike U.vm) (hq : ∀ a : Nat, a < u.heap.size → ¬ A a → U.heap[a]? = u.heap[a]?) (h : SV A q k u) : SV A q k U := by
  obtain ⟨v, h1, h2, h3, h4, h5, h6⟩ := h
  exact ⟨v, (h1.moved hvm).kept hq, (h2.moved hvm).kept hq, (h3.moved hvm).kept hq, (h4.moved hvm).kept hq, (h5.moved hvm).kept hq, (h6.moved hvm).kept hq⟩
theorem SV.narrow {A B : Nat → Prop} {q k : Nat} {U : State} (hAB : ∀ q, B q → A q) (h : SV A q k U) : SV B q k U := by
  obtain ⟨v, h1, h2, h3, h4, h5, h6⟩ := h
  exact ⟨v, h1.narrow hAB, h2.narrow hAB, h3.narrow hAB, h4.narrow hAB, h5.narrow hAB, h6.narrow hAB⟩
theorem SV.preV {q k : Nat} {s : State} (h : SV (fun _ => False) q k s) (As : List Value) : PreV s s.heap RJ0 q (va_Pc (.ref q :: As) (SV (fun _ => False) q k)) As := by
  obtain ⟨v, ⟨cell, c1, c2, c3, -⟩, h2⟩ := id h
  exact ⟨fun a U g mk r => ⟨r.1, SV.moved (Vm.Alike.refl U.vm) (fun _ _ _ => rfl) r.2⟩, ⟨cell, c1, c2, c3⟩, fun U hU hW => ⟨rfl, SV.moved hW.alike (fun _ _ _ => by rw [hU]) h⟩⟩
theorem SV.preS {q k : Nat} {s : State} (h : SV (fun _ => False) q k s) : PreS s s.heap (va_Pc [.ref q] (SV (fun _ => False) q k)) [.ref q] := ⟨fun a U g mk r => ⟨r.1, SV.moved (Vm.Alike.refl U.vm) (fun _ _ _ => rfl) r.2⟩, fun U hU hW => ⟨rfl, SV.moved hW.alike (fun _ _ _ => by rw [hU]) h⟩⟩
theorem lcmp_0 {x y : Int64} : lg_cmp x y = 0 ↔ x = y := by
  unfold lg_cmp
  by_cases h : x = y
  · subst h; simp
  · by_cases h1 : y < x <;> simp [h, h1]
theorem sk_preS {s : State} {H : Heap} {B : State → Prop} {As : List Value} (h : ∀ U : State, True → B U) : PreS s H (va_Pc As B) As := ⟨fun _ U g mk q => ⟨q.1, h _ trivial⟩, fun U _ _ => ⟨rfl, h U trivial⟩⟩
theorem s_shr : ∀ k, k < 6 → nI (sLen.getD k 0) >>> ((0 : Int32) &&& 31) = nI (sLen.getD k 0) := by decide
theorem s_len6 : ∀ k, k < 6 → sLen.getD k 0 < 6 := by decide
theorem s_chr0 : ∀ k, k < 6 → ∀ i, i < 5 → i < sLen.getD k 0 → (((sByt.getD k []).getD i 0 &&& 255).toUInt32 % 65536).toInt32 = (sByt.getD k []).getD i 0 ∧ (0 ≤ (sByt.getD k []).getD i 0 ∧ (sByt.getD k []).getD i 0 ≤ 122) := by decide
theorem s_chr (k i : Nat) (hk : k < 6) (hi : i < sLen.getD k 0) : (((sByt.getD k []).getD i 0 &&& 255).toUInt32 % 65536).toInt32 = (sByt.getD k []).getD i 0 := (s_chr0 k hk i (by have := s_len6 k hk; omega) hi).1
theorem s_nar0 : ∀ k, k < 6 → ∀ i, i < 5 → narrow .char (.int ((sByt.getD k []).getD i 0)) = .int ((sByt.getD k []).getD i 0) := by
  intro k hk i hi
  match k, hk with
  | 0, _ => match i, hi with | 0, _ => rfl | 1, _ => rfl | 2, _ => rfl | 3, _ => rfl | 4, _ => rfl
  | 1, _ => match i, hi with | 0, _ => rfl | 1, _ => rfl | 2, _ => rfl | 3, _ => rfl | 4, _ => rfl
  | 2, _ => match i, hi with | 0, _ => rfl | 1, _ => rfl | 2, _ => rfl | 3, _ => rfl | 4, _ => rfl
  | 3, _ => match i, hi with | 0, _ => rfl | 1, _ => rfl | 2, _ => rfl | 3, _ => rfl | 4, _ => rfl
  | 4, _ => match i, hi with | 0, _ => rfl | 1, _ => rfl | 2, _ => rfl | 3, _ => rfl | 4, _ => rfl
  | 5, _ => match i, hi with | 0, _ => rfl | 1, _ => rfl | 2, _ => rfl | 3, _ => rfl | 4, _ => rfl
theorem s_nar (k i : Nat) (hk : k < 6) (hi : i < sLen.getD k 0) : narrow .char (.int ((sByt.getD k []).getD i 0)) = .int ((sByt.getD k []).getD i 0) := s_nar0 k hk i (by have := s_len6 k hk; omega)
section SK
variable {p : Program} {l : Launch} {e : Env} {R : Room} {s : State} {m : MethodId} {args : Array Value} {below : List Frame} {meth : Method} {c : Code} {H : Heap} {locs : List Loc} {cells slots : Nat} {Q : State → Prop} {pc : Nat} {ls : Array Slot} {rest st0 : List Value} {a : Array Value}
theorem sk_calli {post : Int32 → Prop} (hr : va_Run p l e R s m args below meth c H locs cells slots 0 0 (F0 m pc ls st0) rest (vp_Si post a) (fun _ => False)) (kk : ∀ r : Int32, post r → W p l e R s m args below meth c H locs cells slots Q (F0 m (pc + 3) ls (.int r :: rest))) : W p l e R s m args below meth c H locs cells slots Q (F0 m pc ls st0) := by
  intro T hT X
  obtain ⟨v, st₀, t, T', L, h0, X', hL, e1, e2, ⟨r, hv, hp, hh⟩, st⟩ := hr T hT X
  cases hv
  have hL0 : L = [] := List.eq_nil_iff_forall_not_mem.mpr (fun q hq => hL q hq)
  subst hL0
  rw [List.append_nil] at X'
  obtain ⟨t2, a1, b1⟩ := kk r hp T' (e1.trans (hh.trans h0)) X'
  exact ⟨t2, st t2 a1, b1⟩
theorem sk_calll {post : Int64 → Prop} (hr : va_Run p l e R s m args below meth c H locs cells slots 0 0 (F0 m pc ls st0) rest (vp_Sl post a) (fun _ => False)) (kk : ∀ r : Int64, post r → W p l e R s m args below meth c H locs cells slots Q (F0 m (pc + 3) ls (.long r :: rest))) : W p l e R s m args below meth c H locs cells slots Q (F0 m pc ls st0) := by
  intro T hT X
  obtain ⟨v, st₀, t, T', L, h0, X', hL, e1, e2, ⟨r, hv, hp, hh⟩, st⟩ := hr T hT X
  cases hv
  have hL0 : L = [] := List.eq_nil_iff_forall_not_mem.mpr (fun q hq => hL q hq)
  subst hL0
  rw [List.append_nil] at X'
  obtain ⟨t2, a1, b1⟩ := kk r hp T' (e1.trans (hh.trans h0)) X'
  exact ⟨t2, st t2 a1, b1⟩
theorem sk_callv {post : Unit → Prop} (hr : va_Run p l e R s m args below meth c H locs cells slots 0 0 (F0 m pc ls st0) rest (va_Sv post a) (fun _ => False)) (kk : post () → W p l e R s m args below meth c H locs cells slots Q (F0 m (pc + 3) ls rest)) : W p l e R s m args below meth c H locs cells slots Q (F0 m pc ls st0) := by
  intro T hT X
  obtain ⟨v, st₀, t, T', L, h0, X', hL, e1, e2, ⟨hv, hp, hh⟩, st⟩ := hr T hT X
  cases hv
  have hL0 : L = [] := List.eq_nil_iff_forall_not_mem.mpr (fun q hq => hL q hq)
  subst hL0
  rw [List.append_nil] at X'
  obtain ⟨t2, a1, b1⟩ := kk hp T' (e1.trans (hh.trans h0)) X'
  exact ⟨t2, st t2 a1, b1⟩
end SK

theorem hd_J0_coder_7d493 : yJ0_coder_7d493.cls = RJ0 ∧ yJ0_coder_7d493.cls ≠ "java/lang/invoke/MethodHandle" ∧ yJ0_coder_7d493.cls ≠ "java/lang/invoke/VarHandle" ∧ (parseMethodDescriptor yJ0_coder_7d493.desc).map (fun d => d.parameters.length) = some 0 := by decide +kernel
theorem hd_J0_isLatin1_aae02 : yJ0_isLatin1_aae02.cls = RJ0 ∧ yJ0_isLatin1_aae02.cls ≠ "java/lang/invoke/MethodHandle" ∧ yJ0_isLatin1_aae02.cls ≠ "java/lang/invoke/VarHandle" ∧ (parseMethodDescriptor yJ0_isLatin1_aae02.desc).map (fun d => d.parameters.length) = some 0 := by decide +kernel
theorem hd_J0_length_8abf5 : yJ0_length_8abf5.cls = RJ0 ∧ yJ0_length_8abf5.cls ≠ "java/lang/invoke/MethodHandle" ∧ yJ0_length_8abf5.cls ≠ "java/lang/invoke/VarHandle" ∧ (parseMethodDescriptor yJ0_length_8abf5.desc).map (fun d => d.parameters.length) = some 0 := by decide +kernel
theorem hd_J3_checkIndex_8e157 : yJ3_checkIndex_8e157.cls ≠ "java/lang/invoke/MethodHandle" ∧ yJ3_checkIndex_8e157.cls ≠ "java/lang/invoke/VarHandle" ∧ (parseMethodDescriptor yJ3_checkIndex_8e157.desc).map (fun d => d.parameters.length) = some 3 := by decide +kernel
theorem hd_J0_checkIndex_df160 : yJ0_checkIndex_df160.cls ≠ "java/lang/invoke/MethodHandle" ∧ yJ0_checkIndex_df160.cls ≠ "java/lang/invoke/VarHandle" ∧ (parseMethodDescriptor yJ0_checkIndex_df160.desc).map (fun d => d.parameters.length) = some 2 := by decide +kernel
theorem hd_J1_charAt_3b067 : yJ1_charAt_3b067.cls ≠ "java/lang/invoke/MethodHandle" ∧ yJ1_charAt_3b067.cls ≠ "java/lang/invoke/VarHandle" ∧ (parseMethodDescriptor yJ1_charAt_3b067.desc).map (fun d => d.parameters.length) = some 2 := by decide +kernel
theorem hd_J0_charAt_5068e : yJ0_charAt_5068e.cls = RJ0 ∧ yJ0_charAt_5068e.cls ≠ "java/lang/invoke/MethodHandle" ∧ yJ0_charAt_5068e.cls ≠ "java/lang/invoke/VarHandle" ∧ (parseMethodDescriptor yJ0_charAt_5068e.desc).map (fun d => d.parameters.length) = some 1 := by decide +kernel
set_option maxRecDepth 100000 in
set_option maxHeartbeats 4000000 in
theorem mJ_coder (l : Launch) (q k : Nat) : Met l yJ0_coder_7d493 (Cond.code yJ0_coder_7d493 cJ0_coder_7d493 1 (some .byte) :: WALL) (rmD 0) (va_Pc [.ref q] (SV (fun _ => False) q k)) (vp_Si (fun r => r = 0)) 0 0 (fun _ => False) := by
  refine Met.ofWF (cc := cJ0_coder_7d493) (maxL := 1) (ret := (some .byte)) (by decide +kernel) rfl ?_
  intro p e s m args below meth c s₁ B0 hml hv
  obtain ⟨rfl, hV⟩ := hv
  have hx := B0.exec
  have hb := B0.bytes
  have hr := B0.returns
  have hlocks := B0.notSynchronized
  have hown : s.vm.findClass RJ0 = some m.cls := findClass_of_methodNamed B0.named
  have hts : ∀ w ∈ WALL, w.before _ s = true := fun w h => atoms_spec (ws := Cond.code yJ0_coder_7d493 cJ0_coder_7d493 1 (some .byte) :: WALL) B0.pre w (List.mem_cons_of_mem _ h)
  have hS : va_S (fun _ => False) s.heap s.heap [] := va_S.rf
  obtain ⟨v, hO, hC, hV1, hT, hZ, hZq⟩ := hV
  have hl := lv_entry ([.ref q]) (n := 1) (Nat.le_of_ble_eq_true rfl)
  rw [lg_entry_eq]
  generalize (lg_sl ([.ref q]) ++ List.replicate (1 - (lg_sl ([.ref q])).length) Slot.unset).toArray = ls at hl ⊢
  have hl : lv_has ls 1 [(0, .ref q)] := hl
  refine va_gets hx hb hZ hS hown (hts _ (wi_7 _ (List.mem_of_getElem? (i := 11) rfl))) (fun _ h => h) dJ0_coder_7d493_0 ?_
  refine lv_if_eq (tgt := 13) hx hb dJ0_coder_7d493_3 (by decide) (fun c1 => absurd c1 (by decide)) (fun c1 => ?_)
  refine lv_aload_n hx hb dJ0_coder_7d493_6 rfl (lv_at hl 0 rfl) ?_
  refine vk_getf hx hb hC hS hown (hts _ (wi_7 _ (List.mem_of_getElem? (i := 12) rfl))) (fun _ h => h) dJ0_coder_7d493_7 ?_
  refine lv_goto (tgt := 14) hx hb dJ0_coder_7d493_10 (by decide) ?_
  exact W.zret hx hb hr rfl (fun t ht hW => ⟨0, rfl, rfl, ht⟩) (fun _ h => absurd h List.not_mem_nil) dJ0_coder_7d493_14
set_option maxRecDepth 100000 in
set_option maxHeartbeats 4000000 in
theorem mJ_isLatin1 (l : Launch) (q k : Nat) : Met l yJ0_isLatin1_aae02 (Cond.code yJ0_isLatin1_aae02 cJ0_isLatin1_aae02 1 (some .boolean) :: WALL) (rmD 0) (va_Pc [.ref q] (SV (fun _ => False) q k)) (vp_Si (fun r => r = 1)) 0 0 (fun _ => False) := by
  refine Met.ofWF (cc := cJ0_isLatin1_aae02) (maxL := 1) (ret := (some .boolean)) (by decide +kernel) rfl ?_
  intro p e s m args below meth c s₁ B0 hml hv
  obtain ⟨rfl, hV⟩ := hv
  have hx := B0.exec
  have hb := B0.bytes
  have hr := B0.returns
  have hlocks := B0.notSynchronized
  have hown : s.vm.findClass RJ0 = some m.cls := findClass_of_methodNamed B0.named
  have hts : ∀ w ∈ WALL, w.before _ s = true := fun w h => atoms_spec (ws := Cond.code yJ0_isLatin1_aae02 cJ0_isLatin1_aae02 1 (some .boolean) :: WALL) B0.pre w (List.mem_cons_of_mem _ h)
  have hS : va_S (fun _ => False) s.heap s.heap [] := va_S.rf
  obtain ⟨v, hO, hC, hV1, hT, hZ, hZq⟩ := hV
  have hl := lv_entry ([.ref q]) (n := 1) (Nat.le_of_ble_eq_true rfl)
  rw [lg_entry_eq]
  generalize (lg_sl ([.ref q]) ++ List.replicate (1 - (lg_sl ([.ref q])).length) Slot.unset).toArray = ls at hl ⊢
  have hl : lv_has ls 1 [(0, .ref q)] := hl
  refine va_gets hx hb hZ hS hown (hts _ (wi_7 _ (List.mem_of_getElem? (i := 11) rfl))) (fun _ h => h) dJ0_isLatin1_aae02_0 ?_
  refine lv_if_eq (tgt := 17) hx hb dJ0_isLatin1_aae02_3 (by decide) (fun c1 => absurd c1 (by decide)) (fun c1 => ?_)
  refine lv_aload_n hx hb dJ0_isLatin1_aae02_6 rfl (lv_at hl 0 rfl) ?_
  refine vk_getf hx hb hC hS hown (hts _ (wi_7 _ (List.mem_of_getElem? (i := 12) rfl))) (fun _ h => h) dJ0_isLatin1_aae02_7 ?_
  refine lv_if_ne (tgt := 17) hx hb dJ0_isLatin1_aae02_10 (by decide) (fun c2 => absurd rfl c2) (fun c2 => ?_)
  refine lv_iconst (v := (1 : Int32)) hx hb dJ0_isLatin1_aae02_13 (by decide) ?_
  refine lv_goto (tgt := 18) hx hb dJ0_isLatin1_aae02_14 (by decide) ?_
  exact W.zret hx hb hr rfl (fun t ht hW => ⟨1, rfl, rfl, ht⟩) (fun _ h => absurd h List.not_mem_nil) dJ0_isLatin1_aae02_18
set_option maxRecDepth 100000 in
set_option maxHeartbeats 4000000 in
theorem mJ_length (l : Launch) (q k : Nat) (hk : k < 6) : Met l yJ0_length_8abf5 (Cond.code yJ0_length_8abf5 cJ0_length_8abf5 1 (some .int) :: WALL) (rmD 1) (va_Pc [.ref q] (SV (fun _ => False) q k)) (vp_Si (fun r => r = nI (sLen.getD k 0))) 0 0 (fun _ => False) := by
  refine Met.ofWF (cc := cJ0_length_8abf5) (maxL := 1) (ret := (some .int)) (by decide +kernel) rfl ?_
  intro p e s m args below meth c s₁ B0 hml hv
  obtain ⟨rfl, hV⟩ := hv
  have hx := B0.exec
  have hb := B0.bytes
  have hr := B0.returns
  have hlocks := B0.notSynchronized
  have hown : s.vm.findClass RJ0 = some m.cls := findClass_of_methodNamed B0.named
  have hts : ∀ w ∈ WALL, w.before _ s = true := fun w h => atoms_spec (ws := Cond.code yJ0_length_8abf5 cJ0_length_8abf5 1 (some .int) :: WALL) B0.pre w (List.mem_cons_of_mem _ h)
  have hS : va_S (fun _ => False) s.heap s.heap [] := va_S.rf
  have hV0 := hV
  obtain ⟨v, hO, hC, hV1, hT, hZ, hZq⟩ := hV
  have hl := lv_entry ([.ref q]) (n := 1) (Nat.le_of_ble_eq_true rfl)
  rw [lg_entry_eq]
  generalize (lg_sl ([.ref q]) ++ List.replicate (1 - (lg_sl ([.ref q])).length) Slot.unset).toArray = ls at hl ⊢
  have hl : lv_has ls 1 [(0, .ref q)] := hl
  refine lv_aload_n hx hb dJ0_length_8abf5_0 rfl (lv_at hl 0 rfl) ?_
  refine vk_getf hx hb hV1 hS hown (hts _ (wi_7 _ (List.mem_of_getElem? (i := 14) rfl))) (fun _ h => h) dJ0_length_8abf5_1 ?_
  refine va_tlen hx hb hT hS (v := nI (sLen.getD k 0)) rfl dJ0_length_8abf5_4 ?_
  refine lv_aload_n hx hb dJ0_length_8abf5_5 rfl (lv_at hl 0 rfl) ?_
  refine sk_calli (va_runV (As := []) (rest := [.int (nI (sLen.getD k 0))]) ⟨hx, hb, hml, hown, hts⟩ (mJ_coder l q k) (cwV 0 hts (gW_V (wi_7 _ (List.mem_of_getElem? (i := 15) rfl)) (wi_7 _ (List.mem_of_getElem? (i := 16) rfl)) (wi_7 _ (List.mem_of_getElem? (i := 17) rfl)) (wi_7 _ (List.mem_of_getElem? (i := 18) rfl)) (wi_7 _ (List.mem_of_getElem? (i := 10) rfl))) rfl rfl rfl hd_J0_coder_7d493 ⟨Nat.le_of_ble_eq_true rfl, Nat.le_of_ble_eq_true rfl⟩) (SV.preV hV0 []) rfl rfl hl.1 rfl (lv_room (Nat.le_of_ble_eq_true rfl)) dJ0_length_8abf5_6 ⟨Nat.zero_le _, Nat.zero_le _⟩) (fun r hr9 => ?_)
  subst hr9
  refine lv_ishr hx hb dJ0_length_8abf5_9 ?_
  exact W.zret hx hb hr rfl (fun t ht hW => ⟨_, rfl, s_shr k hk, ht⟩) (fun _ h => absurd h List.not_mem_nil) dJ0_length_8abf5_10
set_option maxRecDepth 100000 in
set_option maxHeartbeats 4000000 in
theorem mJ_check3n (l : Launch) (i n : Int32) (h1 : ¬ i < 0) (h2 : i < n) : Met l yJ3_checkIndex_8e157 (Cond.code yJ3_checkIndex_8e157 cJ3_checkIndex_8e157 3 (some .int) :: WALL) (rmD 0) (va_Pc [.int i, .int n, .null] (fun _ => True)) (vp_Si (fun r => r = i)) 0 0 (fun _ => False) := by
  refine Met.ofWF (cc := cJ3_checkIndex_8e157) (maxL := 3) (ret := (some .int)) (by decide +kernel) rfl ?_
  intro p e s m args below meth c s₁ B0 hml hv
  obtain ⟨rfl, hV⟩ := hv
  have hx := B0.exec
  have hb := B0.bytes
  have hr := B0.returns
  have hlocks := B0.notSynchronized
  have hown : s.vm.findClass RJ3 = some m.cls := findClass_of_methodNamed B0.named
  have hts : ∀ w ∈ WALL, w.before _ s = true := fun w h => atoms_spec (ws := Cond.code yJ3_checkIndex_8e157 cJ3_checkIndex_8e157 3 (some .int) :: WALL) B0.pre w (List.mem_cons_of_mem _ h)
  have hS : va_S (fun _ => False) s.heap s.heap [] := va_S.rf
  have hl := lv_entry ([.int i, .int n, .null]) (n := 3) (Nat.le_of_ble_eq_true rfl)
  rw [lg_entry_eq]
  generalize (lg_sl ([.int i, .int n, .null]) ++ List.replicate (3 - (lg_sl ([.int i, .int n, .null])).length) Slot.unset).toArray = ls at hl ⊢
  have hl : lv_has ls 3 [(0, .int i), (1, .int n), (2, .null)] := hl
  refine lv_iload_n hx hb dJ3_checkIndex_8e157_0 rfl (lv_at hl 0 rfl) ?_
  refine lv_if_lt (tgt := 9) hx hb dJ3_checkIndex_8e157_1 (by decide) (fun c1 => absurd c1 h1) (fun c1 => ?_)
  refine lv_iload_n hx hb dJ3_checkIndex_8e157_4 rfl (lv_at hl 0 rfl) ?_
  refine lv_iload_n hx hb dJ3_checkIndex_8e157_5 rfl (lv_at hl 1 rfl) ?_
  refine lv_icmp_lt (tgt := 16) hx hb dJ3_checkIndex_8e157_6 (by decide) (fun c2 => ?_) (fun c2 => absurd h2 c2)
  refine lv_iload_n hx hb dJ3_checkIndex_8e157_16 rfl (lv_at hl 0 rfl) ?_
  exact W.iret hx hb hr (fun t ht hW => ⟨i, rfl, rfl, ht⟩) (fun _ h => absurd h List.not_mem_nil) dJ3_checkIndex_8e157_17
set_option maxRecDepth 100000 in
set_option maxHeartbeats 4000000 in
theorem mJ_check3r (l : Launch) (i n : Int32) (t0 : Nat) (h1 : ¬ i < 0) (h2 : i < n) : Met l yJ3_checkIndex_8e157 (Cond.code yJ3_checkIndex_8e157 cJ3_checkIndex_8e157 3 (some .int) :: WALL) (rmD 0) (va_Pc [.int i, .int n, .ref t0] (fun _ => True)) (vp_Si (fun r => r = i)) 0 0 (fun _ => False) := by
  refine Met.ofWF (cc := cJ3_checkIndex_8e157) (maxL := 3) (ret := (some .int)) (by decide +kernel) rfl ?_
  intro p e s m args below meth c s₁ B0 hml hv
  obtain ⟨rfl, hV⟩ := hv
  have hx := B0.exec
  have hb := B0.bytes
  have hr := B0.returns
  have hlocks := B0.notSynchronized
  have hown : s.vm.findClass RJ3 = some m.cls := findClass_of_methodNamed B0.named
  have hts : ∀ w ∈ WALL, w.before _ s = true := fun w h => atoms_spec (ws := Cond.code yJ3_checkIndex_8e157 cJ3_checkIndex_8e157 3 (some .int) :: WALL) B0.pre w (List.mem_cons_of_mem _ h)
  have hS : va_S (fun _ => False) s.heap s.heap [] := va_S.rf
  have hl := lv_entry ([.int i, .int n, .ref t0]) (n := 3) (Nat.le_of_ble_eq_true rfl)
  rw [lg_entry_eq]
  generalize (lg_sl ([.int i, .int n, .ref t0]) ++ List.replicate (3 - (lg_sl ([.int i, .int n, .ref t0])).length) Slot.unset).toArray = ls at hl ⊢
  have hl : lv_has ls 3 [(0, .int i), (1, .int n), (2, .ref t0)] := hl
  refine lv_iload_n hx hb dJ3_checkIndex_8e157_0 rfl (lv_at hl 0 rfl) ?_
  refine lv_if_lt (tgt := 9) hx hb dJ3_checkIndex_8e157_1 (by decide) (fun c1 => absurd c1 h1) (fun c1 => ?_)
  refine lv_iload_n hx hb dJ3_checkIndex_8e157_4 rfl (lv_at hl 0 rfl) ?_
  refine lv_iload_n hx hb dJ3_checkIndex_8e157_5 rfl (lv_at hl 1 rfl) ?_
  refine lv_icmp_lt (tgt := 16) hx hb dJ3_checkIndex_8e157_6 (by decide) (fun c2 => ?_) (fun c2 => absurd h2 c2)
  refine lv_iload_n hx hb dJ3_checkIndex_8e157_16 rfl (lv_at hl 0 rfl) ?_
  exact W.iret hx hb hr (fun t ht hW => ⟨i, rfl, rfl, ht⟩) (fun _ h => absurd h List.not_mem_nil) dJ3_checkIndex_8e157_17
set_option maxRecDepth 100000 in
set_option maxHeartbeats 4000000 in
theorem mJ_check2 (l : Launch) (i n : Int32) (h1 : ¬ i < 0) (h2 : i < n) : Met l yJ0_checkIndex_df160 (Cond.code yJ0_checkIndex_df160 cJ0_checkIndex_df160 2 none :: WALL) (rmD 1) (va_Pc [.int i, .int n] (fun U => va_Zq "jdk/internal/util/Preconditions" "SIOOBE_FORMATTER" "Ljava/util/function/BiFunction;" (fun _ => False) U U.heap)) (va_Sv (fun _ => True)) 0 0 (fun _ => False) := by
  refine Met.ofWF (cc := cJ0_checkIndex_df160) (maxL := 2) (ret := none) (by decide +kernel) rfl ?_
  intro p e s m args below meth c s₁ B0 hml hv
  obtain ⟨rfl, hV⟩ := hv
  have hx := B0.exec
  have hb := B0.bytes
  have hr := B0.returns
  have hlocks := B0.notSynchronized
  have hown : s.vm.findClass RJ0 = some m.cls := findClass_of_methodNamed B0.named
  have hts : ∀ w ∈ WALL, w.before _ s = true := fun w h => atoms_spec (ws := Cond.code yJ0_checkIndex_df160 cJ0_checkIndex_df160 2 none :: WALL) B0.pre w (List.mem_cons_of_mem _ h)
  have hS : va_S (fun _ => False) s.heap s.heap [] := va_S.rf
  have hl := lv_entry ([.int i, .int n]) (n := 2) (Nat.le_of_ble_eq_true rfl)
  rw [lg_entry_eq]
  generalize (lg_sl ([.int i, .int n]) ++ List.replicate (2 - (lg_sl ([.int i, .int n])).length) Slot.unset).toArray = ls at hl ⊢
  have hl : lv_has ls 2 [(0, .int i), (1, .int n)] := hl
  refine lv_iload_n hx hb dJ0_checkIndex_df160_0 rfl (lv_at hl 0 rfl) ?_
  refine lv_iload_n hx hb dJ0_checkIndex_df160_1 rfl (lv_at hl 1 rfl) ?_
  rcases hV with hZ | ⟨t0, hZ⟩
  · refine va_gets (v := .null) hx hb hZ hS hown (hts _ (wi_7 _ (List.mem_of_getElem? (i := 22) rfl))) (fun _ h => h) dJ0_checkIndex_df160_2 ?_
    refine sk_calli (va_runS (As := [.int i, .int n, .null]) (rest := []) ⟨hx, hb, hml, hown, hts⟩ (mJ_check3n l i n h1 h2) (va_cwS 3 hts (gW_S (wi_7 _ (List.mem_of_getElem? (i := 23) rfl)) (wi_8 _ (List.mem_of_getElem? (i := 0) rfl)) (wi_8 _ (List.mem_of_getElem? (i := 1) rfl)) (wi_7 _ (List.mem_of_getElem? (i := 20) rfl))) rfl rfl rfl hd_J3_checkIndex_8e157 ⟨Nat.le_of_ble_eq_true rfl, Nat.le_of_ble_eq_true rfl⟩) (sk_preS (fun _ _ => trivial)) rfl rfl hl.1 rfl (lv_room (Nat.le_of_ble_eq_true rfl)) dJ0_checkIndex_df160_5 ⟨Nat.zero_le _, Nat.zero_le _⟩) (fun r hr9 => ?_)
    refine lv_pop hx hb dJ0_checkIndex_df160_8 rfl ?_
    exact W.vret hx hb hr (fun t ht hW => ⟨rfl, trivial, ht⟩) (fun _ h => absurd h List.not_mem_nil) dJ0_checkIndex_df160_9
  · refine va_gets (v := .ref t0) hx hb hZ hS hown (hts _ (wi_7 _ (List.mem_of_getElem? (i := 22) rfl))) (fun _ h => h) dJ0_checkIndex_df160_2 ?_
    refine sk_calli (va_runS (As := [.int i, .int n, .ref t0]) (rest := []) ⟨hx, hb, hml, hown, hts⟩ (mJ_check3r l i n t0 h1 h2) (va_cwS 3 hts (gW_S (wi_7 _ (List.mem_of_getElem? (i := 23) rfl)) (wi_8 _ (List.mem_of_getElem? (i := 0) rfl)) (wi_8 _ (List.mem_of_getElem? (i := 1) rfl)) (wi_7 _ (List.mem_of_getElem? (i := 20) rfl))) rfl rfl rfl hd_J3_checkIndex_8e157 ⟨Nat.le_of_ble_eq_true rfl, Nat.le_of_ble_eq_true rfl⟩) (sk_preS (fun _ _ => trivial)) rfl rfl hl.1 rfl (lv_room (Nat.le_of_ble_eq_true rfl)) dJ0_checkIndex_df160_5 ⟨Nat.zero_le _, Nat.zero_le _⟩) (fun r hr9 => ?_)
    refine lv_pop hx hb dJ0_checkIndex_df160_8 rfl ?_
    exact W.vret hx hb hr (fun t ht hW => ⟨rfl, trivial, ht⟩) (fun _ h => absurd h List.not_mem_nil) dJ0_checkIndex_df160_9
set_option maxRecDepth 100000 in
set_option maxHeartbeats 4000000 in
theorem mJ_charAt1 (l : Launch) (v k i : Nat) (hi : i < sLen.getD k 0) (hk : k < 6) : Met l yJ1_charAt_3b067 (Cond.code yJ1_charAt_3b067 cJ1_charAt_3b067 2 (some .char) :: WALL) (rmD 2) (va_Pc [.ref v, .int (nI i)] (fun U => va_T .byte v (sLen.getD k 0) (fun j => .int ((sByt.getD k []).getD j 0)) (fun _ => False) U U.heap ∧ va_Zq "jdk/internal/util/Preconditions" "SIOOBE_FORMATTER" "Ljava/util/function/BiFunction;" (fun _ => False) U U.heap)) (vp_Si (fun r => r = (sByt.getD k []).getD i 0)) 0 0 (fun _ => False) := by
  refine Met.ofWF (cc := cJ1_charAt_3b067) (maxL := 2) (ret := (some .char)) (by decide +kernel) rfl ?_
  intro p e s m args below meth c s₁ B0 hml hv
  obtain ⟨rfl, hV⟩ := hv
  have hx := B0.exec
  have hb := B0.bytes
  have hr := B0.returns
  have hlocks := B0.notSynchronized
  have hown : s.vm.findClass RJ1 = some m.cls := findClass_of_methodNamed B0.named
  have hts : ∀ w ∈ WALL, w.before _ s = true := fun w h => atoms_spec (ws := Cond.code yJ1_charAt_3b067 cJ1_charAt_3b067 2 (some .char) :: WALL) B0.pre w (List.mem_cons_of_mem _ h)
  have hS : va_S (fun _ => False) s.heap s.heap [] := va_S.rf
  obtain ⟨hT, hZq⟩ := hV
  have hl := lv_entry ([.ref v, .int (nI i)]) (n := 2) (Nat.le_of_ble_eq_true rfl)
  rw [lg_entry_eq]
  generalize (lg_sl ([.ref v, .int (nI i)]) ++ List.replicate (2 - (lg_sl ([.ref v, .int (nI i)])).length) Slot.unset).toArray = ls at hl ⊢
  have hl : lv_has ls 2 [(0, .ref v), (1, .int (nI i))] := hl
  have hl6 := s_len6 k hk
  refine lv_iload_n hx hb dJ1_charAt_3b067_0 rfl (lv_at hl 1 rfl) ?_
  refine lv_aload_n hx hb dJ1_charAt_3b067_1 rfl (lv_at hl 0 rfl) ?_
  refine va_tlen hx hb hT hS (v := nI (sLen.getD k 0)) rfl dJ1_charAt_3b067_2 ?_
  refine sk_callv (va_runS (As := [.int (nI i), .int (nI (sLen.getD k 0))]) (rest := []) ⟨hx, hb, hml, hown, hts⟩ (mJ_check2 l (nI i) (nI (sLen.getD k 0)) (nI_pos (by omega)) (nI_lt hi (by omega))) (va_cwS 2 hts (gW_S (wi_8 _ (List.mem_of_getElem? (i := 3) rfl)) (wi_8 _ (List.mem_of_getElem? (i := 4) rfl)) (wi_7 _ (List.mem_of_getElem? (i := 18) rfl)) (wi_7 _ (List.mem_of_getElem? (i := 21) rfl))) rfl rfl rfl hd_J0_checkIndex_df160 ⟨Nat.le_of_ble_eq_true rfl, Nat.le_of_ble_eq_true rfl⟩) ⟨fun a U g mk q => ⟨q.1, va_Zq.kept (va_Zq.moved (Vm.Alike.refl U.vm) q.2) (fun _ _ _ => rfl)⟩, fun U hU hW => ⟨rfl, va_Zq.kept (va_Zq.moved hW.alike hZq) (fun _ _ _ => by rw [hU])⟩⟩ rfl rfl hl.1 rfl (lv_room (Nat.le_of_ble_eq_true rfl)) dJ1_charAt_3b067_3 ⟨Nat.zero_le _, Nat.zero_le _⟩) (fun hr9 => ?_)
  refine lv_aload_n hx hb dJ1_charAt_3b067_6 rfl (lv_at hl 0 rfl) ?_
  refine lv_iload_n hx hb dJ1_charAt_3b067_7 rfl (lv_at hl 1 rfl) ?_
  refine va_tb hx hb hT hS (vp_in_nI hi (by omega)) (v := .int ((sByt.getD k []).getD i 0)) (by rw [nI_clamp (by omega)]) dJ1_charAt_3b067_8 ?_
  refine lv_sipush (v := (255 : Int32)) hx hb dJ1_charAt_3b067_9 (by decide) ?_
  refine lv_iand hx hb dJ1_charAt_3b067_12 ?_
  refine lv_i2c hx hb dJ1_charAt_3b067_13 (s_chr k i hk hi) ?_
  exact W.zret hx hb hr (s_nar k i hk hi) (fun t ht hW => ⟨_, rfl, rfl, ht⟩) (fun _ h => absurd h List.not_mem_nil) dJ1_charAt_3b067_14
set_option maxRecDepth 100000 in
set_option maxHeartbeats 4000000 in
theorem mJ_charAt (l : Launch) (q k i : Nat) (hi : i < sLen.getD k 0) (hk : k < 6) : Met l yJ0_charAt_5068e (Cond.code yJ0_charAt_5068e cJ0_charAt_5068e 2 (some .char) :: WALL) (rmD 3) (va_Pc [.ref q, .int (nI i)] (SV (fun _ => False) q k)) (vp_Si (fun r => r = (sByt.getD k []).getD i 0)) 0 0 (fun _ => False) := by
  refine Met.ofWF (cc := cJ0_charAt_5068e) (maxL := 2) (ret := (some .char)) (by decide +kernel) rfl ?_
  intro p e s m args below meth c s₁ B0 hml hv
  obtain ⟨rfl, hV⟩ := hv
  have hx := B0.exec
  have hb := B0.bytes
  have hr := B0.returns
  have hlocks := B0.notSynchronized
  have hown : s.vm.findClass RJ0 = some m.cls := findClass_of_methodNamed B0.named
  have hts : ∀ w ∈ WALL, w.before _ s = true := fun w h => atoms_spec (ws := Cond.code yJ0_charAt_5068e cJ0_charAt_5068e 2 (some .char) :: WALL) B0.pre w (List.mem_cons_of_mem _ h)
  have hS : va_S (fun _ => False) s.heap s.heap [] := va_S.rf
  have hV0 := hV
  obtain ⟨v, hO, hC, hV1, hT, hZ, hZq⟩ := hV
  have hl := lv_entry ([.ref q, .int (nI i)]) (n := 2) (Nat.le_of_ble_eq_true rfl)
  rw [lg_entry_eq]
  generalize (lg_sl ([.ref q, .int (nI i)]) ++ List.replicate (2 - (lg_sl ([.ref q, .int (nI i)])).length) Slot.unset).toArray = ls at hl ⊢
  have hl : lv_has ls 2 [(0, .ref q), (1, .int (nI i))] := hl
  refine lv_aload_n hx hb dJ0_charAt_5068e_0 rfl (lv_at hl 0 rfl) ?_
  refine sk_calli (va_runV (As := []) (rest := []) ⟨hx, hb, hml, hown, hts⟩ (mJ_isLatin1 l q k) (cwV 0 hts (gW_V (wi_8 _ (List.mem_of_getElem? (i := 20) rfl)) (wi_8 _ (List.mem_of_getElem? (i := 21) rfl)) (wi_8 _ (List.mem_of_getElem? (i := 22) rfl)) (wi_7 _ (List.mem_of_getElem? (i := 18) rfl)) (wi_7 _ (List.mem_of_getElem? (i := 19) rfl))) rfl rfl rfl hd_J0_isLatin1_aae02 ⟨Nat.le_of_ble_eq_true rfl, Nat.le_of_ble_eq_true rfl⟩) (SV.preV hV0 []) rfl rfl hl.1 rfl (lv_room (Nat.le_of_ble_eq_true rfl)) dJ0_charAt_5068e_1 ⟨Nat.zero_le _, Nat.zero_le _⟩) (fun r hr9 => ?_)
  subst hr9
  refine lv_if_eq (tgt := 16) hx hb dJ0_charAt_5068e_4 (by decide) (fun c1 => absurd c1 (by decide)) (fun c1 => ?_)
  refine lv_aload_n hx hb dJ0_charAt_5068e_7 rfl (lv_at hl 0 rfl) ?_
  refine vk_getf hx hb hV1 hS hown (hts _ (wi_7 _ (List.mem_of_getElem? (i := 14) rfl))) (fun _ h => h) dJ0_charAt_5068e_8 ?_
  refine lv_iload_n hx hb dJ0_charAt_5068e_11 rfl (lv_at hl 1 rfl) ?_
  refine sk_calli (va_runS (As := [.ref v, .int (nI i)]) (rest := []) ⟨hx, hb, hml, hown, hts⟩ (mJ_charAt1 l v k i hi hk) (va_cwS 2 hts (gW_S (wi_8 _ (List.mem_of_getElem? (i := 23) rfl)) (wi_9 _ (List.mem_of_getElem? (i := 0) rfl)) (wi_9 _ (List.mem_of_getElem? (i := 1) rfl)) (wi_8 _ (List.mem_of_getElem? (i := 2) rfl))) rfl rfl rfl hd_J1_charAt_3b067 ⟨Nat.le_of_ble_eq_true rfl, Nat.le_of_ble_eq_true rfl⟩) ⟨fun a U g mk q => ⟨q.1, va_T.kept (va_T.moved (Vm.Alike.refl U.vm) q.2.1) (fun _ _ _ => rfl), va_Zq.kept (va_Zq.moved (Vm.Alike.refl U.vm) q.2.2) (fun _ _ _ => rfl)⟩, fun U hU hW => ⟨rfl, va_T.kept (va_T.moved hW.alike hT) (fun _ _ _ => by rw [hU]), va_Zq.kept (va_Zq.moved hW.alike hZq) (fun _ _ _ => by rw [hU])⟩⟩ rfl rfl hl.1 rfl (lv_room (Nat.le_of_ble_eq_true rfl)) dJ0_charAt_5068e_12 ⟨Nat.zero_le _, Nat.zero_le _⟩) (fun r hr9 => ?_)
  subst hr9
  exact W.zret hx hb hr (s_nar k i hk hi) (fun t ht hW => ⟨_, rfl, rfl, ht⟩) (fun _ h => absurd h List.not_mem_nil) dJ0_charAt_5068e_15
def spP (k : Nat) : Nat → Int64
  | 0 => 0
  | j + 1 => (spP k j <<< ((5 : Int32).toInt64 &&& 63)) ||| (((sByt.getD k []).getD j 0).toInt64 - 96)
def pkP (k : Nat) : Nat → Int32
  | 0 => 0
  | j + 1 => (pkP k j <<< ((5 : Int32) &&& 31)) ||| (((sByt.getD k []).getD j 0) - 97 + 1)
def pk (k : Nat) : Int32 := [6591876, 21006725, 231045, 67173, 474245, 763461].getD k 0
theorem spP_all : ∀ k, k < 6 → spP k (sLen.getD k 0) = spl k := by decide
theorem pkP_all : ∀ k, k < 6 → pkP k (sLen.getD k 0) = pk k := by decide
theorem hd_X11_spelled : yX11_spelled.cls ≠ "java/lang/invoke/MethodHandle" ∧ yX11_spelled.cls ≠ "java/lang/invoke/VarHandle" ∧ (parseMethodDescriptor yX11_spelled.desc).map (fun d => d.parameters.length) = some 1 := by decide +kernel
theorem hd_X6_packed : yX6_packed.cls ≠ "java/lang/invoke/MethodHandle" ∧ yX6_packed.cls ≠ "java/lang/invoke/VarHandle" ∧ (parseMethodDescriptor yX6_packed.desc).map (fun d => d.parameters.length) = some 1 := by decide +kernel
theorem hd_X11_is : yX11_is.cls = RX11 ∧ yX11_is.cls ≠ "java/lang/invoke/MethodHandle" ∧ yX11_is.cls ≠ "java/lang/invoke/VarHandle" ∧ (parseMethodDescriptor yX11_is.desc).map (fun d => d.parameters.length) = some 1 := by decide +kernel
set_option maxRecDepth 100000 in
set_option maxHeartbeats 4000000 in
theorem tX11_spelled_4 {p : Program} {l : Launch} {e : Env} {s : State} {m : MethodId} {av : Array Value} {below : List Frame} {meth : Method} {c : Code} {q k : Nat} (hk : k < 6) (X : CallFix p m c cX11_spelled 4 s av WALL RX11) (hr : meth.sig.returnType = (some .long)) (hlocks : meth.locks = false) (hV0 : SV (fun _ => False) q k s) : ∀ (n i : Nat), i + n = sLen.getD k 0 → ∀ ls : Array Slot, lv_has ls 4 [(0, .ref q), (1, .long (spP k i)), (3, .int (nI i))] → W p l e (rmD 4) s m av below meth c s.heap [] 0 0 (MQ below (vp_Sl (fun r => r = spP k (sLen.getD k 0))) av s 0 0 (fun _ => False)) (F0 m 4 ls []) := by
  obtain ⟨hx, hb, hml, hown, hts⟩ := X
  have hl6 := s_len6 k hk
  intro n
  induction n with
  | zero =>
    intro i hi ls hl
    refine lv_iload_n hx hb dX11_spelled_4 rfl (lv_at hl 2 rfl) ?_
    refine lv_aload_n hx hb dX11_spelled_5 rfl (lv_at hl 0 rfl) ?_
    refine sk_calli (va_runV (As := []) (rest := [.int (nI i)]) ⟨hx, hb, hml, hown, hts⟩ (mJ_length l q k hk) (cwV 0 hts (gW_V (wi_31 _ (List.mem_of_getElem? (i := 7) rfl)) (wi_9 _ (List.mem_of_getElem? (i := 6) rfl)) (wi_9 _ (List.mem_of_getElem? (i := 7) rfl)) (wi_7 _ (List.mem_of_getElem? (i := 18) rfl)) (wi_7 _ (List.mem_of_getElem? (i := 13) rfl))) rfl rfl rfl hd_J0_length_8abf5 ⟨Nat.le_of_ble_eq_true rfl, Nat.le_of_ble_eq_true rfl⟩) (SV.preV hV0 []) rfl rfl hl.1 rfl (lv_room (Nat.le_of_ble_eq_true rfl)) dX11_spelled_6 ⟨Nat.zero_le _, Nat.zero_le _⟩) (fun r hr9 => ?_)
    subst hr9
    refine lv_icmp_ge (tgt := 33) hx hb dX11_spelled_9 (by decide) (fun c1 => ?_) (fun c1 => absurd (nI_le (by omega) (by omega)) c1)
    have hie : i = sLen.getD k 0 := by omega
    subst hie
    refine lv_lload_n hx hb dX11_spelled_33 rfl (lv_at hl 1 rfl) ?_
    exact W.lret hx hb hr (fun t ht hW => ⟨_, rfl, rfl, ht⟩) (fun _ h => absurd h List.not_mem_nil) dX11_spelled_34
  | succ n ih =>
    intro i hi ls hl
    refine lv_iload_n hx hb dX11_spelled_4 rfl (lv_at hl 2 rfl) ?_
    refine lv_aload_n hx hb dX11_spelled_5 rfl (lv_at hl 0 rfl) ?_
    refine sk_calli (va_runV (As := []) (rest := [.int (nI i)]) ⟨hx, hb, hml, hown, hts⟩ (mJ_length l q k hk) (cwV 0 hts (gW_V (wi_31 _ (List.mem_of_getElem? (i := 7) rfl)) (wi_9 _ (List.mem_of_getElem? (i := 6) rfl)) (wi_9 _ (List.mem_of_getElem? (i := 7) rfl)) (wi_7 _ (List.mem_of_getElem? (i := 18) rfl)) (wi_7 _ (List.mem_of_getElem? (i := 13) rfl))) rfl rfl rfl hd_J0_length_8abf5 ⟨Nat.le_of_ble_eq_true rfl, Nat.le_of_ble_eq_true rfl⟩) (SV.preV hV0 []) rfl rfl hl.1 rfl (lv_room (Nat.le_of_ble_eq_true rfl)) dX11_spelled_6 ⟨Nat.zero_le _, Nat.zero_le _⟩) (fun r hr9 => ?_)
    subst hr9
    refine lv_icmp_ge (tgt := 33) hx hb dX11_spelled_9 (by decide) (fun c1 => absurd c1 (nI_ge (by omega) (by omega))) (fun c1 => ?_)
    refine lv_lload_n hx hb dX11_spelled_12 rfl (lv_at hl 1 rfl) ?_
    refine lv_iconst (v := (5 : Int32)) hx hb dX11_spelled_13 (by decide) ?_
    refine lv_lshl hx hb dX11_spelled_14 rfl ?_
    refine lv_aload_n hx hb dX11_spelled_15 rfl (lv_at hl 0 rfl) ?_
    refine lv_iload_n hx hb dX11_spelled_16 rfl (lv_at hl 2 rfl) ?_
    refine sk_calli (va_runV (As := [.int (nI i)]) (rest := [.long (spP k i <<< ((5 : Int32).toInt64 &&& 63))]) ⟨hx, hb, hml, hown, hts⟩ (mJ_charAt l q k i (by omega) hk) (cwV 1 hts (gW_V (wi_31 _ (List.mem_of_getElem? (i := 8) rfl)) (wi_9 _ (List.mem_of_getElem? (i := 9) rfl)) (wi_9 _ (List.mem_of_getElem? (i := 10) rfl)) (wi_7 _ (List.mem_of_getElem? (i := 18) rfl)) (wi_9 _ (List.mem_of_getElem? (i := 4) rfl))) rfl rfl rfl hd_J0_charAt_5068e ⟨Nat.le_of_ble_eq_true rfl, Nat.le_of_ble_eq_true rfl⟩) (SV.preV hV0 [.int (nI i)]) rfl rfl hl.1 rfl (lv_room (Nat.le_of_ble_eq_true rfl)) dX11_spelled_17 ⟨Nat.zero_le _, Nat.zero_le _⟩) (fun r hr9 => ?_)
    subst hr9
    refine lv_i2l hx hb dX11_spelled_20 rfl ?_
    refine lv_ldc2 (v := (96 : Int64)) hx hb hown (hts (.constantLong RX11 130 (96 : Int64)) (wi_30 _ (List.mem_of_getElem? (i := 20) rfl))) dX11_spelled_21 ?_
    refine lv_lsub hx hb dX11_spelled_24 ?_
    refine lv_lor hx hb dX11_spelled_25 ?_
    refine lv_lstore_n (lv' := [(1, .long (spP k (i + 1))), (0, .ref q), (3, .int (nI i))]) hx hb dX11_spelled_26 rfl hl (by decide) rfl (fun ls hl => ?_)
    refine lv_iinc (v := nI (i + 1)) (lv' := [(3, .int (nI (i + 1))), (1, .long (spP k (i + 1))), (0, .ref q)]) hx hb dX11_spelled_27 hl (k := 2) rfl (nI_1 i) (by decide) rfl (fun ls hl => ?_)
    refine lv_goto (tgt := 4) hx hb dX11_spelled_30 (by decide) ?_
    exact ih (i + 1) (by omega) ls (lv_sub hl [2, 1, 0] rfl)
set_option maxRecDepth 100000 in
set_option maxHeartbeats 4000000 in
theorem mX_spelled (l : Launch) (q k : Nat) (hk : k < 6) : Met l yX11_spelled (Cond.code yX11_spelled cX11_spelled 4 (some .long) :: WALL) (rmD 4) (va_Pc [.ref q] (SV (fun _ => False) q k)) (vp_Sl (fun r => r = spl k)) 0 0 (fun _ => False) := by
  refine Met.ofWF (cc := cX11_spelled) (maxL := 4) (ret := (some .long)) (by decide +kernel) rfl ?_
  intro p e s m args below meth c s₁ B0 hml hv
  obtain ⟨rfl, hV⟩ := hv
  have hx := B0.exec
  have hb := B0.bytes
  have hr := B0.returns
  have hlocks := B0.notSynchronized
  have hown : s.vm.findClass RX11 = some m.cls := findClass_of_methodNamed B0.named
  have hts : ∀ w ∈ WALL, w.before _ s = true := fun w h => atoms_spec (ws := Cond.code yX11_spelled cX11_spelled 4 (some .long) :: WALL) B0.pre w (List.mem_cons_of_mem _ h)
  have hS : va_S (fun _ => False) s.heap s.heap [] := va_S.rf
  have hV0 := hV
  have hl := lv_entry ([.ref q]) (n := 4) (Nat.le_of_ble_eq_true rfl)
  rw [lg_entry_eq]
  generalize (lg_sl ([.ref q]) ++ List.replicate (4 - (lg_sl ([.ref q])).length) Slot.unset).toArray = ls at hl ⊢
  have hl : lv_has ls 4 [(0, .ref q)] := hl
  refine lv_lconst (v := (0 : Int64)) hx hb dX11_spelled_0 (by decide) ?_
  refine lv_lstore_n (lv' := [(1, .long (0 : Int64)), (0, .ref q)]) hx hb dX11_spelled_1 rfl hl (by decide) rfl (fun ls hl => ?_)
  refine lv_iconst (v := (0 : Int32)) hx hb dX11_spelled_2 (by decide) ?_
  refine lv_istore_n (lv' := [(3, .int (0 : Int32)), (1, .long (0 : Int64)), (0, .ref q)]) hx hb dX11_spelled_3 rfl hl (by decide) rfl (fun ls hl => ?_)
  rw [← spP_all k hk]
  exact tX11_spelled_4 hk ⟨hx, hb, hml, hown, hts⟩ hr hlocks hV0 (sLen.getD k 0) 0 (by omega) ls (lv_sub hl [2, 1, 0] rfl)
set_option maxRecDepth 100000 in
set_option maxHeartbeats 4000000 in
theorem tX6_packed_4 {p : Program} {l : Launch} {e : Env} {s : State} {m : MethodId} {av : Array Value} {below : List Frame} {meth : Method} {c : Code} {q k : Nat} (hk : k < 6) (X : CallFix p m c cX6_packed 3 s av WALL RX6) (hr : meth.sig.returnType = (some .int)) (hlocks : meth.locks = false) (hV0 : SV (fun _ => False) q k s) : ∀ (n i : Nat), i + n = sLen.getD k 0 → ∀ ls : Array Slot, lv_has ls 3 [(0, .ref q), (1, .int (pkP k i)), (2, .int (nI i))] → W p l e (rmD 4) s m av below meth c s.heap [] 0 0 (MQ below (vp_Si (fun r => r = pkP k (sLen.getD k 0))) av s 0 0 (fun _ => False)) (F0 m 4 ls []) := by
  obtain ⟨hx, hb, hml, hown, hts⟩ := X
  have hl6 := s_len6 k hk
  intro n
  induction n with
  | zero =>
    intro i hi ls hl
    refine lv_iload_n hx hb dX6_packed_4 rfl (lv_at hl 2 rfl) ?_
    refine lv_aload_n hx hb dX6_packed_5 rfl (lv_at hl 0 rfl) ?_
    refine sk_calli (va_runV (As := []) (rest := [.int (nI i)]) ⟨hx, hb, hml, hown, hts⟩ (mJ_length l q k hk) (cwV 0 hts (gW_V (wi_9 _ (List.mem_of_getElem? (i := 5) rfl)) (wi_9 _ (List.mem_of_getElem? (i := 6) rfl)) (wi_9 _ (List.mem_of_getElem? (i := 7) rfl)) (wi_7 _ (List.mem_of_getElem? (i := 18) rfl)) (wi_7 _ (List.mem_of_getElem? (i := 13) rfl))) rfl rfl rfl hd_J0_length_8abf5 ⟨Nat.le_of_ble_eq_true rfl, Nat.le_of_ble_eq_true rfl⟩) (SV.preV hV0 []) rfl rfl hl.1 rfl (lv_room (Nat.le_of_ble_eq_true rfl)) dX6_packed_6 ⟨Nat.zero_le _, Nat.zero_le _⟩) (fun r hr9 => ?_)
    subst hr9
    refine lv_icmp_ge (tgt := 33) hx hb dX6_packed_9 (by decide) (fun c1 => ?_) (fun c1 => absurd (nI_le (by omega) (by omega)) c1)
    have hie : i = sLen.getD k 0 := by omega
    subst hie
    refine lv_iload_n hx hb dX6_packed_33 rfl (lv_at hl 1 rfl) ?_
    exact W.iret hx hb hr (fun t ht hW => ⟨_, rfl, rfl, ht⟩) (fun _ h => absurd h List.not_mem_nil) dX6_packed_34
  | succ n ih =>
    intro i hi ls hl
    refine lv_iload_n hx hb dX6_packed_4 rfl (lv_at hl 2 rfl) ?_
    refine lv_aload_n hx hb dX6_packed_5 rfl (lv_at hl 0 rfl) ?_
    refine sk_calli (va_runV (As := []) (rest := [.int (nI i)]) ⟨hx, hb, hml, hown, hts⟩ (mJ_length l q k hk) (cwV 0 hts (gW_V (wi_9 _ (List.mem_of_getElem? (i := 5) rfl)) (wi_9 _ (List.mem_of_getElem? (i := 6) rfl)) (wi_9 _ (List.mem_of_getElem? (i := 7) rfl)) (wi_7 _ (List.mem_of_getElem? (i := 18) rfl)) (wi_7 _ (List.mem_of_getElem? (i := 13) rfl))) rfl rfl rfl hd_J0_length_8abf5 ⟨Nat.le_of_ble_eq_true rfl, Nat.le_of_ble_eq_true rfl⟩) (SV.preV hV0 []) rfl rfl hl.1 rfl (lv_room (Nat.le_of_ble_eq_true rfl)) dX6_packed_6 ⟨Nat.zero_le _, Nat.zero_le _⟩) (fun r hr9 => ?_)
    subst hr9
    refine lv_icmp_ge (tgt := 33) hx hb dX6_packed_9 (by decide) (fun c1 => absurd c1 (nI_ge (by omega) (by omega))) (fun c1 => ?_)
    refine lv_iload_n hx hb dX6_packed_12 rfl (lv_at hl 1 rfl) ?_
    refine lv_iconst (v := (5 : Int32)) hx hb dX6_packed_13 (by decide) ?_
    refine lv_ishl hx hb dX6_packed_14 ?_
    refine lv_aload_n hx hb dX6_packed_15 rfl (lv_at hl 0 rfl) ?_
    refine lv_iload_n hx hb dX6_packed_16 rfl (lv_at hl 2 rfl) ?_
    refine sk_calli (va_runV (As := [.int (nI i)]) (rest := [.int (pkP k i <<< ((5 : Int32) &&& 31))]) ⟨hx, hb, hml, hown, hts⟩ (mJ_charAt l q k i (by omega) hk) (cwV 1 hts (gW_V (wi_9 _ (List.mem_of_getElem? (i := 8) rfl)) (wi_9 _ (List.mem_of_getElem? (i := 9) rfl)) (wi_9 _ (List.mem_of_getElem? (i := 10) rfl)) (wi_7 _ (List.mem_of_getElem? (i := 18) rfl)) (wi_9 _ (List.mem_of_getElem? (i := 4) rfl))) rfl rfl rfl hd_J0_charAt_5068e ⟨Nat.le_of_ble_eq_true rfl, Nat.le_of_ble_eq_true rfl⟩) (SV.preV hV0 [.int (nI i)]) rfl rfl hl.1 rfl (lv_room (Nat.le_of_ble_eq_true rfl)) dX6_packed_17 ⟨Nat.zero_le _, Nat.zero_le _⟩) (fun r hr9 => ?_)
    subst hr9
    refine lv_bipush (v := (97 : Int32)) hx hb dX6_packed_20 (by decide) ?_
    refine lv_isub hx hb dX6_packed_22 ?_
    refine lv_iconst (v := (1 : Int32)) hx hb dX6_packed_23 (by decide) ?_
    refine lv_iadd hx hb dX6_packed_24 ?_
    refine lv_ior hx hb dX6_packed_25 ?_
    refine lv_istore_n (lv' := [(1, .int (pkP k (i + 1))), (0, .ref q), (2, .int (nI i))]) hx hb dX6_packed_26 rfl hl (by decide) rfl (fun ls hl => ?_)
    refine lv_iinc (v := nI (i + 1)) (lv' := [(2, .int (nI (i + 1))), (1, .int (pkP k (i + 1))), (0, .ref q)]) hx hb dX6_packed_27 hl (k := 2) rfl (nI_1 i) (by decide) rfl (fun ls hl => ?_)
    refine lv_goto (tgt := 4) hx hb dX6_packed_30 (by decide) ?_
    exact ih (i + 1) (by omega) ls (lv_sub hl [2, 1, 0] rfl)
set_option maxRecDepth 100000 in
set_option maxHeartbeats 4000000 in
theorem mX_packed (l : Launch) (q k : Nat) (hk : k < 6) : Met l yX6_packed (Cond.code yX6_packed cX6_packed 3 (some .int) :: WALL) (rmD 4) (va_Pc [.ref q] (SV (fun _ => False) q k)) (vp_Si (fun r => r = pk k)) 0 0 (fun _ => False) := by
  refine Met.ofWF (cc := cX6_packed) (maxL := 3) (ret := (some .int)) (by decide +kernel) rfl ?_
  intro p e s m args below meth c s₁ B0 hml hv
  obtain ⟨rfl, hV⟩ := hv
  have hx := B0.exec
  have hb := B0.bytes
  have hr := B0.returns
  have hlocks := B0.notSynchronized
  have hown : s.vm.findClass RX6 = some m.cls := findClass_of_methodNamed B0.named
  have hts : ∀ w ∈ WALL, w.before _ s = true := fun w h => atoms_spec (ws := Cond.code yX6_packed cX6_packed 3 (some .int) :: WALL) B0.pre w (List.mem_cons_of_mem _ h)
  have hS : va_S (fun _ => False) s.heap s.heap [] := va_S.rf
  have hV0 := hV
  have hl := lv_entry ([.ref q]) (n := 3) (Nat.le_of_ble_eq_true rfl)
  rw [lg_entry_eq]
  generalize (lg_sl ([.ref q]) ++ List.replicate (3 - (lg_sl ([.ref q])).length) Slot.unset).toArray = ls at hl ⊢
  have hl : lv_has ls 3 [(0, .ref q)] := hl
  refine lv_iconst (v := (0 : Int32)) hx hb dX6_packed_0 (by decide) ?_
  refine lv_istore_n (lv' := [(1, .int (0 : Int32)), (0, .ref q)]) hx hb dX6_packed_1 rfl hl (by decide) rfl (fun ls hl => ?_)
  refine lv_iconst (v := (0 : Int32)) hx hb dX6_packed_2 (by decide) ?_
  refine lv_istore_n (lv' := [(2, .int (0 : Int32)), (1, .int (0 : Int32)), (0, .ref q)]) hx hb dX6_packed_3 rfl hl (by decide) rfl (fun ls hl => ?_)
  rw [← pkP_all k hk]
  exact tX6_packed_4 hk ⟨hx, hb, hml, hown, hts⟩ hr hlocks hV0 (sLen.getD k 0) 0 (by omega) ls (lv_sub hl [2, 1, 0] rfl)
set_option maxRecDepth 100000 in
set_option maxHeartbeats 4000000 in
theorem mX11_is (l : Launch) (D : va_G) (cy : Nat → ClassId) (B : Nat) (v0 q k : Nat) (hk : k < 6) (σ : St) (h0 : kM[v0]? = some 11) {post : Bool → St → Prop} (h : wX11_is v0 k σ post) : Met l yX11_is (Cond.code yX11_is cX11_is 2 (some .boolean) :: WALL) (rmD 10) (fun a U => PcW D cy B kM σ [.ref (B + v0), .ref q] a U ∧ SV (AW B 26) q k U) (Qz post D cy B kM 26) 0 0 (AW B 26) := by
  refine Met.ofWF (cc := cX11_is) (maxL := 2) (ret := (some .boolean)) (by decide +kernel) rfl ?_
  intro p e s m args below meth c s₁ B0 hml hv
  obtain ⟨⟨rfl, hP, hK, hN, hZ⟩, hV⟩ := hv
  have hts : ∀ w ∈ WALL, w.before _ s = true := fun w h => atoms_spec (ws := Cond.code yX11_is cX11_is 2 (some .boolean) :: WALL) B0.pre w (List.mem_cons_of_mem _ h)
  rw [kM_len] at hZ
  have X : kC p s m _ meth c cX11_is 2 (some .boolean) WALL RX11 D cy (AW B 26) := ⟨⟨B0.exec, B0.bytes, hml, findClass_of_methodNamed B0.named, hts⟩, B0.returns, B0.notSynchronized, hK, hN, hZ⟩
  have hV0 : SV (fun _ => False) q k s := hV.narrow (fun _ h => h.elim)
  obtain ⟨⟨hx, hb, hml, hown, hts⟩, hr, hlk, hK, hN, hZ⟩ := id X
  have hS : va_S (AW B 26) s.heap s.heap [] := va_S.rf
  have hl := lv_entry ([.ref (B + v0), .ref q]) (n := 2) (Nat.le_of_ble_eq_true rfl)
  rw [lg_entry_eq]
  generalize (lg_sl ([.ref (B + v0), .ref q]) ++ List.replicate (2 - (lg_sl ([.ref (B + v0), .ref q])).length) Slot.unset).toArray = ls at hl ⊢
  have hl : lv_has ls 2 [(0, .ref (B + v0)), (1, .ref q)] := hl
  refine lv_aload_n hx hb dX11_is_0 rfl (lv_at hl 0 rfl) ?_
  refine rk_get X hP (C := RX11) (T := TX11) (N := 44) (ci := 11) wix_11 h0 rfl rfl 6 (by decide) (wi_30 _ (List.mem_of_getElem? (i := 15) rfl)) rfl rfl dX11_is_1 ?_
  refine lv_iconst (v := (1 : Int32)) hx hb dX11_is_4 (by decide) ?_
  refine lv_icmp_ne (tgt := 24) hx hb dX11_is_5 (by decide) (fun c1 => ?_) (fun c1 => ?_)
  · refine lv_iconst (v := (0 : Int32)) hx hb dX11_is_24 (by decide) ?_
    exact rk_zret X kM_len false (by rw [show false = decide (σ.1 v0 6 = 1 ∧ σ.2 v0 8 = spl k) from (decide_eq_false (fun z => c1 z.1)).symm]; exact h) hP hS dX11_is_25
  · refine lv_aload_n hx hb dX11_is_8 rfl (lv_at hl 0 rfl) ?_
    refine rk_get X hP (C := RX11) (T := TX11) (N := 44) (ci := 11) wix_11 h0 rfl rfl 8 (by decide) (wi_30 _ (List.mem_of_getElem? (i := 17) rfl)) rfl rfl dX11_is_9 ?_
    refine lv_aload_n hx hb dX11_is_12 rfl (lv_at hl 1 rfl) ?_
    refine sk_calll (va_runS (As := [.ref q]) (rest := [.long (σ.2 v0 8)]) ⟨hx, hb, hml, hown, hts⟩ (mX_spelled l q k hk) (va_cwS 1 hts (gW_S (wi_31 _ (List.mem_of_getElem? (i := 10) rfl)) (wi_31 _ (List.mem_of_getElem? (i := 11) rfl)) (wi_30 _ (List.mem_of_getElem? (i := 9) rfl)) (wi_31 _ (List.mem_of_getElem? (i := 9) rfl))) rfl rfl rfl hd_X11_spelled ⟨Nat.le_of_ble_eq_true rfl, Nat.le_of_ble_eq_true rfl⟩) (SV.preS hV0) rfl rfl hl.1 rfl (lv_room (Nat.le_of_ble_eq_true rfl)) dX11_is_13 ⟨Nat.zero_le _, Nat.zero_le _⟩) (fun r hr9 => ?_)
    subst hr9
    refine W.lcmp hx hb dX11_is_16 ?_
    refine lv_if_ne (tgt := 24) hx hb dX11_is_17 (by decide) (fun c2 => ?_) (fun c2 => ?_)
    · refine lv_iconst (v := (0 : Int32)) hx hb dX11_is_24 (by decide) ?_
      exact rk_zret X kM_len false (by rw [show false = decide (σ.1 v0 6 = 1 ∧ σ.2 v0 8 = spl k) from (decide_eq_false (fun z => c2 (lcmp_0.mpr z.2))).symm]; exact h) hP hS dX11_is_25
    · refine lv_iconst (v := (1 : Int32)) hx hb dX11_is_20 (by decide) ?_
      refine lv_goto (tgt := 25) hx hb dX11_is_21 (by decide) ?_
      exact rk_zret X kM_len true (by rw [show true = decide (σ.1 v0 6 = 1 ∧ σ.2 v0 8 = spl k) from (decide_eq_true ⟨c1, lcmp_0.mp c2⟩).symm]; exact h) hP hS dX11_is_25
set_option maxRecDepth 100000 in
set_option maxHeartbeats 4000000 in
theorem rk_is {p : Program} {l : Launch} {e : Env} {R : Room} {s : State} {m : MethodId} {args : Array Value} {below : List Frame} {meth : Method} {c : Code} {H : Heap} {locs : List Loc} {cc : ByteArray} {pc nL : Nat} {ls : Array Slot} {rest : List Value} {D : va_G} {cy : Nat → ClassId} {B : Nat} {σ : St} {ret : Option FieldType} {post : Bool → St → Prop}
    (X : kC p s m args meth c cc nL ret WALL RX11 D cy (AW B 26)) (hS : va_S (AW B 26) s.heap H locs) (hP : va_P D vwCl (wW cy B kM σ) H) {v0 k : Nat} (hk : k < 6) {adK adV : Nat → Nat} (hvS : vk_S 6 sLen sByt adK adV (AW B 26) s s.heap) (h0 : kM[v0]? = some 11) {idx : Nat} (hlink : Cond.methodLink RX11 idx yX11_is ∈ WALL) (hls : ls.size = nL) (hf : 11 ≤ R.frames) (hlo : 421 ≤ R.locals) (hrest : (rest.map fun v => v.category).sum ≤ 8) (hdg : decode cc pc = .ok (.invokevirtual idx, 3)) (h : wX11_is v0 k σ post) :
    va_Run p l e R s m args below meth c H locs 0 0 0 0 (F0 m pc ls (.ref (adK k) :: .ref (B + v0) :: rest)) rest (Qz post D cy B kM 26 (Value.ref (B + v0) :: [.ref (adK k)]).toArray) (AW B 26) := by
  obtain ⟨⟨hx, hb, hml, hown, hts⟩, hr, hlk, hK, hN, hZ⟩ := id X
  have hV : SV (AW B 26) (adK k) k s := by
    obtain ⟨adK2, adV2, z1, z2, z3, z4, z5, z6, z7⟩ := hZ
    obtain ⟨g1, g2, g3, g4⟩ := hvS.1 k hk
    exact ⟨adV k, g1, g2, g3, g4, z6, z7⟩
  refine va_runV (As := [.ref (adK k)]) (rest := rest) X.1 (mX11_is l D cy B v0 (adK k) k hk σ h0 h) (cwV 1 hts (gW_V hlink (wi_31 _ (List.mem_of_getElem? (i := 14) rfl)) (wi_31 _ (List.mem_of_getElem? (i := 15) rfl)) (wi_30 _ (List.mem_of_getElem? (i := 9) rfl)) (wi_31 _ (List.mem_of_getElem? (i := 12) rfl))) rfl rfl rfl hd_X11_is ⟨hf, hlo⟩) ?_ rfl rfl hls rfl (lv_room hrest) hdg ⟨Nat.zero_le _, Nat.zero_le _⟩
  obtain ⟨p1, p2, p3⟩ := rk_preV (C := RX11) (T := TX11) (N := 44) (ci := 11) (kd := 11) X hS hP h0 rfl rfl [.ref (adK k)]
  exact ⟨fun a U g mk r => ⟨p1 a U g mk r.1, SV.moved (Vm.Alike.refl U.vm) (fun _ _ _ => rfl) r.2⟩, p2, fun U hU hW => ⟨p3 U hU hW, SV.moved hW.alike (fun a h1 h2 => by rw [hU]; exact hS.2.1 a h1 h2) hV⟩⟩
