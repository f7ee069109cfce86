/-! the law's loop, over any relation that all calls keep -/
def Aw (s : State) : Nat → Prop := fun q => s.heap.size ≤ q
def LHs (D : va_G) (cy : Nat → ClassId) (BX BM oa : Nat) (σ τ : St) (g : Nat → Int64) (s : State) (H : Heap) (locs : List Loc) : Prop := va_P D vwCl (wW cy BX kX σ) H ∧ va_P D vwCl (wW cy BM kM τ) H ∧ va_P D vwCl (wO cy oa g) H ∧ va_S (Aw s) s.heap H locs
def kL (p : Program) (l : Launch) (s : State) (m : MethodId) (c : Code) (D : va_G) (cy : Nat → ClassId) (b L : Nat) (xs : Nat → Int32) (BX BM oa : Nat) : Prop :=
  CallFix p m c code 7 s #[Value.ref b] lw_tbl RL ∧ va_K D vwCl (tysW cy) s ∧ NW s ∧ SWa (Aw s) s ∧ EXW (Aw s) s ∧ va_X b L xs s s.heap ∧ b < s.heap.size ∧ l.stackTraces = false ∧ s.heap.size ≤ BX ∧ BX + 346 ≤ BM ∧ BM + 26 ≤ oa
theorem wW_kept {D : va_G} {cy : Nat → ClassId} {B : Nat} {ks : List Nat} {σ : St} {H H1 : Heap} (h : va_P D vwCl (wW cy B ks σ) H) (hq : ∀ q, AW B ks.length q → q < H.size → H1[q]? = H[q]?) : va_P D vwCl (wW cy B ks σ) H1 :=
  h.kept (fun k q hk => hq q.1 ((wW_D (A := AW B ks.length) (fun o ho => ⟨by omega, by omega⟩) σ).2 k q hk) ((h k q hk).lt))
theorem wO_kept {D : va_G} {cy : Nat → ClassId} {oa : Nat} {g : Nat → Int64} {H H1 : Heap} (h : va_P D vwCl (wO cy oa g) H) (hq : oa < H.size → H1[oa]? = H[oa]?) : va_P D vwCl (wO cy oa g) H1 := by
  refine h.kept (fun k q hk => ?_)
  have h1 := (h k q hk).lt
  match k, hk with
  | 0, hk =>
    cases hk
    exact hq h1
section LK
variable {p : Program} {l : Launch} {e : Env} {s : State} {m : MethodId} {below : List Frame} {meth : Method} {c : Code} {H : Heap} {locs : List Loc} {cells slots : Nat} {Q : State → Prop} {pc : Nat} {ls : Array Slot} {rest st0 : List Value} {D : va_G} {cy : Nat → ClassId} {b L : Nat} {xs : Nat → Int32} {BX BM oa : Nat} {σ τ : St} {g : Nat → Int64}
theorem gL_W {idx : Nat} {C : String} {y : MethodName} {bytes : ByteArray} {maxL : Nat} {ret : Option FieldType} (h1 : Cond.methodLink RL idx y ∈ lw_tbl) (h2 : Cond.instanceMethod y ∈ lw_tbl) (h3 : Cond.selects C y y ∈ lw_tbl) (h4 : Cond.initialized C ∈ lw_tbl) (h5 : Cond.code y bytes maxL ret ∈ lw_tbl) (hg : [Cond.methodLink RL idx y, Cond.instanceMethod y, Cond.selects C y y, Cond.initialized C, Cond.code y bytes maxL ret].all goodWord = true) : GoodIn lw_tbl (wsV RL idx C y (Cond.code y bytes maxL ret :: WALL)) := by
  intro w h
  have hg := List.all_eq_true.mp hg
  rcases List.mem_append.mp h with h | h
  · simp only [List.mem_cons, List.not_mem_nil, or_false] at h
    rcases h with rfl | rfl | rfl | rfl
    · exact ⟨h1, good_of_word (hg _ (by simp))⟩
    · exact ⟨h2, good_of_word (hg _ (by simp))⟩
    · exact ⟨h3, good_of_word (hg _ (by simp))⟩
    · exact ⟨h4, good_of_word (hg _ (by simp))⟩
  · rcases List.mem_cons.mp h with rfl | h
    · exact ⟨h5, good_of_word (hg _ (by simp))⟩
    · exact ⟨WALL_in w h, good_of_word (WALL_good w h)⟩
theorem lk_Xi {post : Int32 → St → Prop} {y : MethodName} {bytes : ByteArray} {maxL d n idx : Nat} {ret : Option FieldType} {As : List Value} (K : kL p l s m c D cy b L xs BX BM oa) (h : LHs D cy BX BM oa σ τ g s H locs) (hM : Met l y (Cond.code y bytes maxL ret :: WALL) (rmD d) (PcW D cy BX kX σ (.ref (BX + 0) :: As)) (va_Qi post (BW D cy BX kX) (AW BX 346)) 0 0 (AW BX 346)) (hg : GoodIn lw_tbl (wsV RL idx RX10 y (Cond.code y bytes maxL ret :: WALL))) (hd : y.cls = RX10 ∧ y.cls ≠ "java/lang/invoke/MethodHandle" ∧ y.cls ≠ "java/lang/invoke/VarHandle" ∧ (parseMethodDescriptor y.desc).map (fun d => d.parameters.length) = some n) (hroom : d + 1 ≤ 2048 ∧ 8 + (maxL + 11) + 40 * d ≤ 84000) (hn : As.length = n) (hls : ls.size = 7) (hrest : (rest.map fun v => v.category).sum ≤ 8) (hc : cells ≤ 601024) (hs : slots ≤ 7293034) (hdg : decode code pc = .ok (.invokevirtual idx, 3)) (hst : st0 = As.reverse ++ .ref (BX + 0) :: rest)
    (kk : ∀ (r : Int32) (σ' : St) (H : Heap) (locs : List Loc), post r σ' → LHs D cy BX BM oa σ' τ g s H locs → W p l e room_1 s m #[Value.ref b] below meth c H locs cells slots Q (F0 m (pc + 3) ls (.int r :: rest))) : W p l e room_1 s m #[Value.ref b] below meth c H locs cells slots Q (F0 m pc ls st0) := by
  obtain ⟨K0, hK, hN, hZ, hE, hX, hbl, hfl, l1, l2, l3⟩ := K
  obtain ⟨h1, h2, h3, hS⟩ := h
  have hAA : ∀ q, AW BX 346 q → Aw s q := fun q hq => by
    show s.heap.size ≤ q
    have := hq.1
    omega
  have pre : PreV s H RX10 (BX + 0) (PcW D cy BX kX σ (.ref (BX + 0) :: As)) As := by
    refine ⟨BW.blind, va_recv hK h1 (ci := 10) (q := (RX10, TX10, 14)) (q0 := 0) rfl (wW_at (kd := 10) rfl), fun U hU hW => ⟨rfl, by rw [hU]; exact h1, va_K.moved hW.alike hK, hN.warm hW, ?_⟩⟩
    rw [kX_len]
    exact (hZ.keep hW (fun a q1 q2 => by rw [hU]; exact hS.2.1 a q1 q2)).narrow hAA
  have run := va_runV (As := As) (rest := rest) (g := F0 m pc ls st0) (cells := cells) (slots := slots) (locs := locs) (below := below) (meth := meth) (e := e) (R := room_1) K0 hM (cwV n K0.2.2.2.2 hg rfl rfl rfl hd hroom) pre rfl hn hls hst (lv_room hrest) hdg ⟨hc, hs⟩
  exact va_calli run hS (fun q _ hq => hAA q hq) hAA (fun r u t H1 locs1 ht hvm hp hB hz hk hS1 => kk r u H1 locs1 hp ⟨by rw [← ht]; exact hB.1, wW_kept h2 (fun q q1 q2 => hk q q2 (fun z => by have := q1.1; have := z.2; omega)), wO_kept h3 (fun q2 => hk _ q2 (fun z => by have := z.2; omega)), hS1⟩)
theorem lk_Xz {post : Bool → St → Prop} {y : MethodName} {bytes : ByteArray} {maxL d n idx : Nat} {ret : Option FieldType} {As : List Value} (K : kL p l s m c D cy b L xs BX BM oa) (h : LHs D cy BX BM oa σ τ g s H locs) (hM : Met l y (Cond.code y bytes maxL ret :: WALL) (rmD d) (PcW D cy BX kX σ (.ref (BX + 0) :: As)) (Qz post D cy BX kX 346) 0 0 (AW BX 346)) (hg : GoodIn lw_tbl (wsV RL idx RX10 y (Cond.code y bytes maxL ret :: WALL))) (hd : y.cls = RX10 ∧ y.cls ≠ "java/lang/invoke/MethodHandle" ∧ y.cls ≠ "java/lang/invoke/VarHandle" ∧ (parseMethodDescriptor y.desc).map (fun d => d.parameters.length) = some n) (hroom : d + 1 ≤ 2048 ∧ 8 + (maxL + 11) + 40 * d ≤ 84000) (hn : As.length = n) (hls : ls.size = 7) (hrest : (rest.map fun v => v.category).sum ≤ 8) (hc : cells ≤ 601024) (hs : slots ≤ 7293034) (hdg : decode code pc = .ok (.invokevirtual idx, 3)) (hst : st0 = As.reverse ++ .ref (BX + 0) :: rest)
    (kk : ∀ (r : Bool) (σ' : St) (H : Heap) (locs : List Loc), post r σ' → LHs D cy BX BM oa σ' τ g s H locs → W p l e room_1 s m #[Value.ref b] below meth c H locs cells slots Q (F0 m (pc + 3) ls (.int (b2i r) :: rest))) : W p l e room_1 s m #[Value.ref b] below meth c H locs cells slots Q (F0 m pc ls st0) := by
  obtain ⟨K0, hK, hN, hZ, hE, hX, hbl, hfl, l1, l2, l3⟩ := K
  obtain ⟨h1, h2, h3, hS⟩ := h
  have hAA : ∀ q, AW BX 346 q → Aw s q := fun q hq => by
    show s.heap.size ≤ q
    have := hq.1
    omega
  have pre : PreV s H RX10 (BX + 0) (PcW D cy BX kX σ (.ref (BX + 0) :: As)) As := by
    refine ⟨BW.blind, va_recv hK h1 (ci := 10) (q := (RX10, TX10, 14)) (q0 := 0) rfl (wW_at (kd := 10) rfl), fun U hU hW => ⟨rfl, by rw [hU]; exact h1, va_K.moved hW.alike hK, hN.warm hW, ?_⟩⟩
    rw [kX_len]
    exact (hZ.keep hW (fun a q1 q2 => by rw [hU]; exact hS.2.1 a q1 q2)).narrow hAA
  have run := va_runV (As := As) (rest := rest) (g := F0 m pc ls st0) (cells := cells) (slots := slots) (locs := locs) (below := below) (meth := meth) (e := e) (R := room_1) K0 hM (cwV n K0.2.2.2.2 hg rfl rfl rfl hd hroom) pre rfl hn hls hst (lv_room hrest) hdg ⟨hc, hs⟩
  refine va_calli (post := fun r σ => ∃ b : Bool, r = b2i b ∧ post b σ) run hS (fun q _ hq => hAA q hq) hAA (fun r u t H1 locs1 ht hvm hp hB hz hk hS1 => ?_)
  obtain ⟨rb, rfl, hp⟩ := hp
  exact kk rb u H1 locs1 hp ⟨by rw [← ht]; exact hB.1, wW_kept h2 (fun q q1 q2 => hk q q2 (fun z => by have := q1.1; have := z.2; omega)), wO_kept h3 (fun q2 => hk _ q2 (fun z => by have := z.2; omega)), hS1⟩
theorem lk_Mi {post : Int32 → St → Prop} {y : MethodName} {bytes : ByteArray} {maxL d n idx : Nat} {ret : Option FieldType} {As : List Value} (K : kL p l s m c D cy b L xs BX BM oa) (h : LHs D cy BX BM oa σ τ g s H locs) (hM : Met l y (Cond.code y bytes maxL ret :: WALL) (rmD d) (PcW D cy BM kM τ (.ref (BM + 0) :: As)) (va_Qi post (BW D cy BM kM) (AW BM 26)) 0 0 (AW BM 26)) (hg : GoodIn lw_tbl (wsV RL idx RX11 y (Cond.code y bytes maxL ret :: WALL))) (hd : y.cls = RX11 ∧ y.cls ≠ "java/lang/invoke/MethodHandle" ∧ y.cls ≠ "java/lang/invoke/VarHandle" ∧ (parseMethodDescriptor y.desc).map (fun d => d.parameters.length) = some n) (hroom : d + 1 ≤ 2048 ∧ 8 + (maxL + 11) + 40 * d ≤ 84000) (hn : As.length = n) (hls : ls.size = 7) (hrest : (rest.map fun v => v.category).sum ≤ 8) (hc : cells ≤ 601024) (hs : slots ≤ 7293034) (hdg : decode code pc = .ok (.invokevirtual idx, 3)) (hst : st0 = As.reverse ++ .ref (BM + 0) :: rest)
    (kk : ∀ (r : Int32) (τ' : St) (H : Heap) (locs : List Loc), post r τ' → LHs D cy BX BM oa σ τ' g s H locs → W p l e room_1 s m #[Value.ref b] below meth c H locs cells slots Q (F0 m (pc + 3) ls (.int r :: rest))) : W p l e room_1 s m #[Value.ref b] below meth c H locs cells slots Q (F0 m pc ls st0) := by
  obtain ⟨K0, hK, hN, hZ, hE, hX, hbl, hfl, l1, l2, l3⟩ := K
  obtain ⟨h1, h2, h3, hS⟩ := h
  have hAA : ∀ q, AW BM 26 q → Aw s q := fun q hq => by
    show s.heap.size ≤ q
    have := hq.1
    omega
  have pre : PreV s H RX11 (BM + 0) (PcW D cy BM kM τ (.ref (BM + 0) :: As)) As := by
    refine ⟨BW.blind, va_recv hK h2 (ci := 11) (q := (RX11, TX11, 44)) (q0 := 0) rfl (wW_at (kd := 11) rfl), fun U hU hW => ⟨rfl, by rw [hU]; exact h2, va_K.moved hW.alike hK, hN.warm hW, ?_⟩⟩
    rw [kM_len]
    exact (hZ.keep hW (fun a q1 q2 => by rw [hU]; exact hS.2.1 a q1 q2)).narrow hAA
  have run := va_runV (As := As) (rest := rest) (g := F0 m pc ls st0) (cells := cells) (slots := slots) (locs := locs) (below := below) (meth := meth) (e := e) (R := room_1) K0 hM (cwV n K0.2.2.2.2 hg rfl rfl rfl hd hroom) pre rfl hn hls hst (lv_room hrest) hdg ⟨hc, hs⟩
  exact va_calli run hS (fun q _ hq => hAA q hq) hAA (fun r u t H1 locs1 ht hvm hp hB hz hk hS1 => kk r u H1 locs1 hp ⟨wW_kept h1 (fun q q1 q2 => hk q q2 (fun z => by have q3 := q1.2; rw [kX_len] at q3; have := z.1; omega)), by rw [← ht]; exact hB.1, wO_kept h3 (fun q2 => hk _ q2 (fun z => by have := z.2; omega)), hS1⟩)
theorem lk_Mz {post : Bool → St → Prop} {y : MethodName} {bytes : ByteArray} {maxL d n idx : Nat} {ret : Option FieldType} {As : List Value} (K : kL p l s m c D cy b L xs BX BM oa) (h : LHs D cy BX BM oa σ τ g s H locs) (hM : Met l y (Cond.code y bytes maxL ret :: WALL) (rmD d) (PcW D cy BM kM τ (.ref (BM + 0) :: As)) (Qz post D cy BM kM 26) 0 0 (AW BM 26)) (hg : GoodIn lw_tbl (wsV RL idx RX11 y (Cond.code y bytes maxL ret :: WALL))) (hd : y.cls = RX11 ∧ y.cls ≠ "java/lang/invoke/MethodHandle" ∧ y.cls ≠ "java/lang/invoke/VarHandle" ∧ (parseMethodDescriptor y.desc).map (fun d => d.parameters.length) = some n) (hroom : d + 1 ≤ 2048 ∧ 8 + (maxL + 11) + 40 * d ≤ 84000) (hn : As.length = n) (hls : ls.size = 7) (hrest : (rest.map fun v => v.category).sum ≤ 8) (hc : cells ≤ 601024) (hs : slots ≤ 7293034) (hdg : decode code pc = .ok (.invokevirtual idx, 3)) (hst : st0 = As.reverse ++ .ref (BM + 0) :: rest)
    (kk : ∀ (r : Bool) (τ' : St) (H : Heap) (locs : List Loc), post r τ' → LHs D cy BX BM oa σ τ' g s H locs → W p l e room_1 s m #[Value.ref b] below meth c H locs cells slots Q (F0 m (pc + 3) ls (.int (b2i r) :: rest))) : W p l e room_1 s m #[Value.ref b] below meth c H locs cells slots Q (F0 m pc ls st0) := by
  obtain ⟨K0, hK, hN, hZ, hE, hX, hbl, hfl, l1, l2, l3⟩ := K
  obtain ⟨h1, h2, h3, hS⟩ := h
  have hAA : ∀ q, AW BM 26 q → Aw s q := fun q hq => by
    show s.heap.size ≤ q
    have := hq.1
    omega
  have pre : PreV s H RX11 (BM + 0) (PcW D cy BM kM τ (.ref (BM + 0) :: As)) As := by
    refine ⟨BW.blind, va_recv hK h2 (ci := 11) (q := (RX11, TX11, 44)) (q0 := 0) rfl (wW_at (kd := 11) rfl), fun U hU hW => ⟨rfl, by rw [hU]; exact h2, va_K.moved hW.alike hK, hN.warm hW, ?_⟩⟩
    rw [kM_len]
    exact (hZ.keep hW (fun a q1 q2 => by rw [hU]; exact hS.2.1 a q1 q2)).narrow hAA
  have run := va_runV (As := As) (rest := rest) (g := F0 m pc ls st0) (cells := cells) (slots := slots) (locs := locs) (below := below) (meth := meth) (e := e) (R := room_1) K0 hM (cwV n K0.2.2.2.2 hg rfl rfl rfl hd hroom) pre rfl hn hls hst (lv_room hrest) hdg ⟨hc, hs⟩
  refine va_calli (post := fun r σ => ∃ b : Bool, r = b2i b ∧ post b σ) run hS (fun q _ hq => hAA q hq) hAA (fun r u t H1 locs1 ht hvm hp hB hz hk hS1 => ?_)
  obtain ⟨rb, rfl, hp⟩ := hp
  exact kk rb u H1 locs1 hp ⟨wW_kept h1 (fun q q1 q2 => hk q q2 (fun z => by have q3 := q1.2; rw [kX_len] at q3; have := z.1; omega)), by rw [← ht]; exact hB.1, wO_kept h3 (fun q2 => hk _ q2 (fun z => by have := z.2; omega)), hS1⟩
end LK
theorem lw_in {i L : Nat} (hi : i + 6 ≤ L) (hL : L ≤ 3072) (k : Int32) (hk : 1 ≤ k.toInt ∧ k.toInt ≤ 5) : vp_in (nI i + k) L := by
  have h0 : ¬ k < 0 := by
    intro q
    have q := Int32.lt_iff_toInt_lt.mp q
    have h1 : (0 : Int32).toInt = 0 := rfl
    omega
  obtain ⟨j, hj, rfl⟩ := nI_of h0
  rw [nI_toInt hj] at hk
  rw [nI_add]
  exact vp_in_nI (by omega) (by omega)
theorem gLs_base : GoodIn lw_tbl (va_wsS RL 61 yL_base (Cond.codeWith yL_base cL_base 5 (some .int) [(0, 10, 13, 13)] :: WAL3)) := by
  intro w h
  have hg : [Cond.methodLink RL 61 yL_base, Cond.static yL_base, Cond.initialized RL, Cond.codeWith yL_base cL_base 5 (some .int) [(0, 10, 13, 13)]].all goodWord = true := by decide +kernel
  have hg := List.all_eq_true.mp hg
  rcases List.mem_append.mp h with h | h
  · simp only [List.mem_cons, List.not_mem_nil, or_false] at h
    rcases h with rfl | rfl | rfl
    · exact ⟨(tb_4 _ (List.mem_of_getElem? (i := 221) rfl)), good_of_word (hg _ (by simp))⟩
    · exact ⟨(tb_4 _ (List.mem_of_getElem? (i := 222) rfl)), good_of_word (hg _ (by simp))⟩
    · exact ⟨(tb_1 _ (List.mem_of_getElem? (i := 0) rfl)), good_of_word (hg (Cond.initialized RL) (by simp))⟩
  · rcases List.mem_cons.mp h with rfl | h
    · exact ⟨(tb_4 _ (List.mem_of_getElem? (i := 223) rfl)), good_of_word (hg _ (by simp))⟩
    · exact ⟨WAL3_in w h, good_of_word (WAL3_good w h)⟩
theorem gLs_wire : GoodIn lw_tbl (va_wsS RL 92 yL_wire (Cond.codeWith yL_wire cL_wire 5 (some .int) [(0, 10, 13, 13)] :: WAL3)) := by
  intro w h
  have hg : [Cond.methodLink RL 92 yL_wire, Cond.static yL_wire, Cond.initialized RL, Cond.codeWith yL_wire cL_wire 5 (some .int) [(0, 10, 13, 13)]].all goodWord = true := by decide +kernel
  have hg := List.all_eq_true.mp hg
  rcases List.mem_append.mp h with h | h
  · simp only [List.mem_cons, List.not_mem_nil, or_false] at h
    rcases h with rfl | rfl | rfl
    · exact ⟨(tb_5 _ (List.mem_of_getElem? (i := 56) rfl)), good_of_word (hg _ (by simp))⟩
    · exact ⟨(tb_5 _ (List.mem_of_getElem? (i := 57) rfl)), good_of_word (hg _ (by simp))⟩
    · exact ⟨(tb_1 _ (List.mem_of_getElem? (i := 0) rfl)), good_of_word (hg (Cond.initialized RL) (by simp))⟩
  · rcases List.mem_cons.mp h with rfl | h
    · exact ⟨(tb_5 _ (List.mem_of_getElem? (i := 58) rfl)), good_of_word (hg _ (by simp))⟩
    · exact ⟨WAL3_in w h, good_of_word (WAL3_good w h)⟩
set_option maxRecDepth 100000 in
set_option maxHeartbeats 4000000 in
theorem law_c0 {p : Program} {l : Launch} {e : Env} {s : State} {m : MethodId} {below : List Frame} {meth : Method} {c : Code} {H : Heap} {locs : List Loc} {cells slots : Nat} {Q : State → Prop} {ls : Array Slot} {D : va_G} {cy : Nat → ClassId} {b L : Nat} {xs : Nat → Int32} {BX BM oa i : Nat} {σ τ : St} {g : Nat → Int64} {Rel : St → St → Prop} (K : kL p l s m c D cy b L xs BX BM oa) (hi : i + 6 ≤ L) (hL : L ≤ 3072) (hc : cells + 1 ≤ 601024) (hs : slots + 6 ≤ 7293034) (hsim : ∀ a1 a2 a3 a4 a5 : Int32, wX10_feed 0 a1 a2 a3 a4 a5 σ (fun r u => wX11_feed 0 a1 a2 a3 a4 a5 τ (fun r2 v => r = r2 ∧ Rel u v))) (h : LHs D cy BX BM oa σ τ g s H locs) (hl : lv_has ls 7 [(0, .ref b), (1, .ref (BX + 0)), (2, .ref (BM + 0)), (3, .ref oa), (4, .int (nI i))]) (cont : ∀ (σ' τ' : St) (g' : Nat → Int64) (H' : Heap) (locs' : List Loc) (ls' : Array Slot), Rel σ' τ' → LHs D cy BX BM oa σ' τ' g' s H' locs' → lv_has ls' 7 [(0, .ref b), (1, .ref (BX + 0)), (2, .ref (BM + 0)), (3, .ref oa), (4, .int (nI i))] → W p l e room_1 s m #[Value.ref b] below meth c H' locs' (cells + 1) (slots + 6) Q (F0 m 1301 ls' [])) : W p l e room_1 s m #[Value.ref b] below meth c H locs cells slots Q (F0 m 180 ls []) := by
  obtain ⟨K0, hK, hN, hZ, hE, hX, hbl, hfl, l1, l2, l3⟩ := id K
  obtain ⟨hx, hb, hml, hown, hts⟩ := id K0
  have hbA : ¬ Aw s b := Nat.not_le.mpr hbl
  have hI : ∀ k : Int32, (1 ≤ k.toInt ∧ k.toInt ≤ 5) → vp_in (nI i + k) L := lw_in hi hL
  have hw := hsim (xs (nI i + (1 : Int32)).toNatClampNeg) (xs (nI i + (2 : Int32)).toNatClampNeg) (xs (nI i + (3 : Int32)).toNatClampNeg) (xs (nI i + (4 : Int32)).toNatClampNeg) (xs (nI i + (5 : Int32)).toNatClampNeg)
  refine lv_aload_n hx hb dL_law_180 rfl (lv_at hl 1 rfl) ?_
  refine lv_aload_n hx hb dL_law_181 rfl (lv_at hl 0 rfl) ?_
  refine lv_iload hx hb dL_law_182 (lv_at hl 4 rfl) ?_
  refine lv_iconst (v := (1 : Int32)) hx hb dL_law_184 (by decide) ?_
  refine lv_iadd hx hb dL_law_185 ?_
  refine va_sld hx hb hX hbl hbA h.2.2.2 (hI 1 (by decide)) dL_law_186 ?_
  refine lv_aload_n hx hb dL_law_187 rfl (lv_at hl 0 rfl) ?_
  refine lv_iload hx hb dL_law_188 (lv_at hl 4 rfl) ?_
  refine lv_iconst (v := (2 : Int32)) hx hb dL_law_190 (by decide) ?_
  refine lv_iadd hx hb dL_law_191 ?_
  refine va_sld hx hb hX hbl hbA h.2.2.2 (hI 2 (by decide)) dL_law_192 ?_
  refine lv_aload_n hx hb dL_law_193 rfl (lv_at hl 0 rfl) ?_
  refine lv_iload hx hb dL_law_194 (lv_at hl 4 rfl) ?_
  refine lv_iconst (v := (3 : Int32)) hx hb dL_law_196 (by decide) ?_
  refine lv_iadd hx hb dL_law_197 ?_
  refine va_sld hx hb hX hbl hbA h.2.2.2 (hI 3 (by decide)) dL_law_198 ?_
  refine lv_aload_n hx hb dL_law_199 rfl (lv_at hl 0 rfl) ?_
  refine lv_iload hx hb dL_law_200 (lv_at hl 4 rfl) ?_
  refine lv_iconst (v := (4 : Int32)) hx hb dL_law_202 (by decide) ?_
  refine lv_iadd hx hb dL_law_203 ?_
  refine va_sld hx hb hX hbl hbA h.2.2.2 (hI 4 (by decide)) dL_law_204 ?_
  refine lv_aload_n hx hb dL_law_205 rfl (lv_at hl 0 rfl) ?_
  refine lv_iload hx hb dL_law_206 (lv_at hl 4 rfl) ?_
  refine lv_iconst (v := (5 : Int32)) hx hb dL_law_208 (by decide) ?_
  refine lv_iadd hx hb dL_law_209 ?_
  refine va_sld hx hb hX hbl hbA h.2.2.2 (hI 5 (by decide)) dL_law_210 ?_
  refine lk_Xi (As := [.int (xs (nI i + (1 : Int32)).toNatClampNeg), .int (xs (nI i + (2 : Int32)).toNatClampNeg), .int (xs (nI i + (3 : Int32)).toNatClampNeg), .int (xs (nI i + (4 : Int32)).toNatClampNeg), .int (xs (nI i + (5 : Int32)).toNatClampNeg)]) (rest := []) K h (mX10_feed l D cy BX 0 (xs (nI i + (1 : Int32)).toNatClampNeg) (xs (nI i + (2 : Int32)).toNatClampNeg) (xs (nI i + (3 : Int32)).toNatClampNeg) (xs (nI i + (4 : Int32)).toNatClampNeg) (xs (nI i + (5 : Int32)).toNatClampNeg) σ (by decide +kernel) hw) (gL_W (tb_2 _ (List.mem_of_getElem? (i := 173) rfl)) (tb_2 _ (List.mem_of_getElem? (i := 174) rfl)) (tb_2 _ (List.mem_of_getElem? (i := 175) rfl)) (tb_1 _ (List.mem_of_getElem? (i := 1) rfl)) (tb_2 _ (List.mem_of_getElem? (i := 176) rfl)) (by decide +kernel)) hd_X10_feed ⟨Nat.le_of_ble_eq_true rfl, Nat.le_of_ble_eq_true rfl⟩ rfl hl.1 (Nat.le_of_ble_eq_true rfl) (by omega) (by omega) dL_law_211 rfl (fun r1 u1 H locs hw h => ?_)
  refine lv_aload_n hx hb dL_law_214 rfl (lv_at hl 2 rfl) ?_
  refine lv_aload_n hx hb dL_law_215 rfl (lv_at hl 0 rfl) ?_
  refine lv_iload hx hb dL_law_216 (lv_at hl 4 rfl) ?_
  refine lv_iconst (v := (1 : Int32)) hx hb dL_law_218 (by decide) ?_
  refine lv_iadd hx hb dL_law_219 ?_
  refine va_sld hx hb hX hbl hbA h.2.2.2 (hI 1 (by decide)) dL_law_220 ?_
  refine lv_aload_n hx hb dL_law_221 rfl (lv_at hl 0 rfl) ?_
  refine lv_iload hx hb dL_law_222 (lv_at hl 4 rfl) ?_
  refine lv_iconst (v := (2 : Int32)) hx hb dL_law_224 (by decide) ?_
  refine lv_iadd hx hb dL_law_225 ?_
  refine va_sld hx hb hX hbl hbA h.2.2.2 (hI 2 (by decide)) dL_law_226 ?_
  refine lv_aload_n hx hb dL_law_227 rfl (lv_at hl 0 rfl) ?_
  refine lv_iload hx hb dL_law_228 (lv_at hl 4 rfl) ?_
  refine lv_iconst (v := (3 : Int32)) hx hb dL_law_230 (by decide) ?_
  refine lv_iadd hx hb dL_law_231 ?_
  refine va_sld hx hb hX hbl hbA h.2.2.2 (hI 3 (by decide)) dL_law_232 ?_
  refine lv_aload_n hx hb dL_law_233 rfl (lv_at hl 0 rfl) ?_
  refine lv_iload hx hb dL_law_234 (lv_at hl 4 rfl) ?_
  refine lv_iconst (v := (4 : Int32)) hx hb dL_law_236 (by decide) ?_
  refine lv_iadd hx hb dL_law_237 ?_
  refine va_sld hx hb hX hbl hbA h.2.2.2 (hI 4 (by decide)) dL_law_238 ?_
  refine lv_aload_n hx hb dL_law_239 rfl (lv_at hl 0 rfl) ?_
  refine lv_iload hx hb dL_law_240 (lv_at hl 4 rfl) ?_
  refine lv_iconst (v := (5 : Int32)) hx hb dL_law_242 (by decide) ?_
  refine lv_iadd hx hb dL_law_243 ?_
  refine va_sld hx hb hX hbl hbA h.2.2.2 (hI 5 (by decide)) dL_law_244 ?_
  refine lk_Mi (As := [.int (xs (nI i + (1 : Int32)).toNatClampNeg), .int (xs (nI i + (2 : Int32)).toNatClampNeg), .int (xs (nI i + (3 : Int32)).toNatClampNeg), .int (xs (nI i + (4 : Int32)).toNatClampNeg), .int (xs (nI i + (5 : Int32)).toNatClampNeg)]) (rest := [.int r1]) K h (mX11_feed l D cy BM 0 (xs (nI i + (1 : Int32)).toNatClampNeg) (xs (nI i + (2 : Int32)).toNatClampNeg) (xs (nI i + (3 : Int32)).toNatClampNeg) (xs (nI i + (4 : Int32)).toNatClampNeg) (xs (nI i + (5 : Int32)).toNatClampNeg) τ (by decide +kernel) hw) (gL_W (tb_5 _ (List.mem_of_getElem? (i := 208) rfl)) (tb_5 _ (List.mem_of_getElem? (i := 209) rfl)) (tb_5 _ (List.mem_of_getElem? (i := 210) rfl)) (tb_1 _ (List.mem_of_getElem? (i := 16) rfl)) (tb_5 _ (List.mem_of_getElem? (i := 211) rfl)) (by decide +kernel)) hd_X11_feed ⟨Nat.le_of_ble_eq_true rfl, Nat.le_of_ble_eq_true rfl⟩ rfl hl.1 (Nat.le_of_ble_eq_true rfl) (by omega) (by omega) dL_law_245 rfl (fun r2 u2 H locs hw h => ?_)
  refine lv_icmp_eq (tgt := 1301) hx hb dL_law_248 (by decide) (fun _ => ?_) (fun c9 => absurd hw.1 c9)
  refine W.widen (k := cells + 1) (n := slots + 6) (by omega) (by omega) ?_
  exact cont _ _ _ _ _ _ hw.2 h (lv_sub hl [0, 1, 2, 3, 4] rfl)
set_option maxRecDepth 100000 in
set_option maxHeartbeats 4000000 in
theorem law_c1 {p : Program} {l : Launch} {e : Env} {s : State} {m : MethodId} {below : List Frame} {meth : Method} {c : Code} {H : Heap} {locs : List Loc} {cells slots : Nat} {Q : State → Prop} {ls : Array Slot} {D : va_G} {cy : Nat → ClassId} {b L : Nat} {xs : Nat → Int32} {BX BM oa i : Nat} {σ τ : St} {g : Nat → Int64} {Rel : St → St → Prop} (K : kL p l s m c D cy b L xs BX BM oa) (hi : i + 6 ≤ L) (hL : L ≤ 3072) (hc : cells + 1 ≤ 601024) (hs : slots + 6 ≤ 7293034) (hsim : ∀ a1 : Int32, wX10_net 0 a1 σ (fun r u => wX11_net 0 a1 τ (fun r2 v => r = r2 ∧ Rel u v))) (h : LHs D cy BX BM oa σ τ g s H locs) (hl : lv_has ls 7 [(0, .ref b), (1, .ref (BX + 0)), (2, .ref (BM + 0)), (3, .ref oa), (4, .int (nI i))]) (cont : ∀ (σ' τ' : St) (g' : Nat → Int64) (H' : Heap) (locs' : List Loc) (ls' : Array Slot), Rel σ' τ' → LHs D cy BX BM oa σ' τ' g' s H' locs' → lv_has ls' 7 [(0, .ref b), (1, .ref (BX + 0)), (2, .ref (BM + 0)), (3, .ref oa), (4, .int (nI i))] → W p l e room_1 s m #[Value.ref b] below meth c H' locs' (cells + 1) (slots + 6) Q (F0 m 1301 ls' [])) : W p l e room_1 s m #[Value.ref b] below meth c H locs cells slots Q (F0 m 253 ls []) := by
  obtain ⟨K0, hK, hN, hZ, hE, hX, hbl, hfl, l1, l2, l3⟩ := id K
  obtain ⟨hx, hb, hml, hown, hts⟩ := id K0
  have hbA : ¬ Aw s b := Nat.not_le.mpr hbl
  have hI : ∀ k : Int32, (1 ≤ k.toInt ∧ k.toInt ≤ 5) → vp_in (nI i + k) L := lw_in hi hL
  have hw := hsim (xs (nI i + (1 : Int32)).toNatClampNeg)
  refine lv_aload_n hx hb dL_law_253 rfl (lv_at hl 1 rfl) ?_
  refine lv_aload_n hx hb dL_law_254 rfl (lv_at hl 0 rfl) ?_
  refine lv_iload hx hb dL_law_255 (lv_at hl 4 rfl) ?_
  refine lv_iconst (v := (1 : Int32)) hx hb dL_law_257 (by decide) ?_
  refine lv_iadd hx hb dL_law_258 ?_
  refine va_sld hx hb hX hbl hbA h.2.2.2 (hI 1 (by decide)) dL_law_259 ?_
  refine lk_Xi (As := [.int (xs (nI i + (1 : Int32)).toNatClampNeg)]) (rest := []) K h (mX10_net l D cy BX 0 (xs (nI i + (1 : Int32)).toNatClampNeg) σ (by decide +kernel) hw) (gL_W (tb_2 _ (List.mem_of_getElem? (i := 181) rfl)) (tb_2 _ (List.mem_of_getElem? (i := 182) rfl)) (tb_2 _ (List.mem_of_getElem? (i := 183) rfl)) (tb_1 _ (List.mem_of_getElem? (i := 1) rfl)) (tb_2 _ (List.mem_of_getElem? (i := 184) rfl)) (by decide +kernel)) hd_X10_net ⟨Nat.le_of_ble_eq_true rfl, Nat.le_of_ble_eq_true rfl⟩ rfl hl.1 (Nat.le_of_ble_eq_true rfl) (by omega) (by omega) dL_law_260 rfl (fun r1 u1 H locs hw h => ?_)
  refine lv_aload_n hx hb dL_law_263 rfl (lv_at hl 2 rfl) ?_
  refine lv_aload_n hx hb dL_law_264 rfl (lv_at hl 0 rfl) ?_
  refine lv_iload hx hb dL_law_265 (lv_at hl 4 rfl) ?_
  refine lv_iconst (v := (1 : Int32)) hx hb dL_law_267 (by decide) ?_
  refine lv_iadd hx hb dL_law_268 ?_
  refine va_sld hx hb hX hbl hbA h.2.2.2 (hI 1 (by decide)) dL_law_269 ?_
  refine lk_Mi (As := [.int (xs (nI i + (1 : Int32)).toNatClampNeg)]) (rest := [.int r1]) K h (mX11_net l D cy BM 0 (xs (nI i + (1 : Int32)).toNatClampNeg) τ (by decide +kernel) hw) (gL_W (tb_5 _ (List.mem_of_getElem? (i := 216) rfl)) (tb_5 _ (List.mem_of_getElem? (i := 217) rfl)) (tb_5 _ (List.mem_of_getElem? (i := 218) rfl)) (tb_1 _ (List.mem_of_getElem? (i := 16) rfl)) (tb_5 _ (List.mem_of_getElem? (i := 219) rfl)) (by decide +kernel)) hd_X11_net ⟨Nat.le_of_ble_eq_true rfl, Nat.le_of_ble_eq_true rfl⟩ rfl hl.1 (Nat.le_of_ble_eq_true rfl) (by omega) (by omega) dL_law_270 rfl (fun r2 u2 H locs hw h => ?_)
  refine lv_icmp_eq (tgt := 1301) hx hb dL_law_273 (by decide) (fun _ => ?_) (fun c9 => absurd hw.1 c9)
  refine W.widen (k := cells + 1) (n := slots + 6) (by omega) (by omega) ?_
  exact cont _ _ _ _ _ _ hw.2 h (lv_sub hl [0, 1, 2, 3, 4] rfl)
set_option maxRecDepth 100000 in
set_option maxHeartbeats 4000000 in
theorem law_c2 {p : Program} {l : Launch} {e : Env} {s : State} {m : MethodId} {below : List Frame} {meth : Method} {c : Code} {H : Heap} {locs : List Loc} {cells slots : Nat} {Q : State → Prop} {ls : Array Slot} {D : va_G} {cy : Nat → ClassId} {b L : Nat} {xs : Nat → Int32} {BX BM oa i : Nat} {σ τ : St} {g : Nat → Int64} {Rel : St → St → Prop} (K : kL p l s m c D cy b L xs BX BM oa) (hi : i + 6 ≤ L) (hL : L ≤ 3072) (hc : cells + 1 ≤ 601024) (hs : slots + 6 ≤ 7293034) (hsim : ∀ a1 a2 : Int32, wX10_table 0 a1 a2 σ (fun r u => wX11_table 0 a1 a2 τ (fun r2 v => r = r2 ∧ Rel u v))) (h : LHs D cy BX BM oa σ τ g s H locs) (hl : lv_has ls 7 [(0, .ref b), (1, .ref (BX + 0)), (2, .ref (BM + 0)), (3, .ref oa), (4, .int (nI i))]) (cont : ∀ (σ' τ' : St) (g' : Nat → Int64) (H' : Heap) (locs' : List Loc) (ls' : Array Slot), Rel σ' τ' → LHs D cy BX BM oa σ' τ' g' s H' locs' → lv_has ls' 7 [(0, .ref b), (1, .ref (BX + 0)), (2, .ref (BM + 0)), (3, .ref oa), (4, .int (nI i))] → W p l e room_1 s m #[Value.ref b] below meth c H' locs' (cells + 1) (slots + 6) Q (F0 m 1301 ls' [])) : W p l e room_1 s m #[Value.ref b] below meth c H locs cells slots Q (F0 m 278 ls []) := by
  obtain ⟨K0, hK, hN, hZ, hE, hX, hbl, hfl, l1, l2, l3⟩ := id K
  obtain ⟨hx, hb, hml, hown, hts⟩ := id K0
  have hbA : ¬ Aw s b := Nat.not_le.mpr hbl
  have hI : ∀ k : Int32, (1 ≤ k.toInt ∧ k.toInt ≤ 5) → vp_in (nI i + k) L := lw_in hi hL
  have hw := hsim (xs (nI i + (1 : Int32)).toNatClampNeg) (xs (nI i + (2 : Int32)).toNatClampNeg)
  refine lv_aload_n hx hb dL_law_278 rfl (lv_at hl 1 rfl) ?_
  refine lv_aload_n hx hb dL_law_279 rfl (lv_at hl 0 rfl) ?_
  refine lv_iload hx hb dL_law_280 (lv_at hl 4 rfl) ?_
  refine lv_iconst (v := (1 : Int32)) hx hb dL_law_282 (by decide) ?_
  refine lv_iadd hx hb dL_law_283 ?_
  refine va_sld hx hb hX hbl hbA h.2.2.2 (hI 1 (by decide)) dL_law_284 ?_
  refine lv_aload_n hx hb dL_law_285 rfl (lv_at hl 0 rfl) ?_
  refine lv_iload hx hb dL_law_286 (lv_at hl 4 rfl) ?_
  refine lv_iconst (v := (2 : Int32)) hx hb dL_law_288 (by decide) ?_
  refine lv_iadd hx hb dL_law_289 ?_
  refine va_sld hx hb hX hbl hbA h.2.2.2 (hI 2 (by decide)) dL_law_290 ?_
  refine lk_Xi (As := [.int (xs (nI i + (1 : Int32)).toNatClampNeg), .int (xs (nI i + (2 : Int32)).toNatClampNeg)]) (rest := []) K h (mX10_table l D cy BX 0 (xs (nI i + (1 : Int32)).toNatClampNeg) (xs (nI i + (2 : Int32)).toNatClampNeg) σ (by decide +kernel) hw) (gL_W (tb_3 _ (List.mem_of_getElem? (i := 107) rfl)) (tb_3 _ (List.mem_of_getElem? (i := 108) rfl)) (tb_3 _ (List.mem_of_getElem? (i := 109) rfl)) (tb_1 _ (List.mem_of_getElem? (i := 1) rfl)) (tb_3 _ (List.mem_of_getElem? (i := 110) rfl)) (by decide +kernel)) hd_X10_table ⟨Nat.le_of_ble_eq_true rfl, Nat.le_of_ble_eq_true rfl⟩ rfl hl.1 (Nat.le_of_ble_eq_true rfl) (by omega) (by omega) dL_law_291 rfl (fun r1 u1 H locs hw h => ?_)
  refine lv_aload_n hx hb dL_law_294 rfl (lv_at hl 2 rfl) ?_
  refine lv_aload_n hx hb dL_law_295 rfl (lv_at hl 0 rfl) ?_
  refine lv_iload hx hb dL_law_296 (lv_at hl 4 rfl) ?_
  refine lv_iconst (v := (1 : Int32)) hx hb dL_law_298 (by decide) ?_
  refine lv_iadd hx hb dL_law_299 ?_
  refine va_sld hx hb hX hbl hbA h.2.2.2 (hI 1 (by decide)) dL_law_300 ?_
  refine lv_aload_n hx hb dL_law_301 rfl (lv_at hl 0 rfl) ?_
  refine lv_iload hx hb dL_law_302 (lv_at hl 4 rfl) ?_
  refine lv_iconst (v := (2 : Int32)) hx hb dL_law_304 (by decide) ?_
  refine lv_iadd hx hb dL_law_305 ?_
  refine va_sld hx hb hX hbl hbA h.2.2.2 (hI 2 (by decide)) dL_law_306 ?_
  refine lk_Mi (As := [.int (xs (nI i + (1 : Int32)).toNatClampNeg), .int (xs (nI i + (2 : Int32)).toNatClampNeg)]) (rest := [.int r1]) K h (mX11_table l D cy BM 0 (xs (nI i + (1 : Int32)).toNatClampNeg) (xs (nI i + (2 : Int32)).toNatClampNeg) τ (by decide +kernel) hw) (gL_W (tb_6 _ (List.mem_of_getElem? (i := 86) rfl)) (tb_6 _ (List.mem_of_getElem? (i := 87) rfl)) (tb_6 _ (List.mem_of_getElem? (i := 88) rfl)) (tb_1 _ (List.mem_of_getElem? (i := 16) rfl)) (tb_6 _ (List.mem_of_getElem? (i := 89) rfl)) (by decide +kernel)) hd_X11_table ⟨Nat.le_of_ble_eq_true rfl, Nat.le_of_ble_eq_true rfl⟩ rfl hl.1 (Nat.le_of_ble_eq_true rfl) (by omega) (by omega) dL_law_307 rfl (fun r2 u2 H locs hw h => ?_)
  refine lv_icmp_eq (tgt := 1301) hx hb dL_law_310 (by decide) (fun _ => ?_) (fun c9 => absurd hw.1 c9)
  refine W.widen (k := cells + 1) (n := slots + 6) (by omega) (by omega) ?_
  exact cont _ _ _ _ _ _ hw.2 h (lv_sub hl [0, 1, 2, 3, 4] rfl)
set_option maxRecDepth 100000 in
set_option maxHeartbeats 4000000 in
theorem law_c3 {p : Program} {l : Launch} {e : Env} {s : State} {m : MethodId} {below : List Frame} {meth : Method} {c : Code} {H : Heap} {locs : List Loc} {cells slots : Nat} {Q : State → Prop} {ls : Array Slot} {D : va_G} {cy : Nat → ClassId} {b L : Nat} {xs : Nat → Int32} {BX BM oa i : Nat} {σ τ : St} {g : Nat → Int64} {Rel : St → St → Prop} (K : kL p l s m c D cy b L xs BX BM oa) (hi : i + 6 ≤ L) (hL : L ≤ 3072) (hc : cells + 1 ≤ 601024) (hs : slots + 6 ≤ 7293034) (hsim : ∀ a1 : Int32, wX10_parity 0 a1 σ (fun r u => wX11_parity 0 a1 τ (fun r2 v => r = r2 ∧ Rel u v))) (h : LHs D cy BX BM oa σ τ g s H locs) (hl : lv_has ls 7 [(0, .ref b), (1, .ref (BX + 0)), (2, .ref (BM + 0)), (3, .ref oa), (4, .int (nI i))]) (cont : ∀ (σ' τ' : St) (g' : Nat → Int64) (H' : Heap) (locs' : List Loc) (ls' : Array Slot), Rel σ' τ' → LHs D cy BX BM oa σ' τ' g' s H' locs' → lv_has ls' 7 [(0, .ref b), (1, .ref (BX + 0)), (2, .ref (BM + 0)), (3, .ref oa), (4, .int (nI i))] → W p l e room_1 s m #[Value.ref b] below meth c H' locs' (cells + 1) (slots + 6) Q (F0 m 1301 ls' [])) : W p l e room_1 s m #[Value.ref b] below meth c H locs cells slots Q (F0 m 315 ls []) := by
  obtain ⟨K0, hK, hN, hZ, hE, hX, hbl, hfl, l1, l2, l3⟩ := id K
  obtain ⟨hx, hb, hml, hown, hts⟩ := id K0
  have hbA : ¬ Aw s b := Nat.not_le.mpr hbl
  have hI : ∀ k : Int32, (1 ≤ k.toInt ∧ k.toInt ≤ 5) → vp_in (nI i + k) L := lw_in hi hL
  have hw := hsim (xs (nI i + (1 : Int32)).toNatClampNeg)
  refine lv_aload_n hx hb dL_law_315 rfl (lv_at hl 1 rfl) ?_
  refine lv_aload_n hx hb dL_law_316 rfl (lv_at hl 0 rfl) ?_
  refine lv_iload hx hb dL_law_317 (lv_at hl 4 rfl) ?_
  refine lv_iconst (v := (1 : Int32)) hx hb dL_law_319 (by decide) ?_
  refine lv_iadd hx hb dL_law_320 ?_
  refine va_sld hx hb hX hbl hbA h.2.2.2 (hI 1 (by decide)) dL_law_321 ?_
  refine lk_Xi (As := [.int (xs (nI i + (1 : Int32)).toNatClampNeg)]) (rest := []) K h (mX10_parity l D cy BX 0 (xs (nI i + (1 : Int32)).toNatClampNeg) σ (by decide +kernel) hw) (gL_W (tb_3 _ (List.mem_of_getElem? (i := 123) rfl)) (tb_3 _ (List.mem_of_getElem? (i := 124) rfl)) (tb_3 _ (List.mem_of_getElem? (i := 125) rfl)) (tb_1 _ (List.mem_of_getElem? (i := 1) rfl)) (tb_3 _ (List.mem_of_getElem? (i := 126) rfl)) (by decide +kernel)) hd_X10_parity ⟨Nat.le_of_ble_eq_true rfl, Nat.le_of_ble_eq_true rfl⟩ rfl hl.1 (Nat.le_of_ble_eq_true rfl) (by omega) (by omega) dL_law_322 rfl (fun r1 u1 H locs hw h => ?_)
  refine lv_aload_n hx hb dL_law_325 rfl (lv_at hl 2 rfl) ?_
  refine lv_aload_n hx hb dL_law_326 rfl (lv_at hl 0 rfl) ?_
  refine lv_iload hx hb dL_law_327 (lv_at hl 4 rfl) ?_
  refine lv_iconst (v := (1 : Int32)) hx hb dL_law_329 (by decide) ?_
  refine lv_iadd hx hb dL_law_330 ?_
  refine va_sld hx hb hX hbl hbA h.2.2.2 (hI 1 (by decide)) dL_law_331 ?_
  refine lk_Mi (As := [.int (xs (nI i + (1 : Int32)).toNatClampNeg)]) (rest := [.int r1]) K h (mX11_parity l D cy BM 0 (xs (nI i + (1 : Int32)).toNatClampNeg) τ (by decide +kernel) hw) (gL_W (tb_6 _ (List.mem_of_getElem? (i := 94) rfl)) (tb_6 _ (List.mem_of_getElem? (i := 95) rfl)) (tb_6 _ (List.mem_of_getElem? (i := 96) rfl)) (tb_1 _ (List.mem_of_getElem? (i := 16) rfl)) (tb_6 _ (List.mem_of_getElem? (i := 97) rfl)) (by decide +kernel)) hd_X11_parity ⟨Nat.le_of_ble_eq_true rfl, Nat.le_of_ble_eq_true rfl⟩ rfl hl.1 (Nat.le_of_ble_eq_true rfl) (by omega) (by omega) dL_law_332 rfl (fun r2 u2 H locs hw h => ?_)
  refine lv_icmp_eq (tgt := 1301) hx hb dL_law_335 (by decide) (fun _ => ?_) (fun c9 => absurd hw.1 c9)
  refine W.widen (k := cells + 1) (n := slots + 6) (by omega) (by omega) ?_
  exact cont _ _ _ _ _ _ hw.2 h (lv_sub hl [0, 1, 2, 3, 4] rfl)
set_option maxRecDepth 100000 in
set_option maxHeartbeats 4000000 in
theorem law_c4 {p : Program} {l : Launch} {e : Env} {s : State} {m : MethodId} {below : List Frame} {meth : Method} {c : Code} {H : Heap} {locs : List Loc} {cells slots : Nat} {Q : State → Prop} {ls : Array Slot} {D : va_G} {cy : Nat → ClassId} {b L : Nat} {xs : Nat → Int32} {BX BM oa i : Nat} {σ τ : St} {g : Nat → Int64} {Rel : St → St → Prop} (K : kL p l s m c D cy b L xs BX BM oa) (hi : i + 6 ≤ L) (hL : L ≤ 3072) (hc : cells + 1 ≤ 601024) (hs : slots + 6 ≤ 7293034) (hsim : ∀ a1 a2 : Int32, wX10_identity 0 a1 a2 σ (fun r u => wX11_identity 0 a1 a2 τ (fun r2 v => r = r2 ∧ Rel u v))) (h : LHs D cy BX BM oa σ τ g s H locs) (hl : lv_has ls 7 [(0, .ref b), (1, .ref (BX + 0)), (2, .ref (BM + 0)), (3, .ref oa), (4, .int (nI i))]) (cont : ∀ (σ' τ' : St) (g' : Nat → Int64) (H' : Heap) (locs' : List Loc) (ls' : Array Slot), Rel σ' τ' → LHs D cy BX BM oa σ' τ' g' s H' locs' → lv_has ls' 7 [(0, .ref b), (1, .ref (BX + 0)), (2, .ref (BM + 0)), (3, .ref oa), (4, .int (nI i))] → W p l e room_1 s m #[Value.ref b] below meth c H' locs' (cells + 1) (slots + 6) Q (F0 m 1301 ls' [])) : W p l e room_1 s m #[Value.ref b] below meth c H locs cells slots Q (F0 m 340 ls []) := by
  obtain ⟨K0, hK, hN, hZ, hE, hX, hbl, hfl, l1, l2, l3⟩ := id K
  obtain ⟨hx, hb, hml, hown, hts⟩ := id K0
  have hbA : ¬ Aw s b := Nat.not_le.mpr hbl
  have hI : ∀ k : Int32, (1 ≤ k.toInt ∧ k.toInt ≤ 5) → vp_in (nI i + k) L := lw_in hi hL
  refine lv_aload_n hx hb dL_law_340 rfl (lv_at hl 1 rfl) ?_
  refine lv_aload_n hx hb dL_law_341 rfl (lv_at hl 0 rfl) ?_
  refine lv_iload hx hb dL_law_342 (lv_at hl 4 rfl) ?_
  refine lv_iconst (v := (1 : Int32)) hx hb dL_law_344 (by decide) ?_
  refine lv_iadd hx hb dL_law_345 ?_
  refine va_sld hx hb hX hbl hbA h.2.2.2 (hI 1 (by decide)) dL_law_346 ?_
  refine lv_aload_n hx hb dL_law_347 rfl (lv_at hl 0 rfl) ?_
  refine lv_iload hx hb dL_law_348 (lv_at hl 4 rfl) ?_
  refine lv_iconst (v := (2 : Int32)) hx hb dL_law_350 (by decide) ?_
  refine lv_iadd hx hb dL_law_351 ?_
  refine va_sld hx hb hX hbl hbA h.2.2.2 (hI 2 (by decide)) dL_law_352 ?_
  refine lv_if_eq (tgt := 360) hx hb dL_law_353 (by decide) (fun d353 => ?_) (fun d353 => ?_)
  · refine lv_iconst (v := (0 : Int32)) hx hb dL_law_360 (by decide) ?_
    have hw := hsim (xs (nI i + (1 : Int32)).toNatClampNeg) (0 : Int32)
    refine lk_Xi (As := [.int (xs (nI i + (1 : Int32)).toNatClampNeg), .int (0 : Int32)]) (rest := []) K h (mX10_identity l D cy BX 0 (xs (nI i + (1 : Int32)).toNatClampNeg) (0 : Int32) σ (by decide +kernel) hw) (gL_W (tb_3 _ (List.mem_of_getElem? (i := 137) rfl)) (tb_3 _ (List.mem_of_getElem? (i := 138) rfl)) (tb_3 _ (List.mem_of_getElem? (i := 139) rfl)) (tb_1 _ (List.mem_of_getElem? (i := 1) rfl)) (tb_3 _ (List.mem_of_getElem? (i := 140) rfl)) (by decide +kernel)) hd_X10_identity ⟨Nat.le_of_ble_eq_true rfl, Nat.le_of_ble_eq_true rfl⟩ rfl hl.1 (Nat.le_of_ble_eq_true rfl) (by omega) (by omega) dL_law_361 rfl (fun r1 u1 H locs hw h => ?_)
    refine lv_aload_n hx hb dL_law_364 rfl (lv_at hl 2 rfl) ?_
    refine lv_aload_n hx hb dL_law_365 rfl (lv_at hl 0 rfl) ?_
    refine lv_iload hx hb dL_law_366 (lv_at hl 4 rfl) ?_
    refine lv_iconst (v := (1 : Int32)) hx hb dL_law_368 (by decide) ?_
    refine lv_iadd hx hb dL_law_369 ?_
    refine va_sld hx hb hX hbl hbA h.2.2.2 (hI 1 (by decide)) dL_law_370 ?_
    refine lv_aload_n hx hb dL_law_371 rfl (lv_at hl 0 rfl) ?_
    refine lv_iload hx hb dL_law_372 (lv_at hl 4 rfl) ?_
    refine lv_iconst (v := (2 : Int32)) hx hb dL_law_374 (by decide) ?_
    refine lv_iadd hx hb dL_law_375 ?_
    refine va_sld hx hb hX hbl hbA h.2.2.2 (hI 2 (by decide)) dL_law_376 ?_
    refine lv_if_eq (tgt := 384) hx hb dL_law_377 (by decide) (fun _ => ?_) (fun c9 => absurd d353 c9)
    refine lv_iconst (v := (0 : Int32)) hx hb dL_law_384 (by decide) ?_
    refine lk_Mi (As := [.int (xs (nI i + (1 : Int32)).toNatClampNeg), .int (0 : Int32)]) (rest := [.int r1]) K h (mX11_identity l D cy BM 0 (xs (nI i + (1 : Int32)).toNatClampNeg) (0 : Int32) τ (by decide +kernel) hw) (gL_W (tb_6 _ (List.mem_of_getElem? (i := 109) rfl)) (tb_6 _ (List.mem_of_getElem? (i := 110) rfl)) (tb_6 _ (List.mem_of_getElem? (i := 111) rfl)) (tb_1 _ (List.mem_of_getElem? (i := 16) rfl)) (tb_6 _ (List.mem_of_getElem? (i := 112) rfl)) (by decide +kernel)) hd_X11_identity ⟨Nat.le_of_ble_eq_true rfl, Nat.le_of_ble_eq_true rfl⟩ rfl hl.1 (Nat.le_of_ble_eq_true rfl) (by omega) (by omega) dL_law_385 rfl (fun r2 u2 H locs hw h => ?_)
    refine lv_icmp_eq (tgt := 1301) hx hb dL_law_388 (by decide) (fun _ => ?_) (fun c9 => absurd hw.1 c9)
    refine W.widen (k := cells + 1) (n := slots + 6) (by omega) (by omega) ?_
    exact cont _ _ _ _ _ _ hw.2 h (lv_sub hl [0, 1, 2, 3, 4] rfl)
  · refine lv_iconst (v := (1 : Int32)) hx hb dL_law_356 (by decide) ?_
    refine lv_goto (tgt := 361) hx hb dL_law_357 (by decide) ?_
    have hw := hsim (xs (nI i + (1 : Int32)).toNatClampNeg) (1 : Int32)
    refine lk_Xi (As := [.int (xs (nI i + (1 : Int32)).toNatClampNeg), .int (1 : Int32)]) (rest := []) K h (mX10_identity l D cy BX 0 (xs (nI i + (1 : Int32)).toNatClampNeg) (1 : Int32) σ (by decide +kernel) hw) (gL_W (tb_3 _ (List.mem_of_getElem? (i := 137) rfl)) (tb_3 _ (List.mem_of_getElem? (i := 138) rfl)) (tb_3 _ (List.mem_of_getElem? (i := 139) rfl)) (tb_1 _ (List.mem_of_getElem? (i := 1) rfl)) (tb_3 _ (List.mem_of_getElem? (i := 140) rfl)) (by decide +kernel)) hd_X10_identity ⟨Nat.le_of_ble_eq_true rfl, Nat.le_of_ble_eq_true rfl⟩ rfl hl.1 (Nat.le_of_ble_eq_true rfl) (by omega) (by omega) dL_law_361 rfl (fun r3 u3 H locs hw h => ?_)
    refine lv_aload_n hx hb dL_law_364 rfl (lv_at hl 2 rfl) ?_
    refine lv_aload_n hx hb dL_law_365 rfl (lv_at hl 0 rfl) ?_
    refine lv_iload hx hb dL_law_366 (lv_at hl 4 rfl) ?_
    refine lv_iconst (v := (1 : Int32)) hx hb dL_law_368 (by decide) ?_
    refine lv_iadd hx hb dL_law_369 ?_
    refine va_sld hx hb hX hbl hbA h.2.2.2 (hI 1 (by decide)) dL_law_370 ?_
    refine lv_aload_n hx hb dL_law_371 rfl (lv_at hl 0 rfl) ?_
    refine lv_iload hx hb dL_law_372 (lv_at hl 4 rfl) ?_
    refine lv_iconst (v := (2 : Int32)) hx hb dL_law_374 (by decide) ?_
    refine lv_iadd hx hb dL_law_375 ?_
    refine va_sld hx hb hX hbl hbA h.2.2.2 (hI 2 (by decide)) dL_law_376 ?_
    refine lv_if_eq (tgt := 384) hx hb dL_law_377 (by decide) (fun c9 => absurd c9 d353) (fun _ => ?_)
    refine lv_iconst (v := (1 : Int32)) hx hb dL_law_380 (by decide) ?_
    refine lv_goto (tgt := 385) hx hb dL_law_381 (by decide) ?_
    refine lk_Mi (As := [.int (xs (nI i + (1 : Int32)).toNatClampNeg), .int (1 : Int32)]) (rest := [.int r3]) K h (mX11_identity l D cy BM 0 (xs (nI i + (1 : Int32)).toNatClampNeg) (1 : Int32) τ (by decide +kernel) hw) (gL_W (tb_6 _ (List.mem_of_getElem? (i := 109) rfl)) (tb_6 _ (List.mem_of_getElem? (i := 110) rfl)) (tb_6 _ (List.mem_of_getElem? (i := 111) rfl)) (tb_1 _ (List.mem_of_getElem? (i := 16) rfl)) (tb_6 _ (List.mem_of_getElem? (i := 112) rfl)) (by decide +kernel)) hd_X11_identity ⟨Nat.le_of_ble_eq_true rfl, Nat.le_of_ble_eq_true rfl⟩ rfl hl.1 (Nat.le_of_ble_eq_true rfl) (by omega) (by omega) dL_law_385 rfl (fun r4 u4 H locs hw h => ?_)
    refine lv_icmp_eq (tgt := 1301) hx hb dL_law_388 (by decide) (fun _ => ?_) (fun c9 => absurd hw.1 c9)
    refine W.widen (k := cells + 1) (n := slots + 6) (by omega) (by omega) ?_
    exact cont _ _ _ _ _ _ hw.2 h (lv_sub hl [0, 1, 2, 3, 4] rfl)
set_option maxRecDepth 100000 in
set_option maxHeartbeats 4000000 in
theorem law_c5 {p : Program} {l : Launch} {e : Env} {s : State} {m : MethodId} {below : List Frame} {meth : Method} {c : Code} {H : Heap} {locs : List Loc} {cells slots : Nat} {Q : State → Prop} {ls : Array Slot} {D : va_G} {cy : Nat → ClassId} {b L : Nat} {xs : Nat → Int32} {BX BM oa i : Nat} {σ τ : St} {g : Nat → Int64} {Rel : St → St → Prop} (K : kL p l s m c D cy b L xs BX BM oa) (hi : i + 6 ≤ L) (hL : L ≤ 3072) (hc : cells + 1 ≤ 601024) (hs : slots + 6 ≤ 7293034) (hsim : ∀ a1 : Int32, wX10_made 0 a1 σ (fun r u => wX11_made 0 a1 τ (fun r2 v => r = r2 ∧ Rel u v))) (h : LHs D cy BX BM oa σ τ g s H locs) (hl : lv_has ls 7 [(0, .ref b), (1, .ref (BX + 0)), (2, .ref (BM + 0)), (3, .ref oa), (4, .int (nI i))]) (cont : ∀ (σ' τ' : St) (g' : Nat → Int64) (H' : Heap) (locs' : List Loc) (ls' : Array Slot), Rel σ' τ' → LHs D cy BX BM oa σ' τ' g' s H' locs' → lv_has ls' 7 [(0, .ref b), (1, .ref (BX + 0)), (2, .ref (BM + 0)), (3, .ref oa), (4, .int (nI i))] → W p l e room_1 s m #[Value.ref b] below meth c H' locs' (cells + 1) (slots + 6) Q (F0 m 1301 ls' [])) : W p l e room_1 s m #[Value.ref b] below meth c H locs cells slots Q (F0 m 393 ls []) := by
  obtain ⟨K0, hK, hN, hZ, hE, hX, hbl, hfl, l1, l2, l3⟩ := id K
  obtain ⟨hx, hb, hml, hown, hts⟩ := id K0
  have hbA : ¬ Aw s b := Nat.not_le.mpr hbl
  have hI : ∀ k : Int32, (1 ≤ k.toInt ∧ k.toInt ≤ 5) → vp_in (nI i + k) L := lw_in hi hL
  have hw := hsim (xs (nI i + (1 : Int32)).toNatClampNeg)
  refine lv_aload_n hx hb dL_law_393 rfl (lv_at hl 1 rfl) ?_
  refine lv_aload_n hx hb dL_law_394 rfl (lv_at hl 0 rfl) ?_
  refine lv_iload hx hb dL_law_395 (lv_at hl 4 rfl) ?_
  refine lv_iconst (v := (1 : Int32)) hx hb dL_law_397 (by decide) ?_
  refine lv_iadd hx hb dL_law_398 ?_
  refine va_sld hx hb hX hbl hbA h.2.2.2 (hI 1 (by decide)) dL_law_399 ?_
  refine lk_Xi (As := [.int (xs (nI i + (1 : Int32)).toNatClampNeg)]) (rest := []) K h (mX10_made l D cy BX 0 (xs (nI i + (1 : Int32)).toNatClampNeg) σ (by decide +kernel) hw) (gL_W (tb_3 _ (List.mem_of_getElem? (i := 146) rfl)) (tb_3 _ (List.mem_of_getElem? (i := 147) rfl)) (tb_3 _ (List.mem_of_getElem? (i := 148) rfl)) (tb_1 _ (List.mem_of_getElem? (i := 1) rfl)) (tb_3 _ (List.mem_of_getElem? (i := 149) rfl)) (by decide +kernel)) hd_X10_made ⟨Nat.le_of_ble_eq_true rfl, Nat.le_of_ble_eq_true rfl⟩ rfl hl.1 (Nat.le_of_ble_eq_true rfl) (by omega) (by omega) dL_law_400 rfl (fun r1 u1 H locs hw h => ?_)
  refine lv_aload_n hx hb dL_law_403 rfl (lv_at hl 2 rfl) ?_
  refine lv_aload_n hx hb dL_law_404 rfl (lv_at hl 0 rfl) ?_
  refine lv_iload hx hb dL_law_405 (lv_at hl 4 rfl) ?_
  refine lv_iconst (v := (1 : Int32)) hx hb dL_law_407 (by decide) ?_
  refine lv_iadd hx hb dL_law_408 ?_
  refine va_sld hx hb hX hbl hbA h.2.2.2 (hI 1 (by decide)) dL_law_409 ?_
  refine lk_Mi (As := [.int (xs (nI i + (1 : Int32)).toNatClampNeg)]) (rest := [.int r1]) K h (mX11_made l D cy BM 0 (xs (nI i + (1 : Int32)).toNatClampNeg) τ (by decide +kernel) hw) (gL_W (tb_6 _ (List.mem_of_getElem? (i := 121) rfl)) (tb_6 _ (List.mem_of_getElem? (i := 122) rfl)) (tb_6 _ (List.mem_of_getElem? (i := 123) rfl)) (tb_1 _ (List.mem_of_getElem? (i := 16) rfl)) (tb_6 _ (List.mem_of_getElem? (i := 124) rfl)) (by decide +kernel)) hd_X11_made ⟨Nat.le_of_ble_eq_true rfl, Nat.le_of_ble_eq_true rfl⟩ rfl hl.1 (Nat.le_of_ble_eq_true rfl) (by omega) (by omega) dL_law_410 rfl (fun r2 u2 H locs hw h => ?_)
  refine lv_icmp_eq (tgt := 1301) hx hb dL_law_413 (by decide) (fun _ => ?_) (fun c9 => absurd hw.1 c9)
  refine W.widen (k := cells + 1) (n := slots + 6) (by omega) (by omega) ?_
  exact cont _ _ _ _ _ _ hw.2 h (lv_sub hl [0, 1, 2, 3, 4] rfl)
set_option maxRecDepth 100000 in
set_option maxHeartbeats 4000000 in
theorem law_c6 {p : Program} {l : Launch} {e : Env} {s : State} {m : MethodId} {below : List Frame} {meth : Method} {c : Code} {H : Heap} {locs : List Loc} {cells slots : Nat} {Q : State → Prop} {ls : Array Slot} {D : va_G} {cy : Nat → ClassId} {b L : Nat} {xs : Nat → Int32} {BX BM oa i : Nat} {σ τ : St} {g : Nat → Int64} {Rel : St → St → Prop} (K : kL p l s m c D cy b L xs BX BM oa) (hi : i + 6 ≤ L) (hL : L ≤ 3072) (hc : cells + 1 ≤ 601024) (hs : slots + 6 ≤ 7293034) (hsim : ∀ a1 : Int32, wX10_plain 0 a1 σ (fun r u => wX11_plain 0 a1 τ (fun r2 v => r = r2 ∧ Rel u v))) (h : LHs D cy BX BM oa σ τ g s H locs) (hl : lv_has ls 7 [(0, .ref b), (1, .ref (BX + 0)), (2, .ref (BM + 0)), (3, .ref oa), (4, .int (nI i))]) (cont : ∀ (σ' τ' : St) (g' : Nat → Int64) (H' : Heap) (locs' : List Loc) (ls' : Array Slot), Rel σ' τ' → LHs D cy BX BM oa σ' τ' g' s H' locs' → lv_has ls' 7 [(0, .ref b), (1, .ref (BX + 0)), (2, .ref (BM + 0)), (3, .ref oa), (4, .int (nI i))] → W p l e room_1 s m #[Value.ref b] below meth c H' locs' (cells + 1) (slots + 6) Q (F0 m 1301 ls' [])) : W p l e room_1 s m #[Value.ref b] below meth c H locs cells slots Q (F0 m 418 ls []) := by
  obtain ⟨K0, hK, hN, hZ, hE, hX, hbl, hfl, l1, l2, l3⟩ := id K
  obtain ⟨hx, hb, hml, hown, hts⟩ := id K0
  have hbA : ¬ Aw s b := Nat.not_le.mpr hbl
  have hI : ∀ k : Int32, (1 ≤ k.toInt ∧ k.toInt ≤ 5) → vp_in (nI i + k) L := lw_in hi hL
  have hw := hsim (xs (nI i + (1 : Int32)).toNatClampNeg)
  refine lv_aload_n hx hb dL_law_418 rfl (lv_at hl 1 rfl) ?_
  refine lv_aload_n hx hb dL_law_419 rfl (lv_at hl 0 rfl) ?_
  refine lv_iload hx hb dL_law_420 (lv_at hl 4 rfl) ?_
  refine lv_iconst (v := (1 : Int32)) hx hb dL_law_422 (by decide) ?_
  refine lv_iadd hx hb dL_law_423 ?_
  refine va_sld hx hb hX hbl hbA h.2.2.2 (hI 1 (by decide)) dL_law_424 ?_
  refine lk_Xi (As := [.int (xs (nI i + (1 : Int32)).toNatClampNeg)]) (rest := []) K h (mX10_plain l D cy BX 0 (xs (nI i + (1 : Int32)).toNatClampNeg) σ (by decide +kernel) hw) (gL_W (tb_3 _ (List.mem_of_getElem? (i := 156) rfl)) (tb_3 _ (List.mem_of_getElem? (i := 157) rfl)) (tb_3 _ (List.mem_of_getElem? (i := 158) rfl)) (tb_1 _ (List.mem_of_getElem? (i := 1) rfl)) (tb_3 _ (List.mem_of_getElem? (i := 159) rfl)) (by decide +kernel)) hd_X10_plain ⟨Nat.le_of_ble_eq_true rfl, Nat.le_of_ble_eq_true rfl⟩ rfl hl.1 (Nat.le_of_ble_eq_true rfl) (by omega) (by omega) dL_law_425 rfl (fun r1 u1 H locs hw h => ?_)
  refine lv_aload_n hx hb dL_law_428 rfl (lv_at hl 2 rfl) ?_
  refine lv_aload_n hx hb dL_law_429 rfl (lv_at hl 0 rfl) ?_
  refine lv_iload hx hb dL_law_430 (lv_at hl 4 rfl) ?_
  refine lv_iconst (v := (1 : Int32)) hx hb dL_law_432 (by decide) ?_
  refine lv_iadd hx hb dL_law_433 ?_
  refine va_sld hx hb hX hbl hbA h.2.2.2 (hI 1 (by decide)) dL_law_434 ?_
  refine lk_Mi (As := [.int (xs (nI i + (1 : Int32)).toNatClampNeg)]) (rest := [.int r1]) K h (mX11_plain l D cy BM 0 (xs (nI i + (1 : Int32)).toNatClampNeg) τ (by decide +kernel) hw) (gL_W (tb_6 _ (List.mem_of_getElem? (i := 129) rfl)) (tb_6 _ (List.mem_of_getElem? (i := 130) rfl)) (tb_6 _ (List.mem_of_getElem? (i := 131) rfl)) (tb_1 _ (List.mem_of_getElem? (i := 16) rfl)) (tb_6 _ (List.mem_of_getElem? (i := 132) rfl)) (by decide +kernel)) hd_X11_plain ⟨Nat.le_of_ble_eq_true rfl, Nat.le_of_ble_eq_true rfl⟩ rfl hl.1 (Nat.le_of_ble_eq_true rfl) (by omega) (by omega) dL_law_435 rfl (fun r2 u2 H locs hw h => ?_)
  refine lv_icmp_eq (tgt := 1301) hx hb dL_law_438 (by decide) (fun _ => ?_) (fun c9 => absurd hw.1 c9)
  refine W.widen (k := cells + 1) (n := slots + 6) (by omega) (by omega) ?_
  exact cont _ _ _ _ _ _ hw.2 h (lv_sub hl [0, 1, 2, 3, 4] rfl)
set_option maxRecDepth 100000 in
set_option maxHeartbeats 4000000 in
theorem law_c7 {p : Program} {l : Launch} {e : Env} {s : State} {m : MethodId} {below : List Frame} {meth : Method} {c : Code} {H : Heap} {locs : List Loc} {cells slots : Nat} {Q : State → Prop} {ls : Array Slot} {D : va_G} {cy : Nat → ClassId} {b L : Nat} {xs : Nat → Int32} {BX BM oa i : Nat} {σ τ : St} {g : Nat → Int64} {Rel : St → St → Prop} (K : kL p l s m c D cy b L xs BX BM oa) (hi : i + 6 ≤ L) (hL : L ≤ 3072) (hc : cells + 1 ≤ 601024) (hs : slots + 6 ≤ 7293034) (hsim : ∀ a1 a2 : Int32, wX10_like 0 a1 a2 σ (fun r u => wX11_like 0 a1 a2 τ (fun r2 v => r = r2 ∧ Rel u v))) (h : LHs D cy BX BM oa σ τ g s H locs) (hl : lv_has ls 7 [(0, .ref b), (1, .ref (BX + 0)), (2, .ref (BM + 0)), (3, .ref oa), (4, .int (nI i))]) (cont : ∀ (σ' τ' : St) (g' : Nat → Int64) (H' : Heap) (locs' : List Loc) (ls' : Array Slot), Rel σ' τ' → LHs D cy BX BM oa σ' τ' g' s H' locs' → lv_has ls' 7 [(0, .ref b), (1, .ref (BX + 0)), (2, .ref (BM + 0)), (3, .ref oa), (4, .int (nI i))] → W p l e room_1 s m #[Value.ref b] below meth c H' locs' (cells + 1) (slots + 6) Q (F0 m 1301 ls' [])) : W p l e room_1 s m #[Value.ref b] below meth c H locs cells slots Q (F0 m 443 ls []) := by
  obtain ⟨K0, hK, hN, hZ, hE, hX, hbl, hfl, l1, l2, l3⟩ := id K
  obtain ⟨hx, hb, hml, hown, hts⟩ := id K0
  have hbA : ¬ Aw s b := Nat.not_le.mpr hbl
  have hI : ∀ k : Int32, (1 ≤ k.toInt ∧ k.toInt ≤ 5) → vp_in (nI i + k) L := lw_in hi hL
  have hw := hsim (xs (nI i + (1 : Int32)).toNatClampNeg) (xs (nI i + (2 : Int32)).toNatClampNeg)
  refine lv_aload_n hx hb dL_law_443 rfl (lv_at hl 1 rfl) ?_
  refine lv_aload_n hx hb dL_law_444 rfl (lv_at hl 0 rfl) ?_
  refine lv_iload hx hb dL_law_445 (lv_at hl 4 rfl) ?_
  refine lv_iconst (v := (1 : Int32)) hx hb dL_law_447 (by decide) ?_
  refine lv_iadd hx hb dL_law_448 ?_
  refine va_sld hx hb hX hbl hbA h.2.2.2 (hI 1 (by decide)) dL_law_449 ?_
  refine lv_aload_n hx hb dL_law_450 rfl (lv_at hl 0 rfl) ?_
  refine lv_iload hx hb dL_law_451 (lv_at hl 4 rfl) ?_
  refine lv_iconst (v := (2 : Int32)) hx hb dL_law_453 (by decide) ?_
  refine lv_iadd hx hb dL_law_454 ?_
  refine va_sld hx hb hX hbl hbA h.2.2.2 (hI 2 (by decide)) dL_law_455 ?_
  refine lk_Xi (As := [.int (xs (nI i + (1 : Int32)).toNatClampNeg), .int (xs (nI i + (2 : Int32)).toNatClampNeg)]) (rest := []) K h (mX10_like l D cy BX 0 (xs (nI i + (1 : Int32)).toNatClampNeg) (xs (nI i + (2 : Int32)).toNatClampNeg) σ (by decide +kernel) hw) (gL_W (tb_3 _ (List.mem_of_getElem? (i := 164) rfl)) (tb_3 _ (List.mem_of_getElem? (i := 165) rfl)) (tb_3 _ (List.mem_of_getElem? (i := 166) rfl)) (tb_1 _ (List.mem_of_getElem? (i := 1) rfl)) (tb_3 _ (List.mem_of_getElem? (i := 167) rfl)) (by decide +kernel)) hd_X10_like ⟨Nat.le_of_ble_eq_true rfl, Nat.le_of_ble_eq_true rfl⟩ rfl hl.1 (Nat.le_of_ble_eq_true rfl) (by omega) (by omega) dL_law_456 rfl (fun r1 u1 H locs hw h => ?_)
  refine lv_aload_n hx hb dL_law_459 rfl (lv_at hl 2 rfl) ?_
  refine lv_aload_n hx hb dL_law_460 rfl (lv_at hl 0 rfl) ?_
  refine lv_iload hx hb dL_law_461 (lv_at hl 4 rfl) ?_
  refine lv_iconst (v := (1 : Int32)) hx hb dL_law_463 (by decide) ?_
  refine lv_iadd hx hb dL_law_464 ?_
  refine va_sld hx hb hX hbl hbA h.2.2.2 (hI 1 (by decide)) dL_law_465 ?_
  refine lv_aload_n hx hb dL_law_466 rfl (lv_at hl 0 rfl) ?_
  refine lv_iload hx hb dL_law_467 (lv_at hl 4 rfl) ?_
  refine lv_iconst (v := (2 : Int32)) hx hb dL_law_469 (by decide) ?_
  refine lv_iadd hx hb dL_law_470 ?_
  refine va_sld hx hb hX hbl hbA h.2.2.2 (hI 2 (by decide)) dL_law_471 ?_
  refine lk_Mi (As := [.int (xs (nI i + (1 : Int32)).toNatClampNeg), .int (xs (nI i + (2 : Int32)).toNatClampNeg)]) (rest := [.int r1]) K h (mX11_like l D cy BM 0 (xs (nI i + (1 : Int32)).toNatClampNeg) (xs (nI i + (2 : Int32)).toNatClampNeg) τ (by decide +kernel) hw) (gL_W (tb_6 _ (List.mem_of_getElem? (i := 133) rfl)) (tb_6 _ (List.mem_of_getElem? (i := 134) rfl)) (tb_6 _ (List.mem_of_getElem? (i := 135) rfl)) (tb_1 _ (List.mem_of_getElem? (i := 16) rfl)) (tb_6 _ (List.mem_of_getElem? (i := 136) rfl)) (by decide +kernel)) hd_X11_like ⟨Nat.le_of_ble_eq_true rfl, Nat.le_of_ble_eq_true rfl⟩ rfl hl.1 (Nat.le_of_ble_eq_true rfl) (by omega) (by omega) dL_law_472 rfl (fun r2 u2 H locs hw h => ?_)
  refine lv_icmp_eq (tgt := 1301) hx hb dL_law_475 (by decide) (fun _ => ?_) (fun c9 => absurd hw.1 c9)
  refine W.widen (k := cells + 1) (n := slots + 6) (by omega) (by omega) ?_
  exact cont _ _ _ _ _ _ hw.2 h (lv_sub hl [0, 1, 2, 3, 4] rfl)
set_option maxRecDepth 100000 in
set_option maxHeartbeats 4000000 in
theorem law_c8 {p : Program} {l : Launch} {e : Env} {s : State} {m : MethodId} {below : List Frame} {meth : Method} {c : Code} {H : Heap} {locs : List Loc} {cells slots : Nat} {Q : State → Prop} {ls : Array Slot} {D : va_G} {cy : Nat → ClassId} {b L : Nat} {xs : Nat → Int32} {BX BM oa i : Nat} {σ τ : St} {g : Nat → Int64} {Rel : St → St → Prop} (K : kL p l s m c D cy b L xs BX BM oa) (hi : i + 6 ≤ L) (hL : L ≤ 3072) (hc : cells + 1 ≤ 601024) (hs : slots + 6 ≤ 7293034) (hsim : ∀ a1 a2 : Int32, wX10_rank 0 a1 a2 σ (fun r u => wX11_rank 0 a1 a2 τ (fun r2 v => r = r2 ∧ Rel u v))) (h : LHs D cy BX BM oa σ τ g s H locs) (hl : lv_has ls 7 [(0, .ref b), (1, .ref (BX + 0)), (2, .ref (BM + 0)), (3, .ref oa), (4, .int (nI i))]) (cont : ∀ (σ' τ' : St) (g' : Nat → Int64) (H' : Heap) (locs' : List Loc) (ls' : Array Slot), Rel σ' τ' → LHs D cy BX BM oa σ' τ' g' s H' locs' → lv_has ls' 7 [(0, .ref b), (1, .ref (BX + 0)), (2, .ref (BM + 0)), (3, .ref oa), (4, .int (nI i))] → W p l e room_1 s m #[Value.ref b] below meth c H' locs' (cells + 1) (slots + 6) Q (F0 m 1301 ls' [])) : W p l e room_1 s m #[Value.ref b] below meth c H locs cells slots Q (F0 m 480 ls []) := by
  obtain ⟨K0, hK, hN, hZ, hE, hX, hbl, hfl, l1, l2, l3⟩ := id K
  obtain ⟨hx, hb, hml, hown, hts⟩ := id K0
  have hbA : ¬ Aw s b := Nat.not_le.mpr hbl
  have hI : ∀ k : Int32, (1 ≤ k.toInt ∧ k.toInt ≤ 5) → vp_in (nI i + k) L := lw_in hi hL
  have hw := hsim (xs (nI i + (1 : Int32)).toNatClampNeg) (xs (nI i + (2 : Int32)).toNatClampNeg)
  refine lv_aload_n hx hb dL_law_480 rfl (lv_at hl 1 rfl) ?_
  refine lv_aload_n hx hb dL_law_481 rfl (lv_at hl 0 rfl) ?_
  refine lv_iload hx hb dL_law_482 (lv_at hl 4 rfl) ?_
  refine lv_iconst (v := (1 : Int32)) hx hb dL_law_484 (by decide) ?_
  refine lv_iadd hx hb dL_law_485 ?_
  refine va_sld hx hb hX hbl hbA h.2.2.2 (hI 1 (by decide)) dL_law_486 ?_
  refine lv_aload_n hx hb dL_law_487 rfl (lv_at hl 0 rfl) ?_
  refine lv_iload hx hb dL_law_488 (lv_at hl 4 rfl) ?_
  refine lv_iconst (v := (2 : Int32)) hx hb dL_law_490 (by decide) ?_
  refine lv_iadd hx hb dL_law_491 ?_
  refine va_sld hx hb hX hbl hbA h.2.2.2 (hI 2 (by decide)) dL_law_492 ?_
  refine lk_Xi (As := [.int (xs (nI i + (1 : Int32)).toNatClampNeg), .int (xs (nI i + (2 : Int32)).toNatClampNeg)]) (rest := []) K h (mX10_rank l D cy BX 0 (xs (nI i + (1 : Int32)).toNatClampNeg) (xs (nI i + (2 : Int32)).toNatClampNeg) σ (by decide +kernel) hw) (gL_W (tb_3 _ (List.mem_of_getElem? (i := 176) rfl)) (tb_3 _ (List.mem_of_getElem? (i := 177) rfl)) (tb_3 _ (List.mem_of_getElem? (i := 178) rfl)) (tb_1 _ (List.mem_of_getElem? (i := 1) rfl)) (tb_3 _ (List.mem_of_getElem? (i := 179) rfl)) (by decide +kernel)) hd_X10_rank ⟨Nat.le_of_ble_eq_true rfl, Nat.le_of_ble_eq_true rfl⟩ rfl hl.1 (Nat.le_of_ble_eq_true rfl) (by omega) (by omega) dL_law_493 rfl (fun r1 u1 H locs hw h => ?_)
  refine lv_aload_n hx hb dL_law_496 rfl (lv_at hl 2 rfl) ?_
  refine lv_aload_n hx hb dL_law_497 rfl (lv_at hl 0 rfl) ?_
  refine lv_iload hx hb dL_law_498 (lv_at hl 4 rfl) ?_
  refine lv_iconst (v := (1 : Int32)) hx hb dL_law_500 (by decide) ?_
  refine lv_iadd hx hb dL_law_501 ?_
  refine va_sld hx hb hX hbl hbA h.2.2.2 (hI 1 (by decide)) dL_law_502 ?_
  refine lv_aload_n hx hb dL_law_503 rfl (lv_at hl 0 rfl) ?_
  refine lv_iload hx hb dL_law_504 (lv_at hl 4 rfl) ?_
  refine lv_iconst (v := (2 : Int32)) hx hb dL_law_506 (by decide) ?_
  refine lv_iadd hx hb dL_law_507 ?_
  refine va_sld hx hb hX hbl hbA h.2.2.2 (hI 2 (by decide)) dL_law_508 ?_
  refine lk_Mi (As := [.int (xs (nI i + (1 : Int32)).toNatClampNeg), .int (xs (nI i + (2 : Int32)).toNatClampNeg)]) (rest := [.int r1]) K h (mX11_rank l D cy BM 0 (xs (nI i + (1 : Int32)).toNatClampNeg) (xs (nI i + (2 : Int32)).toNatClampNeg) τ (by decide +kernel) hw) (gL_W (tb_6 _ (List.mem_of_getElem? (i := 137) rfl)) (tb_6 _ (List.mem_of_getElem? (i := 138) rfl)) (tb_6 _ (List.mem_of_getElem? (i := 139) rfl)) (tb_1 _ (List.mem_of_getElem? (i := 16) rfl)) (tb_6 _ (List.mem_of_getElem? (i := 140) rfl)) (by decide +kernel)) hd_X11_rank ⟨Nat.le_of_ble_eq_true rfl, Nat.le_of_ble_eq_true rfl⟩ rfl hl.1 (Nat.le_of_ble_eq_true rfl) (by omega) (by omega) dL_law_509 rfl (fun r2 u2 H locs hw h => ?_)
  refine lv_icmp_eq (tgt := 1301) hx hb dL_law_512 (by decide) (fun _ => ?_) (fun c9 => absurd hw.1 c9)
  refine W.widen (k := cells + 1) (n := slots + 6) (by omega) (by omega) ?_
  exact cont _ _ _ _ _ _ hw.2 h (lv_sub hl [0, 1, 2, 3, 4] rfl)
set_option maxRecDepth 100000 in
set_option maxHeartbeats 4000000 in
theorem law_c9 {p : Program} {l : Launch} {e : Env} {s : State} {m : MethodId} {below : List Frame} {meth : Method} {c : Code} {H : Heap} {locs : List Loc} {cells slots : Nat} {Q : State → Prop} {ls : Array Slot} {D : va_G} {cy : Nat → ClassId} {b L : Nat} {xs : Nat → Int32} {BX BM oa i : Nat} {σ τ : St} {g : Nat → Int64} {Rel : St → St → Prop} (K : kL p l s m c D cy b L xs BX BM oa) (hi : i + 6 ≤ L) (hL : L ≤ 3072) (hc : cells + 1 ≤ 601024) (hs : slots + 6 ≤ 7293034) (hsim : ∀ a1 a2 : Int32, wX10_base 0 a1 a2 σ (fun r u => wX11_base 0 a1 a2 τ (fun r2 v => wX11_thrown 0 v (fun k v => k = 0 ∧ r = r2 ∧ Rel u v))) (fun u => wX11_base 0 a1 a2 τ (fun _ v => wX11_thrown 0 v (fun k v => k = 1 ∧ Rel u v)))) (h : LHs D cy BX BM oa σ τ g s H locs) (hl : lv_has ls 7 [(0, .ref b), (1, .ref (BX + 0)), (2, .ref (BM + 0)), (3, .ref oa), (4, .int (nI i))]) (cont : ∀ (σ' τ' : St) (g' : Nat → Int64) (H' : Heap) (locs' : List Loc) (ls' : Array Slot), Rel σ' τ' → LHs D cy BX BM oa σ' τ' g' s H' locs' → lv_has ls' 7 [(0, .ref b), (1, .ref (BX + 0)), (2, .ref (BM + 0)), (3, .ref oa), (4, .int (nI i))] → W p l e room_1 s m #[Value.ref b] below meth c H' locs' (cells + 1) (slots + 6) Q (F0 m 1301 ls' [])) : W p l e room_1 s m #[Value.ref b] below meth c H locs cells slots Q (F0 m 517 ls []) := by
  obtain ⟨K0, hK, hN, hZ, hE, hX, hbl, hfl, l1, l2, l3⟩ := id K
  obtain ⟨hx, hb, hml, hown, hts⟩ := id K0
  have hbA : ¬ Aw s b := Nat.not_le.mpr hbl
  have hI : ∀ k : Int32, (1 ≤ k.toInt ∧ k.toInt ≤ 5) → vp_in (nI i + k) L := lw_in hi hL
  have hw := hsim (xs (nI i + (1 : Int32)).toNatClampNeg) (xs (nI i + (2 : Int32)).toNatClampNeg)
  refine lv_aload_n hx hb dL_law_517 rfl (lv_at hl 1 rfl) ?_
  refine lv_aload_n hx hb dL_law_518 rfl (lv_at hl 0 rfl) ?_
  refine lv_iload hx hb dL_law_519 (lv_at hl 4 rfl) ?_
  refine lv_iconst (v := (1 : Int32)) hx hb dL_law_521 (by decide) ?_
  refine lv_iadd hx hb dL_law_522 ?_
  refine va_sld hx hb hX hbl hbA h.2.2.2 (hI 1 (by decide)) dL_law_523 ?_
  refine lv_aload_n hx hb dL_law_524 rfl (lv_at hl 0 rfl) ?_
  refine lv_iload hx hb dL_law_525 (lv_at hl 4 rfl) ?_
  refine lv_iconst (v := (2 : Int32)) hx hb dL_law_527 (by decide) ?_
  refine lv_iadd hx hb dL_law_528 ?_
  refine va_sld hx hb hX hbl hbA h.2.2.2 (hI 2 (by decide)) dL_law_529 ?_
  refine lv_aload_n hx hb dL_law_530 rfl (lv_at hl 3 rfl) ?_
  obtain ⟨h1, h2, h3, hS⟩ := id h
  have hoa : ¬ AW BX 346 oa := fun z => by have := z.2; omega
  have hAA : ∀ q, ALw BX oa q → Aw s q := fun q hq => by
      show s.heap.size ≤ q
      rcases hq with hq | rfl
      · have := hq.1; omega
      · omega
  have pre : PreS s H (PcL D cy BX oa σ g [.ref (BX + 0), .int (xs (nI i + (1 : Int32)).toNatClampNeg), .int (xs (nI i + (2 : Int32)).toNatClampNeg), .ref oa]) [.ref (BX + 0), .int (xs (nI i + (1 : Int32)).toNatClampNeg), .int (xs (nI i + (2 : Int32)).toNatClampNeg), .ref oa] := ⟨PcL.blind, fun U hU hW => ⟨rfl, ⟨by rw [hU]; exact h1, by rw [hU]; exact h3⟩, va_K.moved hW.alike hK, hN.warm hW, (hZ.keep hW (fun a q1 q2 => by rw [hU]; exact hS.2.1 a q1 q2)).narrow hAA, (hE.keep hW (fun a q1 q2 => by rw [hU]; exact hS.2.1 a q1 q2)).narrow hAA⟩⟩
  refine va_calli (vx_runSW (As := [.ref (BX + 0), .int (xs (nI i + (1 : Int32)).toNatClampNeg), .int (xs (nI i + (2 : Int32)).toNatClampNeg), .ref oa]) (rest := []) (R := room_1) K0 (mL_base l hfl D cy BX oa hoa (xs (nI i + (1 : Int32)).toNatClampNeg) (xs (nI i + (2 : Int32)).toNatClampNeg) σ g hw) (vx_cwSW 4 K0.2.2.2.2 gLs_base rfl rfl rfl (by decide +kernel) ⟨Nat.le_of_ble_eq_true rfl, Nat.le_of_ble_eq_true rfl⟩) pre rfl rfl hl.1 rfl (lv_room (Nat.le_of_ble_eq_true rfl)) dL_law_531 ⟨hc, hs⟩) hS (fun q _ hq => hAA q hq) hAA (fun k u t H1 locs1 ht hvm hw hB hz hk hS1 => ?_)
  obtain ⟨u1, gv⟩ := u
  have h : LHs D cy BX BM oa u1 τ gv s H1 locs1 := ⟨by rw [← ht]; exact hB.1, wW_kept h2 (fun q q1 q2 => hk q q2 (fun z => by have q3 := q1.2; rw [kM_len] at q3; rcases z with z | rfl; have := z.2; have := q1.1; omega; omega)), by rw [← ht]; exact hB.2, hS1⟩
  rcases hw with ⟨rfl, rr, hgv, hw⟩ | ⟨rfl, hw⟩
  · refine lv_istore (lv' := [(5, .int (0 : Int32)), (0, .ref b), (1, .ref (BX + 0)), (2, .ref (BM + 0)), (3, .ref oa), (4, .int (nI i))]) hx hb dL_law_534 hl (by decide) rfl (fun ls hl => ?_)
    refine lv_aload_n hx hb dL_law_536 rfl (lv_at hl 3 rfl) ?_
    refine lv_aload_n hx hb dL_law_537 rfl (lv_at hl 1 rfl) ?_
    refine lv_iload hx hb dL_law_538 (lv_at hl 5 rfl) ?_
    refine lv_iconst (v := (1 : Int32)) hx hb dL_law_540 (by decide) ?_
    refine lv_iadd hx hb dL_law_541 ?_
    refine va_sld hx hb hX hbl hbA h.2.2.2 (hI 1 (by decide)) dL_law_542 ?_
    refine lv_aload_n hx hb dL_law_543 rfl (lv_at hl 1 rfl) ?_
    refine lv_iload hx hb dL_law_544 (lv_at hl 5 rfl) ?_
    refine lv_iconst (v := (2 : Int32)) hx hb dL_law_546 (by decide) ?_
    refine lv_iadd hx hb dL_law_547 ?_
    refine va_sld hx hb hX hbl hbA h.2.2.2 (hI 2 (by decide)) dL_law_548 ?_
    refine lk_Mi (As := [.int (xs (nI i + (1 : Int32)).toNatClampNeg), .int (xs (nI i + (2 : Int32)).toNatClampNeg)]) (rest := []) (cells := cells + 1) (slots := slots + 6) K h (mX11_base l D cy BM 0 (xs (nI i + (1 : Int32)).toNatClampNeg) (xs (nI i + (2 : Int32)).toNatClampNeg) τ (by decide +kernel) hw) (gL_W (tb_6 _ (List.mem_of_getElem? (i := 156) rfl)) (tb_6 _ (List.mem_of_getElem? (i := 157) rfl)) (tb_6 _ (List.mem_of_getElem? (i := 158) rfl)) (tb_1 _ (List.mem_of_getElem? (i := 16) rfl)) (tb_6 _ (List.mem_of_getElem? (i := 159) rfl)) (by decide +kernel)) hd_X11_base ⟨Nat.le_of_ble_eq_true rfl, Nat.le_of_ble_eq_true rfl⟩ rfl hl.1 (Nat.le_of_ble_eq_true rfl) (by omega) (by omega) dL_law_549 rfl (fun r11 u11 H locs hw h => ?_)
    refine lv_istore (lv' := [(6, .int r11), (5, .int (0 : Int32)), (0, .ref b), (1, .ref (BX + 0)), (2, .ref (BM + 0)), (3, .ref oa), (4, .int (nI i))]) hx hb dL_law_552 hl (by decide) rfl (fun ls hl => ?_)
    refine lv_aload_n hx hb dL_law_554 rfl (lv_at hl 4 rfl) ?_
    refine lk_Mi (As := []) (rest := []) (cells := cells + 1) (slots := slots + 6) K h (mX11_thrown l D cy BM 0  u11 (by decide +kernel) hw) (gL_W (tb_5 _ (List.mem_of_getElem? (i := 204) rfl)) (tb_5 _ (List.mem_of_getElem? (i := 205) rfl)) (tb_5 _ (List.mem_of_getElem? (i := 206) rfl)) (tb_1 _ (List.mem_of_getElem? (i := 16) rfl)) (tb_5 _ (List.mem_of_getElem? (i := 207) rfl)) (by decide +kernel)) hd_X11_thrown ⟨Nat.le_of_ble_eq_true rfl, Nat.le_of_ble_eq_true rfl⟩ rfl hl.1 (Nat.le_of_ble_eq_true rfl) (by omega) (by omega) dL_law_555 rfl (fun r12 u12 H locs hw h => ?_)
    refine lv_iload hx hb dL_law_558 (lv_at hl 1 rfl) ?_
    refine lv_icmp_eq (tgt := 565) hx hb dL_law_560 (by decide) (fun _ => ?_) (fun c9 => absurd hw.1 c9)
    refine lv_iload hx hb dL_law_565 (lv_at hl 1 rfl) ?_
    refine lv_if_ne (tgt := 582) hx hb dL_law_567 (by decide) (fun c9 => absurd rfl c9) (fun _ => ?_)
    refine lv_aload_n hx hb dL_law_570 rfl (lv_at hl 5 rfl) ?_
    refine lv_iconst (v := (0 : Int32)) hx hb dL_law_571 (by decide) ?_
    refine va_lald hx hb hK h.2.2.1 0 2 (n := 1) (f := gv) (cA := cy 2) rfl rfl (by unfold vp_in; decide) dL_law_572 ?_
    refine lv_iload hx hb dL_law_573 (lv_at hl 0 rfl) ?_
    refine lv_i2l hx hb dL_law_575 rfl ?_
    refine W.lcmp hx hb dL_law_576 ?_
    refine lv_if_eq (tgt := 582) hx hb dL_law_577 (by decide) (fun _ => ?_) (fun c9 => absurd (lcmp_0.mpr (hgv.trans (by rw [hw.2.1]))) c9)
    refine lv_goto (tgt := 1301) hx hb dL_law_582 (by decide) ?_
    exact cont _ _ _ _ _ _ hw.2.2 h (lv_sub hl [2, 3, 4, 5, 6] rfl)
  · refine lv_istore (lv' := [(5, .int (1 : Int32)), (0, .ref b), (1, .ref (BX + 0)), (2, .ref (BM + 0)), (3, .ref oa), (4, .int (nI i))]) hx hb dL_law_534 hl (by decide) rfl (fun ls hl => ?_)
    refine lv_aload_n hx hb dL_law_536 rfl (lv_at hl 3 rfl) ?_
    refine lv_aload_n hx hb dL_law_537 rfl (lv_at hl 1 rfl) ?_
    refine lv_iload hx hb dL_law_538 (lv_at hl 5 rfl) ?_
    refine lv_iconst (v := (1 : Int32)) hx hb dL_law_540 (by decide) ?_
    refine lv_iadd hx hb dL_law_541 ?_
    refine va_sld hx hb hX hbl hbA h.2.2.2 (hI 1 (by decide)) dL_law_542 ?_
    refine lv_aload_n hx hb dL_law_543 rfl (lv_at hl 1 rfl) ?_
    refine lv_iload hx hb dL_law_544 (lv_at hl 5 rfl) ?_
    refine lv_iconst (v := (2 : Int32)) hx hb dL_law_546 (by decide) ?_
    refine lv_iadd hx hb dL_law_547 ?_
    refine va_sld hx hb hX hbl hbA h.2.2.2 (hI 2 (by decide)) dL_law_548 ?_
    refine lk_Mi (As := [.int (xs (nI i + (1 : Int32)).toNatClampNeg), .int (xs (nI i + (2 : Int32)).toNatClampNeg)]) (rest := []) (cells := cells + 1) (slots := slots + 6) K h (mX11_base l D cy BM 0 (xs (nI i + (1 : Int32)).toNatClampNeg) (xs (nI i + (2 : Int32)).toNatClampNeg) τ (by decide +kernel) hw) (gL_W (tb_6 _ (List.mem_of_getElem? (i := 156) rfl)) (tb_6 _ (List.mem_of_getElem? (i := 157) rfl)) (tb_6 _ (List.mem_of_getElem? (i := 158) rfl)) (tb_1 _ (List.mem_of_getElem? (i := 16) rfl)) (tb_6 _ (List.mem_of_getElem? (i := 159) rfl)) (by decide +kernel)) hd_X11_base ⟨Nat.le_of_ble_eq_true rfl, Nat.le_of_ble_eq_true rfl⟩ rfl hl.1 (Nat.le_of_ble_eq_true rfl) (by omega) (by omega) dL_law_549 rfl (fun r11 u11 H locs hw h => ?_)
    refine lv_istore (lv' := [(6, .int r11), (5, .int (1 : Int32)), (0, .ref b), (1, .ref (BX + 0)), (2, .ref (BM + 0)), (3, .ref oa), (4, .int (nI i))]) hx hb dL_law_552 hl (by decide) rfl (fun ls hl => ?_)
    refine lv_aload_n hx hb dL_law_554 rfl (lv_at hl 4 rfl) ?_
    refine lk_Mi (As := []) (rest := []) (cells := cells + 1) (slots := slots + 6) K h (mX11_thrown l D cy BM 0  u11 (by decide +kernel) hw) (gL_W (tb_5 _ (List.mem_of_getElem? (i := 204) rfl)) (tb_5 _ (List.mem_of_getElem? (i := 205) rfl)) (tb_5 _ (List.mem_of_getElem? (i := 206) rfl)) (tb_1 _ (List.mem_of_getElem? (i := 16) rfl)) (tb_5 _ (List.mem_of_getElem? (i := 207) rfl)) (by decide +kernel)) hd_X11_thrown ⟨Nat.le_of_ble_eq_true rfl, Nat.le_of_ble_eq_true rfl⟩ rfl hl.1 (Nat.le_of_ble_eq_true rfl) (by omega) (by omega) dL_law_555 rfl (fun r12 u12 H locs hw h => ?_)
    refine lv_iload hx hb dL_law_558 (lv_at hl 1 rfl) ?_
    refine lv_icmp_eq (tgt := 565) hx hb dL_law_560 (by decide) (fun _ => ?_) (fun c9 => absurd hw.1 c9)
    refine lv_iload hx hb dL_law_565 (lv_at hl 1 rfl) ?_
    refine lv_if_ne (tgt := 582) hx hb dL_law_567 (by decide) (fun _ => ?_) (fun c9 => absurd c9 (by decide))
    refine lv_goto (tgt := 1301) hx hb dL_law_582 (by decide) ?_
    exact cont _ _ _ _ _ _ hw.2 h (lv_sub hl [2, 3, 4, 5, 6] rfl)
set_option maxRecDepth 100000 in
set_option maxHeartbeats 4000000 in
theorem law_c10 {p : Program} {l : Launch} {e : Env} {s : State} {m : MethodId} {below : List Frame} {meth : Method} {c : Code} {H : Heap} {locs : List Loc} {cells slots : Nat} {Q : State → Prop} {ls : Array Slot} {D : va_G} {cy : Nat → ClassId} {b L : Nat} {xs : Nat → Int32} {BX BM oa i : Nat} {σ τ : St} {g : Nat → Int64} {Rel : St → St → Prop} (K : kL p l s m c D cy b L xs BX BM oa) (hi : i + 6 ≤ L) (hL : L ≤ 3072) (hc : cells + 1 ≤ 601024) (hs : slots + 6 ≤ 7293034) (hsim : ∀ a1 a2 a3 : Int32, wX10_based 0 a1 a2 a3 σ (fun r u => wX11_based 0 a1 a2 a3 τ (fun r2 v => r = r2 ∧ Rel u v))) (h : LHs D cy BX BM oa σ τ g s H locs) (hl : lv_has ls 7 [(0, .ref b), (1, .ref (BX + 0)), (2, .ref (BM + 0)), (3, .ref oa), (4, .int (nI i))]) (cont : ∀ (σ' τ' : St) (g' : Nat → Int64) (H' : Heap) (locs' : List Loc) (ls' : Array Slot), Rel σ' τ' → LHs D cy BX BM oa σ' τ' g' s H' locs' → lv_has ls' 7 [(0, .ref b), (1, .ref (BX + 0)), (2, .ref (BM + 0)), (3, .ref oa), (4, .int (nI i))] → W p l e room_1 s m #[Value.ref b] below meth c H' locs' (cells + 1) (slots + 6) Q (F0 m 1301 ls' [])) : W p l e room_1 s m #[Value.ref b] below meth c H locs cells slots Q (F0 m 585 ls []) := by
  obtain ⟨K0, hK, hN, hZ, hE, hX, hbl, hfl, l1, l2, l3⟩ := id K
  obtain ⟨hx, hb, hml, hown, hts⟩ := id K0
  have hbA : ¬ Aw s b := Nat.not_le.mpr hbl
  have hI : ∀ k : Int32, (1 ≤ k.toInt ∧ k.toInt ≤ 5) → vp_in (nI i + k) L := lw_in hi hL
  have hw := hsim (xs (nI i + (1 : Int32)).toNatClampNeg) (xs (nI i + (2 : Int32)).toNatClampNeg) (xs (nI i + (3 : Int32)).toNatClampNeg)
  refine lv_aload_n hx hb dL_law_585 rfl (lv_at hl 1 rfl) ?_
  refine lv_aload_n hx hb dL_law_586 rfl (lv_at hl 0 rfl) ?_
  refine lv_iload hx hb dL_law_587 (lv_at hl 4 rfl) ?_
  refine lv_iconst (v := (1 : Int32)) hx hb dL_law_589 (by decide) ?_
  refine lv_iadd hx hb dL_law_590 ?_
  refine va_sld hx hb hX hbl hbA h.2.2.2 (hI 1 (by decide)) dL_law_591 ?_
  refine lv_aload_n hx hb dL_law_592 rfl (lv_at hl 0 rfl) ?_
  refine lv_iload hx hb dL_law_593 (lv_at hl 4 rfl) ?_
  refine lv_iconst (v := (2 : Int32)) hx hb dL_law_595 (by decide) ?_
  refine lv_iadd hx hb dL_law_596 ?_
  refine va_sld hx hb hX hbl hbA h.2.2.2 (hI 2 (by decide)) dL_law_597 ?_
  refine lv_aload_n hx hb dL_law_598 rfl (lv_at hl 0 rfl) ?_
  refine lv_iload hx hb dL_law_599 (lv_at hl 4 rfl) ?_
  refine lv_iconst (v := (3 : Int32)) hx hb dL_law_601 (by decide) ?_
  refine lv_iadd hx hb dL_law_602 ?_
  refine va_sld hx hb hX hbl hbA h.2.2.2 (hI 3 (by decide)) dL_law_603 ?_
  refine lk_Xi (As := [.int (xs (nI i + (1 : Int32)).toNatClampNeg), .int (xs (nI i + (2 : Int32)).toNatClampNeg), .int (xs (nI i + (3 : Int32)).toNatClampNeg)]) (rest := []) K h (mX10_based l D cy BX 0 (xs (nI i + (1 : Int32)).toNatClampNeg) (xs (nI i + (2 : Int32)).toNatClampNeg) (xs (nI i + (3 : Int32)).toNatClampNeg) σ (by decide +kernel) hw) (gL_W (tb_3 _ (List.mem_of_getElem? (i := 206) rfl)) (tb_3 _ (List.mem_of_getElem? (i := 207) rfl)) (tb_3 _ (List.mem_of_getElem? (i := 208) rfl)) (tb_1 _ (List.mem_of_getElem? (i := 1) rfl)) (tb_3 _ (List.mem_of_getElem? (i := 209) rfl)) (by decide +kernel)) hd_X10_based ⟨Nat.le_of_ble_eq_true rfl, Nat.le_of_ble_eq_true rfl⟩ rfl hl.1 (Nat.le_of_ble_eq_true rfl) (by omega) (by omega) dL_law_604 rfl (fun r1 u1 H locs hw h => ?_)
  refine lv_aload_n hx hb dL_law_607 rfl (lv_at hl 2 rfl) ?_
  refine lv_aload_n hx hb dL_law_608 rfl (lv_at hl 0 rfl) ?_
  refine lv_iload hx hb dL_law_609 (lv_at hl 4 rfl) ?_
  refine lv_iconst (v := (1 : Int32)) hx hb dL_law_611 (by decide) ?_
  refine lv_iadd hx hb dL_law_612 ?_
  refine va_sld hx hb hX hbl hbA h.2.2.2 (hI 1 (by decide)) dL_law_613 ?_
  refine lv_aload_n hx hb dL_law_614 rfl (lv_at hl 0 rfl) ?_
  refine lv_iload hx hb dL_law_615 (lv_at hl 4 rfl) ?_
  refine lv_iconst (v := (2 : Int32)) hx hb dL_law_617 (by decide) ?_
  refine lv_iadd hx hb dL_law_618 ?_
  refine va_sld hx hb hX hbl hbA h.2.2.2 (hI 2 (by decide)) dL_law_619 ?_
  refine lv_aload_n hx hb dL_law_620 rfl (lv_at hl 0 rfl) ?_
  refine lv_iload hx hb dL_law_621 (lv_at hl 4 rfl) ?_
  refine lv_iconst (v := (3 : Int32)) hx hb dL_law_623 (by decide) ?_
  refine lv_iadd hx hb dL_law_624 ?_
  refine va_sld hx hb hX hbl hbA h.2.2.2 (hI 3 (by decide)) dL_law_625 ?_
  refine lk_Mi (As := [.int (xs (nI i + (1 : Int32)).toNatClampNeg), .int (xs (nI i + (2 : Int32)).toNatClampNeg), .int (xs (nI i + (3 : Int32)).toNatClampNeg)]) (rest := [.int r1]) K h (mX11_based l D cy BM 0 (xs (nI i + (1 : Int32)).toNatClampNeg) (xs (nI i + (2 : Int32)).toNatClampNeg) (xs (nI i + (3 : Int32)).toNatClampNeg) τ (by decide +kernel) hw) (gL_W (tb_6 _ (List.mem_of_getElem? (i := 169) rfl)) (tb_6 _ (List.mem_of_getElem? (i := 170) rfl)) (tb_6 _ (List.mem_of_getElem? (i := 171) rfl)) (tb_1 _ (List.mem_of_getElem? (i := 16) rfl)) (tb_6 _ (List.mem_of_getElem? (i := 172) rfl)) (by decide +kernel)) hd_X11_based ⟨Nat.le_of_ble_eq_true rfl, Nat.le_of_ble_eq_true rfl⟩ rfl hl.1 (Nat.le_of_ble_eq_true rfl) (by omega) (by omega) dL_law_626 rfl (fun r2 u2 H locs hw h => ?_)
  refine lv_icmp_eq (tgt := 1301) hx hb dL_law_629 (by decide) (fun _ => ?_) (fun c9 => absurd hw.1 c9)
  refine W.widen (k := cells + 1) (n := slots + 6) (by omega) (by omega) ?_
  exact cont _ _ _ _ _ _ hw.2 h (lv_sub hl [0, 1, 2, 3, 4] rfl)
set_option maxRecDepth 100000 in
set_option maxHeartbeats 4000000 in
theorem law_c11 {p : Program} {l : Launch} {e : Env} {s : State} {m : MethodId} {below : List Frame} {meth : Method} {c : Code} {H : Heap} {locs : List Loc} {cells slots : Nat} {Q : State → Prop} {ls : Array Slot} {D : va_G} {cy : Nat → ClassId} {b L : Nat} {xs : Nat → Int32} {BX BM oa i : Nat} {σ τ : St} {g : Nat → Int64} {Rel : St → St → Prop} (K : kL p l s m c D cy b L xs BX BM oa) (hi : i + 6 ≤ L) (hL : L ≤ 3072) (hc : cells + 1 ≤ 601024) (hs : slots + 6 ≤ 7293034) (hsim : ∀ a1 a2 : Int32, wX10_fits 0 a1 a2 σ (fun r u => wX11_fits 0 a1 a2 τ (fun r2 v => r = r2 ∧ Rel u v))) (h : LHs D cy BX BM oa σ τ g s H locs) (hl : lv_has ls 7 [(0, .ref b), (1, .ref (BX + 0)), (2, .ref (BM + 0)), (3, .ref oa), (4, .int (nI i))]) (cont : ∀ (σ' τ' : St) (g' : Nat → Int64) (H' : Heap) (locs' : List Loc) (ls' : Array Slot), Rel σ' τ' → LHs D cy BX BM oa σ' τ' g' s H' locs' → lv_has ls' 7 [(0, .ref b), (1, .ref (BX + 0)), (2, .ref (BM + 0)), (3, .ref oa), (4, .int (nI i))] → W p l e room_1 s m #[Value.ref b] below meth c H' locs' (cells + 1) (slots + 6) Q (F0 m 1301 ls' [])) : W p l e room_1 s m #[Value.ref b] below meth c H locs cells slots Q (F0 m 634 ls []) := by
  obtain ⟨K0, hK, hN, hZ, hE, hX, hbl, hfl, l1, l2, l3⟩ := id K
  obtain ⟨hx, hb, hml, hown, hts⟩ := id K0
  have hbA : ¬ Aw s b := Nat.not_le.mpr hbl
  have hI : ∀ k : Int32, (1 ≤ k.toInt ∧ k.toInt ≤ 5) → vp_in (nI i + k) L := lw_in hi hL
  have hw := hsim (xs (nI i + (1 : Int32)).toNatClampNeg) (xs (nI i + (2 : Int32)).toNatClampNeg)
  refine lv_aload_n hx hb dL_law_634 rfl (lv_at hl 1 rfl) ?_
  refine lv_aload_n hx hb dL_law_635 rfl (lv_at hl 0 rfl) ?_
  refine lv_iload hx hb dL_law_636 (lv_at hl 4 rfl) ?_
  refine lv_iconst (v := (1 : Int32)) hx hb dL_law_638 (by decide) ?_
  refine lv_iadd hx hb dL_law_639 ?_
  refine va_sld hx hb hX hbl hbA h.2.2.2 (hI 1 (by decide)) dL_law_640 ?_
  refine lv_aload_n hx hb dL_law_641 rfl (lv_at hl 0 rfl) ?_
  refine lv_iload hx hb dL_law_642 (lv_at hl 4 rfl) ?_
  refine lv_iconst (v := (2 : Int32)) hx hb dL_law_644 (by decide) ?_
  refine lv_iadd hx hb dL_law_645 ?_
  refine va_sld hx hb hX hbl hbA h.2.2.2 (hI 2 (by decide)) dL_law_646 ?_
  refine lk_Xi (As := [.int (xs (nI i + (1 : Int32)).toNatClampNeg), .int (xs (nI i + (2 : Int32)).toNatClampNeg)]) (rest := []) K h (mX10_fits l D cy BX 0 (xs (nI i + (1 : Int32)).toNatClampNeg) (xs (nI i + (2 : Int32)).toNatClampNeg) σ (by decide +kernel) hw) (gL_W (tb_3 _ (List.mem_of_getElem? (i := 223) rfl)) (tb_3 _ (List.mem_of_getElem? (i := 224) rfl)) (tb_3 _ (List.mem_of_getElem? (i := 225) rfl)) (tb_1 _ (List.mem_of_getElem? (i := 1) rfl)) (tb_3 _ (List.mem_of_getElem? (i := 226) rfl)) (by decide +kernel)) hd_X10_fits ⟨Nat.le_of_ble_eq_true rfl, Nat.le_of_ble_eq_true rfl⟩ rfl hl.1 (Nat.le_of_ble_eq_true rfl) (by omega) (by omega) dL_law_647 rfl (fun r1 u1 H locs hw h => ?_)
  refine lv_aload_n hx hb dL_law_650 rfl (lv_at hl 2 rfl) ?_
  refine lv_aload_n hx hb dL_law_651 rfl (lv_at hl 0 rfl) ?_
  refine lv_iload hx hb dL_law_652 (lv_at hl 4 rfl) ?_
  refine lv_iconst (v := (1 : Int32)) hx hb dL_law_654 (by decide) ?_
  refine lv_iadd hx hb dL_law_655 ?_
  refine va_sld hx hb hX hbl hbA h.2.2.2 (hI 1 (by decide)) dL_law_656 ?_
  refine lv_aload_n hx hb dL_law_657 rfl (lv_at hl 0 rfl) ?_
  refine lv_iload hx hb dL_law_658 (lv_at hl 4 rfl) ?_
  refine lv_iconst (v := (2 : Int32)) hx hb dL_law_660 (by decide) ?_
  refine lv_iadd hx hb dL_law_661 ?_
  refine va_sld hx hb hX hbl hbA h.2.2.2 (hI 2 (by decide)) dL_law_662 ?_
  refine lk_Mi (As := [.int (xs (nI i + (1 : Int32)).toNatClampNeg), .int (xs (nI i + (2 : Int32)).toNatClampNeg)]) (rest := [.int r1]) K h (mX11_fits l D cy BM 0 (xs (nI i + (1 : Int32)).toNatClampNeg) (xs (nI i + (2 : Int32)).toNatClampNeg) τ (by decide +kernel) hw) (gL_W (tb_6 _ (List.mem_of_getElem? (i := 185) rfl)) (tb_6 _ (List.mem_of_getElem? (i := 186) rfl)) (tb_6 _ (List.mem_of_getElem? (i := 187) rfl)) (tb_1 _ (List.mem_of_getElem? (i := 16) rfl)) (tb_6 _ (List.mem_of_getElem? (i := 188) rfl)) (by decide +kernel)) hd_X11_fits ⟨Nat.le_of_ble_eq_true rfl, Nat.le_of_ble_eq_true rfl⟩ rfl hl.1 (Nat.le_of_ble_eq_true rfl) (by omega) (by omega) dL_law_663 rfl (fun r2 u2 H locs hw h => ?_)
  refine lv_icmp_eq (tgt := 1301) hx hb dL_law_666 (by decide) (fun _ => ?_) (fun c9 => absurd hw.1 c9)
  refine W.widen (k := cells + 1) (n := slots + 6) (by omega) (by omega) ?_
  exact cont _ _ _ _ _ _ hw.2 h (lv_sub hl [0, 1, 2, 3, 4] rfl)
set_option maxRecDepth 100000 in
set_option maxHeartbeats 4000000 in
theorem law_c12 {p : Program} {l : Launch} {e : Env} {s : State} {m : MethodId} {below : List Frame} {meth : Method} {c : Code} {H : Heap} {locs : List Loc} {cells slots : Nat} {Q : State → Prop} {ls : Array Slot} {D : va_G} {cy : Nat → ClassId} {b L : Nat} {xs : Nat → Int32} {BX BM oa i : Nat} {σ τ : St} {g : Nat → Int64} {Rel : St → St → Prop} (K : kL p l s m c D cy b L xs BX BM oa) (hi : i + 6 ≤ L) (hL : L ≤ 3072) (hc : cells + 1 ≤ 601024) (hs : slots + 6 ≤ 7293034) (hsim : ∀ a1 : Int32, wX10_first 0 a1 σ (fun r u => wX11_first 0 a1 τ (fun r2 v => r = r2 ∧ Rel u v))) (h : LHs D cy BX BM oa σ τ g s H locs) (hl : lv_has ls 7 [(0, .ref b), (1, .ref (BX + 0)), (2, .ref (BM + 0)), (3, .ref oa), (4, .int (nI i))]) (cont : ∀ (σ' τ' : St) (g' : Nat → Int64) (H' : Heap) (locs' : List Loc) (ls' : Array Slot), Rel σ' τ' → LHs D cy BX BM oa σ' τ' g' s H' locs' → lv_has ls' 7 [(0, .ref b), (1, .ref (BX + 0)), (2, .ref (BM + 0)), (3, .ref oa), (4, .int (nI i))] → W p l e room_1 s m #[Value.ref b] below meth c H' locs' (cells + 1) (slots + 6) Q (F0 m 1301 ls' [])) : W p l e room_1 s m #[Value.ref b] below meth c H locs cells slots Q (F0 m 671 ls []) := by
  obtain ⟨K0, hK, hN, hZ, hE, hX, hbl, hfl, l1, l2, l3⟩ := id K
  obtain ⟨hx, hb, hml, hown, hts⟩ := id K0
  have hbA : ¬ Aw s b := Nat.not_le.mpr hbl
  have hI : ∀ k : Int32, (1 ≤ k.toInt ∧ k.toInt ≤ 5) → vp_in (nI i + k) L := lw_in hi hL
  have hw := hsim (xs (nI i + (1 : Int32)).toNatClampNeg)
  refine lv_aload_n hx hb dL_law_671 rfl (lv_at hl 1 rfl) ?_
  refine lv_aload_n hx hb dL_law_672 rfl (lv_at hl 0 rfl) ?_
  refine lv_iload hx hb dL_law_673 (lv_at hl 4 rfl) ?_
  refine lv_iconst (v := (1 : Int32)) hx hb dL_law_675 (by decide) ?_
  refine lv_iadd hx hb dL_law_676 ?_
  refine va_sld hx hb hX hbl hbA h.2.2.2 (hI 1 (by decide)) dL_law_677 ?_
  refine lk_Xi (As := [.int (xs (nI i + (1 : Int32)).toNatClampNeg)]) (rest := []) K h (mX10_first l D cy BX 0 (xs (nI i + (1 : Int32)).toNatClampNeg) σ (by decide +kernel) hw) (gL_W (tb_3 _ (List.mem_of_getElem? (i := 231) rfl)) (tb_3 _ (List.mem_of_getElem? (i := 232) rfl)) (tb_3 _ (List.mem_of_getElem? (i := 233) rfl)) (tb_1 _ (List.mem_of_getElem? (i := 1) rfl)) (tb_3 _ (List.mem_of_getElem? (i := 234) rfl)) (by decide +kernel)) hd_X10_first ⟨Nat.le_of_ble_eq_true rfl, Nat.le_of_ble_eq_true rfl⟩ rfl hl.1 (Nat.le_of_ble_eq_true rfl) (by omega) (by omega) dL_law_678 rfl (fun r1 u1 H locs hw h => ?_)
  refine lv_aload_n hx hb dL_law_681 rfl (lv_at hl 2 rfl) ?_
  refine lv_aload_n hx hb dL_law_682 rfl (lv_at hl 0 rfl) ?_
  refine lv_iload hx hb dL_law_683 (lv_at hl 4 rfl) ?_
  refine lv_iconst (v := (1 : Int32)) hx hb dL_law_685 (by decide) ?_
  refine lv_iadd hx hb dL_law_686 ?_
  refine va_sld hx hb hX hbl hbA h.2.2.2 (hI 1 (by decide)) dL_law_687 ?_
  refine lk_Mi (As := [.int (xs (nI i + (1 : Int32)).toNatClampNeg)]) (rest := [.int r1]) K h (mX11_first l D cy BM 0 (xs (nI i + (1 : Int32)).toNatClampNeg) τ (by decide +kernel) hw) (gL_W (tb_6 _ (List.mem_of_getElem? (i := 189) rfl)) (tb_6 _ (List.mem_of_getElem? (i := 190) rfl)) (tb_6 _ (List.mem_of_getElem? (i := 191) rfl)) (tb_1 _ (List.mem_of_getElem? (i := 16) rfl)) (tb_6 _ (List.mem_of_getElem? (i := 192) rfl)) (by decide +kernel)) hd_X11_first ⟨Nat.le_of_ble_eq_true rfl, Nat.le_of_ble_eq_true rfl⟩ rfl hl.1 (Nat.le_of_ble_eq_true rfl) (by omega) (by omega) dL_law_688 rfl (fun r2 u2 H locs hw h => ?_)
  refine lv_icmp_eq (tgt := 1301) hx hb dL_law_691 (by decide) (fun _ => ?_) (fun c9 => absurd hw.1 c9)
  refine W.widen (k := cells + 1) (n := slots + 6) (by omega) (by omega) ?_
  exact cont _ _ _ _ _ _ hw.2 h (lv_sub hl [0, 1, 2, 3, 4] rfl)
set_option maxRecDepth 100000 in
set_option maxHeartbeats 4000000 in
theorem law_c13 {p : Program} {l : Launch} {e : Env} {s : State} {m : MethodId} {below : List Frame} {meth : Method} {c : Code} {H : Heap} {locs : List Loc} {cells slots : Nat} {Q : State → Prop} {ls : Array Slot} {D : va_G} {cy : Nat → ClassId} {b L : Nat} {xs : Nat → Int32} {BX BM oa i : Nat} {σ τ : St} {g : Nat → Int64} {Rel : St → St → Prop} (K : kL p l s m c D cy b L xs BX BM oa) (hi : i + 6 ≤ L) (hL : L ≤ 3072) (hc : cells + 1 ≤ 601024) (hs : slots + 6 ≤ 7293034) (hsim : ∀ a1 : Int32, wX10_seek 0 a1 σ (fun r u => wX11_seek 0 a1 τ (fun r2 v => r = r2 ∧ Rel u v))) (h : LHs D cy BX BM oa σ τ g s H locs) (hl : lv_has ls 7 [(0, .ref b), (1, .ref (BX + 0)), (2, .ref (BM + 0)), (3, .ref oa), (4, .int (nI i))]) (cont : ∀ (σ' τ' : St) (g' : Nat → Int64) (H' : Heap) (locs' : List Loc) (ls' : Array Slot), Rel σ' τ' → LHs D cy BX BM oa σ' τ' g' s H' locs' → lv_has ls' 7 [(0, .ref b), (1, .ref (BX + 0)), (2, .ref (BM + 0)), (3, .ref oa), (4, .int (nI i))] → W p l e room_1 s m #[Value.ref b] below meth c H' locs' (cells + 1) (slots + 6) Q (F0 m 1301 ls' [])) : W p l e room_1 s m #[Value.ref b] below meth c H locs cells slots Q (F0 m 696 ls []) := by
  obtain ⟨K0, hK, hN, hZ, hE, hX, hbl, hfl, l1, l2, l3⟩ := id K
  obtain ⟨hx, hb, hml, hown, hts⟩ := id K0
  have hbA : ¬ Aw s b := Nat.not_le.mpr hbl
  have hI : ∀ k : Int32, (1 ≤ k.toInt ∧ k.toInt ≤ 5) → vp_in (nI i + k) L := lw_in hi hL
  have hw := hsim (xs (nI i + (1 : Int32)).toNatClampNeg)
  refine lv_aload_n hx hb dL_law_696 rfl (lv_at hl 1 rfl) ?_
  refine lv_aload_n hx hb dL_law_697 rfl (lv_at hl 0 rfl) ?_
  refine lv_iload hx hb dL_law_698 (lv_at hl 4 rfl) ?_
  refine lv_iconst (v := (1 : Int32)) hx hb dL_law_700 (by decide) ?_
  refine lv_iadd hx hb dL_law_701 ?_
  refine va_sld hx hb hX hbl hbA h.2.2.2 (hI 1 (by decide)) dL_law_702 ?_
  refine lk_Xi (As := [.int (xs (nI i + (1 : Int32)).toNatClampNeg)]) (rest := []) K h (mX10_seek l D cy BX 0 (xs (nI i + (1 : Int32)).toNatClampNeg) σ (by decide +kernel) hw) (gL_W (tb_3 _ (List.mem_of_getElem? (i := 235) rfl)) (tb_3 _ (List.mem_of_getElem? (i := 236) rfl)) (tb_3 _ (List.mem_of_getElem? (i := 237) rfl)) (tb_1 _ (List.mem_of_getElem? (i := 1) rfl)) (tb_3 _ (List.mem_of_getElem? (i := 238) rfl)) (by decide +kernel)) hd_X10_seek ⟨Nat.le_of_ble_eq_true rfl, Nat.le_of_ble_eq_true rfl⟩ rfl hl.1 (Nat.le_of_ble_eq_true rfl) (by omega) (by omega) dL_law_703 rfl (fun r1 u1 H locs hw h => ?_)
  refine lv_aload_n hx hb dL_law_706 rfl (lv_at hl 2 rfl) ?_
  refine lv_aload_n hx hb dL_law_707 rfl (lv_at hl 0 rfl) ?_
  refine lv_iload hx hb dL_law_708 (lv_at hl 4 rfl) ?_
  refine lv_iconst (v := (1 : Int32)) hx hb dL_law_710 (by decide) ?_
  refine lv_iadd hx hb dL_law_711 ?_
  refine va_sld hx hb hX hbl hbA h.2.2.2 (hI 1 (by decide)) dL_law_712 ?_
  refine lk_Mi (As := [.int (xs (nI i + (1 : Int32)).toNatClampNeg)]) (rest := [.int r1]) K h (mX11_seek l D cy BM 0 (xs (nI i + (1 : Int32)).toNatClampNeg) τ (by decide +kernel) hw) (gL_W (tb_6 _ (List.mem_of_getElem? (i := 193) rfl)) (tb_6 _ (List.mem_of_getElem? (i := 194) rfl)) (tb_6 _ (List.mem_of_getElem? (i := 195) rfl)) (tb_1 _ (List.mem_of_getElem? (i := 16) rfl)) (tb_6 _ (List.mem_of_getElem? (i := 196) rfl)) (by decide +kernel)) hd_X11_seek ⟨Nat.le_of_ble_eq_true rfl, Nat.le_of_ble_eq_true rfl⟩ rfl hl.1 (Nat.le_of_ble_eq_true rfl) (by omega) (by omega) dL_law_713 rfl (fun r2 u2 H locs hw h => ?_)
  refine lv_icmp_eq (tgt := 1301) hx hb dL_law_716 (by decide) (fun _ => ?_) (fun c9 => absurd hw.1 c9)
  refine W.widen (k := cells + 1) (n := slots + 6) (by omega) (by omega) ?_
  exact cont _ _ _ _ _ _ hw.2 h (lv_sub hl [0, 1, 2, 3, 4] rfl)
set_option maxRecDepth 100000 in
set_option maxHeartbeats 4000000 in
theorem law_c14 {p : Program} {l : Launch} {e : Env} {s : State} {m : MethodId} {below : List Frame} {meth : Method} {c : Code} {H : Heap} {locs : List Loc} {cells slots : Nat} {Q : State → Prop} {ls : Array Slot} {D : va_G} {cy : Nat → ClassId} {b L : Nat} {xs : Nat → Int32} {BX BM oa i : Nat} {σ τ : St} {g : Nat → Int64} {Rel : St → St → Prop} (K : kL p l s m c D cy b L xs BX BM oa) (hi : i + 6 ≤ L) (hL : L ≤ 3072) (hc : cells + 1 ≤ 601024) (hs : slots + 6 ≤ 7293034) (hsim : ∀ a1 a2 : Int32, wX10_node 0 a1 a2 σ (fun r u => wX11_node 0 a1 a2 τ (fun r2 v => r = r2 ∧ Rel u v))) (h : LHs D cy BX BM oa σ τ g s H locs) (hl : lv_has ls 7 [(0, .ref b), (1, .ref (BX + 0)), (2, .ref (BM + 0)), (3, .ref oa), (4, .int (nI i))]) (cont : ∀ (σ' τ' : St) (g' : Nat → Int64) (H' : Heap) (locs' : List Loc) (ls' : Array Slot), Rel σ' τ' → LHs D cy BX BM oa σ' τ' g' s H' locs' → lv_has ls' 7 [(0, .ref b), (1, .ref (BX + 0)), (2, .ref (BM + 0)), (3, .ref oa), (4, .int (nI i))] → W p l e room_1 s m #[Value.ref b] below meth c H' locs' (cells + 1) (slots + 6) Q (F0 m 1301 ls' [])) : W p l e room_1 s m #[Value.ref b] below meth c H locs cells slots Q (F0 m 721 ls []) := by
  obtain ⟨K0, hK, hN, hZ, hE, hX, hbl, hfl, l1, l2, l3⟩ := id K
  obtain ⟨hx, hb, hml, hown, hts⟩ := id K0
  have hbA : ¬ Aw s b := Nat.not_le.mpr hbl
  have hI : ∀ k : Int32, (1 ≤ k.toInt ∧ k.toInt ≤ 5) → vp_in (nI i + k) L := lw_in hi hL
  have hw := hsim (xs (nI i + (1 : Int32)).toNatClampNeg) (xs (nI i + (2 : Int32)).toNatClampNeg)
  refine lv_aload_n hx hb dL_law_721 rfl (lv_at hl 1 rfl) ?_
  refine lv_aload_n hx hb dL_law_722 rfl (lv_at hl 0 rfl) ?_
  refine lv_iload hx hb dL_law_723 (lv_at hl 4 rfl) ?_
  refine lv_iconst (v := (1 : Int32)) hx hb dL_law_725 (by decide) ?_
  refine lv_iadd hx hb dL_law_726 ?_
  refine va_sld hx hb hX hbl hbA h.2.2.2 (hI 1 (by decide)) dL_law_727 ?_
  refine lv_aload_n hx hb dL_law_728 rfl (lv_at hl 0 rfl) ?_
  refine lv_iload hx hb dL_law_729 (lv_at hl 4 rfl) ?_
  refine lv_iconst (v := (2 : Int32)) hx hb dL_law_731 (by decide) ?_
  refine lv_iadd hx hb dL_law_732 ?_
  refine va_sld hx hb hX hbl hbA h.2.2.2 (hI 2 (by decide)) dL_law_733 ?_
  refine lk_Xi (As := [.int (xs (nI i + (1 : Int32)).toNatClampNeg), .int (xs (nI i + (2 : Int32)).toNatClampNeg)]) (rest := []) K h (mX10_node l D cy BX 0 (xs (nI i + (1 : Int32)).toNatClampNeg) (xs (nI i + (2 : Int32)).toNatClampNeg) σ (by decide +kernel) hw) (gL_W (tb_4 _ (List.mem_of_getElem? (i := 3) rfl)) (tb_4 _ (List.mem_of_getElem? (i := 4) rfl)) (tb_4 _ (List.mem_of_getElem? (i := 5) rfl)) (tb_1 _ (List.mem_of_getElem? (i := 1) rfl)) (tb_4 _ (List.mem_of_getElem? (i := 6) rfl)) (by decide +kernel)) hd_X10_node ⟨Nat.le_of_ble_eq_true rfl, Nat.le_of_ble_eq_true rfl⟩ rfl hl.1 (Nat.le_of_ble_eq_true rfl) (by omega) (by omega) dL_law_734 rfl (fun r1 u1 H locs hw h => ?_)
  refine lv_aload_n hx hb dL_law_737 rfl (lv_at hl 2 rfl) ?_
  refine lv_aload_n hx hb dL_law_738 rfl (lv_at hl 0 rfl) ?_
  refine lv_iload hx hb dL_law_739 (lv_at hl 4 rfl) ?_
  refine lv_iconst (v := (1 : Int32)) hx hb dL_law_741 (by decide) ?_
  refine lv_iadd hx hb dL_law_742 ?_
  refine va_sld hx hb hX hbl hbA h.2.2.2 (hI 1 (by decide)) dL_law_743 ?_
  refine lv_aload_n hx hb dL_law_744 rfl (lv_at hl 0 rfl) ?_
  refine lv_iload hx hb dL_law_745 (lv_at hl 4 rfl) ?_
  refine lv_iconst (v := (2 : Int32)) hx hb dL_law_747 (by decide) ?_
  refine lv_iadd hx hb dL_law_748 ?_
  refine va_sld hx hb hX hbl hbA h.2.2.2 (hI 2 (by decide)) dL_law_749 ?_
  refine lk_Mi (As := [.int (xs (nI i + (1 : Int32)).toNatClampNeg), .int (xs (nI i + (2 : Int32)).toNatClampNeg)]) (rest := [.int r1]) K h (mX11_node l D cy BM 0 (xs (nI i + (1 : Int32)).toNatClampNeg) (xs (nI i + (2 : Int32)).toNatClampNeg) τ (by decide +kernel) hw) (gL_W (tb_6 _ (List.mem_of_getElem? (i := 197) rfl)) (tb_6 _ (List.mem_of_getElem? (i := 198) rfl)) (tb_6 _ (List.mem_of_getElem? (i := 199) rfl)) (tb_1 _ (List.mem_of_getElem? (i := 16) rfl)) (tb_6 _ (List.mem_of_getElem? (i := 200) rfl)) (by decide +kernel)) hd_X11_node ⟨Nat.le_of_ble_eq_true rfl, Nat.le_of_ble_eq_true rfl⟩ rfl hl.1 (Nat.le_of_ble_eq_true rfl) (by omega) (by omega) dL_law_750 rfl (fun r2 u2 H locs hw h => ?_)
  refine lv_icmp_eq (tgt := 1301) hx hb dL_law_753 (by decide) (fun _ => ?_) (fun c9 => absurd hw.1 c9)
  refine W.widen (k := cells + 1) (n := slots + 6) (by omega) (by omega) ?_
  exact cont _ _ _ _ _ _ hw.2 h (lv_sub hl [0, 1, 2, 3, 4] rfl)
set_option maxRecDepth 100000 in
set_option maxHeartbeats 4000000 in
theorem law_c15 {p : Program} {l : Launch} {e : Env} {s : State} {m : MethodId} {below : List Frame} {meth : Method} {c : Code} {H : Heap} {locs : List Loc} {cells slots : Nat} {Q : State → Prop} {ls : Array Slot} {D : va_G} {cy : Nat → ClassId} {b L : Nat} {xs : Nat → Int32} {BX BM oa i : Nat} {σ τ : St} {g : Nat → Int64} {Rel : St → St → Prop} (K : kL p l s m c D cy b L xs BX BM oa) (hi : i + 6 ≤ L) (hL : L ≤ 3072) (hc : cells + 1 ≤ 601024) (hs : slots + 6 ≤ 7293034) (hsim : ∀ a1 a2 : Int32, wX10_wire 0 a1 a2 σ (fun r u => wX11_wire 0 a1 a2 τ (fun r2 v => wX11_thrown 0 v (fun k v => k = 0 ∧ r = r2 ∧ Rel u v))) (fun u => wX11_wire 0 a1 a2 τ (fun _ v => wX11_thrown 0 v (fun k v => k = 1 ∧ Rel u v)))) (h : LHs D cy BX BM oa σ τ g s H locs) (hl : lv_has ls 7 [(0, .ref b), (1, .ref (BX + 0)), (2, .ref (BM + 0)), (3, .ref oa), (4, .int (nI i))]) (cont : ∀ (σ' τ' : St) (g' : Nat → Int64) (H' : Heap) (locs' : List Loc) (ls' : Array Slot), Rel σ' τ' → LHs D cy BX BM oa σ' τ' g' s H' locs' → lv_has ls' 7 [(0, .ref b), (1, .ref (BX + 0)), (2, .ref (BM + 0)), (3, .ref oa), (4, .int (nI i))] → W p l e room_1 s m #[Value.ref b] below meth c H' locs' (cells + 1) (slots + 6) Q (F0 m 1301 ls' [])) : W p l e room_1 s m #[Value.ref b] below meth c H locs cells slots Q (F0 m 758 ls []) := by
  obtain ⟨K0, hK, hN, hZ, hE, hX, hbl, hfl, l1, l2, l3⟩ := id K
  obtain ⟨hx, hb, hml, hown, hts⟩ := id K0
  have hbA : ¬ Aw s b := Nat.not_le.mpr hbl
  have hI : ∀ k : Int32, (1 ≤ k.toInt ∧ k.toInt ≤ 5) → vp_in (nI i + k) L := lw_in hi hL
  have hw := hsim (xs (nI i + (1 : Int32)).toNatClampNeg) (xs (nI i + (2 : Int32)).toNatClampNeg)
  refine lv_aload_n hx hb dL_law_758 rfl (lv_at hl 1 rfl) ?_
  refine lv_aload_n hx hb dL_law_759 rfl (lv_at hl 0 rfl) ?_
  refine lv_iload hx hb dL_law_760 (lv_at hl 4 rfl) ?_
  refine lv_iconst (v := (1 : Int32)) hx hb dL_law_762 (by decide) ?_
  refine lv_iadd hx hb dL_law_763 ?_
  refine va_sld hx hb hX hbl hbA h.2.2.2 (hI 1 (by decide)) dL_law_764 ?_
  refine lv_aload_n hx hb dL_law_765 rfl (lv_at hl 0 rfl) ?_
  refine lv_iload hx hb dL_law_766 (lv_at hl 4 rfl) ?_
  refine lv_iconst (v := (2 : Int32)) hx hb dL_law_768 (by decide) ?_
  refine lv_iadd hx hb dL_law_769 ?_
  refine va_sld hx hb hX hbl hbA h.2.2.2 (hI 2 (by decide)) dL_law_770 ?_
  refine lv_aload_n hx hb dL_law_771 rfl (lv_at hl 3 rfl) ?_
  obtain ⟨h1, h2, h3, hS⟩ := id h
  have hoa : ¬ AW BX 346 oa := fun z => by have := z.2; omega
  have hAA : ∀ q, ALw BX oa q → Aw s q := fun q hq => by
      show s.heap.size ≤ q
      rcases hq with hq | rfl
      · have := hq.1; omega
      · omega
  have pre : PreS s H (PcL D cy BX oa σ g [.ref (BX + 0), .int (xs (nI i + (1 : Int32)).toNatClampNeg), .int (xs (nI i + (2 : Int32)).toNatClampNeg), .ref oa]) [.ref (BX + 0), .int (xs (nI i + (1 : Int32)).toNatClampNeg), .int (xs (nI i + (2 : Int32)).toNatClampNeg), .ref oa] := ⟨PcL.blind, fun U hU hW => ⟨rfl, ⟨by rw [hU]; exact h1, by rw [hU]; exact h3⟩, va_K.moved hW.alike hK, hN.warm hW, (hZ.keep hW (fun a q1 q2 => by rw [hU]; exact hS.2.1 a q1 q2)).narrow hAA, (hE.keep hW (fun a q1 q2 => by rw [hU]; exact hS.2.1 a q1 q2)).narrow hAA⟩⟩
  refine va_calli (vx_runSW (As := [.ref (BX + 0), .int (xs (nI i + (1 : Int32)).toNatClampNeg), .int (xs (nI i + (2 : Int32)).toNatClampNeg), .ref oa]) (rest := []) (R := room_1) K0 (mL_wire l hfl D cy BX oa hoa (xs (nI i + (1 : Int32)).toNatClampNeg) (xs (nI i + (2 : Int32)).toNatClampNeg) σ g hw) (vx_cwSW 4 K0.2.2.2.2 gLs_wire rfl rfl rfl (by decide +kernel) ⟨Nat.le_of_ble_eq_true rfl, Nat.le_of_ble_eq_true rfl⟩) pre rfl rfl hl.1 rfl (lv_room (Nat.le_of_ble_eq_true rfl)) dL_law_772 ⟨hc, hs⟩) hS (fun q _ hq => hAA q hq) hAA (fun k u t H1 locs1 ht hvm hw hB hz hk hS1 => ?_)
  obtain ⟨u1, gv⟩ := u
  have h : LHs D cy BX BM oa u1 τ gv s H1 locs1 := ⟨by rw [← ht]; exact hB.1, wW_kept h2 (fun q q1 q2 => hk q q2 (fun z => by have q3 := q1.2; rw [kM_len] at q3; rcases z with z | rfl; have := z.2; have := q1.1; omega; omega)), by rw [← ht]; exact hB.2, hS1⟩
  rcases hw with ⟨rfl, rr, hgv, hw⟩ | ⟨rfl, hw⟩
  · refine lv_istore (lv' := [(5, .int (0 : Int32)), (0, .ref b), (1, .ref (BX + 0)), (2, .ref (BM + 0)), (3, .ref oa), (4, .int (nI i))]) hx hb dL_law_775 hl (by decide) rfl (fun ls hl => ?_)
    refine lv_aload_n hx hb dL_law_777 rfl (lv_at hl 3 rfl) ?_
    refine lv_aload_n hx hb dL_law_778 rfl (lv_at hl 1 rfl) ?_
    refine lv_iload hx hb dL_law_779 (lv_at hl 5 rfl) ?_
    refine lv_iconst (v := (1 : Int32)) hx hb dL_law_781 (by decide) ?_
    refine lv_iadd hx hb dL_law_782 ?_
    refine va_sld hx hb hX hbl hbA h.2.2.2 (hI 1 (by decide)) dL_law_783 ?_
    refine lv_aload_n hx hb dL_law_784 rfl (lv_at hl 1 rfl) ?_
    refine lv_iload hx hb dL_law_785 (lv_at hl 5 rfl) ?_
    refine lv_iconst (v := (2 : Int32)) hx hb dL_law_787 (by decide) ?_
    refine lv_iadd hx hb dL_law_788 ?_
    refine va_sld hx hb hX hbl hbA h.2.2.2 (hI 2 (by decide)) dL_law_789 ?_
    refine lk_Mi (As := [.int (xs (nI i + (1 : Int32)).toNatClampNeg), .int (xs (nI i + (2 : Int32)).toNatClampNeg)]) (rest := []) (cells := cells + 1) (slots := slots + 6) K h (mX11_wire l D cy BM 0 (xs (nI i + (1 : Int32)).toNatClampNeg) (xs (nI i + (2 : Int32)).toNatClampNeg) τ (by decide +kernel) hw) (gL_W (tb_6 _ (List.mem_of_getElem? (i := 209) rfl)) (tb_6 _ (List.mem_of_getElem? (i := 210) rfl)) (tb_6 _ (List.mem_of_getElem? (i := 211) rfl)) (tb_1 _ (List.mem_of_getElem? (i := 16) rfl)) (tb_6 _ (List.mem_of_getElem? (i := 212) rfl)) (by decide +kernel)) hd_X11_wire ⟨Nat.le_of_ble_eq_true rfl, Nat.le_of_ble_eq_true rfl⟩ rfl hl.1 (Nat.le_of_ble_eq_true rfl) (by omega) (by omega) dL_law_790 rfl (fun r11 u11 H locs hw h => ?_)
    refine lv_istore (lv' := [(6, .int r11), (5, .int (0 : Int32)), (0, .ref b), (1, .ref (BX + 0)), (2, .ref (BM + 0)), (3, .ref oa), (4, .int (nI i))]) hx hb dL_law_793 hl (by decide) rfl (fun ls hl => ?_)
    refine lv_aload_n hx hb dL_law_795 rfl (lv_at hl 4 rfl) ?_
    refine lk_Mi (As := []) (rest := []) (cells := cells + 1) (slots := slots + 6) K h (mX11_thrown l D cy BM 0  u11 (by decide +kernel) hw) (gL_W (tb_5 _ (List.mem_of_getElem? (i := 204) rfl)) (tb_5 _ (List.mem_of_getElem? (i := 205) rfl)) (tb_5 _ (List.mem_of_getElem? (i := 206) rfl)) (tb_1 _ (List.mem_of_getElem? (i := 16) rfl)) (tb_5 _ (List.mem_of_getElem? (i := 207) rfl)) (by decide +kernel)) hd_X11_thrown ⟨Nat.le_of_ble_eq_true rfl, Nat.le_of_ble_eq_true rfl⟩ rfl hl.1 (Nat.le_of_ble_eq_true rfl) (by omega) (by omega) dL_law_796 rfl (fun r12 u12 H locs hw h => ?_)
    refine lv_iload hx hb dL_law_799 (lv_at hl 1 rfl) ?_
    refine lv_icmp_eq (tgt := 806) hx hb dL_law_801 (by decide) (fun _ => ?_) (fun c9 => absurd hw.1 c9)
    refine lv_iload hx hb dL_law_806 (lv_at hl 1 rfl) ?_
    refine lv_if_ne (tgt := 823) hx hb dL_law_808 (by decide) (fun c9 => absurd rfl c9) (fun _ => ?_)
    refine lv_aload_n hx hb dL_law_811 rfl (lv_at hl 5 rfl) ?_
    refine lv_iconst (v := (0 : Int32)) hx hb dL_law_812 (by decide) ?_
    refine va_lald hx hb hK h.2.2.1 0 2 (n := 1) (f := gv) (cA := cy 2) rfl rfl (by unfold vp_in; decide) dL_law_813 ?_
    refine lv_iload hx hb dL_law_814 (lv_at hl 0 rfl) ?_
    refine lv_i2l hx hb dL_law_816 rfl ?_
    refine W.lcmp hx hb dL_law_817 ?_
    refine lv_if_eq (tgt := 823) hx hb dL_law_818 (by decide) (fun _ => ?_) (fun c9 => absurd (lcmp_0.mpr (hgv.trans (by rw [hw.2.1]))) c9)
    refine lv_goto (tgt := 1301) hx hb dL_law_823 (by decide) ?_
    exact cont _ _ _ _ _ _ hw.2.2 h (lv_sub hl [2, 3, 4, 5, 6] rfl)
  · refine lv_istore (lv' := [(5, .int (1 : Int32)), (0, .ref b), (1, .ref (BX + 0)), (2, .ref (BM + 0)), (3, .ref oa), (4, .int (nI i))]) hx hb dL_law_775 hl (by decide) rfl (fun ls hl => ?_)
    refine lv_aload_n hx hb dL_law_777 rfl (lv_at hl 3 rfl) ?_
    refine lv_aload_n hx hb dL_law_778 rfl (lv_at hl 1 rfl) ?_
    refine lv_iload hx hb dL_law_779 (lv_at hl 5 rfl) ?_
    refine lv_iconst (v := (1 : Int32)) hx hb dL_law_781 (by decide) ?_
    refine lv_iadd hx hb dL_law_782 ?_
    refine va_sld hx hb hX hbl hbA h.2.2.2 (hI 1 (by decide)) dL_law_783 ?_
    refine lv_aload_n hx hb dL_law_784 rfl (lv_at hl 1 rfl) ?_
    refine lv_iload hx hb dL_law_785 (lv_at hl 5 rfl) ?_
    refine lv_iconst (v := (2 : Int32)) hx hb dL_law_787 (by decide) ?_
    refine lv_iadd hx hb dL_law_788 ?_
    refine va_sld hx hb hX hbl hbA h.2.2.2 (hI 2 (by decide)) dL_law_789 ?_
    refine lk_Mi (As := [.int (xs (nI i + (1 : Int32)).toNatClampNeg), .int (xs (nI i + (2 : Int32)).toNatClampNeg)]) (rest := []) (cells := cells + 1) (slots := slots + 6) K h (mX11_wire l D cy BM 0 (xs (nI i + (1 : Int32)).toNatClampNeg) (xs (nI i + (2 : Int32)).toNatClampNeg) τ (by decide +kernel) hw) (gL_W (tb_6 _ (List.mem_of_getElem? (i := 209) rfl)) (tb_6 _ (List.mem_of_getElem? (i := 210) rfl)) (tb_6 _ (List.mem_of_getElem? (i := 211) rfl)) (tb_1 _ (List.mem_of_getElem? (i := 16) rfl)) (tb_6 _ (List.mem_of_getElem? (i := 212) rfl)) (by decide +kernel)) hd_X11_wire ⟨Nat.le_of_ble_eq_true rfl, Nat.le_of_ble_eq_true rfl⟩ rfl hl.1 (Nat.le_of_ble_eq_true rfl) (by omega) (by omega) dL_law_790 rfl (fun r11 u11 H locs hw h => ?_)
    refine lv_istore (lv' := [(6, .int r11), (5, .int (1 : Int32)), (0, .ref b), (1, .ref (BX + 0)), (2, .ref (BM + 0)), (3, .ref oa), (4, .int (nI i))]) hx hb dL_law_793 hl (by decide) rfl (fun ls hl => ?_)
    refine lv_aload_n hx hb dL_law_795 rfl (lv_at hl 4 rfl) ?_
    refine lk_Mi (As := []) (rest := []) (cells := cells + 1) (slots := slots + 6) K h (mX11_thrown l D cy BM 0  u11 (by decide +kernel) hw) (gL_W (tb_5 _ (List.mem_of_getElem? (i := 204) rfl)) (tb_5 _ (List.mem_of_getElem? (i := 205) rfl)) (tb_5 _ (List.mem_of_getElem? (i := 206) rfl)) (tb_1 _ (List.mem_of_getElem? (i := 16) rfl)) (tb_5 _ (List.mem_of_getElem? (i := 207) rfl)) (by decide +kernel)) hd_X11_thrown ⟨Nat.le_of_ble_eq_true rfl, Nat.le_of_ble_eq_true rfl⟩ rfl hl.1 (Nat.le_of_ble_eq_true rfl) (by omega) (by omega) dL_law_796 rfl (fun r12 u12 H locs hw h => ?_)
    refine lv_iload hx hb dL_law_799 (lv_at hl 1 rfl) ?_
    refine lv_icmp_eq (tgt := 806) hx hb dL_law_801 (by decide) (fun _ => ?_) (fun c9 => absurd hw.1 c9)
    refine lv_iload hx hb dL_law_806 (lv_at hl 1 rfl) ?_
    refine lv_if_ne (tgt := 823) hx hb dL_law_808 (by decide) (fun _ => ?_) (fun c9 => absurd c9 (by decide))
    refine lv_goto (tgt := 1301) hx hb dL_law_823 (by decide) ?_
    exact cont _ _ _ _ _ _ hw.2 h (lv_sub hl [2, 3, 4, 5, 6] rfl)
set_option maxRecDepth 100000 in
set_option maxHeartbeats 4000000 in
theorem law_c16 {p : Program} {l : Launch} {e : Env} {s : State} {m : MethodId} {below : List Frame} {meth : Method} {c : Code} {H : Heap} {locs : List Loc} {cells slots : Nat} {Q : State → Prop} {ls : Array Slot} {D : va_G} {cy : Nat → ClassId} {b L : Nat} {xs : Nat → Int32} {BX BM oa i : Nat} {σ τ : St} {g : Nat → Int64} {Rel : St → St → Prop} (K : kL p l s m c D cy b L xs BX BM oa) (hi : i + 6 ≤ L) (hL : L ≤ 3072) (hc : cells + 1 ≤ 601024) (hs : slots + 6 ≤ 7293034) (hsim : ∀ a1 : Int32, wX10_open 0 a1 σ (fun r u => wX11_open 0 a1 τ (fun r2 v => r = r2 ∧ Rel u v))) (h : LHs D cy BX BM oa σ τ g s H locs) (hl : lv_has ls 7 [(0, .ref b), (1, .ref (BX + 0)), (2, .ref (BM + 0)), (3, .ref oa), (4, .int (nI i))]) (cont : ∀ (σ' τ' : St) (g' : Nat → Int64) (H' : Heap) (locs' : List Loc) (ls' : Array Slot), Rel σ' τ' → LHs D cy BX BM oa σ' τ' g' s H' locs' → lv_has ls' 7 [(0, .ref b), (1, .ref (BX + 0)), (2, .ref (BM + 0)), (3, .ref oa), (4, .int (nI i))] → W p l e room_1 s m #[Value.ref b] below meth c H' locs' (cells + 1) (slots + 6) Q (F0 m 1301 ls' [])) : W p l e room_1 s m #[Value.ref b] below meth c H locs cells slots Q (F0 m 826 ls []) := by
  obtain ⟨K0, hK, hN, hZ, hE, hX, hbl, hfl, l1, l2, l3⟩ := id K
  obtain ⟨hx, hb, hml, hown, hts⟩ := id K0
  have hbA : ¬ Aw s b := Nat.not_le.mpr hbl
  have hI : ∀ k : Int32, (1 ≤ k.toInt ∧ k.toInt ≤ 5) → vp_in (nI i + k) L := lw_in hi hL
  have hw := hsim (xs (nI i + (1 : Int32)).toNatClampNeg)
  refine lv_aload_n hx hb dL_law_826 rfl (lv_at hl 1 rfl) ?_
  refine lv_aload_n hx hb dL_law_827 rfl (lv_at hl 0 rfl) ?_
  refine lv_iload hx hb dL_law_828 (lv_at hl 4 rfl) ?_
  refine lv_iconst (v := (1 : Int32)) hx hb dL_law_830 (by decide) ?_
  refine lv_iadd hx hb dL_law_831 ?_
  refine va_sld hx hb hX hbl hbA h.2.2.2 (hI 1 (by decide)) dL_law_832 ?_
  refine lk_Xi (As := [.int (xs (nI i + (1 : Int32)).toNatClampNeg)]) (rest := []) K h (mX10_open l D cy BX 0 (xs (nI i + (1 : Int32)).toNatClampNeg) σ (by decide +kernel) hw) (gL_W (tb_4 _ (List.mem_of_getElem? (i := 11) rfl)) (tb_4 _ (List.mem_of_getElem? (i := 12) rfl)) (tb_4 _ (List.mem_of_getElem? (i := 13) rfl)) (tb_1 _ (List.mem_of_getElem? (i := 1) rfl)) (tb_4 _ (List.mem_of_getElem? (i := 14) rfl)) (by decide +kernel)) hd_X10_open ⟨Nat.le_of_ble_eq_true rfl, Nat.le_of_ble_eq_true rfl⟩ rfl hl.1 (Nat.le_of_ble_eq_true rfl) (by omega) (by omega) dL_law_833 rfl (fun r1 u1 H locs hw h => ?_)
  refine lv_aload_n hx hb dL_law_836 rfl (lv_at hl 2 rfl) ?_
  refine lv_aload_n hx hb dL_law_837 rfl (lv_at hl 0 rfl) ?_
  refine lv_iload hx hb dL_law_838 (lv_at hl 4 rfl) ?_
  refine lv_iconst (v := (1 : Int32)) hx hb dL_law_840 (by decide) ?_
  refine lv_iadd hx hb dL_law_841 ?_
  refine va_sld hx hb hX hbl hbA h.2.2.2 (hI 1 (by decide)) dL_law_842 ?_
  refine lk_Mi (As := [.int (xs (nI i + (1 : Int32)).toNatClampNeg)]) (rest := [.int r1]) K h (mX11_open l D cy BM 0 (xs (nI i + (1 : Int32)).toNatClampNeg) τ (by decide +kernel) hw) (gL_W (tb_6 _ (List.mem_of_getElem? (i := 217) rfl)) (tb_6 _ (List.mem_of_getElem? (i := 218) rfl)) (tb_6 _ (List.mem_of_getElem? (i := 219) rfl)) (tb_1 _ (List.mem_of_getElem? (i := 16) rfl)) (tb_6 _ (List.mem_of_getElem? (i := 220) rfl)) (by decide +kernel)) hd_X11_open ⟨Nat.le_of_ble_eq_true rfl, Nat.le_of_ble_eq_true rfl⟩ rfl hl.1 (Nat.le_of_ble_eq_true rfl) (by omega) (by omega) dL_law_843 rfl (fun r2 u2 H locs hw h => ?_)
  refine lv_icmp_eq (tgt := 1301) hx hb dL_law_846 (by decide) (fun _ => ?_) (fun c9 => absurd hw.1 c9)
  refine W.widen (k := cells + 1) (n := slots + 6) (by omega) (by omega) ?_
  exact cont _ _ _ _ _ _ hw.2 h (lv_sub hl [0, 1, 2, 3, 4] rfl)
set_option maxRecDepth 100000 in
set_option maxHeartbeats 4000000 in
theorem law_c17 {p : Program} {l : Launch} {e : Env} {s : State} {m : MethodId} {below : List Frame} {meth : Method} {c : Code} {H : Heap} {locs : List Loc} {cells slots : Nat} {Q : State → Prop} {ls : Array Slot} {D : va_G} {cy : Nat → ClassId} {b L : Nat} {xs : Nat → Int32} {BX BM oa i : Nat} {σ τ : St} {g : Nat → Int64} {Rel : St → St → Prop} (K : kL p l s m c D cy b L xs BX BM oa) (hi : i + 6 ≤ L) (hL : L ≤ 3072) (hc : cells + 1 ≤ 601024) (hs : slots + 6 ≤ 7293034) (hsim : ∀ a1 : Int32, wX10_sum 0 a1 σ (fun r u => wX11_sum 0 a1 τ (fun r2 v => r = r2 ∧ Rel u v))) (h : LHs D cy BX BM oa σ τ g s H locs) (hl : lv_has ls 7 [(0, .ref b), (1, .ref (BX + 0)), (2, .ref (BM + 0)), (3, .ref oa), (4, .int (nI i))]) (cont : ∀ (σ' τ' : St) (g' : Nat → Int64) (H' : Heap) (locs' : List Loc) (ls' : Array Slot), Rel σ' τ' → LHs D cy BX BM oa σ' τ' g' s H' locs' → lv_has ls' 7 [(0, .ref b), (1, .ref (BX + 0)), (2, .ref (BM + 0)), (3, .ref oa), (4, .int (nI i))] → W p l e room_1 s m #[Value.ref b] below meth c H' locs' (cells + 1) (slots + 6) Q (F0 m 1301 ls' [])) : W p l e room_1 s m #[Value.ref b] below meth c H locs cells slots Q (F0 m 851 ls []) := by
  obtain ⟨K0, hK, hN, hZ, hE, hX, hbl, hfl, l1, l2, l3⟩ := id K
  obtain ⟨hx, hb, hml, hown, hts⟩ := id K0
  have hbA : ¬ Aw s b := Nat.not_le.mpr hbl
  have hI : ∀ k : Int32, (1 ≤ k.toInt ∧ k.toInt ≤ 5) → vp_in (nI i + k) L := lw_in hi hL
  have hw := hsim (xs (nI i + (1 : Int32)).toNatClampNeg)
  refine lv_aload_n hx hb dL_law_851 rfl (lv_at hl 1 rfl) ?_
  refine lv_aload_n hx hb dL_law_852 rfl (lv_at hl 0 rfl) ?_
  refine lv_iload hx hb dL_law_853 (lv_at hl 4 rfl) ?_
  refine lv_iconst (v := (1 : Int32)) hx hb dL_law_855 (by decide) ?_
  refine lv_iadd hx hb dL_law_856 ?_
  refine va_sld hx hb hX hbl hbA h.2.2.2 (hI 1 (by decide)) dL_law_857 ?_
  refine lk_Xi (As := [.int (xs (nI i + (1 : Int32)).toNatClampNeg)]) (rest := []) K h (mX10_sum l D cy BX 0 (xs (nI i + (1 : Int32)).toNatClampNeg) σ (by decide +kernel) hw) (gL_W (tb_4 _ (List.mem_of_getElem? (i := 33) rfl)) (tb_4 _ (List.mem_of_getElem? (i := 34) rfl)) (tb_4 _ (List.mem_of_getElem? (i := 35) rfl)) (tb_1 _ (List.mem_of_getElem? (i := 1) rfl)) (tb_4 _ (List.mem_of_getElem? (i := 36) rfl)) (by decide +kernel)) hd_X10_sum ⟨Nat.le_of_ble_eq_true rfl, Nat.le_of_ble_eq_true rfl⟩ rfl hl.1 (Nat.le_of_ble_eq_true rfl) (by omega) (by omega) dL_law_858 rfl (fun r1 u1 H locs hw h => ?_)
  refine lv_aload_n hx hb dL_law_861 rfl (lv_at hl 2 rfl) ?_
  refine lv_aload_n hx hb dL_law_862 rfl (lv_at hl 0 rfl) ?_
  refine lv_iload hx hb dL_law_863 (lv_at hl 4 rfl) ?_
  refine lv_iconst (v := (1 : Int32)) hx hb dL_law_865 (by decide) ?_
  refine lv_iadd hx hb dL_law_866 ?_
  refine va_sld hx hb hX hbl hbA h.2.2.2 (hI 1 (by decide)) dL_law_867 ?_
  refine lk_Mi (As := [.int (xs (nI i + (1 : Int32)).toNatClampNeg)]) (rest := [.int r1]) K h (mX11_sum l D cy BM 0 (xs (nI i + (1 : Int32)).toNatClampNeg) τ (by decide +kernel) hw) (gL_W (tb_6 _ (List.mem_of_getElem? (i := 229) rfl)) (tb_6 _ (List.mem_of_getElem? (i := 230) rfl)) (tb_6 _ (List.mem_of_getElem? (i := 231) rfl)) (tb_1 _ (List.mem_of_getElem? (i := 16) rfl)) (tb_6 _ (List.mem_of_getElem? (i := 232) rfl)) (by decide +kernel)) hd_X11_sum ⟨Nat.le_of_ble_eq_true rfl, Nat.le_of_ble_eq_true rfl⟩ rfl hl.1 (Nat.le_of_ble_eq_true rfl) (by omega) (by omega) dL_law_868 rfl (fun r2 u2 H locs hw h => ?_)
  refine lv_icmp_eq (tgt := 1301) hx hb dL_law_871 (by decide) (fun _ => ?_) (fun c9 => absurd hw.1 c9)
  refine W.widen (k := cells + 1) (n := slots + 6) (by omega) (by omega) ?_
  exact cont _ _ _ _ _ _ hw.2 h (lv_sub hl [0, 1, 2, 3, 4] rfl)
set_option maxRecDepth 100000 in
set_option maxHeartbeats 4000000 in
theorem law_c18 {p : Program} {l : Launch} {e : Env} {s : State} {m : MethodId} {below : List Frame} {meth : Method} {c : Code} {H : Heap} {locs : List Loc} {cells slots : Nat} {Q : State → Prop} {ls : Array Slot} {D : va_G} {cy : Nat → ClassId} {b L : Nat} {xs : Nat → Int32} {BX BM oa i : Nat} {σ τ : St} {g : Nat → Int64} {Rel : St → St → Prop} (K : kL p l s m c D cy b L xs BX BM oa) (hi : i + 6 ≤ L) (hL : L ≤ 3072) (hc : cells + 1 ≤ 601024) (hs : slots + 6 ≤ 7293034) (hsim : wX10_total 0 σ (fun r u => wX11_total 0 τ (fun r2 v => r = r2 ∧ Rel u v))) (h : LHs D cy BX BM oa σ τ g s H locs) (hl : lv_has ls 7 [(0, .ref b), (1, .ref (BX + 0)), (2, .ref (BM + 0)), (3, .ref oa), (4, .int (nI i))]) (cont : ∀ (σ' τ' : St) (g' : Nat → Int64) (H' : Heap) (locs' : List Loc) (ls' : Array Slot), Rel σ' τ' → LHs D cy BX BM oa σ' τ' g' s H' locs' → lv_has ls' 7 [(0, .ref b), (1, .ref (BX + 0)), (2, .ref (BM + 0)), (3, .ref oa), (4, .int (nI i))] → W p l e room_1 s m #[Value.ref b] below meth c H' locs' (cells + 1) (slots + 6) Q (F0 m 1301 ls' [])) : W p l e room_1 s m #[Value.ref b] below meth c H locs cells slots Q (F0 m 876 ls []) := by
  obtain ⟨K0, hK, hN, hZ, hE, hX, hbl, hfl, l1, l2, l3⟩ := id K
  obtain ⟨hx, hb, hml, hown, hts⟩ := id K0
  have hbA : ¬ Aw s b := Nat.not_le.mpr hbl
  have hI : ∀ k : Int32, (1 ≤ k.toInt ∧ k.toInt ≤ 5) → vp_in (nI i + k) L := lw_in hi hL
  have hw := hsim
  refine lv_aload_n hx hb dL_law_876 rfl (lv_at hl 1 rfl) ?_
  refine lk_Xi (As := []) (rest := []) K h (mX10_total l D cy BX 0  σ (by decide +kernel) hw) (gL_W (tb_4 _ (List.mem_of_getElem? (i := 83) rfl)) (tb_4 _ (List.mem_of_getElem? (i := 84) rfl)) (tb_4 _ (List.mem_of_getElem? (i := 85) rfl)) (tb_1 _ (List.mem_of_getElem? (i := 1) rfl)) (tb_4 _ (List.mem_of_getElem? (i := 86) rfl)) (by decide +kernel)) hd_X10_total ⟨Nat.le_of_ble_eq_true rfl, Nat.le_of_ble_eq_true rfl⟩ rfl hl.1 (Nat.le_of_ble_eq_true rfl) (by omega) (by omega) dL_law_877 rfl (fun r1 u1 H locs hw h => ?_)
  refine lv_aload_n hx hb dL_law_880 rfl (lv_at hl 2 rfl) ?_
  refine lk_Mi (As := []) (rest := [.int r1]) K h (mX11_total l D cy BM 0  τ (by decide +kernel) hw) (gL_W (tb_7 _ (List.mem_of_getElem? (i := 21) rfl)) (tb_7 _ (List.mem_of_getElem? (i := 22) rfl)) (tb_7 _ (List.mem_of_getElem? (i := 23) rfl)) (tb_1 _ (List.mem_of_getElem? (i := 16) rfl)) (tb_7 _ (List.mem_of_getElem? (i := 24) rfl)) (by decide +kernel)) hd_X11_total ⟨Nat.le_of_ble_eq_true rfl, Nat.le_of_ble_eq_true rfl⟩ rfl hl.1 (Nat.le_of_ble_eq_true rfl) (by omega) (by omega) dL_law_881 rfl (fun r2 u2 H locs hw h => ?_)
  refine lv_icmp_eq (tgt := 1301) hx hb dL_law_884 (by decide) (fun _ => ?_) (fun c9 => absurd hw.1 c9)
  refine W.widen (k := cells + 1) (n := slots + 6) (by omega) (by omega) ?_
  exact cont _ _ _ _ _ _ hw.2 h (lv_sub hl [0, 1, 2, 3, 4] rfl)
set_option maxRecDepth 100000 in
set_option maxHeartbeats 4000000 in
theorem law_c19 {p : Program} {l : Launch} {e : Env} {s : State} {m : MethodId} {below : List Frame} {meth : Method} {c : Code} {H : Heap} {locs : List Loc} {cells slots : Nat} {Q : State → Prop} {ls : Array Slot} {D : va_G} {cy : Nat → ClassId} {b L : Nat} {xs : Nat → Int32} {BX BM oa i : Nat} {σ τ : St} {g : Nat → Int64} {Rel : St → St → Prop} (K : kL p l s m c D cy b L xs BX BM oa) (hi : i + 6 ≤ L) (hL : L ≤ 3072) (hc : cells + 1 ≤ 601024) (hs : slots + 6 ≤ 7293034) (hsim : ∀ a1 : Int32, wX10_ways 0 a1 σ (fun r u => wX11_ways 0 a1 τ (fun r2 v => r = r2 ∧ Rel u v))) (h : LHs D cy BX BM oa σ τ g s H locs) (hl : lv_has ls 7 [(0, .ref b), (1, .ref (BX + 0)), (2, .ref (BM + 0)), (3, .ref oa), (4, .int (nI i))]) (cont : ∀ (σ' τ' : St) (g' : Nat → Int64) (H' : Heap) (locs' : List Loc) (ls' : Array Slot), Rel σ' τ' → LHs D cy BX BM oa σ' τ' g' s H' locs' → lv_has ls' 7 [(0, .ref b), (1, .ref (BX + 0)), (2, .ref (BM + 0)), (3, .ref oa), (4, .int (nI i))] → W p l e room_1 s m #[Value.ref b] below meth c H' locs' (cells + 1) (slots + 6) Q (F0 m 1301 ls' [])) : W p l e room_1 s m #[Value.ref b] below meth c H locs cells slots Q (F0 m 889 ls []) := by
  obtain ⟨K0, hK, hN, hZ, hE, hX, hbl, hfl, l1, l2, l3⟩ := id K
  obtain ⟨hx, hb, hml, hown, hts⟩ := id K0
  have hbA : ¬ Aw s b := Nat.not_le.mpr hbl
  have hI : ∀ k : Int32, (1 ≤ k.toInt ∧ k.toInt ≤ 5) → vp_in (nI i + k) L := lw_in hi hL
  have hw := hsim (xs (nI i + (1 : Int32)).toNatClampNeg)
  refine lv_aload_n hx hb dL_law_889 rfl (lv_at hl 1 rfl) ?_
  refine lv_aload_n hx hb dL_law_890 rfl (lv_at hl 0 rfl) ?_
  refine lv_iload hx hb dL_law_891 (lv_at hl 4 rfl) ?_
  refine lv_iconst (v := (1 : Int32)) hx hb dL_law_893 (by decide) ?_
  refine lv_iadd hx hb dL_law_894 ?_
  refine va_sld hx hb hX hbl hbA h.2.2.2 (hI 1 (by decide)) dL_law_895 ?_
  refine lk_Xi (As := [.int (xs (nI i + (1 : Int32)).toNatClampNeg)]) (rest := []) K h (mX10_ways l D cy BX 0 (xs (nI i + (1 : Int32)).toNatClampNeg) σ (by decide +kernel) hw) (gL_W (tb_4 _ (List.mem_of_getElem? (i := 101) rfl)) (tb_4 _ (List.mem_of_getElem? (i := 102) rfl)) (tb_4 _ (List.mem_of_getElem? (i := 103) rfl)) (tb_1 _ (List.mem_of_getElem? (i := 1) rfl)) (tb_4 _ (List.mem_of_getElem? (i := 104) rfl)) (by decide +kernel)) hd_X10_ways ⟨Nat.le_of_ble_eq_true rfl, Nat.le_of_ble_eq_true rfl⟩ rfl hl.1 (Nat.le_of_ble_eq_true rfl) (by omega) (by omega) dL_law_896 rfl (fun r1 u1 H locs hw h => ?_)
  refine lv_aload_n hx hb dL_law_899 rfl (lv_at hl 2 rfl) ?_
  refine lv_aload_n hx hb dL_law_900 rfl (lv_at hl 0 rfl) ?_
  refine lv_iload hx hb dL_law_901 (lv_at hl 4 rfl) ?_
  refine lv_iconst (v := (1 : Int32)) hx hb dL_law_903 (by decide) ?_
  refine lv_iadd hx hb dL_law_904 ?_
  refine va_sld hx hb hX hbl hbA h.2.2.2 (hI 1 (by decide)) dL_law_905 ?_
  refine lk_Mi (As := [.int (xs (nI i + (1 : Int32)).toNatClampNeg)]) (rest := [.int r1]) K h (mX11_ways l D cy BM 0 (xs (nI i + (1 : Int32)).toNatClampNeg) τ (by decide +kernel) hw) (gL_W (tb_7 _ (List.mem_of_getElem? (i := 17) rfl)) (tb_7 _ (List.mem_of_getElem? (i := 18) rfl)) (tb_7 _ (List.mem_of_getElem? (i := 19) rfl)) (tb_1 _ (List.mem_of_getElem? (i := 16) rfl)) (tb_7 _ (List.mem_of_getElem? (i := 20) rfl)) (by decide +kernel)) hd_X11_ways ⟨Nat.le_of_ble_eq_true rfl, Nat.le_of_ble_eq_true rfl⟩ rfl hl.1 (Nat.le_of_ble_eq_true rfl) (by omega) (by omega) dL_law_906 rfl (fun r2 u2 H locs hw h => ?_)
  refine lv_icmp_eq (tgt := 1301) hx hb dL_law_909 (by decide) (fun _ => ?_) (fun c9 => absurd hw.1 c9)
  refine W.widen (k := cells + 1) (n := slots + 6) (by omega) (by omega) ?_
  exact cont _ _ _ _ _ _ hw.2 h (lv_sub hl [0, 1, 2, 3, 4] rfl)
set_option maxRecDepth 100000 in
set_option maxHeartbeats 4000000 in
theorem law_c20 {p : Program} {l : Launch} {e : Env} {s : State} {m : MethodId} {below : List Frame} {meth : Method} {c : Code} {H : Heap} {locs : List Loc} {cells slots : Nat} {Q : State → Prop} {ls : Array Slot} {D : va_G} {cy : Nat → ClassId} {b L : Nat} {xs : Nat → Int32} {BX BM oa i : Nat} {σ τ : St} {g : Nat → Int64} {Rel : St → St → Prop} (K : kL p l s m c D cy b L xs BX BM oa) (hi : i + 6 ≤ L) (hL : L ≤ 3072) (hc : cells + 1 ≤ 601024) (hs : slots + 6 ≤ 7293034) (hsim : ∀ a1 : Int32, wX10_within 0 a1 σ (fun r u => wX11_within_ 0 a1 τ (fun r2 v => r = r2 ∧ Rel u v))) (h : LHs D cy BX BM oa σ τ g s H locs) (hl : lv_has ls 7 [(0, .ref b), (1, .ref (BX + 0)), (2, .ref (BM + 0)), (3, .ref oa), (4, .int (nI i))]) (cont : ∀ (σ' τ' : St) (g' : Nat → Int64) (H' : Heap) (locs' : List Loc) (ls' : Array Slot), Rel σ' τ' → LHs D cy BX BM oa σ' τ' g' s H' locs' → lv_has ls' 7 [(0, .ref b), (1, .ref (BX + 0)), (2, .ref (BM + 0)), (3, .ref oa), (4, .int (nI i))] → W p l e room_1 s m #[Value.ref b] below meth c H' locs' (cells + 1) (slots + 6) Q (F0 m 1301 ls' [])) : W p l e room_1 s m #[Value.ref b] below meth c H locs cells slots Q (F0 m 914 ls []) := by
  obtain ⟨K0, hK, hN, hZ, hE, hX, hbl, hfl, l1, l2, l3⟩ := id K
  obtain ⟨hx, hb, hml, hown, hts⟩ := id K0
  have hbA : ¬ Aw s b := Nat.not_le.mpr hbl
  have hI : ∀ k : Int32, (1 ≤ k.toInt ∧ k.toInt ≤ 5) → vp_in (nI i + k) L := lw_in hi hL
  have hw := hsim (xs (nI i + (1 : Int32)).toNatClampNeg)
  refine lv_aload_n hx hb dL_law_914 rfl (lv_at hl 1 rfl) ?_
  refine lv_aload_n hx hb dL_law_915 rfl (lv_at hl 0 rfl) ?_
  refine lv_iload hx hb dL_law_916 (lv_at hl 4 rfl) ?_
  refine lv_iconst (v := (1 : Int32)) hx hb dL_law_918 (by decide) ?_
  refine lv_iadd hx hb dL_law_919 ?_
  refine va_sld hx hb hX hbl hbA h.2.2.2 (hI 1 (by decide)) dL_law_920 ?_
  refine lk_Xi (As := [.int (xs (nI i + (1 : Int32)).toNatClampNeg)]) (rest := []) K h (mX10_within l D cy BX 0 (xs (nI i + (1 : Int32)).toNatClampNeg) σ (by decide +kernel) hw) (gL_W (tb_4 _ (List.mem_of_getElem? (i := 105) rfl)) (tb_4 _ (List.mem_of_getElem? (i := 106) rfl)) (tb_4 _ (List.mem_of_getElem? (i := 107) rfl)) (tb_1 _ (List.mem_of_getElem? (i := 1) rfl)) (tb_4 _ (List.mem_of_getElem? (i := 108) rfl)) (by decide +kernel)) hd_X10_within ⟨Nat.le_of_ble_eq_true rfl, Nat.le_of_ble_eq_true rfl⟩ rfl hl.1 (Nat.le_of_ble_eq_true rfl) (by omega) (by omega) dL_law_921 rfl (fun r1 u1 H locs hw h => ?_)
  refine lv_aload_n hx hb dL_law_924 rfl (lv_at hl 2 rfl) ?_
  refine lv_aload_n hx hb dL_law_925 rfl (lv_at hl 0 rfl) ?_
  refine lv_iload hx hb dL_law_926 (lv_at hl 4 rfl) ?_
  refine lv_iconst (v := (1 : Int32)) hx hb dL_law_928 (by decide) ?_
  refine lv_iadd hx hb dL_law_929 ?_
  refine va_sld hx hb hX hbl hbA h.2.2.2 (hI 1 (by decide)) dL_law_930 ?_
  refine lk_Mi (As := [.int (xs (nI i + (1 : Int32)).toNatClampNeg)]) (rest := [.int r1]) K h (mX11_within_ l D cy BM 0 (xs (nI i + (1 : Int32)).toNatClampNeg) τ (by decide +kernel) hw) (gL_W (tb_7 _ (List.mem_of_getElem? (i := 25) rfl)) (tb_7 _ (List.mem_of_getElem? (i := 26) rfl)) (tb_7 _ (List.mem_of_getElem? (i := 27) rfl)) (tb_1 _ (List.mem_of_getElem? (i := 16) rfl)) (tb_7 _ (List.mem_of_getElem? (i := 28) rfl)) (by decide +kernel)) hd_X11_within_ ⟨Nat.le_of_ble_eq_true rfl, Nat.le_of_ble_eq_true rfl⟩ rfl hl.1 (Nat.le_of_ble_eq_true rfl) (by omega) (by omega) dL_law_931 rfl (fun r2 u2 H locs hw h => ?_)
  refine lv_icmp_eq (tgt := 1301) hx hb dL_law_934 (by decide) (fun _ => ?_) (fun c9 => absurd hw.1 c9)
  refine W.widen (k := cells + 1) (n := slots + 6) (by omega) (by omega) ?_
  exact cont _ _ _ _ _ _ hw.2 h (lv_sub hl [0, 1, 2, 3, 4] rfl)
set_option maxRecDepth 100000 in
set_option maxHeartbeats 4000000 in
theorem law_c21 {p : Program} {l : Launch} {e : Env} {s : State} {m : MethodId} {below : List Frame} {meth : Method} {c : Code} {H : Heap} {locs : List Loc} {cells slots : Nat} {Q : State → Prop} {ls : Array Slot} {D : va_G} {cy : Nat → ClassId} {b L : Nat} {xs : Nat → Int32} {BX BM oa i : Nat} {σ τ : St} {g : Nat → Int64} {Rel : St → St → Prop} (K : kL p l s m c D cy b L xs BX BM oa) (hi : i + 6 ≤ L) (hL : L ≤ 3072) (hc : cells + 1 ≤ 601024) (hs : slots + 6 ≤ 7293034) (hsim : ∀ a1 : Int32, wX10_width 0 a1 σ (fun r u => wX11_width 0 a1 τ (fun r2 v => r = r2 ∧ Rel u v))) (h : LHs D cy BX BM oa σ τ g s H locs) (hl : lv_has ls 7 [(0, .ref b), (1, .ref (BX + 0)), (2, .ref (BM + 0)), (3, .ref oa), (4, .int (nI i))]) (cont : ∀ (σ' τ' : St) (g' : Nat → Int64) (H' : Heap) (locs' : List Loc) (ls' : Array Slot), Rel σ' τ' → LHs D cy BX BM oa σ' τ' g' s H' locs' → lv_has ls' 7 [(0, .ref b), (1, .ref (BX + 0)), (2, .ref (BM + 0)), (3, .ref oa), (4, .int (nI i))] → W p l e room_1 s m #[Value.ref b] below meth c H' locs' (cells + 1) (slots + 6) Q (F0 m 1301 ls' [])) : W p l e room_1 s m #[Value.ref b] below meth c H locs cells slots Q (F0 m 939 ls []) := by
  obtain ⟨K0, hK, hN, hZ, hE, hX, hbl, hfl, l1, l2, l3⟩ := id K
  obtain ⟨hx, hb, hml, hown, hts⟩ := id K0
  have hbA : ¬ Aw s b := Nat.not_le.mpr hbl
  have hI : ∀ k : Int32, (1 ≤ k.toInt ∧ k.toInt ≤ 5) → vp_in (nI i + k) L := lw_in hi hL
  have hw := hsim (xs (nI i + (1 : Int32)).toNatClampNeg)
  refine lv_aload_n hx hb dL_law_939 rfl (lv_at hl 1 rfl) ?_
  refine lv_aload_n hx hb dL_law_940 rfl (lv_at hl 0 rfl) ?_
  refine lv_iload hx hb dL_law_941 (lv_at hl 4 rfl) ?_
  refine lv_iconst (v := (1 : Int32)) hx hb dL_law_943 (by decide) ?_
  refine lv_iadd hx hb dL_law_944 ?_
  refine va_sld hx hb hX hbl hbA h.2.2.2 (hI 1 (by decide)) dL_law_945 ?_
  refine lk_Xi (As := [.int (xs (nI i + (1 : Int32)).toNatClampNeg)]) (rest := []) K h (mX10_width l D cy BX 0 (xs (nI i + (1 : Int32)).toNatClampNeg) σ (by decide +kernel) hw) (gL_W (tb_4 _ (List.mem_of_getElem? (i := 111) rfl)) (tb_4 _ (List.mem_of_getElem? (i := 112) rfl)) (tb_4 _ (List.mem_of_getElem? (i := 113) rfl)) (tb_1 _ (List.mem_of_getElem? (i := 1) rfl)) (tb_4 _ (List.mem_of_getElem? (i := 114) rfl)) (by decide +kernel)) hd_X10_width ⟨Nat.le_of_ble_eq_true rfl, Nat.le_of_ble_eq_true rfl⟩ rfl hl.1 (Nat.le_of_ble_eq_true rfl) (by omega) (by omega) dL_law_946 rfl (fun r1 u1 H locs hw h => ?_)
  refine lv_aload_n hx hb dL_law_949 rfl (lv_at hl 2 rfl) ?_
  refine lv_aload_n hx hb dL_law_950 rfl (lv_at hl 0 rfl) ?_
  refine lv_iload hx hb dL_law_951 (lv_at hl 4 rfl) ?_
  refine lv_iconst (v := (1 : Int32)) hx hb dL_law_953 (by decide) ?_
  refine lv_iadd hx hb dL_law_954 ?_
  refine va_sld hx hb hX hbl hbA h.2.2.2 (hI 1 (by decide)) dL_law_955 ?_
  refine lk_Mi (As := [.int (xs (nI i + (1 : Int32)).toNatClampNeg)]) (rest := [.int r1]) K h (mX11_width l D cy BM 0 (xs (nI i + (1 : Int32)).toNatClampNeg) τ (by decide +kernel) hw) (gL_W (tb_7 _ (List.mem_of_getElem? (i := 33) rfl)) (tb_7 _ (List.mem_of_getElem? (i := 34) rfl)) (tb_7 _ (List.mem_of_getElem? (i := 35) rfl)) (tb_1 _ (List.mem_of_getElem? (i := 16) rfl)) (tb_7 _ (List.mem_of_getElem? (i := 36) rfl)) (by decide +kernel)) hd_X11_width ⟨Nat.le_of_ble_eq_true rfl, Nat.le_of_ble_eq_true rfl⟩ rfl hl.1 (Nat.le_of_ble_eq_true rfl) (by omega) (by omega) dL_law_956 rfl (fun r2 u2 H locs hw h => ?_)
  refine lv_icmp_eq (tgt := 1301) hx hb dL_law_959 (by decide) (fun _ => ?_) (fun c9 => absurd hw.1 c9)
  refine W.widen (k := cells + 1) (n := slots + 6) (by omega) (by omega) ?_
  exact cont _ _ _ _ _ _ hw.2 h (lv_sub hl [0, 1, 2, 3, 4] rfl)
set_option maxRecDepth 100000 in
set_option maxHeartbeats 4000000 in
theorem law_c22 {p : Program} {l : Launch} {e : Env} {s : State} {m : MethodId} {below : List Frame} {meth : Method} {c : Code} {H : Heap} {locs : List Loc} {cells slots : Nat} {Q : State → Prop} {ls : Array Slot} {D : va_G} {cy : Nat → ClassId} {b L : Nat} {xs : Nat → Int32} {BX BM oa i : Nat} {σ τ : St} {g : Nat → Int64} {Rel : St → St → Prop} (K : kL p l s m c D cy b L xs BX BM oa) (hi : i + 6 ≤ L) (hL : L ≤ 3072) (hc : cells + 1 ≤ 601024) (hs : slots + 6 ≤ 7293034) (hsim : ∀ a1 a2 : Int32, wX10_change 0 a1 a2 σ (fun r u => wX11_change 0 a1 a2 τ (fun r2 v => r = r2 ∧ Rel u v))) (h : LHs D cy BX BM oa σ τ g s H locs) (hl : lv_has ls 7 [(0, .ref b), (1, .ref (BX + 0)), (2, .ref (BM + 0)), (3, .ref oa), (4, .int (nI i))]) (cont : ∀ (σ' τ' : St) (g' : Nat → Int64) (H' : Heap) (locs' : List Loc) (ls' : Array Slot), Rel σ' τ' → LHs D cy BX BM oa σ' τ' g' s H' locs' → lv_has ls' 7 [(0, .ref b), (1, .ref (BX + 0)), (2, .ref (BM + 0)), (3, .ref oa), (4, .int (nI i))] → W p l e room_1 s m #[Value.ref b] below meth c H' locs' (cells + 1) (slots + 6) Q (F0 m 1301 ls' [])) : W p l e room_1 s m #[Value.ref b] below meth c H locs cells slots Q (F0 m 964 ls []) := by
  obtain ⟨K0, hK, hN, hZ, hE, hX, hbl, hfl, l1, l2, l3⟩ := id K
  obtain ⟨hx, hb, hml, hown, hts⟩ := id K0
  have hbA : ¬ Aw s b := Nat.not_le.mpr hbl
  have hI : ∀ k : Int32, (1 ≤ k.toInt ∧ k.toInt ≤ 5) → vp_in (nI i + k) L := lw_in hi hL
  have hw := hsim (xs (nI i + (1 : Int32)).toNatClampNeg) (xs (nI i + (2 : Int32)).toNatClampNeg)
  refine lv_aload_n hx hb dL_law_964 rfl (lv_at hl 1 rfl) ?_
  refine lv_aload_n hx hb dL_law_965 rfl (lv_at hl 0 rfl) ?_
  refine lv_iload hx hb dL_law_966 (lv_at hl 4 rfl) ?_
  refine lv_iconst (v := (1 : Int32)) hx hb dL_law_968 (by decide) ?_
  refine lv_iadd hx hb dL_law_969 ?_
  refine va_sld hx hb hX hbl hbA h.2.2.2 (hI 1 (by decide)) dL_law_970 ?_
  refine lv_aload_n hx hb dL_law_971 rfl (lv_at hl 0 rfl) ?_
  refine lv_iload hx hb dL_law_972 (lv_at hl 4 rfl) ?_
  refine lv_iconst (v := (2 : Int32)) hx hb dL_law_974 (by decide) ?_
  refine lv_iadd hx hb dL_law_975 ?_
  refine va_sld hx hb hX hbl hbA h.2.2.2 (hI 2 (by decide)) dL_law_976 ?_
  refine lk_Xz (As := [.int (xs (nI i + (1 : Int32)).toNatClampNeg), .int (xs (nI i + (2 : Int32)).toNatClampNeg)]) (rest := []) K h (mX10_change l D cy BX 0 (xs (nI i + (1 : Int32)).toNatClampNeg) (xs (nI i + (2 : Int32)).toNatClampNeg) σ (by decide +kernel) hw) (gL_W (tb_4 _ (List.mem_of_getElem? (i := 144) rfl)) (tb_4 _ (List.mem_of_getElem? (i := 145) rfl)) (tb_4 _ (List.mem_of_getElem? (i := 146) rfl)) (tb_1 _ (List.mem_of_getElem? (i := 1) rfl)) (tb_4 _ (List.mem_of_getElem? (i := 147) rfl)) (by decide +kernel)) hd_X10_change ⟨Nat.le_of_ble_eq_true rfl, Nat.le_of_ble_eq_true rfl⟩ rfl hl.1 (Nat.le_of_ble_eq_true rfl) (by omega) (by omega) dL_law_977 rfl (fun r1 u1 H locs hw h => ?_)
  refine lv_aload_n hx hb dL_law_980 rfl (lv_at hl 2 rfl) ?_
  refine lv_aload_n hx hb dL_law_981 rfl (lv_at hl 0 rfl) ?_
  refine lv_iload hx hb dL_law_982 (lv_at hl 4 rfl) ?_
  refine lv_iconst (v := (1 : Int32)) hx hb dL_law_984 (by decide) ?_
  refine lv_iadd hx hb dL_law_985 ?_
  refine va_sld hx hb hX hbl hbA h.2.2.2 (hI 1 (by decide)) dL_law_986 ?_
  refine lv_aload_n hx hb dL_law_987 rfl (lv_at hl 0 rfl) ?_
  refine lv_iload hx hb dL_law_988 (lv_at hl 4 rfl) ?_
  refine lv_iconst (v := (2 : Int32)) hx hb dL_law_990 (by decide) ?_
  refine lv_iadd hx hb dL_law_991 ?_
  refine va_sld hx hb hX hbl hbA h.2.2.2 (hI 2 (by decide)) dL_law_992 ?_
  refine lk_Mz (As := [.int (xs (nI i + (1 : Int32)).toNatClampNeg), .int (xs (nI i + (2 : Int32)).toNatClampNeg)]) (rest := [.int (b2i r1)]) K h (mX11_change l D cy BM 0 (xs (nI i + (1 : Int32)).toNatClampNeg) (xs (nI i + (2 : Int32)).toNatClampNeg) τ (by decide +kernel) hw) (gL_W (tb_7 _ (List.mem_of_getElem? (i := 45) rfl)) (tb_7 _ (List.mem_of_getElem? (i := 46) rfl)) (tb_7 _ (List.mem_of_getElem? (i := 47) rfl)) (tb_1 _ (List.mem_of_getElem? (i := 16) rfl)) (tb_7 _ (List.mem_of_getElem? (i := 48) rfl)) (by decide +kernel)) hd_X11_change ⟨Nat.le_of_ble_eq_true rfl, Nat.le_of_ble_eq_true rfl⟩ rfl hl.1 (Nat.le_of_ble_eq_true rfl) (by omega) (by omega) dL_law_993 rfl (fun r2 u2 H locs hw h => ?_)
  refine lv_icmp_eq (tgt := 1301) hx hb dL_law_996 (by decide) (fun _ => ?_) (fun c9 => absurd (by rw [hw.1]) c9)
  refine W.widen (k := cells + 1) (n := slots + 6) (by omega) (by omega) ?_
  exact cont _ _ _ _ _ _ hw.2 h (lv_sub hl [0, 1, 2, 3, 4] rfl)
set_option maxRecDepth 100000 in
set_option maxHeartbeats 4000000 in
theorem law_c23 {p : Program} {l : Launch} {e : Env} {s : State} {m : MethodId} {below : List Frame} {meth : Method} {c : Code} {H : Heap} {locs : List Loc} {cells slots : Nat} {Q : State → Prop} {ls : Array Slot} {D : va_G} {cy : Nat → ClassId} {b L : Nat} {xs : Nat → Int32} {BX BM oa i : Nat} {σ τ : St} {g : Nat → Int64} {Rel : St → St → Prop} (K : kL p l s m c D cy b L xs BX BM oa) (hi : i + 6 ≤ L) (hL : L ≤ 3072) (hc : cells + 1 ≤ 601024) (hs : slots + 6 ≤ 7293034) (hsim : ∀ a1 a2 : Int32, wX10_plug 0 a1 a2 σ (fun r u => wX11_plug 0 a1 a2 τ (fun r2 v => r = r2 ∧ Rel u v))) (h : LHs D cy BX BM oa σ τ g s H locs) (hl : lv_has ls 7 [(0, .ref b), (1, .ref (BX + 0)), (2, .ref (BM + 0)), (3, .ref oa), (4, .int (nI i))]) (cont : ∀ (σ' τ' : St) (g' : Nat → Int64) (H' : Heap) (locs' : List Loc) (ls' : Array Slot), Rel σ' τ' → LHs D cy BX BM oa σ' τ' g' s H' locs' → lv_has ls' 7 [(0, .ref b), (1, .ref (BX + 0)), (2, .ref (BM + 0)), (3, .ref oa), (4, .int (nI i))] → W p l e room_1 s m #[Value.ref b] below meth c H' locs' (cells + 1) (slots + 6) Q (F0 m 1301 ls' [])) : W p l e room_1 s m #[Value.ref b] below meth c H locs cells slots Q (F0 m 1001 ls []) := by
  obtain ⟨K0, hK, hN, hZ, hE, hX, hbl, hfl, l1, l2, l3⟩ := id K
  obtain ⟨hx, hb, hml, hown, hts⟩ := id K0
  have hbA : ¬ Aw s b := Nat.not_le.mpr hbl
  have hI : ∀ k : Int32, (1 ≤ k.toInt ∧ k.toInt ≤ 5) → vp_in (nI i + k) L := lw_in hi hL
  have hw := hsim (xs (nI i + (1 : Int32)).toNatClampNeg) (xs (nI i + (2 : Int32)).toNatClampNeg)
  refine lv_aload_n hx hb dL_law_1001 rfl (lv_at hl 1 rfl) ?_
  refine lv_aload_n hx hb dL_law_1002 rfl (lv_at hl 0 rfl) ?_
  refine lv_iload hx hb dL_law_1003 (lv_at hl 4 rfl) ?_
  refine lv_iconst (v := (1 : Int32)) hx hb dL_law_1005 (by decide) ?_
  refine lv_iadd hx hb dL_law_1006 ?_
  refine va_sld hx hb hX hbl hbA h.2.2.2 (hI 1 (by decide)) dL_law_1007 ?_
  refine lv_aload_n hx hb dL_law_1008 rfl (lv_at hl 0 rfl) ?_
  refine lv_iload hx hb dL_law_1009 (lv_at hl 4 rfl) ?_
  refine lv_iconst (v := (2 : Int32)) hx hb dL_law_1011 (by decide) ?_
  refine lv_iadd hx hb dL_law_1012 ?_
  refine va_sld hx hb hX hbl hbA h.2.2.2 (hI 2 (by decide)) dL_law_1013 ?_
  refine lk_Xz (As := [.int (xs (nI i + (1 : Int32)).toNatClampNeg), .int (xs (nI i + (2 : Int32)).toNatClampNeg)]) (rest := []) K h (mX10_plug l D cy BX 0 (xs (nI i + (1 : Int32)).toNatClampNeg) (xs (nI i + (2 : Int32)).toNatClampNeg) σ (by decide +kernel) hw) (gL_W (tb_4 _ (List.mem_of_getElem? (i := 170) rfl)) (tb_4 _ (List.mem_of_getElem? (i := 171) rfl)) (tb_4 _ (List.mem_of_getElem? (i := 172) rfl)) (tb_1 _ (List.mem_of_getElem? (i := 1) rfl)) (tb_4 _ (List.mem_of_getElem? (i := 173) rfl)) (by decide +kernel)) hd_X10_plug ⟨Nat.le_of_ble_eq_true rfl, Nat.le_of_ble_eq_true rfl⟩ rfl hl.1 (Nat.le_of_ble_eq_true rfl) (by omega) (by omega) dL_law_1014 rfl (fun r1 u1 H locs hw h => ?_)
  refine lv_aload_n hx hb dL_law_1017 rfl (lv_at hl 2 rfl) ?_
  refine lv_aload_n hx hb dL_law_1018 rfl (lv_at hl 0 rfl) ?_
  refine lv_iload hx hb dL_law_1019 (lv_at hl 4 rfl) ?_
  refine lv_iconst (v := (1 : Int32)) hx hb dL_law_1021 (by decide) ?_
  refine lv_iadd hx hb dL_law_1022 ?_
  refine va_sld hx hb hX hbl hbA h.2.2.2 (hI 1 (by decide)) dL_law_1023 ?_
  refine lv_aload_n hx hb dL_law_1024 rfl (lv_at hl 0 rfl) ?_
  refine lv_iload hx hb dL_law_1025 (lv_at hl 4 rfl) ?_
  refine lv_iconst (v := (2 : Int32)) hx hb dL_law_1027 (by decide) ?_
  refine lv_iadd hx hb dL_law_1028 ?_
  refine va_sld hx hb hX hbl hbA h.2.2.2 (hI 2 (by decide)) dL_law_1029 ?_
  refine lk_Mz (As := [.int (xs (nI i + (1 : Int32)).toNatClampNeg), .int (xs (nI i + (2 : Int32)).toNatClampNeg)]) (rest := [.int (b2i r1)]) K h (mX11_plug l D cy BM 0 (xs (nI i + (1 : Int32)).toNatClampNeg) (xs (nI i + (2 : Int32)).toNatClampNeg) τ (by decide +kernel) hw) (gL_W (tb_7 _ (List.mem_of_getElem? (i := 53) rfl)) (tb_7 _ (List.mem_of_getElem? (i := 54) rfl)) (tb_7 _ (List.mem_of_getElem? (i := 55) rfl)) (tb_1 _ (List.mem_of_getElem? (i := 16) rfl)) (tb_7 _ (List.mem_of_getElem? (i := 56) rfl)) (by decide +kernel)) hd_X11_plug ⟨Nat.le_of_ble_eq_true rfl, Nat.le_of_ble_eq_true rfl⟩ rfl hl.1 (Nat.le_of_ble_eq_true rfl) (by omega) (by omega) dL_law_1030 rfl (fun r2 u2 H locs hw h => ?_)
  refine lv_icmp_eq (tgt := 1301) hx hb dL_law_1033 (by decide) (fun _ => ?_) (fun c9 => absurd (by rw [hw.1]) c9)
  refine W.widen (k := cells + 1) (n := slots + 6) (by omega) (by omega) ?_
  exact cont _ _ _ _ _ _ hw.2 h (lv_sub hl [0, 1, 2, 3, 4] rfl)
set_option maxRecDepth 100000 in
set_option maxHeartbeats 4000000 in
theorem law_c24 {p : Program} {l : Launch} {e : Env} {s : State} {m : MethodId} {below : List Frame} {meth : Method} {c : Code} {H : Heap} {locs : List Loc} {cells slots : Nat} {Q : State → Prop} {ls : Array Slot} {D : va_G} {cy : Nat → ClassId} {b L : Nat} {xs : Nat → Int32} {BX BM oa i : Nat} {σ τ : St} {g : Nat → Int64} {Rel : St → St → Prop} (K : kL p l s m c D cy b L xs BX BM oa) (hi : i + 6 ≤ L) (hL : L ≤ 3072) (hc : cells + 1 ≤ 601024) (hs : slots + 6 ≤ 7293034) (hsim : ∀ a1 a2 : Int32, wX10_scale 0 a1 a2 σ (fun r u => wX11_scale 0 a1 a2 τ (fun r2 v => r = r2 ∧ Rel u v))) (h : LHs D cy BX BM oa σ τ g s H locs) (hl : lv_has ls 7 [(0, .ref b), (1, .ref (BX + 0)), (2, .ref (BM + 0)), (3, .ref oa), (4, .int (nI i))]) (cont : ∀ (σ' τ' : St) (g' : Nat → Int64) (H' : Heap) (locs' : List Loc) (ls' : Array Slot), Rel σ' τ' → LHs D cy BX BM oa σ' τ' g' s H' locs' → lv_has ls' 7 [(0, .ref b), (1, .ref (BX + 0)), (2, .ref (BM + 0)), (3, .ref oa), (4, .int (nI i))] → W p l e room_1 s m #[Value.ref b] below meth c H' locs' (cells + 1) (slots + 6) Q (F0 m 1301 ls' [])) : W p l e room_1 s m #[Value.ref b] below meth c H locs cells slots Q (F0 m 1038 ls []) := by
  obtain ⟨K0, hK, hN, hZ, hE, hX, hbl, hfl, l1, l2, l3⟩ := id K
  obtain ⟨hx, hb, hml, hown, hts⟩ := id K0
  have hbA : ¬ Aw s b := Nat.not_le.mpr hbl
  have hI : ∀ k : Int32, (1 ≤ k.toInt ∧ k.toInt ≤ 5) → vp_in (nI i + k) L := lw_in hi hL
  have hw := hsim (xs (nI i + (1 : Int32)).toNatClampNeg) (xs (nI i + (2 : Int32)).toNatClampNeg)
  refine lv_aload_n hx hb dL_law_1038 rfl (lv_at hl 1 rfl) ?_
  refine lv_aload_n hx hb dL_law_1039 rfl (lv_at hl 0 rfl) ?_
  refine lv_iload hx hb dL_law_1040 (lv_at hl 4 rfl) ?_
  refine lv_iconst (v := (1 : Int32)) hx hb dL_law_1042 (by decide) ?_
  refine lv_iadd hx hb dL_law_1043 ?_
  refine va_sld hx hb hX hbl hbA h.2.2.2 (hI 1 (by decide)) dL_law_1044 ?_
  refine lv_aload_n hx hb dL_law_1045 rfl (lv_at hl 0 rfl) ?_
  refine lv_iload hx hb dL_law_1046 (lv_at hl 4 rfl) ?_
  refine lv_iconst (v := (2 : Int32)) hx hb dL_law_1048 (by decide) ?_
  refine lv_iadd hx hb dL_law_1049 ?_
  refine va_sld hx hb hX hbl hbA h.2.2.2 (hI 2 (by decide)) dL_law_1050 ?_
  refine lk_Xz (As := [.int (xs (nI i + (1 : Int32)).toNatClampNeg), .int (xs (nI i + (2 : Int32)).toNatClampNeg)]) (rest := []) K h (mX10_scale l D cy BX 0 (xs (nI i + (1 : Int32)).toNatClampNeg) (xs (nI i + (2 : Int32)).toNatClampNeg) σ (by decide +kernel) hw) (gL_W (tb_4 _ (List.mem_of_getElem? (i := 174) rfl)) (tb_4 _ (List.mem_of_getElem? (i := 175) rfl)) (tb_4 _ (List.mem_of_getElem? (i := 176) rfl)) (tb_1 _ (List.mem_of_getElem? (i := 1) rfl)) (tb_4 _ (List.mem_of_getElem? (i := 177) rfl)) (by decide +kernel)) hd_X10_scale ⟨Nat.le_of_ble_eq_true rfl, Nat.le_of_ble_eq_true rfl⟩ rfl hl.1 (Nat.le_of_ble_eq_true rfl) (by omega) (by omega) dL_law_1051 rfl (fun r1 u1 H locs hw h => ?_)
  refine lv_aload_n hx hb dL_law_1054 rfl (lv_at hl 2 rfl) ?_
  refine lv_aload_n hx hb dL_law_1055 rfl (lv_at hl 0 rfl) ?_
  refine lv_iload hx hb dL_law_1056 (lv_at hl 4 rfl) ?_
  refine lv_iconst (v := (1 : Int32)) hx hb dL_law_1058 (by decide) ?_
  refine lv_iadd hx hb dL_law_1059 ?_
  refine va_sld hx hb hX hbl hbA h.2.2.2 (hI 1 (by decide)) dL_law_1060 ?_
  refine lv_aload_n hx hb dL_law_1061 rfl (lv_at hl 0 rfl) ?_
  refine lv_iload hx hb dL_law_1062 (lv_at hl 4 rfl) ?_
  refine lv_iconst (v := (2 : Int32)) hx hb dL_law_1064 (by decide) ?_
  refine lv_iadd hx hb dL_law_1065 ?_
  refine va_sld hx hb hX hbl hbA h.2.2.2 (hI 2 (by decide)) dL_law_1066 ?_
  refine lk_Mz (As := [.int (xs (nI i + (1 : Int32)).toNatClampNeg), .int (xs (nI i + (2 : Int32)).toNatClampNeg)]) (rest := [.int (b2i r1)]) K h (mX11_scale l D cy BM 0 (xs (nI i + (1 : Int32)).toNatClampNeg) (xs (nI i + (2 : Int32)).toNatClampNeg) τ (by decide +kernel) hw) (gL_W (tb_7 _ (List.mem_of_getElem? (i := 57) rfl)) (tb_7 _ (List.mem_of_getElem? (i := 58) rfl)) (tb_7 _ (List.mem_of_getElem? (i := 59) rfl)) (tb_1 _ (List.mem_of_getElem? (i := 16) rfl)) (tb_7 _ (List.mem_of_getElem? (i := 60) rfl)) (by decide +kernel)) hd_X11_scale ⟨Nat.le_of_ble_eq_true rfl, Nat.le_of_ble_eq_true rfl⟩ rfl hl.1 (Nat.le_of_ble_eq_true rfl) (by omega) (by omega) dL_law_1067 rfl (fun r2 u2 H locs hw h => ?_)
  refine lv_icmp_eq (tgt := 1301) hx hb dL_law_1070 (by decide) (fun _ => ?_) (fun c9 => absurd (by rw [hw.1]) c9)
  refine W.widen (k := cells + 1) (n := slots + 6) (by omega) (by omega) ?_
  exact cont _ _ _ _ _ _ hw.2 h (lv_sub hl [0, 1, 2, 3, 4] rfl)
set_option maxRecDepth 100000 in
set_option maxHeartbeats 4000000 in
theorem law_c25 {p : Program} {l : Launch} {e : Env} {s : State} {m : MethodId} {below : List Frame} {meth : Method} {c : Code} {H : Heap} {locs : List Loc} {cells slots : Nat} {Q : State → Prop} {ls : Array Slot} {D : va_G} {cy : Nat → ClassId} {b L : Nat} {xs : Nat → Int32} {BX BM oa i : Nat} {σ τ : St} {g : Nat → Int64} {Rel : St → St → Prop} (K : kL p l s m c D cy b L xs BX BM oa) (hi : i + 6 ≤ L) (hL : L ≤ 3072) (hc : cells + 1 ≤ 601024) (hs : slots + 6 ≤ 7293034) (hsim : ∀ a1 a2 a3 : Int32, wX10_swap 0 a1 a2 a3 σ (fun r u => wX11_swap 0 a1 a2 a3 τ (fun r2 v => r = r2 ∧ Rel u v))) (h : LHs D cy BX BM oa σ τ g s H locs) (hl : lv_has ls 7 [(0, .ref b), (1, .ref (BX + 0)), (2, .ref (BM + 0)), (3, .ref oa), (4, .int (nI i))]) (cont : ∀ (σ' τ' : St) (g' : Nat → Int64) (H' : Heap) (locs' : List Loc) (ls' : Array Slot), Rel σ' τ' → LHs D cy BX BM oa σ' τ' g' s H' locs' → lv_has ls' 7 [(0, .ref b), (1, .ref (BX + 0)), (2, .ref (BM + 0)), (3, .ref oa), (4, .int (nI i))] → W p l e room_1 s m #[Value.ref b] below meth c H' locs' (cells + 1) (slots + 6) Q (F0 m 1301 ls' [])) : W p l e room_1 s m #[Value.ref b] below meth c H locs cells slots Q (F0 m 1075 ls []) := by
  obtain ⟨K0, hK, hN, hZ, hE, hX, hbl, hfl, l1, l2, l3⟩ := id K
  obtain ⟨hx, hb, hml, hown, hts⟩ := id K0
  have hbA : ¬ Aw s b := Nat.not_le.mpr hbl
  have hI : ∀ k : Int32, (1 ≤ k.toInt ∧ k.toInt ≤ 5) → vp_in (nI i + k) L := lw_in hi hL
  have hw := hsim (xs (nI i + (1 : Int32)).toNatClampNeg) (xs (nI i + (2 : Int32)).toNatClampNeg) (xs (nI i + (3 : Int32)).toNatClampNeg)
  refine lv_aload_n hx hb dL_law_1075 rfl (lv_at hl 1 rfl) ?_
  refine lv_aload_n hx hb dL_law_1076 rfl (lv_at hl 0 rfl) ?_
  refine lv_iload hx hb dL_law_1077 (lv_at hl 4 rfl) ?_
  refine lv_iconst (v := (1 : Int32)) hx hb dL_law_1079 (by decide) ?_
  refine lv_iadd hx hb dL_law_1080 ?_
  refine va_sld hx hb hX hbl hbA h.2.2.2 (hI 1 (by decide)) dL_law_1081 ?_
  refine lv_aload_n hx hb dL_law_1082 rfl (lv_at hl 0 rfl) ?_
  refine lv_iload hx hb dL_law_1083 (lv_at hl 4 rfl) ?_
  refine lv_iconst (v := (2 : Int32)) hx hb dL_law_1085 (by decide) ?_
  refine lv_iadd hx hb dL_law_1086 ?_
  refine va_sld hx hb hX hbl hbA h.2.2.2 (hI 2 (by decide)) dL_law_1087 ?_
  refine lv_aload_n hx hb dL_law_1088 rfl (lv_at hl 0 rfl) ?_
  refine lv_iload hx hb dL_law_1089 (lv_at hl 4 rfl) ?_
  refine lv_iconst (v := (3 : Int32)) hx hb dL_law_1091 (by decide) ?_
  refine lv_iadd hx hb dL_law_1092 ?_
  refine va_sld hx hb hX hbl hbA h.2.2.2 (hI 3 (by decide)) dL_law_1093 ?_
  refine lk_Xz (As := [.int (xs (nI i + (1 : Int32)).toNatClampNeg), .int (xs (nI i + (2 : Int32)).toNatClampNeg), .int (xs (nI i + (3 : Int32)).toNatClampNeg)]) (rest := []) K h (mX10_swap l D cy BX 0 (xs (nI i + (1 : Int32)).toNatClampNeg) (xs (nI i + (2 : Int32)).toNatClampNeg) (xs (nI i + (3 : Int32)).toNatClampNeg) σ (by decide +kernel) hw) (gL_W (tb_4 _ (List.mem_of_getElem? (i := 182) rfl)) (tb_4 _ (List.mem_of_getElem? (i := 183) rfl)) (tb_4 _ (List.mem_of_getElem? (i := 184) rfl)) (tb_1 _ (List.mem_of_getElem? (i := 1) rfl)) (tb_4 _ (List.mem_of_getElem? (i := 185) rfl)) (by decide +kernel)) hd_X10_swap ⟨Nat.le_of_ble_eq_true rfl, Nat.le_of_ble_eq_true rfl⟩ rfl hl.1 (Nat.le_of_ble_eq_true rfl) (by omega) (by omega) dL_law_1094 rfl (fun r1 u1 H locs hw h => ?_)
  refine lv_aload_n hx hb dL_law_1097 rfl (lv_at hl 2 rfl) ?_
  refine lv_aload_n hx hb dL_law_1098 rfl (lv_at hl 0 rfl) ?_
  refine lv_iload hx hb dL_law_1099 (lv_at hl 4 rfl) ?_
  refine lv_iconst (v := (1 : Int32)) hx hb dL_law_1101 (by decide) ?_
  refine lv_iadd hx hb dL_law_1102 ?_
  refine va_sld hx hb hX hbl hbA h.2.2.2 (hI 1 (by decide)) dL_law_1103 ?_
  refine lv_aload_n hx hb dL_law_1104 rfl (lv_at hl 0 rfl) ?_
  refine lv_iload hx hb dL_law_1105 (lv_at hl 4 rfl) ?_
  refine lv_iconst (v := (2 : Int32)) hx hb dL_law_1107 (by decide) ?_
  refine lv_iadd hx hb dL_law_1108 ?_
  refine va_sld hx hb hX hbl hbA h.2.2.2 (hI 2 (by decide)) dL_law_1109 ?_
  refine lv_aload_n hx hb dL_law_1110 rfl (lv_at hl 0 rfl) ?_
  refine lv_iload hx hb dL_law_1111 (lv_at hl 4 rfl) ?_
  refine lv_iconst (v := (3 : Int32)) hx hb dL_law_1113 (by decide) ?_
  refine lv_iadd hx hb dL_law_1114 ?_
  refine va_sld hx hb hX hbl hbA h.2.2.2 (hI 3 (by decide)) dL_law_1115 ?_
  refine lk_Mz (As := [.int (xs (nI i + (1 : Int32)).toNatClampNeg), .int (xs (nI i + (2 : Int32)).toNatClampNeg), .int (xs (nI i + (3 : Int32)).toNatClampNeg)]) (rest := [.int (b2i r1)]) K h (mX11_swap l D cy BM 0 (xs (nI i + (1 : Int32)).toNatClampNeg) (xs (nI i + (2 : Int32)).toNatClampNeg) (xs (nI i + (3 : Int32)).toNatClampNeg) τ (by decide +kernel) hw) (gL_W (tb_7 _ (List.mem_of_getElem? (i := 61) rfl)) (tb_7 _ (List.mem_of_getElem? (i := 62) rfl)) (tb_7 _ (List.mem_of_getElem? (i := 63) rfl)) (tb_1 _ (List.mem_of_getElem? (i := 16) rfl)) (tb_7 _ (List.mem_of_getElem? (i := 64) rfl)) (by decide +kernel)) hd_X11_swap ⟨Nat.le_of_ble_eq_true rfl, Nat.le_of_ble_eq_true rfl⟩ rfl hl.1 (Nat.le_of_ble_eq_true rfl) (by omega) (by omega) dL_law_1116 rfl (fun r2 u2 H locs hw h => ?_)
  refine lv_icmp_eq (tgt := 1301) hx hb dL_law_1119 (by decide) (fun _ => ?_) (fun c9 => absurd (by rw [hw.1]) c9)
  refine W.widen (k := cells + 1) (n := slots + 6) (by omega) (by omega) ?_
  exact cont _ _ _ _ _ _ hw.2 h (lv_sub hl [0, 1, 2, 3, 4] rfl)
set_option maxRecDepth 100000 in
set_option maxHeartbeats 4000000 in
theorem law_c26 {p : Program} {l : Launch} {e : Env} {s : State} {m : MethodId} {below : List Frame} {meth : Method} {c : Code} {H : Heap} {locs : List Loc} {cells slots : Nat} {Q : State → Prop} {ls : Array Slot} {D : va_G} {cy : Nat → ClassId} {b L : Nat} {xs : Nat → Int32} {BX BM oa i : Nat} {σ τ : St} {g : Nat → Int64} {Rel : St → St → Prop} (K : kL p l s m c D cy b L xs BX BM oa) (hi : i + 6 ≤ L) (hL : L ≤ 3072) (hc : cells + 1 ≤ 601024) (hs : slots + 6 ≤ 7293034) (hsim : ∀ a1 a2 a3 a4 : Int32, wX10_join 0 a1 a2 a3 a4 σ (fun r u => wX11_join 0 a1 a2 a3 a4 τ (fun r2 v => r = r2 ∧ Rel u v))) (h : LHs D cy BX BM oa σ τ g s H locs) (hl : lv_has ls 7 [(0, .ref b), (1, .ref (BX + 0)), (2, .ref (BM + 0)), (3, .ref oa), (4, .int (nI i))]) (cont : ∀ (σ' τ' : St) (g' : Nat → Int64) (H' : Heap) (locs' : List Loc) (ls' : Array Slot), Rel σ' τ' → LHs D cy BX BM oa σ' τ' g' s H' locs' → lv_has ls' 7 [(0, .ref b), (1, .ref (BX + 0)), (2, .ref (BM + 0)), (3, .ref oa), (4, .int (nI i))] → W p l e room_1 s m #[Value.ref b] below meth c H' locs' (cells + 1) (slots + 6) Q (F0 m 1301 ls' [])) : W p l e room_1 s m #[Value.ref b] below meth c H locs cells slots Q (F0 m 1124 ls []) := by
  obtain ⟨K0, hK, hN, hZ, hE, hX, hbl, hfl, l1, l2, l3⟩ := id K
  obtain ⟨hx, hb, hml, hown, hts⟩ := id K0
  have hbA : ¬ Aw s b := Nat.not_le.mpr hbl
  have hI : ∀ k : Int32, (1 ≤ k.toInt ∧ k.toInt ≤ 5) → vp_in (nI i + k) L := lw_in hi hL
  have hw := hsim (xs (nI i + (1 : Int32)).toNatClampNeg) (xs (nI i + (2 : Int32)).toNatClampNeg) (xs (nI i + (3 : Int32)).toNatClampNeg) (xs (nI i + (4 : Int32)).toNatClampNeg)
  refine lv_aload_n hx hb dL_law_1124 rfl (lv_at hl 1 rfl) ?_
  refine lv_aload_n hx hb dL_law_1125 rfl (lv_at hl 0 rfl) ?_
  refine lv_iload hx hb dL_law_1126 (lv_at hl 4 rfl) ?_
  refine lv_iconst (v := (1 : Int32)) hx hb dL_law_1128 (by decide) ?_
  refine lv_iadd hx hb dL_law_1129 ?_
  refine va_sld hx hb hX hbl hbA h.2.2.2 (hI 1 (by decide)) dL_law_1130 ?_
  refine lv_aload_n hx hb dL_law_1131 rfl (lv_at hl 0 rfl) ?_
  refine lv_iload hx hb dL_law_1132 (lv_at hl 4 rfl) ?_
  refine lv_iconst (v := (2 : Int32)) hx hb dL_law_1134 (by decide) ?_
  refine lv_iadd hx hb dL_law_1135 ?_
  refine va_sld hx hb hX hbl hbA h.2.2.2 (hI 2 (by decide)) dL_law_1136 ?_
  refine lv_aload_n hx hb dL_law_1137 rfl (lv_at hl 0 rfl) ?_
  refine lv_iload hx hb dL_law_1138 (lv_at hl 4 rfl) ?_
  refine lv_iconst (v := (3 : Int32)) hx hb dL_law_1140 (by decide) ?_
  refine lv_iadd hx hb dL_law_1141 ?_
  refine va_sld hx hb hX hbl hbA h.2.2.2 (hI 3 (by decide)) dL_law_1142 ?_
  refine lv_aload_n hx hb dL_law_1143 rfl (lv_at hl 0 rfl) ?_
  refine lv_iload hx hb dL_law_1144 (lv_at hl 4 rfl) ?_
  refine lv_iconst (v := (4 : Int32)) hx hb dL_law_1146 (by decide) ?_
  refine lv_iadd hx hb dL_law_1147 ?_
  refine va_sld hx hb hX hbl hbA h.2.2.2 (hI 4 (by decide)) dL_law_1148 ?_
  refine lk_Xi (As := [.int (xs (nI i + (1 : Int32)).toNatClampNeg), .int (xs (nI i + (2 : Int32)).toNatClampNeg), .int (xs (nI i + (3 : Int32)).toNatClampNeg), .int (xs (nI i + (4 : Int32)).toNatClampNeg)]) (rest := []) K h (mX10_join l D cy BX 0 (xs (nI i + (1 : Int32)).toNatClampNeg) (xs (nI i + (2 : Int32)).toNatClampNeg) (xs (nI i + (3 : Int32)).toNatClampNeg) (xs (nI i + (4 : Int32)).toNatClampNeg) σ (by decide +kernel) hw) (gL_W (tb_4 _ (List.mem_of_getElem? (i := 191) rfl)) (tb_4 _ (List.mem_of_getElem? (i := 192) rfl)) (tb_4 _ (List.mem_of_getElem? (i := 193) rfl)) (tb_1 _ (List.mem_of_getElem? (i := 1) rfl)) (tb_4 _ (List.mem_of_getElem? (i := 194) rfl)) (by decide +kernel)) hd_X10_join ⟨Nat.le_of_ble_eq_true rfl, Nat.le_of_ble_eq_true rfl⟩ rfl hl.1 (Nat.le_of_ble_eq_true rfl) (by omega) (by omega) dL_law_1149 rfl (fun r1 u1 H locs hw h => ?_)
  refine lv_aload_n hx hb dL_law_1152 rfl (lv_at hl 2 rfl) ?_
  refine lv_aload_n hx hb dL_law_1153 rfl (lv_at hl 0 rfl) ?_
  refine lv_iload hx hb dL_law_1154 (lv_at hl 4 rfl) ?_
  refine lv_iconst (v := (1 : Int32)) hx hb dL_law_1156 (by decide) ?_
  refine lv_iadd hx hb dL_law_1157 ?_
  refine va_sld hx hb hX hbl hbA h.2.2.2 (hI 1 (by decide)) dL_law_1158 ?_
  refine lv_aload_n hx hb dL_law_1159 rfl (lv_at hl 0 rfl) ?_
  refine lv_iload hx hb dL_law_1160 (lv_at hl 4 rfl) ?_
  refine lv_iconst (v := (2 : Int32)) hx hb dL_law_1162 (by decide) ?_
  refine lv_iadd hx hb dL_law_1163 ?_
  refine va_sld hx hb hX hbl hbA h.2.2.2 (hI 2 (by decide)) dL_law_1164 ?_
  refine lv_aload_n hx hb dL_law_1165 rfl (lv_at hl 0 rfl) ?_
  refine lv_iload hx hb dL_law_1166 (lv_at hl 4 rfl) ?_
  refine lv_iconst (v := (3 : Int32)) hx hb dL_law_1168 (by decide) ?_
  refine lv_iadd hx hb dL_law_1169 ?_
  refine va_sld hx hb hX hbl hbA h.2.2.2 (hI 3 (by decide)) dL_law_1170 ?_
  refine lv_aload_n hx hb dL_law_1171 rfl (lv_at hl 0 rfl) ?_
  refine lv_iload hx hb dL_law_1172 (lv_at hl 4 rfl) ?_
  refine lv_iconst (v := (4 : Int32)) hx hb dL_law_1174 (by decide) ?_
  refine lv_iadd hx hb dL_law_1175 ?_
  refine va_sld hx hb hX hbl hbA h.2.2.2 (hI 4 (by decide)) dL_law_1176 ?_
  refine lk_Mi (As := [.int (xs (nI i + (1 : Int32)).toNatClampNeg), .int (xs (nI i + (2 : Int32)).toNatClampNeg), .int (xs (nI i + (3 : Int32)).toNatClampNeg), .int (xs (nI i + (4 : Int32)).toNatClampNeg)]) (rest := [.int r1]) K h (mX11_join l D cy BM 0 (xs (nI i + (1 : Int32)).toNatClampNeg) (xs (nI i + (2 : Int32)).toNatClampNeg) (xs (nI i + (3 : Int32)).toNatClampNeg) (xs (nI i + (4 : Int32)).toNatClampNeg) τ (by decide +kernel) hw) (gL_W (tb_7 _ (List.mem_of_getElem? (i := 65) rfl)) (tb_7 _ (List.mem_of_getElem? (i := 66) rfl)) (tb_7 _ (List.mem_of_getElem? (i := 67) rfl)) (tb_1 _ (List.mem_of_getElem? (i := 16) rfl)) (tb_7 _ (List.mem_of_getElem? (i := 68) rfl)) (by decide +kernel)) hd_X11_join ⟨Nat.le_of_ble_eq_true rfl, Nat.le_of_ble_eq_true rfl⟩ rfl hl.1 (Nat.le_of_ble_eq_true rfl) (by omega) (by omega) dL_law_1177 rfl (fun r2 u2 H locs hw h => ?_)
  refine lv_icmp_eq (tgt := 1301) hx hb dL_law_1180 (by decide) (fun _ => ?_) (fun c9 => absurd hw.1 c9)
  refine W.widen (k := cells + 1) (n := slots + 6) (by omega) (by omega) ?_
  exact cont _ _ _ _ _ _ hw.2 h (lv_sub hl [0, 1, 2, 3, 4] rfl)
set_option maxRecDepth 100000 in
set_option maxHeartbeats 4000000 in
theorem law_c27 {p : Program} {l : Launch} {e : Env} {s : State} {m : MethodId} {below : List Frame} {meth : Method} {c : Code} {H : Heap} {locs : List Loc} {cells slots : Nat} {Q : State → Prop} {ls : Array Slot} {D : va_G} {cy : Nat → ClassId} {b L : Nat} {xs : Nat → Int32} {BX BM oa i : Nat} {σ τ : St} {g : Nat → Int64} {Rel : St → St → Prop} (K : kL p l s m c D cy b L xs BX BM oa) (hi : i + 6 ≤ L) (hL : L ≤ 3072) (hc : cells + 1 ≤ 601024) (hs : slots + 6 ≤ 7293034) (hsim : ∀ a1 : Int32, wX10_cut 0 a1 σ (fun r u => wX11_cut 0 a1 τ (fun r2 v => r = r2 ∧ Rel u v))) (h : LHs D cy BX BM oa σ τ g s H locs) (hl : lv_has ls 7 [(0, .ref b), (1, .ref (BX + 0)), (2, .ref (BM + 0)), (3, .ref oa), (4, .int (nI i))]) (cont : ∀ (σ' τ' : St) (g' : Nat → Int64) (H' : Heap) (locs' : List Loc) (ls' : Array Slot), Rel σ' τ' → LHs D cy BX BM oa σ' τ' g' s H' locs' → lv_has ls' 7 [(0, .ref b), (1, .ref (BX + 0)), (2, .ref (BM + 0)), (3, .ref oa), (4, .int (nI i))] → W p l e room_1 s m #[Value.ref b] below meth c H' locs' (cells + 1) (slots + 6) Q (F0 m 1301 ls' [])) : W p l e room_1 s m #[Value.ref b] below meth c H locs cells slots Q (F0 m 1185 ls []) := by
  obtain ⟨K0, hK, hN, hZ, hE, hX, hbl, hfl, l1, l2, l3⟩ := id K
  obtain ⟨hx, hb, hml, hown, hts⟩ := id K0
  have hbA : ¬ Aw s b := Nat.not_le.mpr hbl
  have hI : ∀ k : Int32, (1 ≤ k.toInt ∧ k.toInt ≤ 5) → vp_in (nI i + k) L := lw_in hi hL
  have hw := hsim (xs (nI i + (1 : Int32)).toNatClampNeg)
  refine lv_aload_n hx hb dL_law_1185 rfl (lv_at hl 1 rfl) ?_
  refine lv_aload_n hx hb dL_law_1186 rfl (lv_at hl 0 rfl) ?_
  refine lv_iload hx hb dL_law_1187 (lv_at hl 4 rfl) ?_
  refine lv_iconst (v := (1 : Int32)) hx hb dL_law_1189 (by decide) ?_
  refine lv_iadd hx hb dL_law_1190 ?_
  refine va_sld hx hb hX hbl hbA h.2.2.2 (hI 1 (by decide)) dL_law_1191 ?_
  refine lk_Xi (As := [.int (xs (nI i + (1 : Int32)).toNatClampNeg)]) (rest := []) K h (mX10_cut l D cy BX 0 (xs (nI i + (1 : Int32)).toNatClampNeg) σ (by decide +kernel) hw) (gL_W (tb_4 _ (List.mem_of_getElem? (i := 197) rfl)) (tb_4 _ (List.mem_of_getElem? (i := 198) rfl)) (tb_4 _ (List.mem_of_getElem? (i := 199) rfl)) (tb_1 _ (List.mem_of_getElem? (i := 1) rfl)) (tb_4 _ (List.mem_of_getElem? (i := 200) rfl)) (by decide +kernel)) hd_X10_cut ⟨Nat.le_of_ble_eq_true rfl, Nat.le_of_ble_eq_true rfl⟩ rfl hl.1 (Nat.le_of_ble_eq_true rfl) (by omega) (by omega) dL_law_1192 rfl (fun r1 u1 H locs hw h => ?_)
  refine lv_aload_n hx hb dL_law_1195 rfl (lv_at hl 2 rfl) ?_
  refine lv_aload_n hx hb dL_law_1196 rfl (lv_at hl 0 rfl) ?_
  refine lv_iload hx hb dL_law_1197 (lv_at hl 4 rfl) ?_
  refine lv_iconst (v := (1 : Int32)) hx hb dL_law_1199 (by decide) ?_
  refine lv_iadd hx hb dL_law_1200 ?_
  refine va_sld hx hb hX hbl hbA h.2.2.2 (hI 1 (by decide)) dL_law_1201 ?_
  refine lk_Mi (As := [.int (xs (nI i + (1 : Int32)).toNatClampNeg)]) (rest := [.int r1]) K h (mX11_cut l D cy BM 0 (xs (nI i + (1 : Int32)).toNatClampNeg) τ (by decide +kernel) hw) (gL_W (tb_7 _ (List.mem_of_getElem? (i := 73) rfl)) (tb_7 _ (List.mem_of_getElem? (i := 74) rfl)) (tb_7 _ (List.mem_of_getElem? (i := 75) rfl)) (tb_1 _ (List.mem_of_getElem? (i := 16) rfl)) (tb_7 _ (List.mem_of_getElem? (i := 76) rfl)) (by decide +kernel)) hd_X11_cut ⟨Nat.le_of_ble_eq_true rfl, Nat.le_of_ble_eq_true rfl⟩ rfl hl.1 (Nat.le_of_ble_eq_true rfl) (by omega) (by omega) dL_law_1202 rfl (fun r2 u2 H locs hw h => ?_)
  refine lv_icmp_eq (tgt := 1301) hx hb dL_law_1205 (by decide) (fun _ => ?_) (fun c9 => absurd hw.1 c9)
  refine W.widen (k := cells + 1) (n := slots + 6) (by omega) (by omega) ?_
  exact cont _ _ _ _ _ _ hw.2 h (lv_sub hl [0, 1, 2, 3, 4] rfl)
set_option maxRecDepth 100000 in
set_option maxHeartbeats 4000000 in
theorem law_c28 {p : Program} {l : Launch} {e : Env} {s : State} {m : MethodId} {below : List Frame} {meth : Method} {c : Code} {H : Heap} {locs : List Loc} {cells slots : Nat} {Q : State → Prop} {ls : Array Slot} {D : va_G} {cy : Nat → ClassId} {b L : Nat} {xs : Nat → Int32} {BX BM oa i : Nat} {σ τ : St} {g : Nat → Int64} {Rel : St → St → Prop} (K : kL p l s m c D cy b L xs BX BM oa) (hi : i + 6 ≤ L) (hL : L ≤ 3072) (hc : cells + 1 ≤ 601024) (hs : slots + 6 ≤ 7293034) (hsim : wX10_undo 0 σ (fun r u => wX11_undo 0 τ (fun r2 v => r = r2 ∧ Rel u v))) (h : LHs D cy BX BM oa σ τ g s H locs) (hl : lv_has ls 7 [(0, .ref b), (1, .ref (BX + 0)), (2, .ref (BM + 0)), (3, .ref oa), (4, .int (nI i))]) (cont : ∀ (σ' τ' : St) (g' : Nat → Int64) (H' : Heap) (locs' : List Loc) (ls' : Array Slot), Rel σ' τ' → LHs D cy BX BM oa σ' τ' g' s H' locs' → lv_has ls' 7 [(0, .ref b), (1, .ref (BX + 0)), (2, .ref (BM + 0)), (3, .ref oa), (4, .int (nI i))] → W p l e room_1 s m #[Value.ref b] below meth c H' locs' (cells + 1) (slots + 6) Q (F0 m 1301 ls' [])) : W p l e room_1 s m #[Value.ref b] below meth c H locs cells slots Q (F0 m 1210 ls []) := by
  obtain ⟨K0, hK, hN, hZ, hE, hX, hbl, hfl, l1, l2, l3⟩ := id K
  obtain ⟨hx, hb, hml, hown, hts⟩ := id K0
  have hbA : ¬ Aw s b := Nat.not_le.mpr hbl
  have hI : ∀ k : Int32, (1 ≤ k.toInt ∧ k.toInt ≤ 5) → vp_in (nI i + k) L := lw_in hi hL
  have hw := hsim
  refine lv_aload_n hx hb dL_law_1210 rfl (lv_at hl 1 rfl) ?_
  refine lk_Xi (As := []) (rest := []) K h (mX10_undo l D cy BX 0  σ (by decide +kernel) hw) (gL_W (tb_4 _ (List.mem_of_getElem? (i := 205) rfl)) (tb_4 _ (List.mem_of_getElem? (i := 206) rfl)) (tb_4 _ (List.mem_of_getElem? (i := 207) rfl)) (tb_1 _ (List.mem_of_getElem? (i := 1) rfl)) (tb_4 _ (List.mem_of_getElem? (i := 208) rfl)) (by decide +kernel)) hd_X10_undo ⟨Nat.le_of_ble_eq_true rfl, Nat.le_of_ble_eq_true rfl⟩ rfl hl.1 (Nat.le_of_ble_eq_true rfl) (by omega) (by omega) dL_law_1211 rfl (fun r1 u1 H locs hw h => ?_)
  refine lv_aload_n hx hb dL_law_1214 rfl (lv_at hl 2 rfl) ?_
  refine lk_Mi (As := []) (rest := [.int r1]) K h (mX11_undo l D cy BM 0  τ (by decide +kernel) hw) (gL_W (tb_7 _ (List.mem_of_getElem? (i := 77) rfl)) (tb_7 _ (List.mem_of_getElem? (i := 78) rfl)) (tb_7 _ (List.mem_of_getElem? (i := 79) rfl)) (tb_1 _ (List.mem_of_getElem? (i := 16) rfl)) (tb_7 _ (List.mem_of_getElem? (i := 80) rfl)) (by decide +kernel)) hd_X11_undo ⟨Nat.le_of_ble_eq_true rfl, Nat.le_of_ble_eq_true rfl⟩ rfl hl.1 (Nat.le_of_ble_eq_true rfl) (by omega) (by omega) dL_law_1215 rfl (fun r2 u2 H locs hw h => ?_)
  refine lv_icmp_eq (tgt := 1301) hx hb dL_law_1218 (by decide) (fun _ => ?_) (fun c9 => absurd hw.1 c9)
  refine W.widen (k := cells + 1) (n := slots + 6) (by omega) (by omega) ?_
  exact cont _ _ _ _ _ _ hw.2 h (lv_sub hl [0, 1, 2, 3, 4] rfl)
set_option maxRecDepth 100000 in
set_option maxHeartbeats 4000000 in
theorem law_c29 {p : Program} {l : Launch} {e : Env} {s : State} {m : MethodId} {below : List Frame} {meth : Method} {c : Code} {H : Heap} {locs : List Loc} {cells slots : Nat} {Q : State → Prop} {ls : Array Slot} {D : va_G} {cy : Nat → ClassId} {b L : Nat} {xs : Nat → Int32} {BX BM oa i : Nat} {σ τ : St} {g : Nat → Int64} {Rel : St → St → Prop} (K : kL p l s m c D cy b L xs BX BM oa) (hi : i + 6 ≤ L) (hL : L ≤ 3072) (hc : cells + 1 ≤ 601024) (hs : slots + 6 ≤ 7293034) (hsim : ∀ a1 a2 : Int32, wX10_keep 0 a1 a2 σ (fun r u => wX11_keep 0 a1 a2 τ (fun r2 v => r = r2 ∧ Rel u v))) (h : LHs D cy BX BM oa σ τ g s H locs) (hl : lv_has ls 7 [(0, .ref b), (1, .ref (BX + 0)), (2, .ref (BM + 0)), (3, .ref oa), (4, .int (nI i))]) (cont : ∀ (σ' τ' : St) (g' : Nat → Int64) (H' : Heap) (locs' : List Loc) (ls' : Array Slot), Rel σ' τ' → LHs D cy BX BM oa σ' τ' g' s H' locs' → lv_has ls' 7 [(0, .ref b), (1, .ref (BX + 0)), (2, .ref (BM + 0)), (3, .ref oa), (4, .int (nI i))] → W p l e room_1 s m #[Value.ref b] below meth c H' locs' (cells + 1) (slots + 6) Q (F0 m 1301 ls' [])) : W p l e room_1 s m #[Value.ref b] below meth c H locs cells slots Q (F0 m 1223 ls []) := by
  obtain ⟨K0, hK, hN, hZ, hE, hX, hbl, hfl, l1, l2, l3⟩ := id K
  obtain ⟨hx, hb, hml, hown, hts⟩ := id K0
  have hbA : ¬ Aw s b := Nat.not_le.mpr hbl
  have hI : ∀ k : Int32, (1 ≤ k.toInt ∧ k.toInt ≤ 5) → vp_in (nI i + k) L := lw_in hi hL
  refine lv_aload_n hx hb dL_law_1223 rfl (lv_at hl 1 rfl) ?_
  refine lv_aload_n hx hb dL_law_1224 rfl (lv_at hl 0 rfl) ?_
  refine lv_iload hx hb dL_law_1225 (lv_at hl 4 rfl) ?_
  refine lv_iconst (v := (1 : Int32)) hx hb dL_law_1227 (by decide) ?_
  refine lv_iadd hx hb dL_law_1228 ?_
  refine va_sld hx hb hX hbl hbA h.2.2.2 (hI 1 (by decide)) dL_law_1229 ?_
  refine lv_aload_n hx hb dL_law_1230 rfl (lv_at hl 0 rfl) ?_
  refine lv_iload hx hb dL_law_1231 (lv_at hl 4 rfl) ?_
  refine lv_iconst (v := (2 : Int32)) hx hb dL_law_1233 (by decide) ?_
  refine lv_iadd hx hb dL_law_1234 ?_
  refine va_sld hx hb hX hbl hbA h.2.2.2 (hI 2 (by decide)) dL_law_1235 ?_
  refine lv_if_eq (tgt := 1243) hx hb dL_law_1236 (by decide) (fun d1236 => ?_) (fun d1236 => ?_)
  · refine lv_iconst (v := (0 : Int32)) hx hb dL_law_1243 (by decide) ?_
    have hw := hsim (xs (nI i + (1 : Int32)).toNatClampNeg) (0 : Int32)
    refine lk_Xz (As := [.int (xs (nI i + (1 : Int32)).toNatClampNeg), .int (0 : Int32)]) (rest := []) K h (mX10_keep l D cy BX 0 (xs (nI i + (1 : Int32)).toNatClampNeg) (0 : Int32) σ (by decide +kernel) hw) (gL_W (tb_4 _ (List.mem_of_getElem? (i := 213) rfl)) (tb_4 _ (List.mem_of_getElem? (i := 214) rfl)) (tb_4 _ (List.mem_of_getElem? (i := 215) rfl)) (tb_1 _ (List.mem_of_getElem? (i := 1) rfl)) (tb_4 _ (List.mem_of_getElem? (i := 216) rfl)) (by decide +kernel)) hd_X10_keep ⟨Nat.le_of_ble_eq_true rfl, Nat.le_of_ble_eq_true rfl⟩ rfl hl.1 (Nat.le_of_ble_eq_true rfl) (by omega) (by omega) dL_law_1244 rfl (fun r1 u1 H locs hw h => ?_)
    refine lv_aload_n hx hb dL_law_1247 rfl (lv_at hl 2 rfl) ?_
    refine lv_aload_n hx hb dL_law_1248 rfl (lv_at hl 0 rfl) ?_
    refine lv_iload hx hb dL_law_1249 (lv_at hl 4 rfl) ?_
    refine lv_iconst (v := (1 : Int32)) hx hb dL_law_1251 (by decide) ?_
    refine lv_iadd hx hb dL_law_1252 ?_
    refine va_sld hx hb hX hbl hbA h.2.2.2 (hI 1 (by decide)) dL_law_1253 ?_
    refine lv_aload_n hx hb dL_law_1254 rfl (lv_at hl 0 rfl) ?_
    refine lv_iload hx hb dL_law_1255 (lv_at hl 4 rfl) ?_
    refine lv_iconst (v := (2 : Int32)) hx hb dL_law_1257 (by decide) ?_
    refine lv_iadd hx hb dL_law_1258 ?_
    refine va_sld hx hb hX hbl hbA h.2.2.2 (hI 2 (by decide)) dL_law_1259 ?_
    refine lv_if_eq (tgt := 1267) hx hb dL_law_1260 (by decide) (fun _ => ?_) (fun c9 => absurd d1236 c9)
    refine lv_iconst (v := (0 : Int32)) hx hb dL_law_1267 (by decide) ?_
    refine lk_Mz (As := [.int (xs (nI i + (1 : Int32)).toNatClampNeg), .int (0 : Int32)]) (rest := [.int (b2i r1)]) K h (mX11_keep l D cy BM 0 (xs (nI i + (1 : Int32)).toNatClampNeg) (0 : Int32) τ (by decide +kernel) hw) (gL_W (tb_7 _ (List.mem_of_getElem? (i := 81) rfl)) (tb_7 _ (List.mem_of_getElem? (i := 82) rfl)) (tb_7 _ (List.mem_of_getElem? (i := 83) rfl)) (tb_1 _ (List.mem_of_getElem? (i := 16) rfl)) (tb_7 _ (List.mem_of_getElem? (i := 84) rfl)) (by decide +kernel)) hd_X11_keep ⟨Nat.le_of_ble_eq_true rfl, Nat.le_of_ble_eq_true rfl⟩ rfl hl.1 (Nat.le_of_ble_eq_true rfl) (by omega) (by omega) dL_law_1268 rfl (fun r2 u2 H locs hw h => ?_)
    refine lv_icmp_eq (tgt := 1301) hx hb dL_law_1271 (by decide) (fun _ => ?_) (fun c9 => absurd (by rw [hw.1]) c9)
    refine W.widen (k := cells + 1) (n := slots + 6) (by omega) (by omega) ?_
    exact cont _ _ _ _ _ _ hw.2 h (lv_sub hl [0, 1, 2, 3, 4] rfl)
  · refine lv_iconst (v := (1 : Int32)) hx hb dL_law_1239 (by decide) ?_
    refine lv_goto (tgt := 1244) hx hb dL_law_1240 (by decide) ?_
    have hw := hsim (xs (nI i + (1 : Int32)).toNatClampNeg) (1 : Int32)
    refine lk_Xz (As := [.int (xs (nI i + (1 : Int32)).toNatClampNeg), .int (1 : Int32)]) (rest := []) K h (mX10_keep l D cy BX 0 (xs (nI i + (1 : Int32)).toNatClampNeg) (1 : Int32) σ (by decide +kernel) hw) (gL_W (tb_4 _ (List.mem_of_getElem? (i := 213) rfl)) (tb_4 _ (List.mem_of_getElem? (i := 214) rfl)) (tb_4 _ (List.mem_of_getElem? (i := 215) rfl)) (tb_1 _ (List.mem_of_getElem? (i := 1) rfl)) (tb_4 _ (List.mem_of_getElem? (i := 216) rfl)) (by decide +kernel)) hd_X10_keep ⟨Nat.le_of_ble_eq_true rfl, Nat.le_of_ble_eq_true rfl⟩ rfl hl.1 (Nat.le_of_ble_eq_true rfl) (by omega) (by omega) dL_law_1244 rfl (fun r3 u3 H locs hw h => ?_)
    refine lv_aload_n hx hb dL_law_1247 rfl (lv_at hl 2 rfl) ?_
    refine lv_aload_n hx hb dL_law_1248 rfl (lv_at hl 0 rfl) ?_
    refine lv_iload hx hb dL_law_1249 (lv_at hl 4 rfl) ?_
    refine lv_iconst (v := (1 : Int32)) hx hb dL_law_1251 (by decide) ?_
    refine lv_iadd hx hb dL_law_1252 ?_
    refine va_sld hx hb hX hbl hbA h.2.2.2 (hI 1 (by decide)) dL_law_1253 ?_
    refine lv_aload_n hx hb dL_law_1254 rfl (lv_at hl 0 rfl) ?_
    refine lv_iload hx hb dL_law_1255 (lv_at hl 4 rfl) ?_
    refine lv_iconst (v := (2 : Int32)) hx hb dL_law_1257 (by decide) ?_
    refine lv_iadd hx hb dL_law_1258 ?_
    refine va_sld hx hb hX hbl hbA h.2.2.2 (hI 2 (by decide)) dL_law_1259 ?_
    refine lv_if_eq (tgt := 1267) hx hb dL_law_1260 (by decide) (fun c9 => absurd c9 d1236) (fun _ => ?_)
    refine lv_iconst (v := (1 : Int32)) hx hb dL_law_1263 (by decide) ?_
    refine lv_goto (tgt := 1268) hx hb dL_law_1264 (by decide) ?_
    refine lk_Mz (As := [.int (xs (nI i + (1 : Int32)).toNatClampNeg), .int (1 : Int32)]) (rest := [.int (b2i r3)]) K h (mX11_keep l D cy BM 0 (xs (nI i + (1 : Int32)).toNatClampNeg) (1 : Int32) τ (by decide +kernel) hw) (gL_W (tb_7 _ (List.mem_of_getElem? (i := 81) rfl)) (tb_7 _ (List.mem_of_getElem? (i := 82) rfl)) (tb_7 _ (List.mem_of_getElem? (i := 83) rfl)) (tb_1 _ (List.mem_of_getElem? (i := 16) rfl)) (tb_7 _ (List.mem_of_getElem? (i := 84) rfl)) (by decide +kernel)) hd_X11_keep ⟨Nat.le_of_ble_eq_true rfl, Nat.le_of_ble_eq_true rfl⟩ rfl hl.1 (Nat.le_of_ble_eq_true rfl) (by omega) (by omega) dL_law_1268 rfl (fun r4 u4 H locs hw h => ?_)
    refine lv_icmp_eq (tgt := 1301) hx hb dL_law_1271 (by decide) (fun _ => ?_) (fun c9 => absurd (by rw [hw.1]) c9)
    refine W.widen (k := cells + 1) (n := slots + 6) (by omega) (by omega) ?_
    exact cont _ _ _ _ _ _ hw.2 h (lv_sub hl [0, 1, 2, 3, 4] rfl)
set_option maxRecDepth 100000 in
set_option maxHeartbeats 4000000 in
theorem law_c30 {p : Program} {l : Launch} {e : Env} {s : State} {m : MethodId} {below : List Frame} {meth : Method} {c : Code} {H : Heap} {locs : List Loc} {cells slots : Nat} {Q : State → Prop} {ls : Array Slot} {D : va_G} {cy : Nat → ClassId} {b L : Nat} {xs : Nat → Int32} {BX BM oa i : Nat} {σ τ : St} {g : Nat → Int64} {Rel : St → St → Prop} (K : kL p l s m c D cy b L xs BX BM oa) (hi : i + 6 ≤ L) (hL : L ≤ 3072) (hc : cells + 1 ≤ 601024) (hs : slots + 6 ≤ 7293034) (hsim : ∀ a1 : Int32, wX10_count 0 a1 σ (fun r u => wX11_count 0 a1 τ (fun r2 v => r = r2 ∧ Rel u v))) (h : LHs D cy BX BM oa σ τ g s H locs) (hl : lv_has ls 7 [(0, .ref b), (1, .ref (BX + 0)), (2, .ref (BM + 0)), (3, .ref oa), (4, .int (nI i))]) (cont : ∀ (σ' τ' : St) (g' : Nat → Int64) (H' : Heap) (locs' : List Loc) (ls' : Array Slot), Rel σ' τ' → LHs D cy BX BM oa σ' τ' g' s H' locs' → lv_has ls' 7 [(0, .ref b), (1, .ref (BX + 0)), (2, .ref (BM + 0)), (3, .ref oa), (4, .int (nI i))] → W p l e room_1 s m #[Value.ref b] below meth c H' locs' (cells + 1) (slots + 6) Q (F0 m 1301 ls' [])) : W p l e room_1 s m #[Value.ref b] below meth c H locs cells slots Q (F0 m 1276 ls []) := by
  obtain ⟨K0, hK, hN, hZ, hE, hX, hbl, hfl, l1, l2, l3⟩ := id K
  obtain ⟨hx, hb, hml, hown, hts⟩ := id K0
  have hbA : ¬ Aw s b := Nat.not_le.mpr hbl
  have hI : ∀ k : Int32, (1 ≤ k.toInt ∧ k.toInt ≤ 5) → vp_in (nI i + k) L := lw_in hi hL
  have hw := hsim (xs (nI i + (1 : Int32)).toNatClampNeg)
  refine lv_aload_n hx hb dL_law_1276 rfl (lv_at hl 1 rfl) ?_
  refine lv_aload_n hx hb dL_law_1277 rfl (lv_at hl 0 rfl) ?_
  refine lv_iload hx hb dL_law_1278 (lv_at hl 4 rfl) ?_
  refine lv_iconst (v := (1 : Int32)) hx hb dL_law_1280 (by decide) ?_
  refine lv_iadd hx hb dL_law_1281 ?_
  refine va_sld hx hb hX hbl hbA h.2.2.2 (hI 1 (by decide)) dL_law_1282 ?_
  refine lk_Xi (As := [.int (xs (nI i + (1 : Int32)).toNatClampNeg)]) (rest := []) K h (mX10_count l D cy BX 0 (xs (nI i + (1 : Int32)).toNatClampNeg) σ (by decide +kernel) hw) (gL_W (tb_4 _ (List.mem_of_getElem? (i := 217) rfl)) (tb_4 _ (List.mem_of_getElem? (i := 218) rfl)) (tb_4 _ (List.mem_of_getElem? (i := 219) rfl)) (tb_1 _ (List.mem_of_getElem? (i := 1) rfl)) (tb_4 _ (List.mem_of_getElem? (i := 220) rfl)) (by decide +kernel)) hd_X10_count ⟨Nat.le_of_ble_eq_true rfl, Nat.le_of_ble_eq_true rfl⟩ rfl hl.1 (Nat.le_of_ble_eq_true rfl) (by omega) (by omega) dL_law_1283 rfl (fun r1 u1 H locs hw h => ?_)
  refine lv_aload_n hx hb dL_law_1286 rfl (lv_at hl 2 rfl) ?_
  refine lv_aload_n hx hb dL_law_1287 rfl (lv_at hl 0 rfl) ?_
  refine lv_iload hx hb dL_law_1288 (lv_at hl 4 rfl) ?_
  refine lv_iconst (v := (1 : Int32)) hx hb dL_law_1290 (by decide) ?_
  refine lv_iadd hx hb dL_law_1291 ?_
  refine va_sld hx hb hX hbl hbA h.2.2.2 (hI 1 (by decide)) dL_law_1292 ?_
  refine lk_Mi (As := [.int (xs (nI i + (1 : Int32)).toNatClampNeg)]) (rest := [.int r1]) K h (mX11_count l D cy BM 0 (xs (nI i + (1 : Int32)).toNatClampNeg) τ (by decide +kernel) hw) (gL_W (tb_7 _ (List.mem_of_getElem? (i := 85) rfl)) (tb_7 _ (List.mem_of_getElem? (i := 86) rfl)) (tb_7 _ (List.mem_of_getElem? (i := 87) rfl)) (tb_1 _ (List.mem_of_getElem? (i := 16) rfl)) (tb_7 _ (List.mem_of_getElem? (i := 88) rfl)) (by decide +kernel)) hd_X11_count ⟨Nat.le_of_ble_eq_true rfl, Nat.le_of_ble_eq_true rfl⟩ rfl hl.1 (Nat.le_of_ble_eq_true rfl) (by omega) (by omega) dL_law_1293 rfl (fun r2 u2 H locs hw h => ?_)
  refine lv_icmp_eq (tgt := 1301) hx hb dL_law_1296 (by decide) (fun _ => ?_) (fun c9 => absurd hw.1 c9)
  refine W.widen (k := cells + 1) (n := slots + 6) (by omega) (by omega) ?_
  exact cont _ _ _ _ _ _ hw.2 h (lv_sub hl [0, 1, 2, 3, 4] rfl)
def Sim (Rel : St → St → Prop) : Prop := ∀ σ τ : St, Rel σ τ → (∀ a1 a2 a3 a4 a5 : Int32, wX10_feed 0 a1 a2 a3 a4 a5 σ (fun r u => wX11_feed 0 a1 a2 a3 a4 a5 τ (fun r2 v => r = r2 ∧ Rel u v))) ∧ (∀ a1 : Int32, wX10_net 0 a1 σ (fun r u => wX11_net 0 a1 τ (fun r2 v => r = r2 ∧ Rel u v))) ∧ (∀ a1 a2 : Int32, wX10_table 0 a1 a2 σ (fun r u => wX11_table 0 a1 a2 τ (fun r2 v => r = r2 ∧ Rel u v))) ∧ (∀ a1 : Int32, wX10_parity 0 a1 σ (fun r u => wX11_parity 0 a1 τ (fun r2 v => r = r2 ∧ Rel u v))) ∧ (∀ a1 a2 : Int32, wX10_identity 0 a1 a2 σ (fun r u => wX11_identity 0 a1 a2 τ (fun r2 v => r = r2 ∧ Rel u v))) ∧ (∀ a1 : Int32, wX10_made 0 a1 σ (fun r u => wX11_made 0 a1 τ (fun r2 v => r = r2 ∧ Rel u v))) ∧ (∀ a1 : Int32, wX10_plain 0 a1 σ (fun r u => wX11_plain 0 a1 τ (fun r2 v => r = r2 ∧ Rel u v))) ∧ (∀ a1 a2 : Int32, wX10_like 0 a1 a2 σ (fun r u => wX11_like 0 a1 a2 τ (fun r2 v => r = r2 ∧ Rel u v))) ∧ (∀ a1 a2 : Int32, wX10_rank 0 a1 a2 σ (fun r u => wX11_rank 0 a1 a2 τ (fun r2 v => r = r2 ∧ Rel u v))) ∧ (∀ a1 a2 : Int32, wX10_base 0 a1 a2 σ (fun r u => wX11_base 0 a1 a2 τ (fun r2 v => wX11_thrown 0 v (fun k v => k = 0 ∧ r = r2 ∧ Rel u v))) (fun u => wX11_base 0 a1 a2 τ (fun _ v => wX11_thrown 0 v (fun k v => k = 1 ∧ Rel u v)))) ∧ (∀ a1 a2 a3 : Int32, wX10_based 0 a1 a2 a3 σ (fun r u => wX11_based 0 a1 a2 a3 τ (fun r2 v => r = r2 ∧ Rel u v))) ∧ (∀ a1 a2 : Int32, wX10_fits 0 a1 a2 σ (fun r u => wX11_fits 0 a1 a2 τ (fun r2 v => r = r2 ∧ Rel u v))) ∧ (∀ a1 : Int32, wX10_first 0 a1 σ (fun r u => wX11_first 0 a1 τ (fun r2 v => r = r2 ∧ Rel u v))) ∧ (∀ a1 : Int32, wX10_seek 0 a1 σ (fun r u => wX11_seek 0 a1 τ (fun r2 v => r = r2 ∧ Rel u v))) ∧ (∀ a1 a2 : Int32, wX10_node 0 a1 a2 σ (fun r u => wX11_node 0 a1 a2 τ (fun r2 v => r = r2 ∧ Rel u v))) ∧ (∀ a1 a2 : Int32, wX10_wire 0 a1 a2 σ (fun r u => wX11_wire 0 a1 a2 τ (fun r2 v => wX11_thrown 0 v (fun k v => k = 0 ∧ r = r2 ∧ Rel u v))) (fun u => wX11_wire 0 a1 a2 τ (fun _ v => wX11_thrown 0 v (fun k v => k = 1 ∧ Rel u v)))) ∧ (∀ a1 : Int32, wX10_open 0 a1 σ (fun r u => wX11_open 0 a1 τ (fun r2 v => r = r2 ∧ Rel u v))) ∧ (∀ a1 : Int32, wX10_sum 0 a1 σ (fun r u => wX11_sum 0 a1 τ (fun r2 v => r = r2 ∧ Rel u v))) ∧ (wX10_total 0 σ (fun r u => wX11_total 0 τ (fun r2 v => r = r2 ∧ Rel u v))) ∧ (∀ a1 : Int32, wX10_ways 0 a1 σ (fun r u => wX11_ways 0 a1 τ (fun r2 v => r = r2 ∧ Rel u v))) ∧ (∀ a1 : Int32, wX10_within 0 a1 σ (fun r u => wX11_within_ 0 a1 τ (fun r2 v => r = r2 ∧ Rel u v))) ∧ (∀ a1 : Int32, wX10_width 0 a1 σ (fun r u => wX11_width 0 a1 τ (fun r2 v => r = r2 ∧ Rel u v))) ∧ (∀ a1 a2 : Int32, wX10_change 0 a1 a2 σ (fun r u => wX11_change 0 a1 a2 τ (fun r2 v => r = r2 ∧ Rel u v))) ∧ (∀ a1 a2 : Int32, wX10_plug 0 a1 a2 σ (fun r u => wX11_plug 0 a1 a2 τ (fun r2 v => r = r2 ∧ Rel u v))) ∧ (∀ a1 a2 : Int32, wX10_scale 0 a1 a2 σ (fun r u => wX11_scale 0 a1 a2 τ (fun r2 v => r = r2 ∧ Rel u v))) ∧ (∀ a1 a2 a3 : Int32, wX10_swap 0 a1 a2 a3 σ (fun r u => wX11_swap 0 a1 a2 a3 τ (fun r2 v => r = r2 ∧ Rel u v))) ∧ (∀ a1 a2 a3 a4 : Int32, wX10_join 0 a1 a2 a3 a4 σ (fun r u => wX11_join 0 a1 a2 a3 a4 τ (fun r2 v => r = r2 ∧ Rel u v))) ∧ (∀ a1 : Int32, wX10_cut 0 a1 σ (fun r u => wX11_cut 0 a1 τ (fun r2 v => r = r2 ∧ Rel u v))) ∧ (wX10_undo 0 σ (fun r u => wX11_undo 0 τ (fun r2 v => r = r2 ∧ Rel u v))) ∧ (∀ a1 a2 : Int32, wX10_keep 0 a1 a2 σ (fun r u => wX11_keep 0 a1 a2 τ (fun r2 v => r = r2 ∧ Rel u v))) ∧ (∀ a1 : Int32, wX10_count 0 a1 σ (fun r u => wX11_count 0 a1 τ (fun r2 v => r = r2 ∧ Rel u v)))
