theorem Met.ofWHF {l : Launch} {y : MethodName} {ws ws' : List Cond} {rm : Room} {Pc : Array Value → State → Prop} {Qc : Array Value → State → Outcome → State → Prop} {mc ms : Nat} {free : Addr → Prop} {cc : ByteArray} {maxL : Nat} {ret : Option FieldType} {hh : List (Nat × Nat × Nat × Nat)}
    (hy : plainFor y = true) (hw : ws = Cond.codeWith y cc maxL ret hh :: ws')
    (body : ∀ p e s m args below meth c s₁, BodyLoose p l y (headSpec ws rm) cc maxL ret e s m args below meth c s₁ → c.maxLocals = maxL → Pc args s →
      W p l e (headSpec ws rm).room s m args below meth c s.heap [] 0 0 (MQ below Qc args s mc ms free) (entryFrame m args maxL)) : Met l y ws rm Pc Qc mc ms free := by
  refine MetFree.of_bodySF (code := cc) (maxLocals := maxL) (ret := ret) hy ?_ ?_
  · intro args s m h hn
    obtain ⟨m9, meth, c, hn9, h1, h2, h3, h4, -, h5, h6, -⟩ := Cond.codeWith_spec (atoms_spec (ws := ws) h _ (by rw [hw]; exact List.mem_cons_self))
    cases hn.symm.trans hn9
    exact ⟨meth, c, h1, h2, h3, h4, h5, h6⟩
  · intro p e s m args below meth c s₁ B hml hP _
    have hh0 : s₁.heap = s.heap := by rw [B.state]; rfl
    obtain ⟨t, a1, o, b1, b2, b3⟩ := body p e s m args below meth c s₁ B hml hP s₁ hh0 (Stand.of_body B)
    exact ⟨t, o, a1, b1, b2, ⟨b3.1, b3.2⟩⟩
def ALw (B oa : Nat) : Nat → Prop := fun q => AW B 346 q ∨ q = oa
def wO (cy : Nat → ClassId) (oa : Nat) (g : Nat → Int64) : va_W := [(oa, .inl (cy 2, 1, .inr (.inl g)))]
def PcL (D : va_G) (cy : Nat → ClassId) (B oa : Nat) (σ : St) (g : Nat → Int64) (av : List Value) : Array Value → State → Prop := va_Pc av (fun U => (va_P D vwCl (wW cy B kX σ) U.heap ∧ va_P D vwCl (wO cy oa g) U.heap) ∧ va_K D vwCl (tysW cy) U ∧ NW U ∧ SWa (ALw B oa) U ∧ EXW (ALw B oa) U)
def QcL (post : Int32 → St → Prop) (postx : St → Prop) (D : va_G) (cy : Nat → ClassId) (B oa : Nat) : Array Value → State → Outcome → State → Prop := va_Qi (fun (k : Int32) (u : St × (Nat → Int64)) => (k = 0 ∧ ∃ r : Int32, u.2 0 = r.toInt64 ∧ post r u.1) ∨ (k = 1 ∧ postx u.1)) (fun u t => va_P D vwCl (wW cy B kX u.1) t.heap ∧ va_P D vwCl (wO cy oa u.2) t.heap) (ALw B oa)
theorem PcL.blind {D : va_G} {cy : Nat → ClassId} {B oa : Nat} {σ : St} {g : Nat → Int64} {av : List Value} : FrameBlind (PcL D cy B oa σ g av) := by
  intro a U f mk q
  obtain ⟨q0, qP, qK, qN, qS, qE⟩ := q
  exact ⟨q0, qP, va_K.moved (u := U) (U := U.calling f mk a) (Vm.Alike.refl U.vm) qK, qN.same rfl, qS.same rfl rfl, qE.same rfl rfl⟩

def WL : List Cond := [Cond.methodLink RL 7 yX10_base, Cond.instanceMethod yX10_base, Cond.selects RX10 yX10_base yX10_base, Cond.code yX10_base cX10_base 4 (some .int), Cond.methodLink RL 15 yX10_wire, Cond.instanceMethod yX10_wire, Cond.selects RX10 yX10_wire yX10_wire, Cond.code yX10_wire cX10_wire 4 (some .int), Cond.initialized RX10, Cond.classLink RL 13 "java/util/NoSuchElementException"]
theorem WL_good : ∀ w ∈ WL, goodWord w = true := List.all_eq_true.mp (by decide +kernel)
set_option maxRecDepth 100000 in
theorem WL_in : ∀ w ∈ WL, w ∈ lw_tbl := List.forall_mem_cons.mpr ⟨(tb_4 _ (List.mem_of_getElem? (i := 225) rfl)), List.forall_mem_cons.mpr ⟨(tb_4 _ (List.mem_of_getElem? (i := 226) rfl)), List.forall_mem_cons.mpr ⟨(tb_4 _ (List.mem_of_getElem? (i := 227) rfl)), List.forall_mem_cons.mpr ⟨(tb_4 _ (List.mem_of_getElem? (i := 228) rfl)), List.forall_mem_cons.mpr ⟨(tb_5 _ (List.mem_of_getElem? (i := 59) rfl)), List.forall_mem_cons.mpr ⟨(tb_5 _ (List.mem_of_getElem? (i := 60) rfl)), List.forall_mem_cons.mpr ⟨(tb_5 _ (List.mem_of_getElem? (i := 61) rfl)), List.forall_mem_cons.mpr ⟨(tb_5 _ (List.mem_of_getElem? (i := 62) rfl)), List.forall_mem_cons.mpr ⟨(tb_1 _ (List.mem_of_getElem? (i := 1) rfl)), List.forall_mem_cons.mpr ⟨(tb_4 _ (List.mem_of_getElem? (i := 224) rfl)), fun _ h => absurd h List.not_mem_nil⟩⟩⟩⟩⟩⟩⟩⟩⟩⟩
def WX3 : List Cond := WL ++ WX2
def WAL3 : List Cond := WALL ++ WX3
theorem WX2_in : ∀ w ∈ WX2, w ∈ lw_tbl := fun w h => by
  rcases List.mem_cons.mp h with rfl | h
  · exact WALL_in _ (wi_24 _ (List.mem_of_getElem? (i := 8) rfl))
  · exact WXg_in w h
theorem WAL3_in : ∀ w ∈ WAL3, w ∈ lw_tbl := fun w h => (List.mem_append.mp h).elim (fun h => WALL_in w h) (fun h => (List.mem_append.mp h).elim (fun h => WL_in w h) (fun h => WX2_in w h))
theorem WAL3_good : ∀ w ∈ WAL3, goodWord w = true := fun w h => (List.mem_append.mp h).elim (fun h => WALL_good w h) (fun h => (List.mem_append.mp h).elim (fun h => WL_good w h) (fun h => WX2_good w h))
theorem goodWAL3 : ∀ w ∈ WALL ++ WX2, w ∈ WAL3 := fun w h => (List.mem_append.mp h).elim (fun h => List.mem_append_left _ h) (fun h => List.mem_append_right _ (List.mem_append_right _ h))
theorem gL_base : GoodIn WAL3 (wsV RL 7 RX10 yX10_base (Cond.code yX10_base cX10_base 4 (some .int) :: (WALL ++ WX2))) := by
  intro w h
  have hw : w ∈ WAL3 := by
    rcases List.mem_append.mp h with h | h
    · simp only [List.mem_cons, List.not_mem_nil, or_false] at h
      rcases h with rfl | rfl | rfl | rfl
      · exact (List.mem_append_right _ (List.mem_append_left _ (List.mem_of_getElem? (i := 0) rfl)))
      · exact (List.mem_append_right _ (List.mem_append_left _ (List.mem_of_getElem? (i := 1) rfl)))
      · exact (List.mem_append_right _ (List.mem_append_left _ (List.mem_of_getElem? (i := 2) rfl)))
      · exact (List.mem_append_right _ (List.mem_append_left _ (List.mem_of_getElem? (i := 8) rfl)))
    · rcases List.mem_cons.mp h with rfl | h
      · exact (List.mem_append_right _ (List.mem_append_left _ (List.mem_of_getElem? (i := 3) rfl)))
      · exact goodWAL3 w h
  exact ⟨hw, good_of_word (WAL3_good w hw)⟩
set_option maxRecDepth 100000 in
set_option maxHeartbeats 4000000 in
theorem mL_base (l : Launch) (hfl : l.stackTraces = false) (D : va_G) (cy : Nat → ClassId) (B oa : Nat) (hoa : ¬ AW B 346 oa) (p0 p1 : Int32) (σ : St) (g : Nat → Int64) {post : Int32 → St → Prop} {postx : St → Prop} (h : wX10_base 0 p0 p1 σ post postx) : Met l yL_base (Cond.codeWith yL_base cL_base 5 (some .int) [(0, 10, 13, 13)] :: WAL3) (rmX 10) (PcL D cy B oa σ g [.ref (B + 0), .int p0, .int p1, .ref oa]) (QcL post postx D cy B oa) 1 6 (ALw B oa) := by
  refine Met.ofWHF (cc := cL_base) (maxL := 5) (ret := some .int) (hh := [(0, 10, 13, 13)]) (by decide +kernel) rfl ?_
  intro p e s m args below meth c s₁ B0 hml hv
  obtain ⟨rfl, ⟨hP, hO⟩, hK, hN, hZ, hE⟩ := hv
  have hx := B0.exec
  have hb := B0.bytes
  have hr := B0.returns
  have hlocks := B0.notSynchronized
  have hown : s.vm.findClass RL = some m.cls := findClass_of_methodNamed B0.named
  have hts0 := atoms_spec (ws := Cond.codeWith yL_base cL_base 5 (some .int) [(0, 10, 13, 13)] :: WAL3) B0.pre
  have hts : ∀ w ∈ WAL3, w.before _ s = true := fun w h => hts0 w (List.mem_cons_of_mem _ h)
  have htab := vx_table (x := yL_base) B0 (hts0 _ List.mem_cons_self)
  have hS : va_S (ALw B oa) s.heap s.heap [] := va_S.rf
  have hAB : ∀ q, AW B 346 q → ALw B oa q := fun q h => Or.inl h
  have hl := lv_entry ([.ref (B + 0), .int p0, .int p1, .ref oa]) (n := 5) (Nat.le_of_ble_eq_true rfl)
  rw [lg_entry_eq]
  generalize (lg_sl ([.ref (B + 0), .int p0, .int p1, .ref oa]) ++ List.replicate (5 - (lg_sl ([.ref (B + 0), .int p0, .int p1, .ref oa])).length) Slot.unset).toArray = ls at hl ⊢
  have hl : lv_has ls 5 [(0, .ref (B + 0)), (1, .int p0), (2, .int p1), (3, .ref oa)] := hl
  refine lv_aload_n hx hb dL_base_0 rfl (lv_at hl 3 rfl) ?_
  refine lv_iconst (v := (0 : Int32)) hx hb dL_base_1 (by decide) ?_
  refine lv_aload_n hx hb dL_base_2 rfl (lv_at hl 0 rfl) ?_
  refine lv_iload_n hx hb dL_base_3 rfl (lv_at hl 1 rfl) ?_
  refine lv_iload_n hx hb dL_base_4 rfl (lv_at hl 2 rfl) ?_
  have pre : PreV s s.heap RX10 (B + 0) (fun a U => PcW D cy B kX σ [.ref (B + 0), .int p0, .int p1] a U ∧ EXW (AW B 346) U) [.int p0, .int p1] := by
    refine ⟨fun a U f mk q => ⟨BW.blind a U f mk q.1, q.2.same rfl rfl⟩, va_recv hK hP (ci := 10) (q := (RX10, TX10, 14)) (q0 := 0) rfl (wW_at (kd := 10) rfl), fun U hU hW => ⟨⟨rfl, by rw [hU]; exact hP, va_K.moved hW.alike hK, hN.warm hW, ?_⟩, (hE.keep hW (fun a _ _ => by rw [hU])).narrow hAB⟩⟩
    rw [kX_len]
    exact (hZ.keep hW (fun a _ _ => by rw [hU])).narrow hAB
  refine vx_calli (vx_runV (As := [.int p0, .int p1]) (rest := [.int 0, .ref oa]) ⟨hx, hb, hml, hown, hts⟩ (mX10_base l hfl D cy B 0 p0 p1 σ (by decide +kernel) h) (cwV 2 hts gL_base rfl rfl rfl hd_X10_base ⟨Nat.le_of_ble_eq_true rfl, Nat.le_of_ble_eq_true rfl⟩) pre rfl rfl hl.1 rfl (lv_room (Nat.le_of_ble_eq_true rfl)) dL_base_5 ⟨Nat.le_of_ble_eq_true rfl, Nat.le_of_ble_eq_true rfl⟩) hS (fun q _ h => hAB q h) hAB (fun q _ h => hAB q h) ?_ ?_
  · intro E ce q9 u t H1 locs1 ht hvm hpx hBX hz hk hS1 hq9 hv9 hcl9
    obtain ⟨rfl, hPu⟩ := hBX
    rw [ht] at hPu
    have hO1 : va_P D vwCl (wO cy oa g) H1 := hO.kept (fun k q hq => hk q.1 ((hO k q hq).lt) (by
      have hq1 : q.1 = oa := by
        match k, hq with
        | 0, hq => cases hq; rfl
      rw [hq1]; exact hoa))
    refine vx_catch (name := nseN) hown [] ⟨0, 10, 13, 13⟩ [] htab (fun z hz => absurd hz List.not_mem_nil) (by decide) (by decide) (hts _ (List.mem_append_right _ (List.mem_append_left _ (List.mem_of_getElem? (i := 9) rfl)))) (hE.2.2.2.2.2.use rfl) hq9 hv9 hcl9 ?_
    refine lv_astore (lv' := [(4, .ref q9), (0, .ref (B + 0)), (1, .int p0), (2, .int p1), (3, .ref oa)]) hx hb dL_base_13 hl (by decide) rfl (fun ls hl => ?_)
    refine lv_iconst (v := (1 : Int32)) hx hb dL_base_15 (by decide) ?_
    exact W.iret hx hb hr (fun t2 ht2 hW2 => ⟨⟨1, (u, g), rfl, Or.inr ⟨rfl, hpx⟩, by rw [ht2]; exact hPu, by rw [ht2]; exact hO1⟩, hS1.F ht2⟩) hS1.2.2 dL_base_16
  · intro r u t H1 locs1 ht hvm hp hB hz hk hS1
    have hPu := hB.1
    rw [ht] at hPu
    have hO1 : va_P D vwCl (wO cy oa g) H1 := hO.kept (fun k q hq => hk q.1 ((hO k q hq).lt) (by
      have hq1 : q.1 = oa := by
        match k, hq with
        | 0, hq => cases hq; rfl
      rw [hq1]; exact hoa))
    refine lv_i2l hx hb dL_base_8 rfl ?_
    have hD2 : va_D (ALw B oa) (wW cy B kX u ++ wO cy oa g) := by
      refine va_D.app (wW_D (fun o ho => Or.inl ⟨by omega, by rw [kX_len] at ho; omega⟩) u) ⟨fun i j x y hi hj _ => ?_, fun k q hq => ?_⟩ (fun i j x y hx hy hxy => ?_)
      · match i, j, hi, hj with
        | 0, 0, _, _ => rfl
      · match k, hq with
        | 0, hq => cases hq; exact Or.inr rfl
      · have h1 := (wW_D (cy := cy) (B := B) (ks := kX) (A := AW B 346) (fun o ho => ⟨by omega, by rw [kX_len] at ho; omega⟩) u).2 i x hx
        match j, hy with
        | 0, hy =>
          cases hy
          rw [hxy] at h1
          exact hoa h1
    have hlenX : (wW cy B kX u).length = 346 := by rw [wW_len, kX_len]
    refine va_last hx hb hK (hPu.app hO1) hD2 hS1 346 2 (n := 1) (f := g) (cA := cy 2) (by rw [List.getElem?_append_right (by rw [hlenX]; exact Nat.le_refl _), hlenX]; rfl) rfl (by unfold vp_in; decide) dL_base_9 (fun H2 locs2 hP2 _ hS2 => ?_)
    rw [List.set_append_right _ _ (by rw [hlenX]; exact Nat.le_refl _), hlenX] at hP2
    have hPX2 : va_P D vwCl (wW cy B kX u) H2 := fun k q hq => hP2 k q (by rw [List.getElem?_append_left (List.getElem?_eq_some_iff.mp hq).1]; exact hq)
    have hPO2 : va_P D vwCl (wO cy oa (vp_updL g (0 : Int32).toNatClampNeg r.toInt64)) H2 := fun k q hq => hP2 (346 + k) q (by rw [List.getElem?_append_right (by rw [hlenX]; omega), hlenX, show 346 + k - 346 = k by omega]; exact hq)
    refine lv_goto (tgt := 17) hx hb dL_base_10 (by decide) ?_
    refine lv_iconst (v := (0 : Int32)) hx hb dL_base_17 (by decide) ?_
    exact W.iret hx hb hr (fun t2 ht2 hW2 => ⟨⟨0, (u, vp_updL g (0 : Int32).toNatClampNeg r.toInt64), rfl, Or.inl ⟨rfl, r, rfl, hp⟩, by rw [ht2]; exact hPX2, by rw [ht2]; exact hPO2⟩, hS2.F ht2⟩) hS2.2.2 dL_base_18
theorem gL_wire : GoodIn WAL3 (wsV RL 15 RX10 yX10_wire (Cond.code yX10_wire cX10_wire 4 (some .int) :: (WALL ++ WX2))) := by
  intro w h
  have hw : w ∈ WAL3 := by
    rcases List.mem_append.mp h with h | h
    · simp only [List.mem_cons, List.not_mem_nil, or_false] at h
      rcases h with rfl | rfl | rfl | rfl
      · exact (List.mem_append_right _ (List.mem_append_left _ (List.mem_of_getElem? (i := 4) rfl)))
      · exact (List.mem_append_right _ (List.mem_append_left _ (List.mem_of_getElem? (i := 5) rfl)))
      · exact (List.mem_append_right _ (List.mem_append_left _ (List.mem_of_getElem? (i := 6) rfl)))
      · exact (List.mem_append_right _ (List.mem_append_left _ (List.mem_of_getElem? (i := 8) rfl)))
    · rcases List.mem_cons.mp h with rfl | h
      · exact (List.mem_append_right _ (List.mem_append_left _ (List.mem_of_getElem? (i := 7) rfl)))
      · exact goodWAL3 w h
  exact ⟨hw, good_of_word (WAL3_good w hw)⟩
set_option maxRecDepth 100000 in
set_option maxHeartbeats 4000000 in
theorem mL_wire (l : Launch) (hfl : l.stackTraces = false) (D : va_G) (cy : Nat → ClassId) (B oa : Nat) (hoa : ¬ AW B 346 oa) (p0 p1 : Int32) (σ : St) (g : Nat → Int64) {post : Int32 → St → Prop} {postx : St → Prop} (h : wX10_wire 0 p0 p1 σ post postx) : Met l yL_wire (Cond.codeWith yL_wire cL_wire 5 (some .int) [(0, 10, 13, 13)] :: WAL3) (rmX 10) (PcL D cy B oa σ g [.ref (B + 0), .int p0, .int p1, .ref oa]) (QcL post postx D cy B oa) 1 6 (ALw B oa) := by
  refine Met.ofWHF (cc := cL_wire) (maxL := 5) (ret := some .int) (hh := [(0, 10, 13, 13)]) (by decide +kernel) rfl ?_
  intro p e s m args below meth c s₁ B0 hml hv
  obtain ⟨rfl, ⟨hP, hO⟩, hK, hN, hZ, hE⟩ := hv
  have hx := B0.exec
  have hb := B0.bytes
  have hr := B0.returns
  have hlocks := B0.notSynchronized
  have hown : s.vm.findClass RL = some m.cls := findClass_of_methodNamed B0.named
  have hts0 := atoms_spec (ws := Cond.codeWith yL_wire cL_wire 5 (some .int) [(0, 10, 13, 13)] :: WAL3) B0.pre
  have hts : ∀ w ∈ WAL3, w.before _ s = true := fun w h => hts0 w (List.mem_cons_of_mem _ h)
  have htab := vx_table (x := yL_base) B0 (hts0 _ List.mem_cons_self)
  have hS : va_S (ALw B oa) s.heap s.heap [] := va_S.rf
  have hAB : ∀ q, AW B 346 q → ALw B oa q := fun q h => Or.inl h
  have hl := lv_entry ([.ref (B + 0), .int p0, .int p1, .ref oa]) (n := 5) (Nat.le_of_ble_eq_true rfl)
  rw [lg_entry_eq]
  generalize (lg_sl ([.ref (B + 0), .int p0, .int p1, .ref oa]) ++ List.replicate (5 - (lg_sl ([.ref (B + 0), .int p0, .int p1, .ref oa])).length) Slot.unset).toArray = ls at hl ⊢
  have hl : lv_has ls 5 [(0, .ref (B + 0)), (1, .int p0), (2, .int p1), (3, .ref oa)] := hl
  refine lv_aload_n hx hb dL_wire_0 rfl (lv_at hl 3 rfl) ?_
  refine lv_iconst (v := (0 : Int32)) hx hb dL_wire_1 (by decide) ?_
  refine lv_aload_n hx hb dL_wire_2 rfl (lv_at hl 0 rfl) ?_
  refine lv_iload_n hx hb dL_wire_3 rfl (lv_at hl 1 rfl) ?_
  refine lv_iload_n hx hb dL_wire_4 rfl (lv_at hl 2 rfl) ?_
  have pre : PreV s s.heap RX10 (B + 0) (fun a U => PcW D cy B kX σ [.ref (B + 0), .int p0, .int p1] a U ∧ EXW (AW B 346) U) [.int p0, .int p1] := by
    refine ⟨fun a U f mk q => ⟨BW.blind a U f mk q.1, q.2.same rfl rfl⟩, va_recv hK hP (ci := 10) (q := (RX10, TX10, 14)) (q0 := 0) rfl (wW_at (kd := 10) rfl), fun U hU hW => ⟨⟨rfl, by rw [hU]; exact hP, va_K.moved hW.alike hK, hN.warm hW, ?_⟩, (hE.keep hW (fun a _ _ => by rw [hU])).narrow hAB⟩⟩
    rw [kX_len]
    exact (hZ.keep hW (fun a _ _ => by rw [hU])).narrow hAB
  refine vx_calli (vx_runV (As := [.int p0, .int p1]) (rest := [.int 0, .ref oa]) ⟨hx, hb, hml, hown, hts⟩ (mX10_wire l hfl D cy B 0 p0 p1 σ (by decide +kernel) h) (cwV 2 hts gL_wire rfl rfl rfl hd_X10_wire ⟨Nat.le_of_ble_eq_true rfl, Nat.le_of_ble_eq_true rfl⟩) pre rfl rfl hl.1 rfl (lv_room (Nat.le_of_ble_eq_true rfl)) dL_wire_5 ⟨Nat.le_of_ble_eq_true rfl, Nat.le_of_ble_eq_true rfl⟩) hS (fun q _ h => hAB q h) hAB (fun q _ h => hAB q h) ?_ ?_
  · intro E ce q9 u t H1 locs1 ht hvm hpx hBX hz hk hS1 hq9 hv9 hcl9
    obtain ⟨rfl, hPu⟩ := hBX
    rw [ht] at hPu
    have hO1 : va_P D vwCl (wO cy oa g) H1 := hO.kept (fun k q hq => hk q.1 ((hO k q hq).lt) (by
      have hq1 : q.1 = oa := by
        match k, hq with
        | 0, hq => cases hq; rfl
      rw [hq1]; exact hoa))
    refine vx_catch (name := nseN) hown [] ⟨0, 10, 13, 13⟩ [] htab (fun z hz => absurd hz List.not_mem_nil) (by decide) (by decide) (hts _ (List.mem_append_right _ (List.mem_append_left _ (List.mem_of_getElem? (i := 9) rfl)))) (hE.2.2.2.2.2.use rfl) hq9 hv9 hcl9 ?_
    refine lv_astore (lv' := [(4, .ref q9), (0, .ref (B + 0)), (1, .int p0), (2, .int p1), (3, .ref oa)]) hx hb dL_wire_13 hl (by decide) rfl (fun ls hl => ?_)
    refine lv_iconst (v := (1 : Int32)) hx hb dL_wire_15 (by decide) ?_
    exact W.iret hx hb hr (fun t2 ht2 hW2 => ⟨⟨1, (u, g), rfl, Or.inr ⟨rfl, hpx⟩, by rw [ht2]; exact hPu, by rw [ht2]; exact hO1⟩, hS1.F ht2⟩) hS1.2.2 dL_wire_16
  · intro r u t H1 locs1 ht hvm hp hB hz hk hS1
    have hPu := hB.1
    rw [ht] at hPu
    have hO1 : va_P D vwCl (wO cy oa g) H1 := hO.kept (fun k q hq => hk q.1 ((hO k q hq).lt) (by
      have hq1 : q.1 = oa := by
        match k, hq with
        | 0, hq => cases hq; rfl
      rw [hq1]; exact hoa))
    refine lv_i2l hx hb dL_wire_8 rfl ?_
    have hD2 : va_D (ALw B oa) (wW cy B kX u ++ wO cy oa g) := by
      refine va_D.app (wW_D (fun o ho => Or.inl ⟨by omega, by rw [kX_len] at ho; omega⟩) u) ⟨fun i j x y hi hj _ => ?_, fun k q hq => ?_⟩ (fun i j x y hx hy hxy => ?_)
      · match i, j, hi, hj with
        | 0, 0, _, _ => rfl
      · match k, hq with
        | 0, hq => cases hq; exact Or.inr rfl
      · have h1 := (wW_D (cy := cy) (B := B) (ks := kX) (A := AW B 346) (fun o ho => ⟨by omega, by rw [kX_len] at ho; omega⟩) u).2 i x hx
        match j, hy with
        | 0, hy =>
          cases hy
          rw [hxy] at h1
          exact hoa h1
    have hlenX : (wW cy B kX u).length = 346 := by rw [wW_len, kX_len]
    refine va_last hx hb hK (hPu.app hO1) hD2 hS1 346 2 (n := 1) (f := g) (cA := cy 2) (by rw [List.getElem?_append_right (by rw [hlenX]; exact Nat.le_refl _), hlenX]; rfl) rfl (by unfold vp_in; decide) dL_wire_9 (fun H2 locs2 hP2 _ hS2 => ?_)
    rw [List.set_append_right _ _ (by rw [hlenX]; exact Nat.le_refl _), hlenX] at hP2
    have hPX2 : va_P D vwCl (wW cy B kX u) H2 := fun k q hq => hP2 k q (by rw [List.getElem?_append_left (List.getElem?_eq_some_iff.mp hq).1]; exact hq)
    have hPO2 : va_P D vwCl (wO cy oa (vp_updL g (0 : Int32).toNatClampNeg r.toInt64)) H2 := fun k q hq => hP2 (346 + k) q (by rw [List.getElem?_append_right (by rw [hlenX]; omega), hlenX, show 346 + k - 346 = k by omega]; exact hq)
    refine lv_goto (tgt := 17) hx hb dL_wire_10 (by decide) ?_
    refine lv_iconst (v := (0 : Int32)) hx hb dL_wire_17 (by decide) ?_
    exact W.iret hx hb hr (fun t2 ht2 hW2 => ⟨⟨0, (u, vp_updL g (0 : Int32).toNatClampNeg r.toInt64), rfl, Or.inl ⟨rfl, r, rfl, hp⟩, by rw [ht2]; exact hPX2, by rw [ht2]; exact hPO2⟩, hS2.F ht2⟩) hS2.2.2 dL_wire_18
