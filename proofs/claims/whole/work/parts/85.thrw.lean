/-! the words of the throws of base and wire -/
abbrev nseN : String := "java/util/NoSuchElementException"
def atX : List Cond := vy_atS RX10 163 nseN 13 prog_28_method_4_code ["java/lang/RuntimeException", "java/lang/Exception"]
def nbX : List Cond := [.declares (Bundle.initS "java/lang/RuntimeException"), .declares (Bundle.initS "java/lang/Exception"), .declares (Bundle.initS Bundle.tN), .castable nseN nseN]
theorem atX_bad : ∀ w ∈ atX.filter (fun w => !goodWord w), w ∈ nbX := by decide +kernel
theorem atX_ot : ∀ w ∈ Cond.classLink RX10 159 nseN :: Cond.initialized nseN :: atX, vx_ot w = true := by decide +kernel
def WXg : List Cond := atX.filter goodWord
theorem WXg_in : ∀ w ∈ WXg, w ∈ lw_tbl := by decide +kernel
theorem nbX_in : ∀ w ∈ nbX, w ∈ lw_tbl := by decide +kernel
/-- .. and of the law's own two callers -/
def WX2 : List Cond := Cond.initialized nseN :: WXg
theorem WX2_good : ∀ w ∈ WX2, goodWord w = true := fun w h => by
  rcases List.mem_cons.mp h with rfl | h
  · rfl
  · exact (List.mem_filter.mp h).2
abbrev rmX (d : Nat) : Room := { frames := d, cells := 1, slots := 6, locals := 60 * d }
/-- what a throw asks of the heap and of words that a list may not hold -/
def EXW (A : Nat → Prop) (U : State) : Prop := vx_Zq Bundle.tN "UNASSIGNED_STACK" Bundle.steD A U U.heap ∧ vx_Zq Bundle.tN "SUPPRESSED_SENTINEL" Bundle.listD A U U.heap ∧ va_Nw (.declares (Bundle.initS "java/lang/RuntimeException")) U ∧ va_Nw (.declares (Bundle.initS "java/lang/Exception")) U ∧ va_Nw (.declares (Bundle.initS Bundle.tN)) U ∧ va_Nw (.castable nseN nseN) U
theorem EXW.keep {A : Nat → Prop} {s U : State} (hW : s.WarmedH U.vm) (hq : ∀ a : Nat, a < s.heap.size → ¬ A a → U.heap[a]? = s.heap[a]?) (h : EXW A s) : EXW A U := by
  obtain ⟨h1, h2, h3, h4, h5, h6⟩ := h
  exact ⟨(h1.moved hW.alike).kept hq, (h2.moved hW.alike).kept hq, va_Nw.warmD hW h3, va_Nw.warmD hW h4, va_Nw.warmD hW h5, va_Nw.warmC hW h6⟩
theorem EXW.same {A : Nat → Prop} {u U : State} (hv : u.vm = U.vm) (hh : U.heap = u.heap) (h : EXW A u) : EXW A U := by
  obtain ⟨h1, h2, h3, h4, h5, h6⟩ := h
  have hvm : u.vm.Alike U.vm := by rw [hv]; exact Vm.Alike.refl U.vm
  exact ⟨(h1.moved hvm).kept (fun a _ _ => by rw [hh]), (h2.moved hvm).kept (fun a _ _ => by rw [hh]), h3.same rfl hv, h4.same rfl hv, h5.same rfl hv, h6.same rfl hv⟩
theorem EXW.narrow {A B : Nat → Prop} {U : State} (hAB : ∀ q, B q → A q) (h : EXW A U) : EXW B U := ⟨h.1.narrow hAB, h.2.1.narrow hAB, h.2.2⟩
theorem EXW.words {A : Nat → Prop} {s : State} {args : Array Value} (h : EXW A s) (hg : ∀ w ∈ WXg, w.before args s = true) : ∀ w ∈ atX, w.before args s = true := by
  obtain ⟨h1, h2, h3, h4, h5, h6⟩ := h
  refine vx_hat hg atX_bad (fun w hw => ?_)
  simp only [nbX, List.mem_cons, List.not_mem_nil, or_false] at hw
  rcases hw with rfl | rfl | rfl | rfl
  · exact h3.use rfl
  · exact h4.use rfl
  · exact h5.use rfl
  · exact h6.use rfl
def XCx (postx : St → Prop) (D : va_G) (cy : Nat → ClassId) (B : Nat) : String → State → State → Prop := vx_X postx (fun E σ t => E = nseN ∧ va_P D vwCl (wW cy B kX σ) t.heap) (AW B 346)
def wX10_base (v0 : Nat) (v1 : Int32) (v2 : Int32) (σ : St) (post : Int32 → St → Prop) (postx : St → Prop) : Prop :=
  wX10_isBase v0 v1 σ (fun r1 s1 =>
    (r1 = true →
      ∀ p1 : Nat, p1 = (s1.1 v0 2).toNatClampNeg → kX[p1]? = some 9 ∧
      vp_in v1 5 ∧
      (v2 = (0 : Int32) →
        post (s1.1 ((p1 + 2) + 35 + 1 * v1.toNatClampNeg) 0) s1
      ) ∧ (¬ v2 = (0 : Int32) →
      (v2 = (1 : Int32) →
        post (s1.1 ((p1 + 2) + 35 + 1 * v1.toNatClampNeg) 1) s1
      ) ∧ (¬ v2 = (1 : Int32) →
      (v2 = (2 : Int32) →
        post (s1.1 ((p1 + 2) + 35 + 1 * v1.toNatClampNeg) 2) s1
      ) ∧ (¬ v2 = (2 : Int32) →
      (v2 = (3 : Int32) →
        post (s1.1 ((p1 + 2) + 35 + 1 * v1.toNatClampNeg) 3) s1
      ) ∧ (¬ v2 = (3 : Int32) →
      (v2 = (4 : Int32) →
        ∀ p2 : Nat, p2 = (s1.1 v0 2).toNatClampNeg → kX[p2]? = some 9 ∧
        wX1_determinant ((p1 + 2) + 35 + 1 * v1.toNatClampNeg) (s1.1 p2 0) s1 (fun r2 s2 =>
          post r2 s2)
      ) ∧ (¬ v2 = (4 : Int32) →
        postx s1)))))
    ) ∧ (r1 = false →
      postx s1))

def wX10_wire (v0 : Nat) (v1 : Int32) (v2 : Int32) (σ : St) (post : Int32 → St → Prop) (postx : St → Prop) : Prop :=
  wX4_hasWire (v0 + 86) v1 σ (fun r1 s1 =>
    (r1 = false →
      postx s1
    ) ∧ (r1 = true →
      (v2 < 0 →
        postx s1
      ) ∧ (¬ v2 < 0 →
        (v2 ≤ (3 : Int32) →
          ∀ x1 : Int32, x1 = (((2 : Int32) * v1) + (v2 / (2 : Int32))) →
          vp_in x1 20 ∧
          ∀ x2 : Int32, x2 = (s1.1 ((v0 + 86) + 2) x1.toNatClampNeg) →
          (¬ (v2 - v2 / (2 : Int32) * (2 : Int32)) = 0 →
            post (x2 - x2 / (4 : Int32) * (4 : Int32)) s1
          ) ∧ ((v2 - v2 / (2 : Int32) * (2 : Int32)) = 0 →
            post (x2 / (4 : Int32)) s1)
        ) ∧ (¬ v2 ≤ (3 : Int32) →
          postx s1))))
theorem hd_X10_base : yX10_base.cls = RX10 ∧ yX10_base.cls ≠ "java/lang/invoke/MethodHandle" ∧ yX10_base.cls ≠ "java/lang/invoke/VarHandle" ∧ (parseMethodDescriptor yX10_base.desc).map (fun d => d.parameters.length) = some 2 := by decide +kernel
set_option maxRecDepth 100000 in
set_option maxHeartbeats 4000000 in
theorem mX10_base (l : Launch) (hfl : l.stackTraces = false) (D : va_G) (cy : Nat → ClassId) (B : Nat) (v0 : Nat) (v1 : Int32) (v2 : Int32) (σ : St) (h0 : kX[v0]? = some 10) {post : Int32 → St → Prop} {postx : St → Prop} (h : wX10_base v0 v1 v2 σ post postx) : vx_Met l yX10_base (Cond.code yX10_base cX10_base 4 (some .int) :: (WALL ++ WX2)) (rmX 8) (fun a U => PcW D cy B kX σ [.ref (B + v0), .int v1, .int v2] a U ∧ EXW (AW B 346) U) (va_Qi post (BW D cy B kX) (AW B 346)) (XCx postx D cy B) 1 6 (AW B 346) := by
  refine vx_ofW (cc := cX10_base) (maxL := 4) (ret := (some .int)) (by decide) rfl ?_
  intro p e s m args below meth c s₁ B0 hml hout hv
  obtain ⟨⟨rfl, hP, hK, hN, hZ⟩, hE⟩ := hv
  rw [kX_len] at hZ
  have hts0 := atoms_spec (ws := Cond.code yX10_base cX10_base 4 (some .int) :: (WALL ++ WX2)) B0.pre
  have hX2 : ∀ w ∈ WX2, w.before _ s = true := fun w h => hts0 w (List.mem_cons_of_mem _ (List.mem_append_right _ h))
  have X : kC p s m _ meth c cX10_base 4 (some .int) WALL RX10 D cy (AW B 346) := ⟨⟨B0.exec, B0.bytes, hml, findClass_of_methodNamed B0.named, fun w h => hts0 w (List.mem_cons_of_mem _ (List.mem_append_left _ h))⟩, B0.returns, B0.notSynchronized, hK, hN, hZ⟩
  have hat := EXW.words hE (fun w h => hX2 w (List.mem_cons_of_mem _ h))
  obtain ⟨⟨hx, hb, hml, hown, hts⟩, hr, hlk, hK, hN, hZ⟩ := id X
  obtain ⟨adK, adV, hvS, hvR, ⟨a161, hs161⟩, ⟨a185, hs185⟩, ⟨a218, hs218⟩, hvZ⟩ := id hZ
  have hD : ∀ σ, va_D (AW B 346) (wW cy B kX σ) := AW_D kX_len
  have hS : va_S (AW B 346) s.heap s.heap [] := va_S.rf
  have hl := lv_entry ([.ref (B + v0), .int v1, .int v2]) (n := 4) (Nat.le_of_ble_eq_true rfl)
  rw [lg_entry_eq]
  generalize (lg_sl ([.ref (B + v0), .int v1, .int v2]) ++ List.replicate (4 - (lg_sl ([.ref (B + v0), .int v1, .int v2])).length) Slot.unset).toArray = ls at hl ⊢
  have hl : lv_has ls 4 [(0, .ref (B + v0)), (1, .int v1), (2, .int v2)] := hl
  unfold wX10_base at h
  refine lv_aload_n hx hb dX10_base_0 rfl (lv_at hl 0 rfl) ?_
  refine lv_iload_n hx hb dX10_base_1 rfl (lv_at hl 1 rfl) ?_
  refine rk_callz (va_runV (As := [.int v1]) (rest := []) X.1 (mX10_isBase l D cy B v0 v1 σ h0 h) (cwV 1 hts (gW_V (wi_24 _ (List.mem_of_getElem? (i := 14) rfl)) (wi_24 _ (List.mem_of_getElem? (i := 15) rfl)) (wi_24 _ (List.mem_of_getElem? (i := 16) rfl)) (wi_2 _ (List.mem_of_getElem? (i := 8) rfl)) (wi_24 _ (List.mem_of_getElem? (i := 5) rfl))) rfl rfl rfl hd_X10_isBase ⟨Nat.le_of_ble_eq_true rfl, Nat.le_of_ble_eq_true rfl⟩) (rk_preV X hS hP h0 rfl rfl [.int v1]) rfl rfl hl.1 rfl (lv_room (Nat.le_of_ble_eq_true rfl)) dX10_base_2 ⟨Nat.zero_le _, Nat.zero_le _⟩) hS (fun _ h => h) (fun r1 s1 H locs h hP hS => ?_)
  refine lv_if_ne (tgt := 18) hx hb dX10_base_5 (by decide) (fun c1 => ?_) (fun c1 => ?_)
  · have h := h.1 (b2i_t c1)
    refine lv_aload_n hx hb dX10_base_18 rfl (lv_at hl 0 rfl) ?_
    refine rk_get X hP (C := RX10) (T := TX10) (N := 14) (ci := 10) wix_10 h0 rfl rfl 2 (by decide) (wi_20 _ (List.mem_of_getElem? (i := 11) rfl)) rfl rfl dX10_base_19 ?_
    obtain ⟨p1, ep1⟩ : ∃ z : Nat, z = (s1.1 v0 2).toNatClampNeg := ⟨_, rfl⟩
    rw [← ep1]
    obtain ⟨kp1, h⟩ := h p1 ep1
    refine rk_get X hP (C := RX9) (T := TX9) (N := 10) (ci := 9) wix_9 kp1 rfl rfl 4 (by decide) (wi_24 _ (List.mem_of_getElem? (i := 9) rfl)) rfl rfl dX10_base_22 ?_
    refine lv_iload_n hx hb dX10_base_25 rfl (lv_at hl 1 rfl) ?_
    obtain ⟨b1, h⟩ := h
    refine rk_aald X hP (C := RX1) (n := 5) (t0 := 4) (d := 35) (r := 1) (klX_X9_4 kp1) (fun _ _ => rfl) rfl b1 dX10_base_26 ?_
    refine lv_astore_n (lv' := [(3, .ref (B + ((p1 + 2) + 35 + 1 * v1.toNatClampNeg))), (0, .ref (B + v0)), (1, .int v1), (2, .int v2)]) hx hb dX10_base_27 rfl hl (by decide) rfl (fun ls hl => ?_)
    refine lv_iload_n hx hb dX10_base_28 rfl (lv_at hl 3 rfl) ?_
    by_cases c2 : v2 = (0 : Int32)
    · have h := h.1 c2
      refine lv_tableIn (tgt := 64) hx hb dX10_base_29 (by rw [c2]; decide) (by rw [c2]; decide) (by rw [c2]; rfl) (by decide) ?_
      refine lv_aload_n hx hb dX10_base_64 rfl (lv_at hl 0 rfl) ?_
      refine rk_get X hP (C := RX1) (T := TX1) (N := 4) (ci := 1) wix_1 (klX_13 (klX_X9_4 kp1) (vp_lt b1)) rfl rfl 0 (by decide) (wi_24 _ (List.mem_of_getElem? (i := 10) rfl)) rfl rfl dX10_base_65 ?_
      refine W.widen (k := 1) (n := 6) (Nat.le_of_ble_eq_true rfl) (Nat.le_of_ble_eq_true rfl) ?_
      refine vx_ret ?_
      exact rk_iret X rfl kX_len h hP hS dX10_base_68
    have h := h.2 c2
    by_cases c3 : v2 = (1 : Int32)
    · have h := h.1 c3
      refine lv_tableIn (tgt := 69) hx hb dX10_base_29 (by rw [c3]; decide) (by rw [c3]; decide) (by rw [c3]; rfl) (by decide) ?_
      refine lv_aload_n hx hb dX10_base_69 rfl (lv_at hl 0 rfl) ?_
      refine rk_get X hP (C := RX1) (T := TX1) (N := 4) (ci := 1) wix_1 (klX_13 (klX_X9_4 kp1) (vp_lt b1)) rfl rfl 1 (by decide) (wi_24 _ (List.mem_of_getElem? (i := 11) rfl)) rfl rfl dX10_base_70 ?_
      refine W.widen (k := 1) (n := 6) (Nat.le_of_ble_eq_true rfl) (Nat.le_of_ble_eq_true rfl) ?_
      refine vx_ret ?_
      exact rk_iret X rfl kX_len h hP hS dX10_base_73
    have h := h.2 c3
    by_cases c4 : v2 = (2 : Int32)
    · have h := h.1 c4
      refine lv_tableIn (tgt := 74) hx hb dX10_base_29 (by rw [c4]; decide) (by rw [c4]; decide) (by rw [c4]; rfl) (by decide) ?_
      refine lv_aload_n hx hb dX10_base_74 rfl (lv_at hl 0 rfl) ?_
      refine rk_get X hP (C := RX1) (T := TX1) (N := 4) (ci := 1) wix_1 (klX_13 (klX_X9_4 kp1) (vp_lt b1)) rfl rfl 2 (by decide) (wi_24 _ (List.mem_of_getElem? (i := 12) rfl)) rfl rfl dX10_base_75 ?_
      refine W.widen (k := 1) (n := 6) (Nat.le_of_ble_eq_true rfl) (Nat.le_of_ble_eq_true rfl) ?_
      refine vx_ret ?_
      exact rk_iret X rfl kX_len h hP hS dX10_base_78
    have h := h.2 c4
    by_cases c5 : v2 = (3 : Int32)
    · have h := h.1 c5
      refine lv_tableIn (tgt := 79) hx hb dX10_base_29 (by rw [c5]; decide) (by rw [c5]; decide) (by rw [c5]; rfl) (by decide) ?_
      refine lv_aload_n hx hb dX10_base_79 rfl (lv_at hl 0 rfl) ?_
      refine rk_get X hP (C := RX1) (T := TX1) (N := 4) (ci := 1) wix_1 (klX_13 (klX_X9_4 kp1) (vp_lt b1)) rfl rfl 3 (by decide) (wi_24 _ (List.mem_of_getElem? (i := 13) rfl)) rfl rfl dX10_base_80 ?_
      refine W.widen (k := 1) (n := 6) (Nat.le_of_ble_eq_true rfl) (Nat.le_of_ble_eq_true rfl) ?_
      refine vx_ret ?_
      exact rk_iret X rfl kX_len h hP hS dX10_base_83
    have h := h.2 c5
    by_cases c6 : v2 = (4 : Int32)
    · have h := h.1 c6
      refine lv_tableIn (tgt := 84) hx hb dX10_base_29 (by rw [c6]; decide) (by rw [c6]; decide) (by rw [c6]; rfl) (by decide) ?_
      refine lv_aload_n hx hb dX10_base_84 rfl (lv_at hl 0 rfl) ?_
      refine lv_aload_n hx hb dX10_base_85 rfl (lv_at hl 1 rfl) ?_
      refine rk_get X hP (C := RX10) (T := TX10) (N := 14) (ci := 10) wix_10 h0 rfl rfl 2 (by decide) (wi_20 _ (List.mem_of_getElem? (i := 11) rfl)) rfl rfl dX10_base_86 ?_
      obtain ⟨p2, ep2⟩ : ∃ z : Nat, z = (s1.1 v0 2).toNatClampNeg := ⟨_, rfl⟩
      rw [← ep2]
      obtain ⟨kp2, h⟩ := h p2 ep2
      refine rk_get X hP (C := RX9) (T := TX9) (N := 10) (ci := 9) wix_9 kp2 rfl rfl 0 (by decide) (wi_23 _ (List.mem_of_getElem? (i := 8) rfl)) rfl rfl dX10_base_89 ?_
      refine rk_calli (va_runV (As := [.int (s1.1 p2 0)]) (rest := []) X.1 (mX1_determinant l D cy B ((p1 + 2) + 35 + 1 * v1.toNatClampNeg) (s1.1 p2 0) s1 (klX_13 (klX_X9_4 kp1) (vp_lt b1)) h) (cwV 1 hts (gW_V (wi_24 _ (List.mem_of_getElem? (i := 17) rfl)) (wi_2 _ (List.mem_of_getElem? (i := 12) rfl)) (wi_2 _ (List.mem_of_getElem? (i := 13) rfl)) (wi_2 _ (List.mem_of_getElem? (i := 14) rfl)) (wi_2 _ (List.mem_of_getElem? (i := 6) rfl))) rfl rfl rfl hd_X1_determinant ⟨Nat.le_of_ble_eq_true rfl, Nat.le_of_ble_eq_true rfl⟩) (rk_preV X hS hP (klX_13 (klX_X9_4 kp1) (vp_lt b1)) rfl rfl [.int (s1.1 p2 0)]) rfl rfl hl.1 rfl (lv_room (Nat.le_of_ble_eq_true rfl)) dX10_base_92 ⟨Nat.zero_le _, Nat.zero_le _⟩) hS (fun _ h => h) (fun r2 s2 H locs h hP hS => ?_)
      refine W.widen (k := 1) (n := 6) (Nat.le_of_ble_eq_true rfl) (Nat.le_of_ble_eq_true rfl) ?_
      refine vx_ret ?_
      exact rk_iret X rfl kX_len h hP hS dX10_base_95
    have h := h.2 c6
    refine lv_tableOut (tgt := 96) hx hb dX10_base_29 (sw_out5 c2 c3 c4 c5 c6) (by decide) ?_
    refine vy_makeS hx hb hfl (own := RX10) (cls := nseN) (text := "a base has no such part") (names := ["java/lang/RuntimeException", "java/lang/Exception"]) (ik := 159) (is := 185) (ic := 163) (sa := a185) (A := AW B 346) (ix := 13) (rx := prog_28_method_4_code) (by decide +kernel) (by decide +kernel) (by decide +kernel) (by decide +kernel) hown (by decide +kernel) (by decide +kernel) (hts _ (wi_24 _ (List.mem_of_getElem? (i := 7) rfl))) (hts _ (wi_24 _ (List.mem_of_getElem? (i := 8) rfl))) hs185 hat atX_ot hE.1 hE.2.1 hS (hl.1.trans hml.symm) dX10_base_96 dX10_base_99 dX10_base_100 dX10_base_102 (Nat.le_of_ble_eq_true rfl) (Nat.le_of_ble_eq_true rfl) (Nat.le_of_ble_eq_true rfl) (Nat.le_of_ble_eq_true rfl) (fun H1 ce g1 g2 g3 g4 g5 => ?_)
    refine vx_athrow hx hb dX10_base_105 ?_
    exact vx_out (fun x hx => (hout x hx).elim) hlk g3 g4 g5 (fun t ht hvm => ⟨s1, h, ⟨rfl, by rw [ht]; exact hP.kept (fun k q hk => g2 q.1 ((hP k q hk).lt))⟩, by rw [ht]; exact Nat.le_trans hS.1 g1, fun q q1 q2 => by rw [ht, g2 q (Nat.lt_of_lt_of_le q1 hS.1)]; exact hS.2.1 q q1 q2⟩) hS.2.2 (Nat.le_of_ble_eq_true rfl) (Nat.le_of_ble_eq_true rfl)
  · have h := h.2 (b2i_f c1)
    refine vy_makeS hx hb hfl (own := RX10) (cls := nseN) (text := "no such base") (names := ["java/lang/RuntimeException", "java/lang/Exception"]) (ik := 159) (is := 161) (ic := 163) (sa := a161) (A := AW B 346) (ix := 13) (rx := prog_28_method_4_code) (by decide +kernel) (by decide +kernel) (by decide +kernel) (by decide +kernel) hown (by decide +kernel) (by decide +kernel) (hts _ (wi_24 _ (List.mem_of_getElem? (i := 7) rfl))) (hts _ (wi_24 _ (List.mem_of_getElem? (i := 8) rfl))) hs161 hat atX_ot hE.1 hE.2.1 hS (hl.1.trans hml.symm) dX10_base_8 dX10_base_11 dX10_base_12 dX10_base_14 (Nat.le_of_ble_eq_true rfl) (Nat.le_of_ble_eq_true rfl) (Nat.le_of_ble_eq_true rfl) (Nat.le_of_ble_eq_true rfl) (fun H1 ce g1 g2 g3 g4 g5 => ?_)
    refine vx_athrow hx hb dX10_base_17 ?_
    exact vx_out (fun x hx => (hout x hx).elim) hlk g3 g4 g5 (fun t ht hvm => ⟨s1, h, ⟨rfl, by rw [ht]; exact hP.kept (fun k q hk => g2 q.1 ((hP k q hk).lt))⟩, by rw [ht]; exact Nat.le_trans hS.1 g1, fun q q1 q2 => by rw [ht, g2 q (Nat.lt_of_lt_of_le q1 hS.1)]; exact hS.2.1 q q1 q2⟩) hS.2.2 (Nat.le_of_ble_eq_true rfl) (Nat.le_of_ble_eq_true rfl)

theorem hd_X10_wire : yX10_wire.cls = RX10 ∧ yX10_wire.cls ≠ "java/lang/invoke/MethodHandle" ∧ yX10_wire.cls ≠ "java/lang/invoke/VarHandle" ∧ (parseMethodDescriptor yX10_wire.desc).map (fun d => d.parameters.length) = some 2 := by decide +kernel
set_option maxRecDepth 100000 in
set_option maxHeartbeats 4000000 in
theorem mX10_wire (l : Launch) (hfl : l.stackTraces = false) (D : va_G) (cy : Nat → ClassId) (B : Nat) (v0 : Nat) (v1 : Int32) (v2 : Int32) (σ : St) (h0 : kX[v0]? = some 10) {post : Int32 → St → Prop} {postx : St → Prop} (h : wX10_wire v0 v1 v2 σ post postx) : vx_Met l yX10_wire (Cond.code yX10_wire cX10_wire 4 (some .int) :: (WALL ++ WX2)) (rmX 8) (fun a U => PcW D cy B kX σ [.ref (B + v0), .int v1, .int v2] a U ∧ EXW (AW B 346) U) (va_Qi post (BW D cy B kX) (AW B 346)) (XCx postx D cy B) 1 6 (AW B 346) := by
  refine vx_ofW (cc := cX10_wire) (maxL := 4) (ret := (some .int)) (by decide) rfl ?_
  intro p e s m args below meth c s₁ B0 hml hout hv
  obtain ⟨⟨rfl, hP, hK, hN, hZ⟩, hE⟩ := hv
  rw [kX_len] at hZ
  have hts0 := atoms_spec (ws := Cond.code yX10_wire cX10_wire 4 (some .int) :: (WALL ++ WX2)) B0.pre
  have hX2 : ∀ w ∈ WX2, w.before _ s = true := fun w h => hts0 w (List.mem_cons_of_mem _ (List.mem_append_right _ h))
  have X : kC p s m _ meth c cX10_wire 4 (some .int) WALL RX10 D cy (AW B 346) := ⟨⟨B0.exec, B0.bytes, hml, findClass_of_methodNamed B0.named, fun w h => hts0 w (List.mem_cons_of_mem _ (List.mem_append_left _ h))⟩, B0.returns, B0.notSynchronized, hK, hN, hZ⟩
  have hat := EXW.words hE (fun w h => hX2 w (List.mem_cons_of_mem _ h))
  obtain ⟨⟨hx, hb, hml, hown, hts⟩, hr, hlk, hK, hN, hZ⟩ := id X
  obtain ⟨adK, adV, hvS, hvR, ⟨a161, hs161⟩, ⟨a185, hs185⟩, ⟨a218, hs218⟩, hvZ⟩ := id hZ
  have hD : ∀ σ, va_D (AW B 346) (wW cy B kX σ) := AW_D kX_len
  have hS : va_S (AW B 346) s.heap s.heap [] := va_S.rf
  have hl := lv_entry ([.ref (B + v0), .int v1, .int v2]) (n := 4) (Nat.le_of_ble_eq_true rfl)
  rw [lg_entry_eq]
  generalize (lg_sl ([.ref (B + v0), .int v1, .int v2]) ++ List.replicate (4 - (lg_sl ([.ref (B + v0), .int v1, .int v2])).length) Slot.unset).toArray = ls at hl ⊢
  have hl : lv_has ls 4 [(0, .ref (B + v0)), (1, .int v1), (2, .int v2)] := hl
  unfold wX10_wire at h
  refine lv_aload_n hx hb dX10_wire_0 rfl (lv_at hl 0 rfl) ?_
  refine rk_get X hP (C := RX10) (T := TX10) (N := 14) (ci := 10) wix_10 h0 rfl rfl 4 (by decide) (wi_20 _ (List.mem_of_getElem? (i := 14) rfl)) rfl rfl dX10_wire_1 ?_
  refine lv_iload_n hx hb dX10_wire_4 rfl (lv_at hl 1 rfl) ?_
  refine rk_callz (va_runV (As := [.int v1]) (rest := []) X.1 (mX4_hasWire l D cy B (v0 + 86) v1 σ (klX_X10_4 h0) h) (cwV 1 hts (gW_V (wi_25 _ (List.mem_of_getElem? (i := 16) rfl)) (wi_25 _ (List.mem_of_getElem? (i := 17) rfl)) (wi_25 _ (List.mem_of_getElem? (i := 18) rfl)) (wi_0 _ (List.mem_of_getElem? (i := 23) rfl)) (wi_5 _ (List.mem_of_getElem? (i := 4) rfl))) rfl rfl rfl hd_X4_hasWire ⟨Nat.le_of_ble_eq_true rfl, Nat.le_of_ble_eq_true rfl⟩) (rk_preV X hS hP (klX_X10_4 h0) rfl rfl [.int v1]) rfl rfl hl.1 rfl (lv_room (Nat.le_of_ble_eq_true rfl)) dX10_wire_5 ⟨Nat.zero_le _, Nat.zero_le _⟩) hS (fun _ h => h) (fun r1 s1 H locs h hP hS => ?_)
  refine lv_if_eq (tgt := 20) hx hb dX10_wire_8 (by decide) (fun c1 => ?_) (fun c1 => ?_)
  · have h := h.1 (b2i_f c1)
    refine vy_makeS hx hb hfl (own := RX10) (cls := nseN) (text := "no such wire, or no such part of it") (names := ["java/lang/RuntimeException", "java/lang/Exception"]) (ik := 159) (is := 218) (ic := 163) (sa := a218) (A := AW B 346) (ix := 13) (rx := prog_28_method_4_code) (by decide +kernel) (by decide +kernel) (by decide +kernel) (by decide +kernel) hown (by decide +kernel) (by decide +kernel) (hts _ (wi_24 _ (List.mem_of_getElem? (i := 7) rfl))) (hts _ (wi_24 _ (List.mem_of_getElem? (i := 8) rfl))) hs218 hat atX_ot hE.1 hE.2.1 hS (hl.1.trans hml.symm) dX10_wire_20 dX10_wire_23 dX10_wire_24 dX10_wire_26 (Nat.le_of_ble_eq_true rfl) (Nat.le_of_ble_eq_true rfl) (Nat.le_of_ble_eq_true rfl) (Nat.le_of_ble_eq_true rfl) (fun H1 ce g1 g2 g3 g4 g5 => ?_)
    refine vx_athrow hx hb dX10_wire_29 ?_
    exact vx_out (fun x hx => (hout x hx).elim) hlk g3 g4 g5 (fun t ht hvm => ⟨s1, h, ⟨rfl, by rw [ht]; exact hP.kept (fun k q hk => g2 q.1 ((hP k q hk).lt))⟩, by rw [ht]; exact Nat.le_trans hS.1 g1, fun q q1 q2 => by rw [ht, g2 q (Nat.lt_of_lt_of_le q1 hS.1)]; exact hS.2.1 q q1 q2⟩) hS.2.2 (Nat.le_of_ble_eq_true rfl) (Nat.le_of_ble_eq_true rfl)
  · have h := h.2 (b2i_t c1)
    refine lv_iload_n hx hb dX10_wire_11 rfl (lv_at hl 2 rfl) ?_
    refine lv_if_lt (tgt := 20) hx hb dX10_wire_12 (by decide) (fun c2 => ?_) (fun c2 => ?_)
    · have h := h.1 c2
      refine vy_makeS hx hb hfl (own := RX10) (cls := nseN) (text := "no such wire, or no such part of it") (names := ["java/lang/RuntimeException", "java/lang/Exception"]) (ik := 159) (is := 218) (ic := 163) (sa := a218) (A := AW B 346) (ix := 13) (rx := prog_28_method_4_code) (by decide +kernel) (by decide +kernel) (by decide +kernel) (by decide +kernel) hown (by decide +kernel) (by decide +kernel) (hts _ (wi_24 _ (List.mem_of_getElem? (i := 7) rfl))) (hts _ (wi_24 _ (List.mem_of_getElem? (i := 8) rfl))) hs218 hat atX_ot hE.1 hE.2.1 hS (hl.1.trans hml.symm) dX10_wire_20 dX10_wire_23 dX10_wire_24 dX10_wire_26 (Nat.le_of_ble_eq_true rfl) (Nat.le_of_ble_eq_true rfl) (Nat.le_of_ble_eq_true rfl) (Nat.le_of_ble_eq_true rfl) (fun H1 ce g1 g2 g3 g4 g5 => ?_)
      refine vx_athrow hx hb dX10_wire_29 ?_
      exact vx_out (fun x hx => (hout x hx).elim) hlk g3 g4 g5 (fun t ht hvm => ⟨s1, h, ⟨rfl, by rw [ht]; exact hP.kept (fun k q hk => g2 q.1 ((hP k q hk).lt))⟩, by rw [ht]; exact Nat.le_trans hS.1 g1, fun q q1 q2 => by rw [ht, g2 q (Nat.lt_of_lt_of_le q1 hS.1)]; exact hS.2.1 q q1 q2⟩) hS.2.2 (Nat.le_of_ble_eq_true rfl) (Nat.le_of_ble_eq_true rfl)
    · have h := h.2 c2
      refine lv_iload_n hx hb dX10_wire_15 rfl (lv_at hl 2 rfl) ?_
      refine lv_iconst (v := (3 : Int32)) hx hb dX10_wire_16 (by decide) ?_
      refine lv_icmp_le (tgt := 30) hx hb dX10_wire_17 (by decide) (fun c3 => ?_) (fun c3 => ?_)
      · have h := h.1 c3
        refine lv_aload_n hx hb dX10_wire_30 rfl (lv_at hl 0 rfl) ?_
        refine rk_get X hP (C := RX10) (T := TX10) (N := 14) (ci := 10) wix_10 h0 rfl rfl 4 (by decide) (wi_20 _ (List.mem_of_getElem? (i := 14) rfl)) rfl rfl dX10_wire_31 ?_
        refine rk_get X hP (C := RX4) (T := TX4) (N := 4) (ci := 4) wix_4 (klX_X10_4 h0) rfl rfl 3 (by decide) (wi_25 _ (List.mem_of_getElem? (i := 15) rfl)) rfl rfl dX10_wire_34 ?_
        refine lv_iconst (v := (2 : Int32)) hx hb dX10_wire_37 (by decide) ?_
        refine lv_iload_n hx hb dX10_wire_38 rfl (lv_at hl 1 rfl) ?_
        refine lv_imul hx hb dX10_wire_39 ?_
        refine lv_iload_n hx hb dX10_wire_40 rfl (lv_at hl 2 rfl) ?_
        refine lv_iconst (v := (2 : Int32)) hx hb dX10_wire_41 (by decide) ?_
        refine lv_idiv hx hb dX10_wire_42 (by decide) ?_
        refine lv_iadd hx hb dX10_wire_43 ?_
        refine lv_topi (fun x1 ex1 => ?_)
        have h := h x1 ex1
        obtain ⟨b1, h⟩ := h
        refine rk_iald X hP (n := 20) (klX_X4_3 (klX_X10_4 h0)) (fun _ _ => rfl) b1 dX10_wire_44 ?_
        refine lv_topi (fun x2 ex2 => ?_)
        have h := h x2 ex2
        refine lv_istore_n (lv' := [(3, .int x2), (0, .ref (B + v0)), (1, .int v1), (2, .int v2)]) hx hb dX10_wire_45 rfl hl (by decide) rfl (fun ls hl => ?_)
        refine lv_iload_n hx hb dX10_wire_46 rfl (lv_at hl 3 rfl) ?_
        refine lv_iconst (v := (2 : Int32)) hx hb dX10_wire_47 (by decide) ?_
        refine lv_irem hx hb dX10_wire_48 (by decide) ?_
        refine lv_if_ne (tgt := 58) hx hb dX10_wire_49 (by decide) (fun c4 => ?_) (fun c4 => ?_)
        · have h := h.1 c4
          refine lv_iload_n hx hb dX10_wire_58 rfl (lv_at hl 0 rfl) ?_
          refine lv_iconst (v := (4 : Int32)) hx hb dX10_wire_59 (by decide) ?_
          refine lv_irem hx hb dX10_wire_60 (by decide) ?_
          refine W.widen (k := 1) (n := 6) (Nat.le_of_ble_eq_true rfl) (Nat.le_of_ble_eq_true rfl) ?_
          refine vx_ret ?_
          exact rk_iret X rfl kX_len h hP hS dX10_wire_61
        · have h := h.2 c4
          refine lv_iload_n hx hb dX10_wire_52 rfl (lv_at hl 0 rfl) ?_
          refine lv_iconst (v := (4 : Int32)) hx hb dX10_wire_53 (by decide) ?_
          refine lv_idiv hx hb dX10_wire_54 (by decide) ?_
          refine lv_goto (tgt := 61) hx hb dX10_wire_55 (by decide) ?_
          refine W.widen (k := 1) (n := 6) (Nat.le_of_ble_eq_true rfl) (Nat.le_of_ble_eq_true rfl) ?_
          refine vx_ret ?_
          exact rk_iret X rfl kX_len h hP hS dX10_wire_61
      · have h := h.2 c3
        refine vy_makeS hx hb hfl (own := RX10) (cls := nseN) (text := "no such wire, or no such part of it") (names := ["java/lang/RuntimeException", "java/lang/Exception"]) (ik := 159) (is := 218) (ic := 163) (sa := a218) (A := AW B 346) (ix := 13) (rx := prog_28_method_4_code) (by decide +kernel) (by decide +kernel) (by decide +kernel) (by decide +kernel) hown (by decide +kernel) (by decide +kernel) (hts _ (wi_24 _ (List.mem_of_getElem? (i := 7) rfl))) (hts _ (wi_24 _ (List.mem_of_getElem? (i := 8) rfl))) hs218 hat atX_ot hE.1 hE.2.1 hS (hl.1.trans hml.symm) dX10_wire_20 dX10_wire_23 dX10_wire_24 dX10_wire_26 (Nat.le_of_ble_eq_true rfl) (Nat.le_of_ble_eq_true rfl) (Nat.le_of_ble_eq_true rfl) (Nat.le_of_ble_eq_true rfl) (fun H1 ce g1 g2 g3 g4 g5 => ?_)
        refine vx_athrow hx hb dX10_wire_29 ?_
        exact vx_out (fun x hx => (hout x hx).elim) hlk g3 g4 g5 (fun t ht hvm => ⟨s1, h, ⟨rfl, by rw [ht]; exact hP.kept (fun k q hk => g2 q.1 ((hP k q hk).lt))⟩, by rw [ht]; exact Nat.le_trans hS.1 g1, fun q q1 q2 => by rw [ht, g2 q (Nat.lt_of_lt_of_le q1 hS.1)]; exact hS.2.1 q q1 q2⟩) hS.2.2 (Nat.le_of_ble_eq_true rfl) (Nat.le_of_ble_eq_true rfl)
