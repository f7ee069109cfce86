/-! the law's loop -/
theorem lp_sub6 {L i : Nat} (hL : L ≤ 3072) (hi : i ≤ L) : (nI L - 6 < nI i) ↔ L < i + 6 := by
  have h6 : (6 : Int32).toInt = 6 := rfl
  rw [Int32.lt_iff_toInt_lt, Int32.toInt_sub, nI_toInt (by omega), nI_toInt (by omega), h6, Int.bmod_eq_of_le (by omega) (by omega)]
  omega
theorem lp_and31 (x : Int32) : ∃ k : Nat, k < 32 ∧ x &&& 31 = nI k := by
  refine ⟨(x &&& 31).toNatClampNeg, ?_, ?_⟩
  · have h := Int32.toBitVec_and x 31
    have h2 : (x &&& 31).toBitVec.toNat < 32 := by
      rw [h, BitVec.toNat_and]
      exact Nat.lt_of_le_of_lt Nat.and_le_right (by decide)
    have h3 : (x &&& 31).toInt = ((x &&& 31).toBitVec.toNat : Int) := by
      show (x &&& 31).toBitVec.toInt = _
      rw [BitVec.toInt_eq_toNat_of_lt (by omega)]
    show (x &&& 31).toInt.toNat < 32
    omega
  · have h := Int32.toBitVec_and x 31
    have h2 : (x &&& 31).toBitVec.toNat < 32 := by
      rw [h, BitVec.toNat_and]
      exact Nat.lt_of_le_of_lt Nat.and_le_right (by decide)
    have h3 : (x &&& 31).toInt = ((x &&& 31).toBitVec.toNat : Int) := by
      show (x &&& 31).toBitVec.toInt = _
      rw [BitVec.toInt_eq_toNat_of_lt (by omega)]
    apply Int32.toInt_inj.mp
    have h4 : (x &&& 31).toNatClampNeg < 2 ^ 31 := by
      show (x &&& 31).toInt.toNat < 2 ^ 31
      omega
    rw [nI_toInt h4]
    show _ = (((x &&& 31).toInt.toNat : Nat) : Int)
    omega
set_option maxRecDepth 100000 in
set_option maxHeartbeats 4000000 in
theorem law_step {p : Program} {l : Launch} {e : Env} {s : State} {m : MethodId} {below : List Frame} {meth : Method} {c : Code} {H : Heap} {locs : List Loc} {cells slots : Nat} {Q : State → Prop} {ls : Array Slot} {D : va_G} {cy : Nat → ClassId} {b L : Nat} {xs : Nat → Int32} {BX BM oa i : Nat} {σ τ : St} {g : Nat → Int64} {Rel : St → St → Prop} (K : kL p l s m c D cy b L xs BX BM oa) (hi : i + 6 ≤ L) (hL : L ≤ 3072) (hc : cells + 1 ≤ 601024) (hs : slots + 6 ≤ 7293034) (hsim : Sim Rel) (hrel : Rel σ τ) (h : LHs D cy BX BM oa σ τ g s H locs) (hl : lv_has ls 7 [(0, .ref b), (1, .ref (BX + 0)), (2, .ref (BM + 0)), (3, .ref oa), (4, .int (nI i))]) (cont : ∀ (σ' τ' : St) (g' : Nat → Int64) (H' : Heap) (locs' : List Loc) (ls' : Array Slot), Rel σ' τ' → LHs D cy BX BM oa σ' τ' g' s H' locs' → lv_has ls' 7 [(0, .ref b), (1, .ref (BX + 0)), (2, .ref (BM + 0)), (3, .ref oa), (4, .int (nI i))] → W p l e room_1 s m #[Value.ref b] below meth c H' locs' (cells + 1) (slots + 6) Q (F0 m 1301 ls' [])) (k : Nat) (hk : k < 32) : W p l e room_1 s m #[Value.ref b] below meth c H locs cells slots Q (F0 m 40 ls [.int (nI k)]) := by
  obtain ⟨K0, hK, hN, hZ, hE, hX, hbl, hfl, l1, l2, l3⟩ := id K
  obtain ⟨hx, hb, hml, hown, hts⟩ := id K0
  have S := hsim σ τ hrel
  obtain ⟨s0, s1, s2, s3, s4, s5, s6, s7, s8, s9, s10, s11, s12, s13, s14, s15, s16, s17, s18, s19, s20, s21, s22, s23, s24, s25, s26, s27, s28, s29, s30⟩ := S
  match k, hk with
  | 0, _ =>
    refine lv_tableIn (tgt := 180) hx hb dL_law_40 (by decide) (by decide) rfl (by decide) ?_
    exact law_c0 K hi hL hc hs s0 h hl cont
  | 1, _ =>
    refine lv_tableIn (tgt := 253) hx hb dL_law_40 (by decide) (by decide) rfl (by decide) ?_
    exact law_c1 K hi hL hc hs s1 h hl cont
  | 2, _ =>
    refine lv_tableIn (tgt := 278) hx hb dL_law_40 (by decide) (by decide) rfl (by decide) ?_
    exact law_c2 K hi hL hc hs s2 h hl cont
  | 3, _ =>
    refine lv_tableIn (tgt := 315) hx hb dL_law_40 (by decide) (by decide) rfl (by decide) ?_
    exact law_c3 K hi hL hc hs s3 h hl cont
  | 4, _ =>
    refine lv_tableIn (tgt := 340) hx hb dL_law_40 (by decide) (by decide) rfl (by decide) ?_
    exact law_c4 K hi hL hc hs s4 h hl cont
  | 5, _ =>
    refine lv_tableIn (tgt := 393) hx hb dL_law_40 (by decide) (by decide) rfl (by decide) ?_
    exact law_c5 K hi hL hc hs s5 h hl cont
  | 6, _ =>
    refine lv_tableIn (tgt := 418) hx hb dL_law_40 (by decide) (by decide) rfl (by decide) ?_
    exact law_c6 K hi hL hc hs s6 h hl cont
  | 7, _ =>
    refine lv_tableIn (tgt := 443) hx hb dL_law_40 (by decide) (by decide) rfl (by decide) ?_
    exact law_c7 K hi hL hc hs s7 h hl cont
  | 8, _ =>
    refine lv_tableIn (tgt := 480) hx hb dL_law_40 (by decide) (by decide) rfl (by decide) ?_
    exact law_c8 K hi hL hc hs s8 h hl cont
  | 9, _ =>
    refine lv_tableIn (tgt := 517) hx hb dL_law_40 (by decide) (by decide) rfl (by decide) ?_
    exact law_c9 K hi hL hc hs s9 h hl cont
  | 10, _ =>
    refine lv_tableIn (tgt := 585) hx hb dL_law_40 (by decide) (by decide) rfl (by decide) ?_
    exact law_c10 K hi hL hc hs s10 h hl cont
  | 11, _ =>
    refine lv_tableIn (tgt := 634) hx hb dL_law_40 (by decide) (by decide) rfl (by decide) ?_
    exact law_c11 K hi hL hc hs s11 h hl cont
  | 12, _ =>
    refine lv_tableIn (tgt := 671) hx hb dL_law_40 (by decide) (by decide) rfl (by decide) ?_
    exact law_c12 K hi hL hc hs s12 h hl cont
  | 13, _ =>
    refine lv_tableIn (tgt := 696) hx hb dL_law_40 (by decide) (by decide) rfl (by decide) ?_
    exact law_c13 K hi hL hc hs s13 h hl cont
  | 14, _ =>
    refine lv_tableIn (tgt := 721) hx hb dL_law_40 (by decide) (by decide) rfl (by decide) ?_
    exact law_c14 K hi hL hc hs s14 h hl cont
  | 15, _ =>
    refine lv_tableIn (tgt := 758) hx hb dL_law_40 (by decide) (by decide) rfl (by decide) ?_
    exact law_c15 K hi hL hc hs s15 h hl cont
  | 16, _ =>
    refine lv_tableIn (tgt := 826) hx hb dL_law_40 (by decide) (by decide) rfl (by decide) ?_
    exact law_c16 K hi hL hc hs s16 h hl cont
  | 17, _ =>
    refine lv_tableIn (tgt := 851) hx hb dL_law_40 (by decide) (by decide) rfl (by decide) ?_
    exact law_c17 K hi hL hc hs s17 h hl cont
  | 18, _ =>
    refine lv_tableIn (tgt := 876) hx hb dL_law_40 (by decide) (by decide) rfl (by decide) ?_
    exact law_c18 K hi hL hc hs s18 h hl cont
  | 19, _ =>
    refine lv_tableIn (tgt := 889) hx hb dL_law_40 (by decide) (by decide) rfl (by decide) ?_
    exact law_c19 K hi hL hc hs s19 h hl cont
  | 20, _ =>
    refine lv_tableIn (tgt := 914) hx hb dL_law_40 (by decide) (by decide) rfl (by decide) ?_
    exact law_c20 K hi hL hc hs s20 h hl cont
  | 21, _ =>
    refine lv_tableIn (tgt := 939) hx hb dL_law_40 (by decide) (by decide) rfl (by decide) ?_
    exact law_c21 K hi hL hc hs s21 h hl cont
  | 22, _ =>
    refine lv_tableIn (tgt := 964) hx hb dL_law_40 (by decide) (by decide) rfl (by decide) ?_
    exact law_c22 K hi hL hc hs s22 h hl cont
  | 23, _ =>
    refine lv_tableIn (tgt := 1001) hx hb dL_law_40 (by decide) (by decide) rfl (by decide) ?_
    exact law_c23 K hi hL hc hs s23 h hl cont
  | 24, _ =>
    refine lv_tableIn (tgt := 1038) hx hb dL_law_40 (by decide) (by decide) rfl (by decide) ?_
    exact law_c24 K hi hL hc hs s24 h hl cont
  | 25, _ =>
    refine lv_tableIn (tgt := 1075) hx hb dL_law_40 (by decide) (by decide) rfl (by decide) ?_
    exact law_c25 K hi hL hc hs s25 h hl cont
  | 26, _ =>
    refine lv_tableIn (tgt := 1124) hx hb dL_law_40 (by decide) (by decide) rfl (by decide) ?_
    exact law_c26 K hi hL hc hs s26 h hl cont
  | 27, _ =>
    refine lv_tableIn (tgt := 1185) hx hb dL_law_40 (by decide) (by decide) rfl (by decide) ?_
    exact law_c27 K hi hL hc hs s27 h hl cont
  | 28, _ =>
    refine lv_tableIn (tgt := 1210) hx hb dL_law_40 (by decide) (by decide) rfl (by decide) ?_
    exact law_c28 K hi hL hc hs s28 h hl cont
  | 29, _ =>
    refine lv_tableIn (tgt := 1223) hx hb dL_law_40 (by decide) (by decide) rfl (by decide) ?_
    exact law_c29 K hi hL hc hs s29 h hl cont
  | 30, _ =>
    refine lv_tableIn (tgt := 1276) hx hb dL_law_40 (by decide) (by decide) rfl (by decide) ?_
    exact law_c30 K hi hL hc hs s30 h hl cont
  | 31, _ =>
    refine lv_tableOut (tgt := 1301) hx hb dL_law_40 (by decide) (by decide) ?_
    refine W.widen (k := cells + 1) (n := slots + 6) (by omega) (by omega) ?_
    exact cont _ _ _ _ _ _ hrel h hl
  | k + 32, hk => exact absurd hk (by omega)
def lw_Q (_ : Array Value) (s : State) (o : Outcome) (t : State) : Prop := o = .returned (some (.int 1)) ∧ Framed s o t [] 601024 7293034
def lw_Z (below : List Frame) (a : Array Value) (s : State) : State → Prop := fun t => ∃ o, t.status = .running ∧ Ended t below o ∧ lw_Q a s o t
/-- the law's own end, with 1 on the stack, nothing written that was there before, its room as the claim has it -/
theorem lw_ret {p : Program} {l : Launch} {e : Env} {s : State} {m : MethodId} {below : List Frame} {meth : Method} {c : Code} {b : Nat} (hx : p.tables.exec = Jvm.exec) (hb : c.code = code) (hr : meth.sig.returnType = ret) (hlocks : meth.locks = false) {pc : Nat} {H : Heap} {ls : Array Slot} (hdg : decode code pc = .ok (.ireturn, 1)) : W p l e room_1 s m #[Value.ref b] below meth c H [] 601024 7293034 (lw_Z below #[Value.ref b] s) (F0 m pc ls [.int 1]) := by
  intro T hT X
  obtain ⟨fs, hret, hrun, hended, hW, hframe⟩ := X.leave (v := some (.int 1)) (hlocks := hlocks) (fun h => by rw [hr] at h; cases h)
  have hmeth' : T.vm.method? m = some meth := X.method'
  refine ⟨T.setFrames fs, ?_, .returned (some (.int 1)), hrun, hended, rfl, ⟨_, rfl⟩, hW, hframe⟩
  jvm_step X.here [X.here.top, hx, hb, hdg, hmeth', hr, ret, narrow_b1]
  (try refine ⟨rfl, ?_⟩); (try refine ⟨rfl, ?_⟩)
  first | (intro acts; rw [hret _ acts rfl rfl rfl]) | rw [hret _ _ rfl rfl rfl]
  exact Steps.refl _
def lw_At (p : Program) (s : State) (m : MethodId) (meth : Method) (c : Code) (b L : Nat) (xs : Nat → Int32) : Prop :=
  p.tables.exec = Jvm.exec ∧ c.code = code ∧ meth.sig.returnType = ret ∧ c.maxLocals = 7 ∧ s.vm.findClass RL = some m.cls ∧ (∀ w ∈ lw_tbl, w.before #[Value.ref b] s = true) ∧ va_X b L xs s s.heap ∧ b < s.heap.size ∧ meth.locks = false ∧ (Jvm.Cond.and given_1 narrow_1).before #[Value.ref b] s = true
set_option maxRecDepth 100000 in
set_option maxHeartbeats 4000000 in
theorem law_loop {p : Program} {l : Launch} {e : Env} {s : State} {m : MethodId} {below : List Frame} {meth : Method} {c : Code} {D : va_G} {cy : Nat → ClassId} {b L : Nat} {xs : Nat → Int32} {BX BM oa : Nat} {Rel : St → St → Prop} (K : kL p l s m c D cy b L xs BX BM oa) (hL : L ≤ 3072) (hr : meth.sig.returnType = ret) (hlocks : meth.locks = false) (hsim : Sim Rel) :
    ∀ (n i cells slots : Nat) (σ τ : St) (g : Nat → Int64) (H : Heap) (locs : List Loc) (ls : Array Slot), i ≤ L → L < i + 6 * (n + 1) → cells + n ≤ 601024 → slots + 6 * n ≤ 7293034 → Rel σ τ → LHs D cy BX BM oa σ τ g s H locs → lv_has ls 7 [(0, .ref b), (1, .ref (BX + 0)), (2, .ref (BM + 0)), (3, .ref oa), (4, .int (nI i))] → W p l e room_1 s m #[Value.ref b] below meth c H locs cells slots (lw_Z below #[Value.ref b] s) (F0 m 23 ls []) := by
  obtain ⟨K0, hK, hN, hZ, hE, hX, hbl, hfl, l1, l2, l3⟩ := id K
  obtain ⟨hx, hb, hml, hown, hts⟩ := id K0
  have hbA : ¬ Aw s b := Nat.not_le.mpr hbl
  intro n
  induction n with
  | zero =>
    intro i cells slots σ τ g H locs ls hi hn hc hs hrel h hl
    refine lv_iload hx hb dL_law_23 (lv_at hl 4 rfl) ?_
    refine lv_aload_n hx hb dL_law_25 rfl (lv_at hl 0 rfl) ?_
    refine va_slen hx hb hX hbl hbA h.2.2.2 dL_law_26 ?_
    refine lv_bipush (v := (6 : Int32)) hx hb dL_law_27 (by decide) ?_
    refine lv_isub hx hb dL_law_29 ?_
    refine lv_icmp_gt (tgt := 1307) hx hb dL_law_30 (by decide) (fun c1 => ?_) (fun c1 => ?_)
    · refine lv_iconst (v := (1 : Int32)) hx hb dL_law_1307 (by decide) ?_
      refine va_forget (fun q hq => h.2.2.2.2.2 q hq) ?_
      refine W.widen (k := 601024) (n := 7293034) (by omega) (by omega) ?_
      exact lw_ret hx hb hr hlocks dL_law_1308
    · exact absurd ((lp_sub6 hL hi).mpr (by omega)) c1
  | succ n ih =>
    intro i cells slots σ τ g H locs ls hi hn hc hs hrel h hl
    refine lv_iload hx hb dL_law_23 (lv_at hl 4 rfl) ?_
    refine lv_aload_n hx hb dL_law_25 rfl (lv_at hl 0 rfl) ?_
    refine va_slen hx hb hX hbl hbA h.2.2.2 dL_law_26 ?_
    refine lv_bipush (v := (6 : Int32)) hx hb dL_law_27 (by decide) ?_
    refine lv_isub hx hb dL_law_29 ?_
    refine lv_icmp_gt (tgt := 1307) hx hb dL_law_30 (by decide) (fun c1 => ?_) (fun c1 => ?_)
    · refine lv_iconst (v := (1 : Int32)) hx hb dL_law_1307 (by decide) ?_
      refine va_forget (fun q hq => h.2.2.2.2.2 q hq) ?_
      refine W.widen (k := 601024) (n := 7293034) (by omega) (by omega) ?_
      exact lw_ret hx hb hr hlocks dL_law_1308
    · have hlt : i + 6 ≤ L := by
        rcases Nat.lt_or_ge L (i + 6) with q | q
        · exact absurd ((lp_sub6 hL hi).mpr q) c1
        · exact q
      refine lv_aload_n hx hb dL_law_33 rfl (lv_at hl 0 rfl) ?_
      refine lv_iload hx hb dL_law_34 (lv_at hl 4 rfl) ?_
      refine va_sld hx hb hX hbl hbA h.2.2.2 (vp_in_nI (by omega) (by omega)) dL_law_36 ?_
      refine lv_bipush (v := (31 : Int32)) hx hb dL_law_37 (by decide) ?_
      refine lv_iand hx hb dL_law_39 ?_
      obtain ⟨k, hk, ek⟩ := lp_and31 (xs (nI i).toNatClampNeg)
      rw [ek]
      refine law_step K hlt hL (by omega) (by omega) hsim hrel h hl (fun σ' τ' g' H' locs' ls' hrel' h' hl' => ?_) k hk
      refine lv_iinc (v := nI (i + 6)) (lv' := [(4, .int (nI (i + 6))), (0, .ref b), (1, .ref (BX + 0)), (2, .ref (BM + 0)), (3, .ref oa)]) hx hb dL_law_1301 hl' (k := 4) rfl (nI_add i 6) (by decide) rfl (fun ls hl => ?_)
      refine lv_goto (tgt := 23) hx hb dL_law_1304 (by decide) ?_
      exact ih (i + 6) (cells + 1) (slots + 6) σ' τ' g' H' locs' ls hlt (by omega) (by omega) (by omega) hrel' h' (lv_sub hl [1, 2, 3, 4, 0] rfl)
