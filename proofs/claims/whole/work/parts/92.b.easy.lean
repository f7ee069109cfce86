/-! the calls that ask of a table -/
theorem evF_cg {v w : Nat → Int32} : ∀ {m : Nat}, (∀ j, j < m → v j = w j) → evF v m = evF w m
  | 0, _ => rfl
  | m + 1, h => by rw [evF, evF, evF_cg (fun j hj => h j (by omega)), h m (by omega)]
theorem odF_cg {v w : Nat → Int32} : ∀ {m : Nat}, (∀ j, j < m → v j = w j) → odF v m = odF w m
  | 0, _ => rfl
  | m + 1, h => by rw [odF, odF, odF_cg (fun j hj => h j (by omega)), h m (by omega)]
theorem parF_cg {n : Nat} {v w : Nat → Int32} (h : ∀ j, j < 2 ^ n → v j = w j) : parF n v = parF n w := by
  unfold parF
  rw [evF_cg h, odF_cg h]
theorem ruleF_cg {b : Bool} {p : Nat} {v w : Nat → Int32} (h : ∀ j, j < 16 → v j = w j) : ruleF b v p = ruleF b w p := by
  unfold ruleF
  rw [h 0 (by decide), h 1 (by decide), h 2 (by decide), h 3 (by decide), h 4 (by decide), h 5 (by decide), h 6 (by decide), h 7 (by decide), h 8 (by decide), h 9 (by decide), h 10 (by decide), h 11 (by decide), h 12 (by decide), h 13 (by decide), h 14 (by decide), h 15 (by decide)]
theorem madeF_cg {n p : Nat} {v w : Nat → Int32} (h : ∀ j, j < 2 ^ n → v j = w j) : madeF n v p = madeF n w p := by
  unfold madeF
  rw [parF_cg h]
  by_cases e : n = 4
  · subst e
    rw [ruleF_cg (b := false) (p := p) h, ruleF_cg (b := true) (p := p) h]
  · simp [e]
theorem plainF_cg {n : Nat} {v w : Nat → Int32} (h4 : n ≤ 4) (h : ∀ j, j < 2 ^ n → v j = w j) : plainF n v = plainF n w := by
  have hb : ∀ n, n ≤ 4 → ∀ i, i < 2 ^ n → 2 ^ bc i - 1 < 2 ^ n := by decide +kernel
  unfold plainF
  congr 1
  apply propext
  constructor
  · intro q i hi
    rw [← h i hi, ← h _ (hb n h4 i hi)]; exact q i hi
  · intro q i hi
    rw [h i hi, h _ (hb n h4 i hi)]; exact q i hi
theorem timesF_cg {n p : Nat} {f : Int32} {v w v' w' : Nat → Int32} (h : ∀ j, j < 2 ^ n → v j = v' j) (h2 : ∀ j, j < 2 ^ n → w j = w' j) : timesF n v w f p = timesF n v' w' f p := by
  unfold timesF
  congr 1
  apply propext
  constructor
  · intro q i hi
    rw [← h i hi, ← h2 i hi]; exact q i hi
  · intro q i hi
    rw [h i hi, h2 i hi]; exact q i hi
theorem likeF_cg {n p : Nat} {v w v' w' : Nat → Int32} (h : ∀ j, j < 2 ^ n → v j = v' j) (h2 : ∀ j, j < 2 ^ n → w j = w' j) : likeF n v w p = likeF n v' w' p := by
  unfold likeF
  congr 1
  funext f
  exact timesF_cg h h2
section EZ
variable {t P tn bn nn : Nat} {lg tof : Nat → Nat} {tv bv : Nat → Nat → Int32} {L : Nat} {tp : Nat → Int32} {nw : NetT} {sz old : Nat} {ac : Nat → NetT} {kb : Nat → Bool} {kn : Nat → NetT} {σ τ σ' τ' : St} {nl : Nat → Nat} {w : NetT} {N j : Nat}
theorem TabX.leg (h : TabX t P tn bn lg tv bv σ) (hj : j < tn) : σ.1 (t + 1 + 20 + 2 * j) 0 = nI (lg j) := (h.2.2.2.2.2.2.1 j hj).1
theorem TabX.val (h : TabX t P tn bn lg tv bv σ) (hj : j < tn) : ∀ i, i < 2 ^ lg j → σ.1 (t + 1 + 20 + 2 * j + 1) i = tv j i := (h.2.2.2.2.2.2.1 j hj).2
theorem TabX.pr (h : TabX t P tn bn lg tv bv σ) : σ.1 t 0 = nI P := h.2.2.2.1
theorem TabM.leg (h : TabM P tn bn lg tv bv τ) (hj : j < tn) : τ.1 9 j = nI (lg j) := (h.2.2.2.1 j hj).1
theorem TabM.val (h : TabM P tn bn lg tv bv τ) (hj : j < tn) : ∀ i, i < 2 ^ lg j → τ.1 10 (16 * j + i) = tv j i := (h.2.2.2.1 j hj).2
theorem TabV.l4 (h : TabV P tn bn lg tv bv) (hj : j < tn) : lg j ≤ 4 := (h.2.2.2.1 j hj).2.1
theorem TabV.t8 (h : TabV P tn bn lg tv bv) : tn ≤ 8 := h.2.1
theorem TabV.b5 (h : TabV P tn bn lg tv bv) : bn ≤ 5 := h.2.2.1
theorem TabV.p0 (h : TabV P tn bn lg tv bv) : 0 < P := by have := h.1.1; omega
theorem TabV.p31 (h : TabV P tn bn lg tv bv) : P < 2 ^ 31 := by have := h.1.2.1; omega
def tableF (tn : Nat) (lg : Nat → Nat) (tv : Nat → Nat → Int32) (a b : Int32) : Int32 := if ixB a tn then (if b = -1 then nI (lg a.toNatClampNeg) else if ixB b (2 ^ lg a.toNatClampNeg) then tv a.toNatClampNeg b.toNatClampNeg else -2) else -2
theorem C_table {a b : Int32} {post : Int32 → St → Prop} (hV : TabV P tn bn lg tv bv) (hT : TabX t P tn bn lg tv bv σ) (k : post (tableF tn lg tv a b) σ) : wX10_table 0 a b σ post := by
  have h8 := hV.t8
  unfold wX10_table
  refine c_isTable hT h8 ⟨fun q => ?_, fun q => ?_⟩
  · obtain ⟨j, hj, rfl⟩ := ixB_t (by omega) q
    have h4 := hV.l4 hj
    have h16 := p2le h4
    have hc : (nI j).toNatClampNeg = j := nI_clamp (by omega)
    unfold tableF at k
    rw [if_pos q, hc] at k
    rintro _ rfl
    rw [hT.p, hc]
    refine ⟨kX_t hT.1, vp_in_nI (by omega) (by decide), c_val (hT.leg hj) h4 (fun e => ?_) (fun e e2 => ?_) (fun i hi e => ?_)⟩
    · rw [if_pos e] at k; exact k
    · rw [if_neg e, e2] at k; exact k
    · subst e
      have hm : ¬ nI i = -1 := fun e => by
        have := congrArg Int32.toInt e
        rw [nI_toInt (by omega)] at this
        have z : (-1 : Int32).toInt = -1 := rfl
        omega
      rw [if_neg hm, if_pos (ixB_nI hi (by omega)), nI_clamp (by omega)] at k
      rw [hT.val hj i hi]; exact k
  · unfold tableF at k
    rw [if_neg (by rw [q]; decide)] at k
    exact k
theorem M_table {a b : Int32} {post : Int32 → St → Prop} (hV : TabV P tn bn lg tv bv) (hM : RM P tn bn nn lg tof tv bv L tp nw sz ac kb kn τ) (k : ∀ v, FM τ v → post (tableF tn lg tv a b) v) : wX11_table 0 a b τ post := by
  have h8 := hV.t8
  have hF : FM τ (u1 τ 0 0 0) := FM.u0 (by decide)
  have hT := (hM.fr hF).1
  have k := k _ hF
  unfold wX11_table
  rintro _ rfl
  refine m_isTable hT h8 ⟨fun q => ?_, fun q => ?_⟩
  · obtain ⟨j, hj, rfl⟩ := ixB_t (by omega) q
    have h4 := hV.l4 hj
    have h16 := p2le h4
    have hc : (nI j).toNatClampNeg = j := nI_clamp (by omega)
    unfold tableF at k
    rw [if_pos q, hc] at k
    simp only [Nat.zero_add]
    rw [hc, hT.leg hj, sh1 _ (by omega)]
    refine ⟨fun e => ⟨vp_in_nI (by omega) (by decide), m_within (pred_toInt (by omega)) ⟨fun e2 => ?_, fun e2 => ?_⟩⟩, fun e => ⟨vp_in_nI (by omega) (by decide), ?_⟩⟩
    · rw [if_neg e, e2] at k; exact k
    · obtain ⟨i, hi, rfl⟩ := ixB_t (by omega) e2
      rw [if_neg e, if_pos e2, nI_clamp (by omega)] at k
      rw [show (16 : Int32) = nI 16 from rfl, pk_mul, nI_add]
      rintro _ rfl
      refine ⟨vp_in_nI (by omega) (by decide), ?_⟩
      rw [nI_clamp (by omega), hT.val hj i hi]; exact k
    · rw [if_pos e] at k; exact k
  · unfold tableF at k
    rw [if_neg (by rw [q]; decide)] at k
    exact k
theorem S_table (hR : Rel σ τ) (a b : Int32) : wX10_table 0 a b σ (fun r u => wX11_table 0 a b τ (fun r2 v => r = r2 ∧ Rel u v)) := by
  obtain ⟨t, P, tn, bn, nn, lg, tof, tv, bv, L, tp, nw, sz, old, ac, kb, kn, hV, hX, hM⟩ := id hR
  exact C_table hV.1 hX.1 (M_table hV.1 hM (fun v hv => ⟨rfl, hR.fr (FX.rf σ) hv⟩))
/-- a table of the class's, asked -/
theorem c_tab {a : Int32} {Q : Prop} (hV : TabV P tn bn lg tv bv) (hT : TabX t P tn bn lg tv bv σ) (q : ixB a tn = true) (k : ∀ j, j < tn → a = nI j → a.toNatClampNeg = j → lg j ≤ 4 → vp_in a 8 → vp_in a 16 → Q) : Q := by
  have h8 := hV.t8
  obtain ⟨j, hj, rfl⟩ := ixB_t (by omega) q
  exact k j hj rfl (nI_clamp (by omega)) (hV.l4 hj) (vp_in_nI (by omega) (by decide)) (vp_in_nI (by omega) (by decide))
theorem m_tab {a : Int32} {Q : Prop} (hV : TabV P tn bn lg tv bv) (q : ixB a tn = true) (k : ∀ j, j < tn → a = nI j → a.toNatClampNeg = j → lg j ≤ 4 → vp_in a 16 → Q) : Q := by
  have h8 := hV.t8
  obtain ⟨j, hj, rfl⟩ := ixB_t (by omega) q
  exact k j hj rfl (nI_clamp (by omega)) (hV.l4 hj) (vp_in_nI (by omega) (by decide))
/-- the reference lays a table -/
theorem m_lay {a : Int32} {post : St → Prop} (hV : TabV P tn bn lg tv bv) (hM : RM P tn bn nn lg tof tv bv L tp nw sz ac kb kn τ) (hj : j < tn) (ha : a = nI j) (k : ∀ s, FM τ s → s.1 0 36 = nI (lg j) → (∀ i, i < 2 ^ lg j → s.1 20 i = tv j i) → s.1 2 0 = nI P → post s) : wX11_laysTable 0 a τ post := by
  have h8 := hV.t8
  subst ha
  refine m_laysTable (by omega) (hM.1.leg hj) (hV.l4 hj) (fun s s1 s2 s3 s4 s5 => ?_)
  refine k s ⟨fun j hj => s3 j (by omega), fun o h1 h2 => s4 o (by omega) (by omega)⟩ s1 (fun i hi => ?_) ?_
  · rw [s2 i hi, hM.1.val hj i hi]
  · rw [s4 2 (by decide) (by decide)]; exact hM.1.1
def parityF (tn : Nat) (lg : Nat → Nat) (tv : Nat → Nat → Int32) (a : Int32) : Int32 := if ixB a tn then parF (lg a.toNatClampNeg) (tv a.toNatClampNeg) else -1
theorem C_parity {a : Int32} {post : Int32 → St → Prop} (hV : TabV P tn bn lg tv bv) (hT : TabX t P tn bn lg tv bv σ) (k : post (parityF tn lg tv a) σ) : wX10_parity 0 a σ post := by
  unfold wX10_parity
  unfold parityF at k
  refine c_isTable hT hV.t8 ⟨fun q => ?_, fun q => ?_⟩
  · rw [if_neg (by rw [q]; decide)] at k; exact k
  · rw [if_pos q] at k
    refine c_tab hV hT q (fun j hj e1 e2 h4 i1 i2 => ?_)
    rintro _ rfl
    rw [e2] at k
    rw [hT.p, e2]
    refine ⟨kX_t hT.1, i1, s_parity (hT.leg hj) h4 ?_⟩
    rw [parF_cg (hT.val hj)]; exact k
theorem M_parity {a : Int32} {post : Int32 → St → Prop} (hV : TabV P tn bn lg tv bv) (hM : RM P tn bn nn lg tof tv bv L tp nw sz ac kb kn τ) (k : ∀ v, FM τ v → post (parityF tn lg tv a) v) : wX11_parity 0 a τ post := by
  have hF : FM τ (u1 τ 0 0 0) := FM.u0 (by decide)
  unfold wX11_parity
  unfold parityF at k
  rintro _ rfl
  refine m_isTable (hM.fr hF).1 hV.t8 ⟨fun q => ?_, fun q => ?_⟩
  · rw [if_pos q] at k
    refine m_tab hV q (fun j hj e1 e2 h4 i2 => m_lay hV (hM.fr hF) hj e1 (fun s f1 s1 s2 s3 => m_parity s1 h4 ?_))
    rw [e2] at k
    rw [parF_cg s2]; exact k _ (hF.tr f1)
  · rw [if_neg (by rw [q]; decide)] at k; exact k _ hF
theorem S_parity (hR : Rel σ τ) (a : Int32) : wX10_parity 0 a σ (fun r u => wX11_parity 0 a τ (fun r2 v => r = r2 ∧ Rel u v)) := by
  obtain ⟨t, P, tn, bn, nn, lg, tof, tv, bv, L, tp, nw, sz, old, ac, kb, kn, hV, hX, hM⟩ := id hR
  exact C_parity hV.1 hX.1 (M_parity hV.1 hM (fun v hv => ⟨rfl, hR.fr (FX.rf σ) hv⟩))
end EZ
