/-! first, base, node, wire -/
section FI
variable {t P tn bn nn : Nat} {lg tof : Nat → Nat} {tv bv : Nat → Nat → Int32} {L : Nat} {tp : Nat → Int32} {nw : NetT} {sz old : Nat} {ac : Nat → NetT} {kb : Nat → Bool} {kn : Nat → NetT} {σ τ σ' τ' : St} {nl : Nat → Nat} {w : NetT} {N j : Nat}
def firstA (P tn bn : Nat) (lg : Nat → Nat) (tv bv : Nat → Nat → Int32) (a : Int32) : Int32 := if ixB a tn then findI (fun b => madeF (lg a.toNatClampNeg) (bsF P lg tv bv a.toNatClampNeg b) P) nI (-2) 0 bn else -1
theorem C_first {a : Int32} {post : Int32 → St → Prop} (hV : TabV P tn bn lg tv bv) (hT : TabX t P tn bn lg tv bv σ) (k : ∀ u, FX σ u → post (firstA P tn bn lg tv bv a) u) : wX10_first 0 a σ post := by
  unfold wX10_first
  unfold firstA at k
  refine c_isTable hT hV.t8 ⟨fun q => ?_, fun q => ?_⟩
  · rw [if_pos q] at k
    refine c_tab hV hT q (fun j hj e1 e2 h4 i1 i2 => ?_)
    rw [e2] at k
    have h8 := hV.t8
    have h5 := hV.b5
    have ht : t = 2 ∨ t = 44 := hT.1
    have hm : ∀ m i s, i + m = bn → (∀ o, o ≠ 313 → o ≠ 314 → s.1 o = σ.1 o) → findI (fun b => madeF (lg j) (bsF P lg tv bv j b) P) nI (-2) 0 bn = findI (fun b => madeF (lg j) (bsF P lg tv bv j b) P) nI (-2) i m → wX10_first_12 post (m + 1) 0 a (nI i) s := by
      intro m
      induction m with
      | zero =>
        intro i s e hs hf
        have hT2 : TabX t P tn bn lg tv bv s := hT.fr hV.t8 hV.b5 (fun o ho => hs o (by omega) (by omega))
        unfold wX10_first_12
        rintro _ rfl
        rw [hT2.p, hT2.2.2.2.2.2.1]
        refine ⟨kX_t hT.1, fun _ => ?_, fun q => absurd (nI_le (by omega) (by omega)) q⟩
        rw [hf] at k
        exact k s (fun o ho => hs o (by omega) (by omega))
      | succ m ih =>
        intro i s e hs hf
        have hT2 : TabX t P tn bn lg tv bv s := hT.fr hV.t8 hV.b5 (fun o ho => hs o (by omega) (by omega))
        unfold wX10_first_12
        rintro _ rfl
        rw [hT2.p, hT2.2.2.2.2.2.1]
        refine ⟨kX_t hT.1, fun q => absurd q (nI_ge (by omega) (by omega)), fun _ => ?_⟩
        rintro _ rfl
        refine ⟨kX_t hT.1, i1, ?_⟩
        rintro _ rfl
        refine ⟨kX_t hT.1, vp_in_nI (by omega) (by decide), ?_⟩
        rw [e2, nI_clamp (by omega)]
        have hy : i < bn := by omega
        refine c_madeBy hV hT2 (by omega) (hT2.leg hj) h4 (hT2.val hj) (by omega) (hT2.bas hy (by decide)) (hT2.bas hy (by decide)) (hT2.bas hy (by decide)) (hT2.bas hy (by decide)) (fun s' s1 => ⟨fun q => ?_, fun q => ?_⟩)
        · rintro _ rfl
          rw [nI_1]
          refine ih (i + 1) s' (by omega) (fun o h1 h2 => by rw [s1 o h1 h2, hs o h1 h2]) ?_
          rw [hf, findI, if_neg (by unfold bsF; rw [q]; decide)]
        · rw [hf, findI, if_pos (by unfold bsF; exact q)] at k
          exact k s' (fun o ho => by rw [s1 o (by omega) (by omega), hs o (by omega) (by omega)])
    exact ⟨bn + 1, hm bn 0 σ (by omega) (fun _ _ _ => rfl) rfl⟩
  · rw [if_neg (by rw [q]; decide)] at k; exact k _ (FX.rf σ)
theorem M_first {a : Int32} {post : Int32 → St → Prop} (hV : TabV P tn bn lg tv bv) (hM : RM P tn bn nn lg tof tv bv L tp nw sz ac kb kn τ) (k : ∀ v, FM τ v → post (firstA P tn bn lg tv bv a) v) : wX11_first 0 a τ post := by
  have hF : FM τ (u1 τ 0 0 0) := FM.u0 (by decide)
  unfold wX11_first
  unfold firstA at k
  rintro _ rfl
  refine m_isTable (hM.fr hF).1 hV.t8 ⟨fun q => ?_, fun q => ?_⟩
  · rw [if_pos q] at k
    refine m_tab hV q (fun j hj e1 e2 h4 i2 => ?_)
    rw [e2] at k
    subst e1
    have h5 := hV.b5
    have hm : ∀ m i s, i + m = bn → FM τ s → findI (fun b => madeF (lg j) (bsF P lg tv bv j b) P) nI (-2) 0 bn = findI (fun b => madeF (lg j) (bsF P lg tv bv j b) P) nI (-2) i m → wX11_first_17 post (m + 1) 0 (nI j) (nI i) s := by
      intro m
      induction m with
      | zero =>
        intro i s e hs hf
        have hT2 := (hM.fr hs).1
        unfold wX11_first_17
        rw [show s.1 (0 + 4) (0 : Int32).toNatClampNeg = nI bn from hT2.2.2.1]
        refine ⟨fun _ => ?_, fun q => absurd (nI_le (by omega) (by omega)) q⟩
        rw [hf] at k
        exact k s hs
      | succ m ih =>
        intro i s e hs hf
        have hT2 := (hM.fr hs).1
        unfold wX11_first_17
        rw [show s.1 (0 + 4) (0 : Int32).toNatClampNeg = nI bn from hT2.2.2.1]
        refine ⟨fun q => absurd q (nI_ge (by omega) (by omega)), fun _ => ?_⟩
        refine m_basedBy hV (hM.fr hs) hj (show i < bn by omega) (fun s' g1 g2 g3 g4 => m_isMade g2 h4 g4 hV.p0 hV.p31 ⟨fun q => ?_, fun q => ?_⟩)
        · rw [madeF_cg g3] at q
          rintro _ rfl
          rw [nI_1]
          refine ih (i + 1) s' (by omega) (hs.tr g1) ?_
          rw [hf, findI, if_neg (by unfold bsF; rw [q]; decide)]
        · rw [madeF_cg g3] at q
          rw [hf, findI, if_pos (by unfold bsF; exact q)] at k
          exact k s' (hs.tr g1)
    exact ⟨bn + 1, hm bn 0 _ (by omega) hF rfl⟩
  · rw [if_neg (by rw [q]; decide)] at k; exact k _ hF
theorem S_first (hR : Rel σ τ) (a : Int32) : wX10_first 0 a σ (fun r u => wX11_first 0 a τ (fun r2 v => r = r2 ∧ Rel u v)) := by
  obtain ⟨t, P, tn, bn, nn, lg, tof, tv, bv, L, tp, nw, sz, old, ac, kb, kn, hV, hX, hM⟩ := id hR
  exact C_first hV.1 hX.1 (fun u hu => M_first hV.1 hM (fun v hv => ⟨rfl, hR.fr hu hv⟩))
def baseA (P : Nat) (bv : Nat → Nat → Int32) (j i : Nat) : Int32 := if i = 4 then md (bv j 0 * bv j 3 - bv j 1 * bv j 2) P else bv j i
theorem C_base {a b : Int32} {post : Int32 → St → Prop} {postx : St → Prop} (hV : TabV P tn bn lg tv bv) (hT : TabX t P tn bn lg tv bv σ) (k : ∀ j i, j < bn → i < 5 → a = nI j → b = nI i → post (baseA P bv j i) σ) (kx : (ixB a bn && ixB b 5) = false → postx σ) : wX10_base 0 a b σ post postx := by
  unfold wX10_base
  refine c_isBase hT hV.b5 ⟨fun q => c_bas hV q (fun y hy f1 f2 j1 => ?_), fun q => kx (by rw [q]; rfl)⟩
  rintro _ rfl
  rw [hT.p, f2]
  refine ⟨kX_t hT.1, j1, fun e => ?_, fun e => ⟨fun e2 => ?_, fun e2 => ⟨fun e3 => ?_, fun e3 => ⟨fun e4 => ?_, fun e4 => ⟨fun e5 => ?_, fun e5 => kx ?_⟩⟩⟩⟩⟩
  · rw [hT.bas hy (by decide)]; exact k y 0 hy (by decide) f1 e
  · rw [hT.bas hy (by decide)]; exact k y 1 hy (by decide) f1 e2
  · rw [hT.bas hy (by decide)]; exact k y 2 hy (by decide) f1 e3
  · rw [hT.bas hy (by decide)]; exact k y 3 hy (by decide) f1 e4
  · rintro _ rfl
    refine ⟨kX_t hT.1, ?_⟩
    unfold wX1_determinant
    rw [hT.pr, hT.bas hy (by decide), hT.bas hy (by decide), hT.bas hy (by decide), hT.bas hy (by decide)]
    exact c_mod hV.p0 hV.p31 (k y 4 hy (by decide) f1 e5)
  · rw [q, Bool.true_and]
    have h := sw_out5 e e2 e3 e4 e5
    simp [ixB]; omega
theorem M_base {a b : Int32} {post : Int32 → St → Prop} (hV : TabV P tn bn lg tv bv) (hM : RM P tn bn nn lg tof tv bv L tp nw sz ac kb kn τ) (k : ∀ j i v, j < bn → i < 5 → a = nI j → b = nI i → FM τ v → v.1 0 0 = 0 → post (baseA P bv j i) v) (kx : ∀ v, (ixB a bn && ixB b 5) = false → FM τ v → v.1 0 0 = 1 → post 0 v) : wX11_base 0 a b τ post := by
  have hF : FM τ (u1 τ 0 0 0) := FM.u0 (by decide)
  have hG : FM τ (u1 τ 0 0 1) := FM.u0 (by decide)
  have g0 : (u1 τ 0 0 0).1 0 0 = 0 := by rw [u1_s, pk_us]
  have g1 : (u1 τ 0 0 1).1 0 0 = 1 := by rw [u1_s, pk_us]
  unfold wX11_base wX11_base_25 wX11_base_26
  refine m_isBase hM.1 hV.b5 ⟨fun q => ?_, fun q => ?_⟩
  · rintro _ rfl
    rw [g1]
    exact ⟨fun e => absurd rfl e, fun _ => kx _ (by rw [q]; rfl) hG g1⟩
  · refine m_within (N := 5) (y := (4 : Int32)) rfl ⟨fun q2 => ?_, fun q2 => ?_⟩
    · rintro _ rfl
      rw [g1]
      exact ⟨fun e => absurd rfl e, fun _ => kx _ (by rw [q2]; simp) hG g1⟩
    · rintro _ rfl
      rw [g0]
      refine ⟨fun _ => ?_, fun e => absurd e (by decide)⟩
      have hT := (hM.fr hF).1
      refine c_bas hV q (fun y hy f1 f2 j1 => ?_)
      have h5 := hV.b5
      obtain ⟨i, hi, rfl⟩ := ixB_t (by decide) q2
      subst f1
      simp only [Nat.zero_add]
      refine ⟨fun e => ?_, fun e => ?_⟩
      · have e : i = 4 := by
          have := (nI_leI (a := 4) (b := i) (by decide) (by omega)).mp e
          omega
        unfold wX11_det
        simp only [Nat.zero_add]
        rw [show (4 : Int32) = nI 4 from rfl, pk_mul, show (1 : Int32) = nI 1 from rfl, show (2 : Int32) = nI 2 from rfl, show (3 : Int32) = nI 3 from rfl, nI_add, nI_add, nI_add]
        rintro _ rfl
        refine ⟨vp_in_nI (by omega) (by decide), ?_⟩
        rintro _ rfl
        refine ⟨vp_in_nI (by omega) (by decide), ?_⟩
        rintro _ rfl
        refine ⟨vp_in_nI (by omega) (by decide), ?_⟩
        rintro _ rfl
        refine ⟨vp_in_nI (by omega) (by decide), ?_⟩
        rw [nI_clamp (by omega), nI_clamp (by omega), nI_clamp (by omega), nI_clamp (by omega)]
        have e0 : (u1 τ 0 0 0).1 11 (4 * y) = bv y 0 := hT.bas hy (k := 0) (by decide)
        rw [e0, hT.bas hy (by decide), hT.bas hy (by decide), hT.bas hy (by decide)]
        unfold wX11_p
        rw [show (u1 τ 0 0 0).1 (0 + 2) (0 : Int32).toNatClampNeg = nI P from hT.1]
        refine m_mod hV.p0 hV.p31 ?_
        have := k y i _ hy hi rfl rfl hF g0
        unfold baseA at this
        rw [if_pos e] at this
        exact this
      · have e : ¬ i = 4 := fun e2 => e (by rw [e2]; decide)
        rw [show (4 : Int32) = nI 4 from rfl, pk_mul, nI_add]
        rintro _ rfl
        refine ⟨vp_in_nI (by omega) (by decide), ?_⟩
        rw [nI_clamp (by omega), hT.bas hy (by omega)]
        have := k y i _ hy hi rfl rfl hF g0
        unfold baseA at this
        rw [if_neg e] at this
        exact this
theorem S_base (hR : Rel σ τ) (a b : Int32) : wX10_base 0 a b σ (fun r u => wX11_base 0 a b τ (fun r2 v => wX11_thrown 0 v (fun k v => k = 0 ∧ r = r2 ∧ Rel u v))) (fun u => wX11_base 0 a b τ (fun _ v => wX11_thrown 0 v (fun k v => k = 1 ∧ Rel u v))) := by
  obtain ⟨t, P, tn, bn, nn, lg, tof, tv, bv, L, tp, nw, sz, old, ac, kb, kn, hV, hX, hM⟩ := id hR
  have h5 := hV.1.b5
  refine C_base hV.1 hX.1 (fun j i hj hi ea eb => M_base hV.1 hM (fun j' i' v hj' hi' ea' eb' hv h0 => ?_) (fun v hq hv h0 => ?_)) (fun hx => M_base hV.1 hM (fun j' i' v hj' hi' ea' eb' hv h0 => ?_) (fun v hq hv h0 => ⟨h0, hR.fr (FX.rf σ) hv⟩))
  · have e1 : j = j' := (nI_eq (by omega) (by omega)).mp (ea.symm.trans ea')
    have e2 : i = i' := (nI_eq (by omega) (by omega)).mp (eb.symm.trans eb')
    subst e1 e2
    exact ⟨h0, rfl, hR.fr (FX.rf σ) hv⟩
  · rw [ea, eb, ixB_nI hj (by omega), ixB_nI hi (by decide)] at hq
    exact absurd hq (by decide)
  · rw [ea', eb', ixB_nI hj' (by omega), ixB_nI hi' (by decide)] at hx
    exact absurd hx (by decide)
end FI
