/-! changes of base: based, fits, first, base -/
theorem chS_cg {n leg p i : Nat} {a b c d : Int32} {v w : Nat → Int32} (h4 : n ≤ 4) (hl : leg < n) (hi : i < 2 ^ n) (h : ∀ j, j < 2 ^ n → v j = w j) : ∀ j, j < 2 ^ n → chS leg a b c d p i v j = chS leg a b c d p i w j := by
  intro j hj
  unfold chS
  by_cases q : i.testBit leg = true
  · rw [if_pos q, if_pos q]; exact h j hj
  · rw [if_neg q, if_neg q]
    have e2 := add_lt n h4 i hi leg hl (by simpa using q)
    rw [h i hi, h _ e2]
    unfold upd
    by_cases f1 : j = i + 2 ^ leg
    · rw [if_pos f1, if_pos f1]
    · rw [if_neg f1, if_neg f1]
      by_cases f2 : j = i
      · rw [if_pos f2, if_pos f2]
      · rw [if_neg f2, if_neg f2]; exact h j hj
theorem chF_cg {n leg p : Nat} {a b c d : Int32} {v w : Nat → Int32} (h4 : n ≤ 4) (hl : leg < n) (h : ∀ j, j < 2 ^ n → v j = w j) : ∀ i, i ≤ 2 ^ n → ∀ j, j < 2 ^ n → chF leg a b c d p v i j = chF leg a b c d p w i j := by
  intro i
  induction i with
  | zero => intro _ j hj; exact h j hj
  | succ i ih =>
    intro hi j hj
    rw [chF, chF]
    exact chS_cg h4 hl (by omega) (ih (by omega)) j hj
theorem chA_cg {n p : Nat} {a b c d : Int32} {v w : Nat → Int32} (h4 : n ≤ 4) (h : ∀ j, j < 2 ^ n → v j = w j) : ∀ l, l ≤ n → ∀ j, j < 2 ^ n → chA n a b c d p v l j = chA n a b c d p w l j := by
  intro l
  induction l with
  | zero => intro _ j hj; exact h j hj
  | succ l ih =>
    intro hl j hj
    rw [chA, chA]
    exact chF_cg h4 (by omega) (ih (by omega)) _ (Nat.le_refl _) j hj
section BS
variable {t P tn bn nn : Nat} {lg tof : Nat → Nat} {tv bv : Nat → Nat → Int32} {L : Nat} {tp : Nat → Int32} {nw : NetT} {sz old : Nat} {ac : Nat → NetT} {kb : Nat → Bool} {kn : Nat → NetT} {σ τ σ' τ' : St} {nl : Nat → Nat} {w : NetT} {N j : Nat}
theorem TabX.bas (h : TabX t P tn bn lg tv bv σ) (hj : j < bn) {k : Nat} (hk : k < 4) : σ.1 (t + 2 + 35 + 1 * j) k = bv j k := h.2.2.2.2.2.2.2 j hj k hk
theorem TabM.bas (h : TabM P tn bn lg tv bv τ) (hj : j < bn) {k : Nat} (hk : k < 4) : τ.1 11 (4 * j + k) = bv j k := h.2.2.2.2 j hj k hk
theorem c_turn {v1 v2 n : Nat} {a b c d : Int32} {v : Nat → Int32} {post : St → Prop} (hV : TabV P tn bn lg tv bv) (hT : TabX t P tn bn lg tv bv σ) (hv1 : v1 + 1 < 313) (hn : σ.1 v1 0 = nI n) (h4 : n ≤ 4) (hv : ∀ i, i < 2 ^ n → σ.1 (v1 + 1) i = v i) (hv2 : v2 ≠ 313 ∧ v2 ≠ 314) (ha : σ.1 v2 0 = a) (hb : σ.1 v2 1 = b) (hc : σ.1 v2 2 = c) (hd : σ.1 v2 3 = d) (k : ∀ s : St, (∀ o, o ≠ 313 → o ≠ 314 → s.1 o = σ.1 o) → s.1 313 0 = nI n → (∀ i, i < 2 ^ n → s.1 314 i = chA n a b c d P v n i) → post s) : wX7_copyFrom 313 v1 σ (fun s1 => ∀ p1 : Nat, p1 = (s1.1 0 2).toNatClampNeg → kX[p1]? = some 9 ∧ wX7_changeAllLegs 313 v2 (s1.1 p1 0) s1 post) := by
  have h16 := p2le h4
  refine s_copyFrom (by omega) (fun s s1 s2 s3 s4 => ?_)
  have hT2 : TabX t P tn bn lg tv bv s := hT.fr hV.t8 hV.b5 (fun o ho => s3 o (by omega) (by omega))
  rintro _ rfl
  rw [hT2.p, hT2.pr]
  refine ⟨kX_t hT.1, s_changeAll (n := n) (by rw [s1, hn]) h4 (by omega) hV.p0 hV.p31 (fun s' r1 r2 r3 => ?_)⟩
  refine k s' (fun o h1 h2 => by rw [r2 o h2, s3 o h1 h2]) (by rw [r2 313 (by decide), s1, hn]) (fun i hi => ?_)
  have e : s'.1 314 i = chA n (s.1 v2 0) (s.1 v2 1) (s.1 v2 2) (s.1 v2 3) P (s.1 (313 + 1)) n i := congrFun r1 i
  rw [e, s3 v2 hv2.1 hv2.2, ha, hb, hc, hd]
  exact chA_cg h4 (fun j hj => by rw [s2 j (by omega), hv j hj]) n (Nat.le_refl _) i hi
theorem c_madeBy {v1 v2 n : Nat} {a b c d : Int32} {v : Nat → Int32} {post : Bool → St → Prop} (hV : TabV P tn bn lg tv bv) (hT : TabX t P tn bn lg tv bv σ) (hv1 : v1 + 1 < 313) (hn : σ.1 v1 0 = nI n) (h4 : n ≤ 4) (hv : ∀ i, i < 2 ^ n → σ.1 (v1 + 1) i = v i) (hv2 : v2 ≠ 313 ∧ v2 ≠ 314) (ha : σ.1 v2 0 = a) (hb : σ.1 v2 1 = b) (hc : σ.1 v2 2 = c) (hd : σ.1 v2 3 = d) (k : ∀ s : St, (∀ o, o ≠ 313 → o ≠ 314 → s.1 o = σ.1 o) → post (madeF n (chA n a b c d P v n) P) s) : wX10_isMadeBy 0 v1 v2 σ post := by
  unfold wX10_isMadeBy
  simp only [Nat.zero_add]
  refine c_turn hV hT hv1 hn h4 hv hv2 ha hb hc hd (fun s s1 s2 s3 => ?_)
  have hT2 : TabX t P tn bn lg tv bv s := hT.fr hV.t8 hV.b5 (fun o ho => s1 o (by omega) (by omega))
  rintro _ rfl
  rw [hT2.p, hT2.pr]
  refine ⟨kX_t hT.1, s_isMade s2 h4 hV.p0 hV.p31 ?_⟩
  rw [madeF_cg s3]
  exact k s s1
theorem m_based {a b c d : Int32} {post : St → Prop} (hV : TabV P tn bn lg tv bv) (hM : RM P tn bn nn lg tof tv bv L tp nw sz ac kb kn τ) (hj : j < tn) (k : ∀ s, FM τ s → s.1 0 36 = nI (lg j) → (∀ i, i < 2 ^ lg j → s.1 20 i = chA (lg j) a b c d P (tv j) (lg j) i) → s.1 2 0 = nI P → post s) : wX11_laysBased 0 (nI j) a b c d τ post := by
  have h4 := hV.l4 hj
  have h16 := p2le h4
  unfold wX11_laysBased
  refine m_lay hV hM hj rfl (fun s f1 s1 s2 s3 => ?_)
  refine loop_0 (fun x l (r : St) => wX11_laysBased_8 post x 0 a b c d (nI l) r) (fun l r => FM τ r ∧ r.1 0 36 = nI (lg j) ∧ (∀ i, i < 2 ^ lg j → r.1 20 i = chA (lg j) a b c d P (tv j) l i) ∧ r.1 2 0 = nI P) (lg j) s ⟨f1, s1, s2, s3⟩ ?_ ?_
  · rintro x r ⟨g1, g2, g3, g4⟩
    unfold wX11_laysBased_8
    rw [g2]
    exact ⟨fun _ => k r g1 g2 g3 g4, fun q => absurd (nI_le (Nat.le_refl _) (by omega)) q⟩
  · rintro x l r hl ⟨g1, g2, g3, g4⟩ ih
    unfold wX11_laysBased_8
    simp only [Nat.zero_add]
    rw [g2]
    refine ⟨fun q => absurd q (nI_ge hl (by omega)), fun _ => ?_⟩
    refine m_changes (at_ := 0) h4 hl (by omega) (by decide) (by decide) g4 hV.p0 hV.p31 (fun r' e1 e2 e3 e4 => ?_)
    rintro _ rfl
    rw [nI_1]
    refine ih r' ⟨g1.tr ⟨fun i hi => by rw [e3 0 (by decide)], fun o h1 h2 => e3 o (by omega)⟩, by rw [e3 0 (by decide)]; exact g2, fun i hi => ?_, by rw [e3 2 (by decide)]; exact g4⟩
    have e5 := e1 i hi
    rw [Nat.zero_add] at e5
    rw [e5, chA]
    refine chF_cg h4 hl (fun j hj => ?_) _ (Nat.le_refl _) i hi
    show r.1 20 (0 + j) = _
    rw [Nat.zero_add]; exact g3 j hj
theorem m_basedBy {b : Nat} {post : St → Prop} (hV : TabV P tn bn lg tv bv) (hM : RM P tn bn nn lg tof tv bv L tp nw sz ac kb kn τ) (hj : j < tn) (hb : b < bn) (k : ∀ s, FM τ s → s.1 0 36 = nI (lg j) → (∀ i, i < 2 ^ lg j → s.1 20 i = chA (lg j) (bv b 0) (bv b 1) (bv b 2) (bv b 3) P (tv j) (lg j) i) → s.1 2 0 = nI P → post s) : wX11_laysBasedBy 0 (nI j) (nI b) τ post := by
  have h5 := hV.b5
  unfold wX11_laysBasedBy
  simp only [Nat.zero_add]
  rw [show (4 : Int32) = nI 4 from rfl, pk_mul, show (1 : Int32) = nI 1 from rfl, show (2 : Int32) = nI 2 from rfl, show (3 : Int32) = nI 3 from rfl, nI_add, nI_add, nI_add]
  rintro _ rfl
  refine ⟨vp_in_nI (by omega) (by decide), ?_⟩
  rintro _ rfl
  refine ⟨vp_in_nI (by omega) (by decide), ?_⟩
  rintro _ rfl
  refine ⟨vp_in_nI (by omega) (by decide), ?_⟩
  rintro _ rfl
  refine ⟨vp_in_nI (by omega) (by decide), ?_⟩
  rw [nI_clamp (by omega), nI_clamp (by omega), nI_clamp (by omega), nI_clamp (by omega)]
  have e0 : τ.1 11 (4 * b) = bv b 0 := hM.1.bas hb (k := 0) (by decide)
  rw [e0, hM.1.bas hb (by decide), hM.1.bas hb (by decide), hM.1.bas hb (by decide)]
  exact m_based hV hM hj k
theorem c_bas {a : Int32} {Q : Prop} (hV : TabV P tn bn lg tv bv) (q : ixB a bn = true) (k : ∀ j, j < bn → a = nI j → a.toNatClampNeg = j → vp_in a 5 → Q) : Q := by
  have h5 := hV.b5
  obtain ⟨j, hj, rfl⟩ := ixB_t (by omega) q
  exact k j hj rfl (nI_clamp (by omega)) (vp_in_nI (by omega) (by decide))
def bsF (P : Nat) (lg : Nat → Nat) (tv bv : Nat → Nat → Int32) (j b : Nat) : Nat → Int32 := chA (lg j) (bv b 0) (bv b 1) (bv b 2) (bv b 3) P (tv j) (lg j)
def basedA (P tn bn : Nat) (lg : Nat → Nat) (tv bv : Nat → Nat → Int32) (a b i : Int32) : Int32 := if ixB a tn && ixB b bn && ixB i (2 ^ lg a.toNatClampNeg) then bsF P lg tv bv a.toNatClampNeg b.toNatClampNeg i.toNatClampNeg else -1
theorem C_based {a b i : Int32} {post : Int32 → St → Prop} (hV : TabV P tn bn lg tv bv) (hT : TabX t P tn bn lg tv bv σ) (k : ∀ u, FX σ u → post (basedA P tn bn lg tv bv a b i) u) : wX10_based 0 a b i σ post := by
  unfold wX10_based
  simp only [Nat.zero_add]
  unfold basedA at k
  refine c_isTable hT hV.t8 ⟨fun q => ?_, fun q => c_isBase hT hV.b5 ⟨fun q2 => ?_, fun q2 => ?_⟩⟩
  · rw [if_neg (by rw [q]; simp)] at k; exact k _ (FX.rf σ)
  · rw [if_neg (by rw [q2]; simp)] at k; exact k _ (FX.rf σ)
  · refine c_tab hV hT q (fun j hj e1 e2 h4 i1 i2 => c_bas hV q2 (fun y hy f1 f2 j1 => ?_))
    have h16 := p2le h4
    have h8 := hV.t8
    have h5 := hV.b5
    have ht : t = 2 ∨ t = 44 := hT.1
    rintro _ rfl
    rw [e2, f2] at k
    rw [hT.p, e2, f2]
    refine ⟨kX_t hT.1, i1, s_hasIndex (hT.leg hj) h4 ⟨fun q3 => ?_, fun q3 => ?_⟩⟩
    · rw [if_pos (by rw [q, q2, q3]; rfl)] at k
      obtain ⟨x, hx, rfl⟩ := ixB_t (by omega) q3
      rintro _ rfl
      rw [hT.p]
      refine ⟨kX_t hT.1, i1, ?_⟩
      refine s_copyFrom (by omega) (fun s s1 s2 s3 s4 => ?_)
      have hT2 : TabX t P tn bn lg tv bv s := hT.fr hV.t8 hV.b5 (fun o ho => s3 o (by omega) (by omega))
      rintro _ rfl
      rw [hT2.p]
      refine ⟨kX_t hT.1, j1, ?_⟩
      rintro _ rfl
      refine ⟨kX_t hT.1, ?_⟩
      rw [hT2.pr]
      refine s_changeAll (n := lg j) (by rw [s1]; exact hT.leg hj) h4 (by omega) hV.p0 hV.p31 (fun s' r1 r2 r3 => ?_)
      refine ⟨vp_in_nI (by omega) (by decide), ?_⟩
      rw [nI_clamp (by omega)] at k ⊢
      have e : s'.1 (313 + 1) x = bsF P lg tv bv j y x := by
        rw [r1, hT2.bas hy (by decide), hT2.bas hy (by decide), hT2.bas hy (by decide), hT2.bas hy (by decide)]
        exact chA_cg h4 (fun i hi => by rw [s2 i (by omega)]; exact hT.val hj i hi) _ (Nat.le_refl _) x hx
      rw [e]
      exact k s' (fun o ho => by rw [r2 o (by omega), s3 o (by omega) (by omega)])
    · rw [if_neg (by rw [q3]; simp)] at k; exact k _ (FX.rf σ)
theorem M_based {a b i : Int32} {post : Int32 → St → Prop} (hV : TabV P tn bn lg tv bv) (hM : RM P tn bn nn lg tof tv bv L tp nw sz ac kb kn τ) (k : ∀ v, FM τ v → post (basedA P tn bn lg tv bv a b i) v) : wX11_based 0 a b i τ post := by
  have hF : FM τ (u1 τ 0 0 0) := FM.u0 (by decide)
  have hM1 := hM.fr hF
  unfold wX11_based
  unfold basedA at k
  rintro _ rfl
  refine m_isTable hM1.1 hV.t8 ⟨fun q => ?_, fun q => m_isBase hM1.1 hV.b5 ⟨fun q2 => ?_, fun q2 => ?_⟩⟩
  · rw [if_neg (by rw [q]; simp)] at k; exact k _ hF
  · rw [if_neg (by rw [q2]; simp)] at k; exact k _ hF
  · refine m_tab hV q (fun j hj e1 e2 h4 i2 => c_bas hV q2 (fun y hy f1 f2 j1 => ?_))
    have h16 := p2le h4
    simp only [Nat.zero_add]
    rw [e2, f2] at k
    rw [e2, hM1.1.leg hj, sh1 _ (by omega)]
    subst e1 f1
    refine ⟨i2, m_within (pred_toInt (by omega)) ⟨fun q3 => m_basedBy hV hM1 hj hy (fun s g1 g2 g3 g4 => ?_), fun q3 => ?_⟩⟩
    · rw [if_pos (by rw [q, q2, q3]; rfl)] at k
      obtain ⟨x, hx, rfl⟩ := ixB_t (by omega) q3
      refine ⟨vp_in_nI (by omega) (by decide), ?_⟩
      rw [nI_clamp (by omega)] at k ⊢
      rw [g3 x hx]
      exact k s (hF.tr g1)
    · rw [if_neg (by rw [q3]; simp)] at k; exact k _ hF
theorem S_based (hR : Rel σ τ) (a b i : Int32) : wX10_based 0 a b i σ (fun r u => wX11_based 0 a b i τ (fun r2 v => r = r2 ∧ Rel u v)) := by
  obtain ⟨t, P, tn, bn, nn, lg, tof, tv, bv, L, tp, nw, sz, old, ac, kb, kn, hV, hX, hM⟩ := id hR
  exact C_based hV.1 hX.1 (fun u hu => M_based hV.1 hM (fun v hv => ⟨rfl, hR.fr hu hv⟩))
def fitsA (P tn bn : Nat) (lg : Nat → Nat) (tv bv : Nat → Nat → Int32) (a b : Int32) : Int32 := if ixB a tn && ixB b bn then b2i (madeF (lg a.toNatClampNeg) (bsF P lg tv bv a.toNatClampNeg b.toNatClampNeg) P) else -1
theorem C_fits {a b : Int32} {post : Int32 → St → Prop} (hV : TabV P tn bn lg tv bv) (hT : TabX t P tn bn lg tv bv σ) (k : ∀ u, FX σ u → post (fitsA P tn bn lg tv bv a b) u) : wX10_fits 0 a b σ post := by
  unfold wX10_fits
  unfold fitsA at k
  refine c_isTable hT hV.t8 ⟨fun q => ?_, fun q => c_isBase hT hV.b5 ⟨fun q2 => ?_, fun q2 => ?_⟩⟩
  · rw [if_neg (by rw [q]; simp)] at k; exact k _ (FX.rf σ)
  · rw [if_pos (by rw [q, q2]; rfl)] at k
    refine c_tab hV hT q (fun j hj e1 e2 h4 i1 i2 => c_bas hV q2 (fun y hy f1 f2 j1 => ?_))
    have h8 := hV.t8
    have h5 := hV.b5
    have ht : t = 2 ∨ t = 44 := hT.1
    rintro _ rfl
    rw [e2, f2] at k
    rw [hT.p, e2, f2]
    refine ⟨kX_t hT.1, i1, ?_⟩
    rintro _ rfl
    refine ⟨kX_t hT.1, j1, ?_⟩
    refine c_madeBy hV hT (by omega) (hT.leg hj) h4 (hT.val hj) (by omega) (hT.bas hy (by decide)) (hT.bas hy (by decide)) (hT.bas hy (by decide)) (hT.bas hy (by decide)) (fun s s1 => ?_)
    have k := k s (fun o ho => s1 o (by omega) (by omega))
    unfold bsF at k
    refine ⟨fun q3 => ?_, fun q3 => ?_⟩ <;> rw [q3] at k <;> exact k
  · rw [if_neg (by rw [q2]; simp)] at k; exact k _ (FX.rf σ)
theorem M_fits {a b : Int32} {post : Int32 → St → Prop} (hV : TabV P tn bn lg tv bv) (hM : RM P tn bn nn lg tof tv bv L tp nw sz ac kb kn τ) (k : ∀ v, FM τ v → post (fitsA P tn bn lg tv bv a b) v) : wX11_fits 0 a b τ post := by
  have hF : FM τ (u1 τ 0 0 0) := FM.u0 (by decide)
  have hM1 := hM.fr hF
  unfold wX11_fits
  unfold fitsA at k
  rintro _ rfl
  refine m_isTable hM1.1 hV.t8 ⟨fun q => ?_, fun q => m_isBase hM1.1 hV.b5 ⟨fun q2 => ?_, fun q2 => ?_⟩⟩
  · rw [if_neg (by rw [q]; simp)] at k; exact k _ hF
  · rw [if_pos (by rw [q, q2]; rfl)] at k
    refine m_tab hV q (fun j hj e1 e2 h4 i2 => c_bas hV q2 (fun y hy f1 f2 j1 => ?_))
    rw [e2, f2] at k
    subst e1 f1
    refine m_basedBy hV hM1 hj hy (fun s g1 g2 g3 g4 => m_isMade g2 h4 g4 hV.p0 hV.p31 ?_)
    have k := k s (hF.tr g1)
    unfold bsF at k
    rw [madeF_cg g3]
    refine ⟨fun q3 => ?_, fun q3 => ?_⟩ <;> rw [q3] at k <;> exact k
  · rw [if_neg (by rw [q2]; simp)] at k; exact k _ hF
theorem S_fits (hR : Rel σ τ) (a b : Int32) : wX10_fits 0 a b σ (fun r u => wX11_fits 0 a b τ (fun r2 v => r = r2 ∧ Rel u v)) := by
  obtain ⟨t, P, tn, bn, nn, lg, tof, tv, bv, L, tp, nw, sz, old, ac, kb, kn, hV, hX, hM⟩ := id hR
  exact C_fits hV.1 hX.1 (fun u hu => M_fits hV.1 hM (fun v hv => ⟨rfl, hR.fr hu hv⟩))
end BS
