/-! identity, made, plain, like -/
theorem mul_nn {P : Nat} {x y : Int32} (hP : P ≤ 97) (hx : Sm P x) (hy : Sm P y) : (x * y).toInt = x.toInt * y.toInt ∧ 0 ≤ (x * y).toInt ∧ (x * y).toInt ≤ 9216 := by
  obtain ⟨x1, x2⟩ := hx
  obtain ⟨y1, y2⟩ := hy
  have h1 : 0 ≤ x.toInt * y.toInt := Int.mul_nonneg x1 y1
  have h2 : x.toInt * y.toInt ≤ 96 * 96 := Int.mul_le_mul (by omega) (by omega) y1 (by decide)
  have e := fb_mulI (x := x) (y := y) (by omega) (by omega)
  rw [e]
  exact ⟨rfl, h1, by omega⟩
section EZ
variable {t P tn bn nn : Nat} {lg tof : Nat → Nat} {tv bv : Nat → Nat → Int32} {L : Nat} {tp : Nat → Int32} {nw : NetT} {sz old : Nat} {ac : Nat → NetT} {kb : Nat → Bool} {kn : Nat → NetT} {σ τ σ' τ' : St} {nl : Nat → Nat} {w : NetT} {N j : Nat}
def identF (P tn : Nat) (lg : Nat → Nat) (tv : Nat → Nat → Int32) (a b : Int32) : Int32 := if ixB a tn then (if lg a.toNatClampNeg = 4 then ruleF (!decide (b = 0)) (tv a.toNatClampNeg) P else -2) else -1
theorem C_ident {a b : Int32} {post : Int32 → St → Prop} (hV : TabV P tn bn lg tv bv) (hT : TabX t P tn bn lg tv bv σ) (k : post (identF P tn lg tv a b) σ) : wX10_identity 0 a b σ post := by
  unfold wX10_identity
  unfold identF at k
  refine c_isTable hT hV.t8 ⟨fun q => ?_, fun q => ?_⟩
  · rw [if_pos q] at k
    refine c_tab hV hT q (fun j hj e1 e2 h4 i1 i2 => ?_)
    rintro _ rfl
    rw [e2] at k
    rw [hT.p, e2, hT.leg hj, nI_4 h4]
    refine ⟨kX_t hT.1, i1, fun q2 => ?_, fun q2 => ?_⟩
    · rw [if_neg q2] at k; exact k
    · rw [if_pos q2] at k
      rintro _ rfl
      refine ⟨kX_t hT.1, ?_⟩
      rw [hT.pr]
      refine s_rule hV.p0 hV.p31 ?_
      rw [ruleF_cg (w := tv j) (fun i hi => hT.val hj i (by rw [q2]; exact hi))]; exact k
  · rw [if_neg (by rw [q]; decide)] at k; exact k
theorem M_ident {a b : Int32} {post : Int32 → St → Prop} (hV : TabV P tn bn lg tv bv) (hM : RM P tn bn nn lg tof tv bv L tp nw sz ac kb kn τ) (k : ∀ v, FM τ v → post (identF P tn lg tv a b) v) : wX11_identity 0 a b τ post := by
  have hF : FM τ (u1 τ 0 0 0) := FM.u0 (by decide)
  unfold wX11_identity
  unfold identF at k
  rintro _ rfl
  refine m_isTable (hM.fr hF).1 hV.t8 ⟨fun q => ?_, fun q => ?_⟩
  · rw [if_pos q] at k
    refine m_tab hV q (fun j hj e1 e2 h4 i2 => m_lay hV (hM.fr hF) hj e1 (fun s f1 s1 s2 s3 => ?_))
    rw [e2] at k
    rw [s1]
    have k := k _ (hF.tr f1)
    refine ⟨fun q2 => ?_, fun q2 => ?_⟩
    · have : lg j = 4 := by
        have := (nI_leI (a := 4) (b := lg j) (by decide) (by omega)).mp q2
        omega
      rw [if_pos this] at k
      refine m_rule s3 hV.p0 hV.p31 ?_
      rw [ruleF_cg (w := tv j) (fun i hi => s2 i (by rw [this]; exact hi))]; exact k
    · have : ¬ lg j = 4 := fun e => q2 (by rw [e]; decide)
      rw [if_neg this] at k; exact k
  · rw [if_neg (by rw [q]; decide)] at k; exact k _ hF
theorem S_identity (hR : Rel σ τ) (a b : Int32) : wX10_identity 0 a b σ (fun r u => wX11_identity 0 a b τ (fun r2 v => r = r2 ∧ Rel u v)) := by
  obtain ⟨t, P, tn, bn, nn, lg, tof, tv, bv, L, tp, nw, sz, old, ac, kb, kn, hV, hX, hM⟩ := id hR
  exact C_ident hV.1 hX.1 (M_ident hV.1 hM (fun v hv => ⟨rfl, hR.fr (FX.rf σ) hv⟩))
def madeA (P tn : Nat) (lg : Nat → Nat) (tv : Nat → Nat → Int32) (a : Int32) : Int32 := if ixB a tn then b2i (madeF (lg a.toNatClampNeg) (tv a.toNatClampNeg) P) else -1
theorem C_made {a : Int32} {post : Int32 → St → Prop} (hV : TabV P tn bn lg tv bv) (hT : TabX t P tn bn lg tv bv σ) (k : post (madeA P tn lg tv a) σ) : wX10_made 0 a σ post := by
  unfold wX10_made
  unfold madeA at k
  refine c_isTable hT hV.t8 ⟨fun q => ?_, fun q => ?_⟩
  · rw [if_pos q] at k
    refine c_tab hV hT q (fun j hj e1 e2 h4 i1 i2 => ?_)
    rintro _ rfl
    rw [e2] at k
    rw [hT.p, e2]
    refine ⟨kX_t hT.1, i1, ?_⟩
    rintro _ rfl
    refine ⟨kX_t hT.1, ?_⟩
    rw [hT.pr]
    refine s_isMade (hT.leg hj) h4 hV.p0 hV.p31 ?_
    rw [madeF_cg (hT.val hj)]
    refine ⟨fun q2 => ?_, fun q2 => ?_⟩ <;> rw [q2] at k <;> exact k
  · rw [if_neg (by rw [q]; decide)] at k; exact k
theorem M_made {a : Int32} {post : Int32 → St → Prop} (hV : TabV P tn bn lg tv bv) (hM : RM P tn bn nn lg tof tv bv L tp nw sz ac kb kn τ) (k : ∀ v, FM τ v → post (madeA P tn lg tv a) v) : wX11_made 0 a τ post := by
  have hF : FM τ (u1 τ 0 0 0) := FM.u0 (by decide)
  unfold wX11_made
  unfold madeA at k
  rintro _ rfl
  refine m_isTable (hM.fr hF).1 hV.t8 ⟨fun q => ?_, fun q => ?_⟩
  · rw [if_pos q] at k
    refine m_tab hV q (fun j hj e1 e2 h4 i2 => m_lay hV (hM.fr hF) hj e1 (fun s f1 s1 s2 s3 => m_isMade s1 h4 s3 hV.p0 hV.p31 ?_))
    rw [e2] at k
    have k := k _ (hF.tr f1)
    rw [madeF_cg s2]
    refine ⟨fun q2 => ?_, fun q2 => ?_⟩ <;> rw [q2] at k <;> exact k
  · rw [if_neg (by rw [q]; decide)] at k; exact k _ hF
theorem S_made (hR : Rel σ τ) (a : Int32) : wX10_made 0 a σ (fun r u => wX11_made 0 a τ (fun r2 v => r = r2 ∧ Rel u v)) := by
  obtain ⟨t, P, tn, bn, nn, lg, tof, tv, bv, L, tp, nw, sz, old, ac, kb, kn, hV, hX, hM⟩ := id hR
  exact C_made hV.1 hX.1 (M_made hV.1 hM (fun v hv => ⟨rfl, hR.fr (FX.rf σ) hv⟩))
def plainA (tn : Nat) (lg : Nat → Nat) (tv : Nat → Nat → Int32) (a : Int32) : Int32 := if ixB a tn then b2i (plainF (lg a.toNatClampNeg) (tv a.toNatClampNeg)) else -1
theorem C_plain {a : Int32} {post : Int32 → St → Prop} (hV : TabV P tn bn lg tv bv) (hT : TabX t P tn bn lg tv bv σ) (k : post (plainA tn lg tv a) σ) : wX10_plain 0 a σ post := by
  unfold wX10_plain
  unfold plainA at k
  refine c_isTable hT hV.t8 ⟨fun q => ?_, fun q => ?_⟩
  · rw [if_pos q] at k
    refine c_tab hV hT q (fun j hj e1 e2 h4 i1 i2 => ?_)
    rintro _ rfl
    rw [e2] at k
    rw [hT.p, e2]
    refine ⟨kX_t hT.1, i1, s_plain (hT.leg hj) h4 ?_⟩
    rw [plainF_cg h4 (hT.val hj)]
    refine ⟨fun q2 => ?_, fun q2 => ?_⟩ <;> rw [q2] at k <;> exact k
  · rw [if_neg (by rw [q]; decide)] at k; exact k
theorem m_plain {n : Nat} {post : Int32 → St → Prop} (hn : τ.1 0 36 = nI n) (h4 : n ≤ 4) (k : post (b2i (plainF n (τ.1 20))) τ) : ∃ j, wX11_plain_22 post j 0 (0 : Int32) τ := by
  have h16 := p2le h4
  refine loop_0 (fun j i (_ : Unit) => wX11_plain_22 post j 0 (nI i) τ) (fun i _ => ∀ x, x < i → τ.1 20 x = τ.1 20 (2 ^ bc x - 1)) (2 ^ n) () (fun x hx => by omega) ?_ ?_
  · intro j _ hI
    unfold wX11_plain_22
    rw [hn, sh1 _ (by omega)]
    refine ⟨fun _ => ?_, fun q => absurd (nI_le (Nat.le_refl _) (by omega)) q⟩
    have : plainF n (τ.1 20) = true := decide_eq_true hI
    rw [this] at k; exact k
  · intro j i _ hi hI ih
    unfold wX11_plain_22
    simp only [Nat.zero_add]
    rw [hn, sh1 _ (by omega)]
    refine ⟨fun q => absurd q (nI_ge hi (by omega)), fun _ => ⟨vp_in_nI (by omega) (by decide), m_bits (by omega) ?_⟩⟩
    obtain ⟨b1, b2⟩ := bc_lt i (by omega)
    rw [b2]
    rintro _ rfl
    refine ⟨vp_in_nI b1 (by decide), ?_⟩
    rw [nI_clamp (by omega), nI_clamp (by omega)]
    refine ⟨fun q => ?_, fun q => ?_⟩
    · rintro _ rfl
      rw [nI_1]
      refine ih () (fun x hx => ?_)
      by_cases e : x = i
      · subst e; exact q
      · exact hI x (by omega)
    · have : plainF n (τ.1 20) = false := decide_eq_false (fun w => q (w i hi))
      rw [this] at k; exact k
theorem M_plain {a : Int32} {post : Int32 → St → Prop} (hV : TabV P tn bn lg tv bv) (hM : RM P tn bn nn lg tof tv bv L tp nw sz ac kb kn τ) (k : ∀ v, FM τ v → post (plainA tn lg tv a) v) : wX11_plain 0 a τ post := by
  have hF : FM τ (u1 τ 0 0 0) := FM.u0 (by decide)
  unfold wX11_plain
  unfold plainA at k
  rintro _ rfl
  refine m_isTable (hM.fr hF).1 hV.t8 ⟨fun q => ?_, fun q => ?_⟩
  · rw [if_pos q] at k
    refine m_tab hV q (fun j hj e1 e2 h4 i2 => m_lay hV (hM.fr hF) hj e1 (fun s f1 s1 s2 s3 => m_plain s1 h4 ?_))
    rw [e2] at k
    rw [plainF_cg h4 s2]; exact k _ (hF.tr f1)
  · rw [if_neg (by rw [q]; decide)] at k; exact k _ hF
theorem S_plain (hR : Rel σ τ) (a : Int32) : wX10_plain 0 a σ (fun r u => wX11_plain 0 a τ (fun r2 v => r = r2 ∧ Rel u v)) := by
  obtain ⟨t, P, tn, bn, nn, lg, tof, tv, bv, L, tp, nw, sz, old, ac, kb, kn, hV, hX, hM⟩ := id hR
  exact C_plain hV.1 hX.1 (M_plain hV.1 hM (fun v hv => ⟨rfl, hR.fr (FX.rf σ) hv⟩))
def likeA (P tn : Nat) (lg : Nat → Nat) (tv : Nat → Nat → Int32) (a b : Int32) : Int32 := if ixB a tn && ixB b tn then (if lg a.toNatClampNeg = lg b.toNatClampNeg then likeF (lg a.toNatClampNeg) (tv a.toNatClampNeg) (tv b.toNatClampNeg) P else 0) else -1
theorem C_like {a b : Int32} {post : Int32 → St → Prop} (hV : TabV P tn bn lg tv bv) (hT : TabX t P tn bn lg tv bv σ) (k : post (likeA P tn lg tv a b) σ) : wX10_like 0 a b σ post := by
  unfold wX10_like
  unfold likeA at k
  refine c_isTable hT hV.t8 ⟨fun q => ?_, fun q => c_isTable hT hV.t8 ⟨fun q2 => ?_, fun q2 => ?_⟩⟩
  · rw [if_neg (by rw [q]; simp)] at k; exact k
  · rw [if_pos (by rw [q, q2]; rfl)] at k
    refine c_tab hV hT q (fun j hj e1 e2 h4 i1 i2 => c_tab hV hT q2 (fun j' hj' e1' e2' h4' i1' i2' => ?_))
    rintro _ rfl
    rw [e2, e2'] at k
    rw [hT.p, e2, e2']
    refine ⟨kX_t hT.1, i1, ?_⟩
    rintro _ rfl
    refine ⟨kX_t hT.1, i1', ?_⟩
    rintro _ rfl
    refine ⟨kX_t hT.1, ?_⟩
    rw [hT.pr]
    refine s_factor (hT.leg hj) (hT.leg hj') h4 h4' hV.p0 hV.p31 ?_
    by_cases e : lg j = lg j'
    · rw [if_pos e] at k ⊢
      rw [likeF_cg (hT.val hj) (fun i hi => hT.val hj' i (by rw [← e]; exact hi))]; exact k
    · rw [if_neg e] at k ⊢; exact k
  · rw [if_neg (by rw [q, q2]; decide)] at k; exact k
theorem m_like {j j' n P : Nat} {post : Int32 → St → Prop} {v v' : Nat → Int32} (hj : j < 8) (hj' : j' < 8) (hn : τ.1 9 j = nI n) (h4 : n ≤ 4) (hv : ∀ i, i < 2 ^ n → τ.1 10 (16 * j + i) = v i) (hv' : ∀ i, i < 2 ^ n → τ.1 10 (16 * j' + i) = v' i) (hs : ∀ i, i < 2 ^ n → Sm P (v' i)) (hP : τ.1 2 0 = nI P) (h0 : 0 < P) (h97 : P ≤ 97) (k : post (likeF n v v' P) τ) : ∃ x, wX11_like_42 post x 0 (nI j) (nI j') (1 : Int32) τ := by
  have h16 := p2le h4
  have hPp : τ.1 (0 + 2) (0 : Int32).toNatClampNeg = nI P := hP
  have hm : ∀ m i, i + m = P → 1 ≤ i → likeF n v v' P = findI (fun f => timesF n v v' (nI f) P) nI 0 i m → wX11_like_42 post (m + 1) 0 (nI j) (nI j') (nI i) τ := by
    intro m
    induction m with
    | zero =>
      intro i e _ hf
      unfold wX11_like_42 wX11_p
      rw [hPp]
      refine ⟨fun _ => ?_, fun q => absurd (nI_le (by omega) (by omega)) q⟩
      rw [hf] at k
      exact k
    | succ m ih =>
      intro i e h1 hf
      unfold wX11_like_42 wX11_p
      rw [hPp]
      refine ⟨fun q => absurd q (nI_ge (by omega) (by omega)), fun _ => ?_⟩
      refine loop_0 (fun x y (_ : Unit) => wX11_like_56 post (wX11_like_42 post (m + 1)) x 0 (nI j) (nI j') (nI i) (b2i (decide (∀ x, x < y → v x = md (nI i * v' x) P))) (nI y) τ) (fun _ _ => True) (2 ^ n) () trivial ?_ ?_
      · intro x _ _
        unfold wX11_like_56
        simp only [Nat.zero_add]
        rw [nI_clamp (by omega), hn, sh1 _ (by omega)]
        refine ⟨vp_in_nI (by omega) (by decide), fun _ => ?_, fun q => absurd (nI_le (Nat.le_refl _) (by omega)) q⟩
        refine ⟨fun q => ?_, fun q => ?_⟩
        · have q : timesF n v v' (nI i) P = false := (b2i_0 _).mp q
          rintro _ rfl
          rw [nI_1]
          refine ih (i + 1) (by omega) (by omega) ?_
          rw [hf, findI, if_neg (by rw [q]; decide)]
        · have q : timesF n v v' (nI i) P = true := (b2i_n _).mp q
          rw [hf, findI, if_pos q] at k
          exact k
      · intro x y _ hy _ ih2
        have ih2 := ih2 () trivial
        unfold wX11_like_56 wX11_p wX11_like_110
        simp only [Nat.zero_add]
        rw [nI_clamp (by omega), hn, sh1 _ (by omega), show τ.1 2 (0 : Int32).toNatClampNeg = nI P from hP]
        refine ⟨vp_in_nI (by omega) (by decide), fun q => absurd q (nI_ge hy (by omega)), fun _ => ?_⟩
        rw [show (16 : Int32) = nI 16 from rfl, pk_mul, pk_mul, nI_add, nI_add]
        rintro _ rfl
        refine ⟨vp_in_nI (by omega) (by decide), ?_⟩
        rintro _ rfl
        refine ⟨vp_in_nI (by omega) (by decide), nI_ne0 h0 (by omega), ?_⟩
        rw [nI_clamp (by omega), nI_clamp (by omega), hv y hy, hv' y hy, rem_md h0 (by omega) (mul_nn (P := P) h97 (Sm_nI (by omega) (by omega)) (hs y hy)).2.1]
        refine ⟨fun q => ?_, fun q => ?_⟩
        · rintro _ rfl _ rfl
          rw [nI_1]
          have e2 : decide (∀ x, x < y + 1 → v x = md (nI i * v' x) P) = false := decide_eq_false (fun w => q (w y (by omega)))
          rw [e2] at ih2
          have : ∀ b : Bool, b2i b &&& 0 = b2i false := by decide
          rw [this]; exact ih2
        · rintro _ rfl _ rfl
          rw [nI_1]
          have e2 : decide (∀ x, x < y + 1 → v x = md (nI i * v' x) P) = decide (∀ x, x < y → v x = md (nI i * v' x) P) := by
            congr 1
            apply propext
            constructor
            · intro w x hx; exact w x (by omega)
            · intro w x hx
              by_cases e : x = y
              · subst e; exact q
              · exact w x (by omega)
          rw [e2] at ih2
          have : ∀ b : Bool, b2i b &&& 1 = b2i b := by decide
          rw [this]; exact ih2
  exact ⟨P - 1 + 1, hm (P - 1) 1 (by omega) (by omega) rfl⟩
theorem M_like {a b : Int32} {post : Int32 → St → Prop} (hV : TabV P tn bn lg tv bv) (hM : RM P tn bn nn lg tof tv bv L tp nw sz ac kb kn τ) (k : ∀ v, FM τ v → post (likeA P tn lg tv a b) v) : wX11_like 0 a b τ post := by
  have hF : FM τ (u1 τ 0 0 0) := FM.u0 (by decide)
  have hT := (hM.fr hF).1
  have h8 := hV.t8
  have k := k _ hF
  unfold wX11_like
  unfold likeA at k
  rintro _ rfl
  refine m_isTable hT hV.t8 ⟨fun q => ?_, fun q => m_isTable hT hV.t8 ⟨fun q2 => ?_, fun q2 => ?_⟩⟩
  · rw [if_neg (by rw [q]; simp)] at k; exact k
  · rw [if_pos (by rw [q, q2]; rfl)] at k
    refine m_tab hV q (fun j hj e1 e2 h4 i2 => m_tab hV q2 (fun j' hj' e1' e2' h4' i2' => ?_))
    subst e1 e1'
    simp only [Nat.zero_add]
    rw [e2, e2'] at k
    rw [e2, e2', hT.leg hj, hT.leg hj', nI_eq (by omega) (by omega)]
    refine ⟨i2, i2', fun e => ?_, fun e => ?_⟩
    · rw [if_pos e] at k
      exact m_like (by omega) (by omega) (hT.leg hj) h4 (hT.val hj) (fun i hi => hT.val hj' i (by rw [← e]; exact hi)) (fun i hi => (hV.2.2.2.1 j' hj').2.2 i (by rw [← e]; exact hi)) hT.1 hV.p0 hV.1.2.1 k
    · rw [if_neg e] at k; exact k
  · rw [if_neg (by rw [q, q2]; decide)] at k; exact k
theorem S_like (hR : Rel σ τ) (a b : Int32) : wX10_like 0 a b σ (fun r u => wX11_like 0 a b τ (fun r2 v => r = r2 ∧ Rel u v)) := by
  obtain ⟨t, P, tn, bn, nn, lg, tof, tv, bv, L, tp, nw, sz, old, ac, kb, kn, hV, hX, hM⟩ := id hR
  exact C_like hV.1 hX.1 (M_like hV.1 hM (fun v hv => ⟨rfl, hR.fr (FX.rf σ) hv⟩))
end EZ
