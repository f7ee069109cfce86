/-! scale, plug, swap -/
def setN (w : NetT) (j : Nat) (v : Nat → Int32) : NetT := (w.1, w.2.1, fun n => if n = j then v else w.2.2 n)
section AC
variable {t P tn bn nn : Nat} {lg tof : Nat → Nat} {tv bv : Nat → Nat → Int32} {L : Nat} {tp : Nat → Int32} {nw nw' : NetT} {sz old sz' old' : Nat} {ac ac' : Nat → NetT} {kb kb' : Nat → Bool} {kn kn' : Nat → NetT} {σ τ σ' τ' : St} {nl : Nat → Nat} {w : NetT} {N j : Nat} {v : Nat → Int32}
theorem NetX.vals (h : NetX nn nl w N σ) (hf : ∀ o, o ≠ N + 1 + 2 + 2 * j → o ≠ N + 1 + 2 + 2 * j + 1 → σ'.1 o = σ.1 o) (h0 : σ'.1 (N + 1 + 2 + 2 * j) 0 = nI (nl j)) (hv : ∀ i, i < 2 ^ nl j → σ'.1 (N + 1 + 2 + 2 * j + 1) i = v i) : NetX nn nl (setN w j v) N σ' := by
  obtain ⟨h1, h2, h3, h4⟩ := h
  refine ⟨by rw [hf _ (by omega) (by omega)]; exact h1, by rw [hf _ (by omega) (by omega)]; exact h2, fun e he => by rw [hf _ (by omega) (by omega)]; exact h3 e he, fun x hx => ?_⟩
  by_cases e : x = j
  · subst e
    refine ⟨h0, fun i hi => ?_⟩
    unfold setN
    simp only [if_true]
    exact hv i hi
  · refine ⟨by rw [hf _ (by omega) (by omega)]; exact (h4 x hx).1, fun i hi => ?_⟩
    unfold setN
    simp only [if_neg e]
    rw [hf _ (by omega) (by omega)]; exact (h4 x hx).2 i hi
theorem NetM.vals {r r' : Nat → Int32} (h : NetM nn nl w r) (hn : nn ≤ 6) (hl : ∀ j, j < nn → nl j ≤ 4) (hw : w.1 ≤ 10) (hj : j < nn) (hf : ∀ x, (x < 16 * j ∨ 16 * j + 16 ≤ x) → r' x = r x) (hv : ∀ i, i < 2 ^ nl j → r' (16 * j + i) = v i) : NetM nn nl (setN w j v) r' := by
  obtain ⟨h1, h2, h3⟩ := h
  refine ⟨by rw [hf _ (by omega)]; exact h1, fun e he => ?_, fun x hx i hi => ?_⟩
  · have he : e < 2 * w.1 := he
    rw [hf _ (by omega)]; exact h2 e he
  · have h16 := p2le (hl x hx)
    unfold setN
    by_cases e : x = j
    · subst e
      simp only [if_true]
      exact hv i hi
    · simp only [if_neg e]
      rw [hf _ (by omega)]; exact h3 x hx i hi
theorem NetV.vals (h : NetV P nn nl w) (hv : ∀ i, i < 2 ^ nl j → Sm P (v i)) : NetV P nn nl (setN w j v) := by
  refine ⟨h.1, h.2.1, h.2.2.1, fun x hx i hi => ?_⟩
  unfold setN
  by_cases e : x = j
  · subst e
    simp only [if_true]
    exact hv i hi
  · simp only [if_neg e]
    exact h.2.2.2 x hx i hi
def fcB (f : Int32) (P : Nat) : Bool := decide (1 ≤ f.toInt ∧ f.toInt < (P : Int))
theorem fcB_Sm {f : Int32} (h : fcB f P = true) : Sm P f := by
  have h := of_decide_eq_true h
  exact ⟨by omega, h.2⟩
theorem m_within1 {x y : Int32} {post : Bool → St → Prop} (hy : y.toInt = (P : Int) - 1) (k : post (fcB x P) σ) : wX11_within x.toInt64 (1 : Int64) y.toInt64 σ post := by
  unfold wX11_within
  rw [lg_cmp_lt, lg_cmp_gt, fa_lt64, fa_lt64, Int32.toInt_toInt64, Int32.toInt_toInt64, hy]
  have z : (1 : Int64).toInt = 1 := rfl
  rw [z]
  have e : ∀ b : Bool, b = fcB x P → post b σ := fun b hb => by rw [hb]; exact k
  refine ⟨fun q => e _ ?_, fun q => ⟨fun q2 => e _ ?_, fun q2 => e _ ?_⟩⟩
  · simp [fcB]; omega
  · simp [fcB]; omega
  · simp [fcB]; omega
def sclV (P : Nat) (w : NetT) (j : Nat) (f : Int32) : Nat → Int32 := fun i => md (f * w.2.2 j i) P
theorem C_scale {a b : Int32} {post : Bool → St → Prop} (hV : RV P tn bn nn lg tof tv bv L tp nw sz old ac kb kn) (hX : RX t P tn bn nn lg tof tv bv L tp nw sz old ac kb kn σ) (k : ((ixB a nn && fcB b P) = false → post false σ) ∧ ((ixB a nn && fcB b P) = true → ∀ s, RX t P tn bn nn lg tof tv bv L tp (setN nw a.toNatClampNeg (sclV P nw a.toNatClampNeg b)) (remS sz) (remO sz old) (remA sz ac nw) kb kn s → post true s)) : wX10_scale 0 a b σ post := by
  have hn := hV.2.1.1
  have hP := hV.1.p31
  have z1 : (1 : Int32).toInt = 1 := rfl
  unfold wX10_scale
  simp only [Nat.zero_add]
  refine c_hasNode hX.2.2.2.1 hn ⟨fun q => k.1 (by rw [q]; rfl), fun q => ⟨fun q2 => k.1 ?_, fun q2 => ?_⟩⟩
  · rw [fa_lt, z1] at q2
    rw [q]; simp [fcB]; omega
  · rintro _ rfl
    rw [hX.1.p, hX.1.pr, fa_lt, nI_toInt hP]
    rw [fa_lt, z1] at q2
    refine ⟨kX_t hX.1.1, fun q3 => ?_, fun q3 => k.1 (by rw [q]; simp [fcB]; omega)⟩
    have k := k.2 (by rw [q]; simp [fcB]; omega)
    obtain ⟨j, hj, rfl⟩ := ixB_t (by omega) q
    rw [nI_clamp (by omega)] at k ⊢
    refine C_rem hV hX (fun s hs => ⟨vp_in_nI (by omega) (by decide), ?_⟩)
    rintro _ rfl
    rw [hs.1.p, hs.1.pr]
    obtain ⟨g1, g2⟩ := hs.2.2.2.1.2.2.2 j hj
    refine ⟨kX_t hX.1.1, s_multiply g1 (hV.hl j hj) hV.1.p0 hP (fun s' m1 m2 m3 => k s' (hs.now hV.rem (fun o ho => m2 o (by omega)) (hs.2.2.2.1.vals (fun o h1 h2 => m2 o h2) (by rw [m2 _ (by omega)]; exact g1) (fun i hi => ?_))))⟩
    rw [m1]
    unfold mulF sclV
    rw [if_pos hi, g2 i hi]
theorem M_scale {a b : Int32} {post : Bool → St → Prop} (hV : RV P tn bn nn lg tof tv bv L tp nw sz old ac kb kn) (hM : RM P tn bn nn lg tof tv bv L tp nw sz ac kb kn τ) (k : ((ixB a nn && fcB b P) = false → ∀ v, FM τ v → post false v) ∧ ((ixB a nn && fcB b P) = true → ∀ s, RM P tn bn nn lg tof tv bv L tp (setN nw a.toNatClampNeg (sclV P nw a.toNatClampNeg b)) (remS sz) (remA sz ac nw) kb kn s → post true s)) : wX11_scale 0 a b τ post := by
  have hF : FM τ (u1 τ 0 0 0) := FM.u0 (by decide)
  have hM1 := hM.fr hF
  have hn := hV.2.1.1
  have h97 := hV.1.1.2.1
  unfold wX11_scale wX11_p
  rintro _ rfl
  generalize u1 τ 0 0 0 = τ1 at *
  refine m_isNode hM1.2.1 hn ⟨fun q => k.1 (by rw [q]; rfl) _ hF, fun q => ?_⟩
  rw [show τ1.1 (0 + 2) (0 : Int32).toNatClampNeg = nI P from hM1.1.1]
  refine m_within1 (pred_toInt (by omega)) ⟨fun q2 => ?_, fun q2 => k.1 (by rw [q2]; simp) _ hF⟩
  have k := k.2 (by rw [q, q2]; rfl)
  obtain ⟨j, hj, rfl⟩ := ixB_t (by omega) q
  rw [nI_clamp (by omega)] at k
  refine M_rem hV hM1 (fun s hs => ?_)
  refine loop_0 (fun x i (r : St) => wX11_scale_37 post x 0 (nI j) b (nI i) r) (fun i r => (∀ o, o ≠ 16 → r.1 o = s.1 o) ∧ (∀ x, (x < 16 * j ∨ 16 * j + 16 ≤ x) → r.1 16 x = s.1 16 x) ∧ (∀ x, i ≤ x → r.1 16 (16 * j + x) = s.1 16 (16 * j + x)) ∧ (∀ x, x < i → x < 2 ^ lg (tof j) → r.1 16 (16 * j + x) = md (b * nw.2.2 j x) P)) 16 s ⟨fun _ _ => rfl, fun _ _ => rfl, fun _ _ => rfl, fun x hx => by omega⟩ ?_ ?_
  · rintro x r ⟨i1, i2, i3, i4⟩
    unfold wX11_scale_37
    refine ⟨fun _ => k r (hs.now (fun j hj => by rw [i1 0 (by decide)]) (fun o h1 h2 h3 => i1 o h3) (hs.2.2.2.1.vals hn hV.hl hV.2.2.2.1.1 hj i2 (fun i hi => i4 i (lt16 _ (hV.hl j hj) i hi) hi))), fun q => absurd (nI_le (Nat.le_refl _) (by decide)) q⟩
  · rintro x i r hi ⟨i1, i2, i3, i4⟩ ih
    unfold wX11_scale_37 wX11_p
    rw [show r.1 (0 + 2) (0 : Int32).toNatClampNeg = nI P from by rw [i1 _ (by decide)]; exact hs.1.1]
    simp only [Nat.zero_add]
    rw [show (16 : Int32) = nI 16 from rfl, pk_mul, nI_add]
    refine ⟨fun q => absurd q (nI_ge hi (by decide)), fun _ => ?_⟩
    rintro _ rfl
    refine ⟨vp_in_nI (by omega) (by decide), nI_ne0 hV.1.p0 (by omega), vp_in_nI (by omega) (by decide), ?_⟩
    rintro _ rfl _ rfl
    rw [nI_1, nI_clamp (by omega)]
    refine ih _ ⟨fun o ho => by rw [u1_n ho, i1 o ho], fun x hx => by rw [u1_s, pk_un (by omega)]; exact i2 x hx, fun x hx => by rw [u1_s, pk_un (by omega)]; exact i3 x (by omega), fun x hx hx2 => ?_⟩
    rw [u1_s]
    by_cases e : x = i
    · subst e
      rw [pk_us, i3 x (by omega), hs.2.2.2.1.2.2 j hj x hx2, Int32.mul_comm]
      exact rem_md hV.1.p0 (by omega) (mul_nn h97 (fcB_Sm q2) (hV.2.2.2.1.2.2.2 j hj x hx2)).2.1
    · rw [pk_un (by omega)]; exact i4 x (by omega) hx2
theorem S_scale (hR : Rel σ τ) (a b : Int32) : wX10_scale 0 a b σ (fun r u => wX11_scale 0 a b τ (fun r2 v => r = r2 ∧ Rel u v)) := by
  obtain ⟨t, P, tn, bn, nn, lg, tof, tv, bv, L, tp, nw, sz, old, ac, kb, kn, hV, hX, hM⟩ := id hR
  have h97 := hV.1.p31
  refine C_scale hV hX ⟨fun h => M_scale hV hM ⟨fun _ v hv => ⟨rfl, hR.fr (FX.rf σ) hv⟩, fun h2 => absurd (h.symm.trans h2) (by decide)⟩, fun h s hs => M_scale hV hM ⟨fun h2 => absurd (h.symm.trans h2) (by decide), fun _ v hv => ⟨rfl, t, P, tn, bn, nn, lg, tof, tv, bv, L, tp, _, _, _, _, kb, kn, hV.rem.now (hV.2.2.2.1.vals (fun i hi => ?_)), hs, hv⟩⟩⟩
  exact md_Sm hV.1.p0 h97
def plugB (tn nn : Nat) (lg tof : Nat → Nat) (a b : Int32) : Bool := ixB a nn && (ixB b tn && decide (lg (tof a.toNatClampNeg) = lg b.toNatClampNeg))
theorem C_plug {a b : Int32} {post : Bool → St → Prop} (hV : RV P tn bn nn lg tof tv bv L tp nw sz old ac kb kn) (hX : RX t P tn bn nn lg tof tv bv L tp nw sz old ac kb kn σ) (k : (plugB tn nn lg tof a b = false → post false σ) ∧ (plugB tn nn lg tof a b = true → ∀ s, RX t P tn bn nn lg tof tv bv L tp (setN nw a.toNatClampNeg (tv b.toNatClampNeg)) (remS sz) (remO sz old) (remA sz ac nw) kb kn s → post true s)) : wX10_plug 0 a b σ post := by
  have hn := hV.2.1.1
  have h8 := hV.1.t8
  unfold wX10_plug
  simp only [Nat.zero_add]
  unfold plugB at k
  refine c_hasNode hX.2.2.2.1 hn ⟨fun q => k.1 (by rw [q]; rfl), fun q => c_isTable hX.1 h8 ⟨fun q2 => ?_, fun q2 => k.1 (by rw [q2]; simp)⟩⟩
  obtain ⟨j, hj, rfl⟩ := ixB_t (by omega) q
  obtain ⟨y, hy, rfl⟩ := ixB_t (by omega) q2
  rw [nI_clamp (by omega), nI_clamp (by omega)] at k ⊢
  have h4 := hV.hl j hj
  have h4' := hV.1.l4 hy
  refine ⟨vp_in_nI (by omega) (by decide), ?_⟩
  rintro _ rfl
  rw [hX.1.p, (hX.2.2.2.1.2.2.2 j hj).1, hX.1.leg hy, nI_eq (by omega) (by omega)]
  refine ⟨kX_t hX.1.1, vp_in_nI (by omega) (by decide), fun e => ?_, fun e => k.1 (by simp [e])⟩
  have k := k.2 (by rw [q, q2]; simp [e])
  refine C_rem hV hX (fun s hs => ⟨vp_in_nI (by omega) (by decide), ?_⟩)
  rintro _ rfl
  rw [hs.1.p]
  have ht : t = 2 ∨ t = 44 := hX.1.1
  have h16 := p2le h4'
  refine ⟨kX_t hX.1.1, vp_in_nI (by omega) (by decide), s_copyFrom (by omega) (fun s' m1 m2 m3 m4 => k s' (hs.now hV.rem (fun o ho => m3 o (by omega) (by omega)) (hs.2.2.2.1.vals m3 (by rw [m1, hs.1.leg hy, ← e]) (fun i hi => ?_))))⟩
  have hi : i < 2 ^ lg y := by rw [← e]; exact hi
  rw [m2 i (by omega), hs.1.val hy i hi]
theorem M_plug {a b : Int32} {post : Bool → St → Prop} (hV : RV P tn bn nn lg tof tv bv L tp nw sz old ac kb kn) (hM : RM P tn bn nn lg tof tv bv L tp nw sz ac kb kn τ) (k : (plugB tn nn lg tof a b = false → ∀ v, FM τ v → post false v) ∧ (plugB tn nn lg tof a b = true → ∀ s, RM P tn bn nn lg tof tv bv L tp (setN nw a.toNatClampNeg (tv b.toNatClampNeg)) (remS sz) (remA sz ac nw) kb kn s → post true s)) : wX11_plug 0 a b τ post := by
  have hF : FM τ (u1 τ 0 0 0) := FM.u0 (by decide)
  have hM1 := hM.fr hF
  have hn := hV.2.1.1
  have h8 := hV.1.t8
  unfold wX11_plug
  rintro _ rfl
  generalize u1 τ 0 0 0 = τ1 at *
  unfold plugB at k
  refine m_isNode hM1.2.1 hn ⟨fun q => k.1 (by rw [q]; rfl) _ hF, fun q => m_isTable hM1.1 h8 ⟨fun q2 => k.1 (by rw [q2]; simp) _ hF, fun q2 => ?_⟩⟩
  obtain ⟨j, hj, rfl⟩ := ixB_t (by omega) q
  obtain ⟨y, hy, rfl⟩ := ixB_t (by omega) q2
  rw [nI_clamp (by omega), nI_clamp (by omega)] at k
  have h4 : lg (tof j) ≤ 4 := hV.hl j hj
  have h4' := hV.1.l4 hy
  refine ⟨vp_in_nI (by omega) (by decide), m_legsAt hV.2.1 hV.1 hM1.2.1 hM1.1 hj ?_⟩
  simp only [Nat.zero_add]
  rw [nI_clamp (by omega), hM1.1.leg hy, nI_eq (by omega) (by omega)]
  refine ⟨fun e => ?_, fun e => k.1 (by simp [Ne.symm e]) _ hF⟩
  have k := k.2 (by rw [q, q2]; simp [e])
  refine M_rem hV hM1 (fun s hs => ?_)
  refine loop_0 (fun x i (r : St) => wX11_plug_43 post x 0 (nI j) (nI y) (nI i) r) (fun i r => (∀ o, o ≠ 16 → r.1 o = s.1 o) ∧ (∀ x, (x < 16 * j ∨ 16 * j + 16 ≤ x) → r.1 16 x = s.1 16 x) ∧ (∀ x, x < i → r.1 16 (16 * j + x) = s.1 10 (16 * y + x))) 16 s ⟨fun _ _ => rfl, fun _ _ => rfl, fun x hx => by omega⟩ ?_ ?_
  · rintro x r ⟨i1, i2, i3⟩
    unfold wX11_plug_43
    refine ⟨fun _ => k r (hs.now (fun j hj => by rw [i1 0 (by decide)]) (fun o h1 h2 h3 => i1 o h3) (hs.2.2.2.1.vals hn hV.hl hV.2.2.2.1.1 hj i2 (fun i hi => ?_))), fun q => absurd (nI_le (Nat.le_refl _) (by decide)) q⟩
    have hi : i < 2 ^ lg (tof j) := hi
    rw [i3 i (lt16 _ h4 i hi), hs.1.val hy i (by rw [e]; exact hi)]
  · rintro x i r hi ⟨i1, i2, i3⟩ ih
    unfold wX11_plug_43
    simp only [Nat.zero_add]
    rw [show (16 : Int32) = nI 16 from rfl, pk_mul, pk_mul, nI_add, nI_add]
    refine ⟨fun q => absurd q (nI_ge hi (by decide)), fun _ => ?_⟩
    rintro _ rfl
    refine ⟨vp_in_nI (by omega) (by decide), vp_in_nI (by omega) (by decide), ?_⟩
    rintro _ rfl _ rfl
    rw [nI_1, nI_clamp (by omega), nI_clamp (by omega), i1 10 (by decide)]
    refine ih _ ⟨fun o ho => by rw [u1_n ho, i1 o ho], fun x hx => by rw [u1_s, pk_un (by omega)]; exact i2 x hx, fun x hx => ?_⟩
    rw [u1_s]
    by_cases e : x = i
    · subst e; rw [pk_us]
    · rw [pk_un (by omega)]; exact i3 x (by omega)
theorem S_plug (hR : Rel σ τ) (a b : Int32) : wX10_plug 0 a b σ (fun r u => wX11_plug 0 a b τ (fun r2 v => r = r2 ∧ Rel u v)) := by
  obtain ⟨t, P, tn, bn, nn, lg, tof, tv, bv, L, tp, nw, sz, old, ac, kb, kn, hV, hX, hM⟩ := id hR
  refine C_plug hV hX ⟨fun h => M_plug hV hM ⟨fun _ v hv => ⟨rfl, hR.fr (FX.rf σ) hv⟩, fun h2 => absurd (h.symm.trans h2) (by decide)⟩, fun h s hs => M_plug hV hM ⟨fun h2 => absurd (h.symm.trans h2) (by decide), fun _ v hv => ⟨rfl, t, P, tn, bn, nn, lg, tof, tv, bv, L, tp, _, _, _, _, kb, kn, hV.rem.now (hV.2.2.2.1.vals (fun i hi => ?_)), hs, hv⟩⟩⟩
  unfold plugB at h
  have h8 := hV.1.t8
  simp only [Bool.and_eq_true, decide_eq_true_eq] at h
  obtain ⟨y, hy, e⟩ := ixB_t (by omega) h.2.1
  have hc : b.toNatClampNeg = y := by rw [e]; exact nI_clamp (by omega)
  rw [hc] at h ⊢
  have hi : i < 2 ^ lg (tof a.toNatClampNeg) := hi
  exact (hV.1.2.2.2.1 y hy).2.2 i (by rw [← h.2.2]; exact hi)
theorem exS_cg {n leg o i : Nat} {v u : Nat → Int32} (h4 : n ≤ 4) (hl : leg < n) (ho : o < n) (hi : i < 2 ^ n) (h : ∀ j, j < 2 ^ n → v j = u j) : ∀ j, j < 2 ^ n → exS leg o i v j = exS leg o i u j := by
  intro j hj
  unfold exS
  by_cases q : (i.testBit leg && !i.testBit o) = true
  · rw [if_pos q, if_pos q]
    have e2 := ex_lt n h4 leg hl o ho i hi q
    rw [h i hi, h _ e2]
    unfold upd
    by_cases f1 : j = i - 2 ^ leg + 2 ^ o
    · rw [if_pos f1, if_pos f1]
    · rw [if_neg f1, if_neg f1]
      by_cases f2 : j = i
      · rw [if_pos f2, if_pos f2]
      · rw [if_neg f2, if_neg f2]; exact h j hj
  · rw [if_neg q, if_neg q]; exact h j hj
theorem exF_cg {n leg o : Nat} {v u : Nat → Int32} (h4 : n ≤ 4) (hl : leg < n) (ho : o < n) (h : ∀ j, j < 2 ^ n → v j = u j) : ∀ i, i ≤ 2 ^ n → ∀ j, j < 2 ^ n → exF leg o v i j = exF leg o u i j := by
  intro i
  induction i with
  | zero => intro _ j hj; exact h j hj
  | succ i ih =>
    intro hi j hj
    rw [exF, exF]
    exact exS_cg h4 hl ho (by omega) (ih (by omega)) j hj
theorem exF_Sm {n leg o : Nat} {v : Nat → Int32} (h4 : n ≤ 4) (hl : leg < n) (ho : o < n) (h : ∀ j, j < 2 ^ n → Sm P (v j)) : ∀ i, i ≤ 2 ^ n → ∀ j, j < 2 ^ n → Sm P (exF leg o v i j) := by
  intro i
  induction i with
  | zero => intro _ j hj; exact h j hj
  | succ i ih =>
    intro hi j hj
    have ih := ih (by omega)
    rw [exF]
    unfold exS
    by_cases q : (i.testBit leg && !i.testBit o) = true
    · rw [if_pos q]
      have e2 := ex_lt n h4 leg hl o ho i (by omega) q
      unfold upd
      by_cases f1 : j = i - 2 ^ leg + 2 ^ o
      · rw [if_pos f1]; exact ih i (by omega)
      · rw [if_neg f1]
        by_cases f2 : j = i
        · rw [if_pos f2]; exact ih _ e2
        · rw [if_neg f2]; exact ih j hj
    · rw [if_neg q]; exact ih j hj
def swapB (nn : Nat) (nl : Nat → Nat) (a b c : Int32) : Bool := (ixB a nn && ixB b (nl a.toNatClampNeg)) && (ixB c (nl a.toNatClampNeg) && !decide (b = c))
def swapV (nl : Nat → Nat) (w : NetT) (a b c : Int32) : Nat → Int32 := exF b.toNatClampNeg c.toNatClampNeg (w.2.2 a.toNatClampNeg) (2 ^ nl a.toNatClampNeg)
theorem C_swap {a b c : Int32} {post : Bool → St → Prop} (hV : RV P tn bn nn lg tof tv bv L tp nw sz old ac kb kn) (hX : RX t P tn bn nn lg tof tv bv L tp nw sz old ac kb kn σ) (k : (swapB nn (fun n => lg (tof n)) a b c = false → post false σ) ∧ (swapB nn (fun n => lg (tof n)) a b c = true → ∀ s, RX t P tn bn nn lg tof tv bv L tp (setN nw a.toNatClampNeg (swapV (fun n => lg (tof n)) nw a b c)) (remS sz) (remO sz old) (remA sz ac nw) kb kn s → post true s)) : wX10_swap 0 a b c σ post := by
  have hn := hV.2.1.1
  unfold wX10_swap
  simp only [Nat.zero_add]
  unfold swapB at k
  refine c_hasLeg hX.2.2.2.1 hn hV.hl ⟨fun q => k.1 (by rw [q]; rfl), fun q => c_hasLeg hX.2.2.2.1 hn hV.hl ⟨fun q2 => k.1 ?_, fun q2 => ⟨fun q3 => ?_, fun q3 => k.1 (by simp [q3])⟩⟩⟩
  · simp only [Bool.and_eq_true] at q
    rw [q.1, Bool.true_and] at q2
    have q2 : ixB c (lg (tof a.toNatClampNeg)) = false := q2
    simp [q2]
  · have k := k.2 (by
      rw [q]
      simp only [Bool.and_eq_true] at q2
      simp [q2.2, q3])
    simp only [Bool.and_eq_true] at q q2
    obtain ⟨j, hj, rfl⟩ := ixB_t (by omega) q.1
    have h4 : lg (tof j) ≤ 4 := hV.hl j hj
    have q := q.2
    have q2 := q2.2
    rw [nI_clamp (by omega)] at q q2 k ⊢
    obtain ⟨x, hx, rfl⟩ := ixB_t (by omega) q
    obtain ⟨y, hy, rfl⟩ := ixB_t (by omega) q2
    have hxy : x ≠ y := fun e => q3 (by rw [e])
    have k := k
    unfold swapV at k
    rw [nI_clamp (by omega), nI_clamp (by omega), nI_clamp (by omega)] at k
    refine C_rem hV hX (fun s hs => ⟨vp_in_nI (by omega) (by decide), ?_⟩)
    obtain ⟨g1, g2⟩ := hs.2.2.2.1.2.2.2 j hj
    refine s_exchange g1 h4 hx hy hxy (fun s' m1 m2 m3 => k s' (hs.now hV.rem (fun o ho => m2 o (by omega)) (hs.2.2.2.1.vals (fun o h1 h2 => m2 o h2) (by rw [m2 _ (by omega)]; exact g1) (fun i hi => ?_))))
    rw [m1]
    exact exF_cg h4 hx hy g2 _ (Nat.le_refl _) i hi
theorem sw_not : ∀ i, i < 16 → ∀ x, x < 4 → ∀ y, y < 4 → (i.testBit x && !i.testBit y) = true → (nI i &&& ((1 : Int32) <<< (nI x &&& 31) ^^^ (-1 : Int32))) ||| ((1 : Int32) <<< (nI y &&& 31)) = nI (i - 2 ^ x + 2 ^ y) := by decide +kernel
theorem M_swap {a b c : Int32} {post : Bool → St → Prop} (hV : RV P tn bn nn lg tof tv bv L tp nw sz old ac kb kn) (hM : RM P tn bn nn lg tof tv bv L tp nw sz ac kb kn τ) (k : (swapB nn (fun n => lg (tof n)) a b c = false → ∀ v, FM τ v → post false v) ∧ (swapB nn (fun n => lg (tof n)) a b c = true → ∀ s, RM P tn bn nn lg tof tv bv L tp (setN nw a.toNatClampNeg (swapV (fun n => lg (tof n)) nw a b c)) (remS sz) (remA sz ac nw) kb kn s → post true s)) : wX11_swap 0 a b c τ post := by
  have hF : FM τ (u1 τ 0 0 0) := FM.u0 (by decide)
  have hM1 := hM.fr hF
  have hn := hV.2.1.1
  unfold wX11_swap
  rintro _ rfl
  generalize u1 τ 0 0 0 = τ1 at *
  unfold swapB at k
  refine m_isNode hM1.2.1 hn ⟨fun q => k.1 (by rw [q]; rfl) _ hF, fun q => ?_⟩
  obtain ⟨j, hj, rfl⟩ := ixB_t (by omega) q
  have h4 : lg (tof j) ≤ 4 := hV.hl j hj
  rw [nI_clamp (by omega)] at k
  refine m_legsAt hV.2.1 hV.1 hM1.2.1 hM1.1 hj (m_within (pred_toInt (by omega)) ⟨fun q2 => k.1 (by simp [q2]) _ hF, fun q2 => m_legsAt hV.2.1 hV.1 hM1.2.1 hM1.1 hj (m_within (pred_toInt (by omega)) ⟨fun q3 => k.1 (by simp [q3]) _ hF, fun q3 => ⟨fun q4 => ?_, fun q4 => k.1 (by simp [q4]) _ hF⟩⟩)⟩)
  have k := k.2 (by simp [q, q2, q3, q4])
  obtain ⟨x, hx, rfl⟩ := ixB_t (by omega) q2
  obtain ⟨y, hy, rfl⟩ := ixB_t (by omega) q3
  have hxy : x ≠ y := fun e => q4 (by rw [e])
  unfold swapV at k
  rw [nI_clamp (by omega), nI_clamp (by omega), nI_clamp (by omega)] at k
  refine M_rem hV hM1 (fun s hs => ?_)
  have h16 := p2le h4
  refine loop_0 (fun z i (r : St) => wX11_swap_61 post z 0 (nI j) (nI x) (nI y) (nI i) r) (fun i r => (∀ o, o ≠ 16 → r.1 o = s.1 o) ∧ (∀ x, (x < 16 * j ∨ 16 * j + 16 ≤ x) → r.1 16 x = s.1 16 x) ∧ (∀ z, z < 2 ^ lg (tof j) → r.1 16 (16 * j + z) = exF x y (fun z => s.1 16 (16 * j + z)) i z)) (2 ^ lg (tof j)) s ⟨fun _ _ => rfl, fun _ _ => rfl, fun _ _ => rfl⟩ ?_ ?_
  · rintro z r ⟨i1, i2, i3⟩
    have hr : RM P tn bn nn lg tof tv bv L tp (setN nw j (exF x y (nw.2.2 j) (2 ^ lg (tof j)))) (remS sz) (remA sz ac nw) kb kn r := by
      refine hs.now (fun j hj => by rw [i1 0 (by decide)]) (fun o h1 h2 h3 => i1 o h3) (hs.2.2.2.1.vals hn hV.hl hV.2.2.2.1.1 hj i2 (fun i hi => ?_))
      have hi : i < 2 ^ lg (tof j) := hi
      rw [i3 i hi]
      exact exF_cg h4 hx hy (fun z hz => hs.2.2.2.1.2.2 j hj z hz) _ (Nat.le_refl _) i hi
    unfold wX11_swap_61
    refine m_legsAt hV.2.1 hV.1 hr.2.1 hr.1 hj ?_
    rw [sh1 _ (by omega)]
    exact ⟨fun _ => k r hr, fun q => absurd (nI_le (Nat.le_refl _) (by omega)) q⟩
  · rintro z i r hi ⟨i1, i2, i3⟩ ih
    have hr2 : NodM nn tof r := by
      unfold NodM
      rw [i1 5 (by decide), i1 12 (by decide)]; exact hs.2.1
    have hr1 : TabM P tn bn lg tv bv r := by
      unfold TabM
      rw [i1 2 (by decide), i1 3 (by decide), i1 4 (by decide), i1 9 (by decide), i1 10 (by decide), i1 11 (by decide)]; exact hs.1
    unfold wX11_swap_61
    refine m_legsAt hV.2.1 hV.1 hr2 hr1 hj ?_
    simp only [Nat.zero_add]
    rw [sh1 _ (by omega), sr_b0 (by omega) (by omega), sr_b1 (by omega) (by omega)]
    refine ⟨fun q => absurd q (nI_ge hi (by omega)), fun _ => ⟨fun q5 => ?_, fun q5 => ⟨fun q6 => ?_, fun q6 => ?_⟩⟩⟩
    · rintro _ rfl
      rw [nI_1]
      refine ih r ⟨i1, i2, fun z hz => ?_⟩
      rw [i3 z hz, exF, exS, if_neg (by simp [q5])]
    · have q7 : (i.testBit x && !i.testBit y) = true := by
        cases h1 : i.testBit x <;> cases h2 : i.testBit y <;> simp_all
      have e2 := ex_lt _ h4 x hx y hy i hi q7
      rw [sw_not i (by omega) x (by omega) y (by omega) q7]
      rintro _ rfl
      rw [show (16 : Int32) = nI 16 from rfl, pk_mul, nI_add, nI_add]
      rintro _ rfl
      refine ⟨vp_in_nI (by omega) (by decide), ?_⟩
      rintro _ rfl _ rfl
      refine ⟨vp_in_nI (by omega) (by decide), vp_in_nI (by omega) (by decide), ?_⟩
      rintro _ rfl
      refine ⟨vp_in_nI (by omega) (by decide), ?_⟩
      rintro _ rfl _ rfl
      rw [nI_1, nI_clamp (by omega), nI_clamp (by omega), i3 i hi, i3 _ e2]
      have p1 := Nat.two_pow_pos x
      have p2 := Nat.two_pow_pos y
      refine ih _ ⟨fun o ho => by rw [u1_n ho, u1_n ho, i1 o ho], fun x hx => by rw [u1_s, u1_s, pk_un (by omega), pk_un (by omega)]; exact i2 x hx, fun z hz => ?_⟩
      rw [u1_s, u1_s, exF, exS, if_pos q7]
      by_cases f1 : z = i - 2 ^ x + 2 ^ y
      · rw [f1, pk_us, pk_us]
      · rw [pk_un (by omega), pk_un f1]
        by_cases f2 : z = i
        · rw [f2, pk_us, pk_us]
        · rw [pk_un (by omega), pk_un f2, i3 z hz]
    · rintro _ rfl
      rw [nI_1]
      refine ih r ⟨i1, i2, fun z hz => ?_⟩
      rw [i3 z hz, exF, exS, if_neg (by simp [q6])]
theorem S_swap (hR : Rel σ τ) (a b c : Int32) : wX10_swap 0 a b c σ (fun r u => wX11_swap 0 a b c τ (fun r2 v => r = r2 ∧ Rel u v)) := by
  obtain ⟨t, P, tn, bn, nn, lg, tof, tv, bv, L, tp, nw, sz, old, ac, kb, kn, hV, hX, hM⟩ := id hR
  refine C_swap hV hX ⟨fun h => M_swap hV hM ⟨fun _ v hv => ⟨rfl, hR.fr (FX.rf σ) hv⟩, fun h2 => absurd (h.symm.trans h2) (by decide)⟩, fun h s hs => M_swap hV hM ⟨fun h2 => absurd (h.symm.trans h2) (by decide), fun _ v hv => ⟨rfl, t, P, tn, bn, nn, lg, tof, tv, bv, L, tp, _, _, _, _, kb, kn, hV.rem.now (hV.2.2.2.1.vals (fun i hi => ?_)), hs, hv⟩⟩⟩
  unfold swapB at h
  have hn := hV.2.1.1
  simp only [Bool.and_eq_true] at h
  obtain ⟨j, hj, e⟩ := ixB_t (by omega) h.1.1
  have hc : a.toNatClampNeg = j := by rw [e]; exact nI_clamp (by omega)
  rw [hc] at h hi
  have h4 : lg (tof j) ≤ 4 := hV.hl j hj
  obtain ⟨x, hx, ex⟩ := ixB_t (by omega) h.1.2
  obtain ⟨y, hy, ey⟩ := ixB_t (by omega) h.2.1
  have hcx : b.toNatClampNeg = x := by rw [ex]; exact nI_clamp (by omega)
  have hcy : c.toNatClampNeg = y := by rw [ey]; exact nI_clamp (by omega)
  unfold swapV
  rw [hc, hcx, hcy]
  exact exF_Sm h4 hx hy (hV.2.2.2.1.2.2.2 j hj) _ (Nat.le_refl _) i hi
end AC
