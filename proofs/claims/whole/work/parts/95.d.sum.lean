/-! sum, ways, within -/
section SM
variable {t P tn bn nn : Nat} {lg tof : Nat → Nat} {tv bv : Nat → Nat → Int32} {L L' : Nat} {tp tp' : Nat → Int32} {nw nw' : NetT} {sz old sz' old' : Nat} {ac ac' : Nat → NetT} {kb kb' : Nat → Bool} {kn kn' : Nat → NetT} {σ τ σ' τ' : St} {nl : Nat → Nat} {w : NetT} {N j : Nat}
theorem opc24 (hn : nn ≤ 6) : opC nn nl w (4 * nn) ≤ 24 := Nat.le_trans opC_le (by omega)
theorem p2_24 {m : Nat} (h : m ≤ 24) : 2 ^ m ≤ 16777216 := Nat.pow_le_pow_right (n := 2) (by decide) h
theorem m_laysIndex {a : Int32} {post : Bool → St → Prop} (hV : RV P tn bn nn lg tof tv bv L tp nw sz old ac kb kn) (hM : RM P tn bn nn lg tof tv bv L tp nw sz ac kb kn τ) (k0 : ixB a (2 ^ opC nn (fun n => lg (tof n)) nw (4 * nn)) = false → ∀ s, FM τ s → post false s) (k1 : ∀ ix s, ix < 2 ^ opC nn (fun n => lg (tof n)) nw (4 * nn) → a = nI ix → FM τ s → OpM nn (fun n => lg (tof n)) nw (fun x => nI (ogF nn (fun n => lg (tof n)) nw ix x).toNat) (s.1 23) → post true s) : wX11_laysIndex 0 a τ post := by
  have hn := hV.2.1.1
  have h24 : opC nn (fun n => lg (tof n)) nw (4 * nn) ≤ 24 := opc24 hn
  have hp := p2_24 h24
  unfold wX11_laysIndex
  refine m_laysOpen hV hM (fun s f1 f2 f3 g1 g2 => ?_)
  rw [g1, sh1 _ (by omega)]
  refine m_within (pred_toInt (by omega)) ⟨fun q => ?_, fun q => k0 q s f1⟩
  obtain ⟨ix, hix, rfl⟩ := ixB_t (by omega) q
  refine loop_0 (fun x i (r : St) => wX11_laysIndex_26 post x 0 (nI ix) (nI i) r) (fun i r => (∀ o, o ≠ 23 → r.1 o = s.1 o) ∧ (∀ x, x < 4 * nn → opX nn (fun n => lg (tof n)) nw x = true → opC nn (fun n => lg (tof n)) nw x < i → r.1 23 x = nI (ogF nn (fun n => lg (tof n)) nw ix x).toNat)) (opC nn (fun n => lg (tof n)) nw (4 * nn)) s ⟨fun _ _ => rfl, fun x _ _ h => by omega⟩ ?_ ?_
  · rintro x r ⟨i1, i2⟩
    unfold wX11_laysIndex_26
    rw [i1 0 (by decide), g1]
    refine ⟨fun _ => k1 ix r hix rfl (f1.tr (FM.r23 i1)) (fun z z1 z2 z3 => ?_), fun q => absurd (nI_le (Nat.le_refl _) (by omega)) q⟩
    have hz : opX nn (fun n => lg (tof n)) nw z = true := by
      unfold opX
      rw [z3]
      simp [z1, z2]
    exact i2 z (by omega) hz (opC_lt (by omega) hz)
  · rintro x i r hi ⟨i1, i2⟩ ih
    obtain ⟨z, z1, z2, z3⟩ := fb_ct_kth hi
    have z3 : opC nn (fun n => lg (tof n)) nw z = i := z3
    have e22 : s.1 22 i = nI z := by
      have := g2 z z1 z2
      rw [z3] at this
      exact this
    unfold wX11_laysIndex_26
    simp only [Nat.zero_add]
    rw [i1 0 (by decide), g1, nI_clamp (by omega), i1 22 (by decide), e22, sr_bit (by omega) (by omega)]
    refine ⟨fun q => absurd q (nI_ge hi (by omega)), fun _ => ⟨vp_in_nI (by omega) (by decide), vp_in_nI (by omega) (by decide), ?_⟩⟩
    rintro _ rfl _ rfl
    rw [nI_1, nI_clamp (by omega)]
    refine ih _ ⟨fun o ho => by rw [u1_n ho, i1 o ho], fun y y1 y2 y3 => ?_⟩
    rw [u1_s]
    by_cases e : y = z
    · rw [e, pk_us]
      unfold ogF
      rw [z3]
    · rw [pk_un e]
      refine i2 y y1 y2 ?_
      have : opC nn (fun n => lg (tof n)) nw y ≠ i := fun q => e (fb_ct_kth_one y2 z2 (q.trans z3.symm))
      omega
theorem c_isOpenIndex {a : Int32} {post : Bool → St → Prop} (h : NetX nn nl w 86 σ) (hV : NetV P nn nl w) (hn : nn ≤ 6) (hl : ∀ j, j < nn → nl j ≤ 4) (k : post (ixB a (2 ^ opC nn nl w (4 * nn))) σ) : wX10_isOpenIndex 0 a σ post := by
  have h24 : opC nn nl w (4 * nn) ≤ 24 := opc24 hn
  have hp := p2_24 h24
  have B := ix_br (σ := σ) (M := 2 ^ opC nn nl w (4 * nn)) (by omega) k
  unfold wX10_isOpenIndex
  refine ⟨B.1, fun q => c_openCount h hV hn hl ?_⟩
  rw [sh1 _ (by omega)]
  exact B.2 q
theorem hval_set {st : Nat → Int32} {g : Nat → Bool} {y : Nat} (hV : NetV P nn nl w) (hl : ∀ j, j < nn → nl j ≤ 4) (h97 : P ≤ 97) (h1 : StM w y st) (h2 : OpM nn nl w (fun x => nI (g x).toNat) st) : ∀ n, n < nn → vlM P nl w st n = vlC nl w (stF w.2.1 w.1 g y) n := by
  intro n hn
  have h4 := hl n hn
  unfold vlM vlC
  refine vs_one h4 h97 (hV.2.2.2 n hn) (fun l hl => ?_)
  cases hw : wiB w.2.1 (2 * w.1) (4 * n + l) with
  | false =>
    rw [stF_op hw]
    exact h2 _ (by omega) (by rw [show (4 * n + l) / 4 = n by omega, show (4 * n + l) % 4 = l by omega]; exact hl) hw
  | true =>
    obtain ⟨e, he, q⟩ := wiB_iff.mp hw
    rw [← q, stF_en hV.2.2.1 he]
    exact h1 e he
theorem sb_all (hV : NetV P nn nl w) (y : Nat) : sbB (inF w.2.1 (2 ^ nn - 1)) w.1 y = true := by
  unfold sbB inF
  refine decide_eq_true (fun v hv _ => ?_)
  rw [Nat.testBit_two_pow_sub_one, Nat.testBit_two_pow_sub_one]
  simp [(hV.2.1 (2 * v) (by omega)).1, (hV.2.1 (2 * v + 1) (by omega)).1]
theorem p2_6 (h : nn ≤ 6) : 2 ^ nn ≤ 64 := Nat.pow_le_pow_right (n := 2) (by decide) h
theorem c_goThrough {ix : Nat} {post : St → Prop} (hV : RV P tn bn nn lg tof tv bv L tp nw sz old ac kb kn) (hX : RX t P tn bn nn lg tof tv bv L tp nw sz old ac kb kn σ) (hix : ix < 2 ^ 24) (k : ∀ s, FX σ s → (s.1 291 0).toInt = fb_si (fun y => (prF P (2 ^ nn - 1) (vlC (fun n => lg (tof n)) nw (stF nw.2.1 nw.1 (ogF nn (fun n => lg (tof n)) nw ix) y)) nn).toInt) (2 ^ nw.1) % (P : Int) → (s.1 291 1).toInt = fb_si (fun y => if prF P (2 ^ nn - 1) (vlC (fun n => lg (tof n)) nw (stF nw.2.1 nw.1 (ogF nn (fun n => lg (tof n)) nw ix) y)) nn = 0 then 0 else 1) (2 ^ nw.1) → post s) : wX8_goThrough 291 86 (nI ix) (nI P) σ post := by
  have hn := hV.2.1.1
  have h64 := p2_6 hn
  have h97 := hV.1.1.2.1
  have h3 := hV.1.1.1
  unfold wX8_goThrough wX4_allNodes
  refine c_setOpen hX.2.2.2.1 hV.2.2.2.1 hn hV.hl hix (fun s f1 hI => ?_)
  have hN : NetX nn (fun n => lg (tof n)) nw 86 s := hX.2.2.2.1.fr hn (fun o h1 h2 => f1 o (by omega))
  rw [hN.1, sh1 _ (by omega), all_nI hn]
  refine c_go hN hV.2.2.2.1 hn hV.hl (by omega) (by omega) (by omega) h97 hI (fun s' f2 e1 e2 => k s' (fun o ho => by rw [f2 o (by omega) (by omega) (by omega), f1 o (by omega)]) ?_ ?_)
  · rw [e1]
    congr 1
    exact fb_si_cong (fun y hy => by rw [sb_all hV.2.2.2.1]; rfl)
  · rw [e2]
    exact fb_si_cong (fun y hy => by rw [sb_all hV.2.2.2.1]; rfl)
theorem S_sum (hR : Rel σ τ) (a : Int32) : wX10_sum 0 a σ (fun r u => wX11_sum 0 a τ (fun r2 v => r = r2 ∧ Rel u v)) := by
  obtain ⟨t, P, tn, bn, nn, lg, tof, tv, bv, L, tp, nw, sz, old, ac, kb, kn, hV, hX, hM⟩ := id hR
  have hn := hV.2.1.1
  have h97 := hV.1.1.2.1
  have hF : FM τ (u1 τ 0 0 0) := FM.u0 (by decide)
  have hM1 := hM.fr hF
  have hp := p2_24 (opc24 (nl := fun n => lg (tof n)) (w := nw) hn)
  unfold wX10_sum
  simp only [Nat.zero_add]
  refine c_isOpenIndex hX.2.2.2.1 hV.2.2.2.1 hn hV.hl ⟨fun q => ?_, fun q => ?_⟩
  · obtain ⟨ix, hix, rfl⟩ := ixB_t (by omega) q
    rintro _ rfl
    rw [hX.1.p, hX.1.pr]
    refine ⟨kX_t hX.1.1, c_goThrough hV hX (by omega) (fun s fs e1 e2 => ?_)⟩
    unfold wX11_sum
    rintro _ rfl
    refine m_laysIndex hV hM1 (fun c => absurd (q.symm.trans c) (by decide)) (fun ix' s1 hix' ea f1 hop => ⟨fun c => absurd c (by decide), fun _ => ?_⟩)
    have ee := (nI_eq (by omega) (by omega)).mp ea
    subst ee
    refine m_summed (V := fun y => vlC (fun n => lg (tof n)) nw (stF nw.2.1 nw.1 (ogF nn (fun n => lg (tof n)) nw ix) y)) hV (hM1.fr f1) hop (fun y hy st h1 h2 => hval_set hV.2.2.2.1 hV.hl h97 h1 h2) (fun s2 r f2 g1 g2 => ⟨Int32.toInt_inj.mp ?_, hR.fr fs (hF.tr (f1.tr f2))⟩)
    rw [e1, (g1 rfl).2]
  · unfold wX11_sum
    rintro _ rfl
    refine m_laysIndex hV hM1 (fun c s hs => ⟨fun _ => ⟨rfl, hR.fr (FX.rf σ) (hF.tr hs)⟩, fun c => absurd c (by decide)⟩) (fun ix' s1 hix' ea f1 hop => ?_)
    rw [ea, ixB_nI hix' (by omega)] at q
    exact absurd q (by decide)
theorem S_ways (hR : Rel σ τ) (a : Int32) : wX10_ways 0 a σ (fun r u => wX11_ways 0 a τ (fun r2 v => r = r2 ∧ Rel u v)) := by
  obtain ⟨t, P, tn, bn, nn, lg, tof, tv, bv, L, tp, nw, sz, old, ac, kb, kn, hV, hX, hM⟩ := id hR
  have hn := hV.2.1.1
  have h97 := hV.1.1.2.1
  have hF : FM τ (u1 τ 0 0 0) := FM.u0 (by decide)
  have hM1 := hM.fr hF
  have hp := p2_24 (opc24 (nl := fun n => lg (tof n)) (w := nw) hn)
  unfold wX10_ways
  simp only [Nat.zero_add]
  refine c_isOpenIndex hX.2.2.2.1 hV.2.2.2.1 hn hV.hl ⟨fun q => ?_, fun q => ?_⟩
  · obtain ⟨ix, hix, rfl⟩ := ixB_t (by omega) q
    rintro _ rfl
    rw [hX.1.p, hX.1.pr]
    refine ⟨kX_t hX.1.1, c_goThrough hV hX (by omega) (fun s fs e1 e2 => ?_)⟩
    unfold wX11_ways
    rintro _ rfl
    refine m_laysIndex hV hM1 (fun c => absurd (q.symm.trans c) (by decide)) (fun ix' s1 hix' ea f1 hop => ⟨fun c => absurd c (by decide), fun _ => ?_⟩)
    have ee := (nI_eq (by omega) (by omega)).mp ea
    subst ee
    refine m_summed (V := fun y => vlC (fun n => lg (tof n)) nw (stF nw.2.1 nw.1 (ogF nn (fun n => lg (tof n)) nw ix) y)) hV (hM1.fr f1) hop (fun y hy st h1 h2 => hval_set hV.2.2.2.1 hV.hl h97 h1 h2) (fun s2 r f2 g1 g2 => ⟨Int32.toInt_inj.mp ?_, hR.fr fs (hF.tr (f1.tr f2))⟩)
    rw [e2, g2 (by decide)]
  · unfold wX11_ways
    rintro _ rfl
    refine m_laysIndex hV hM1 (fun c s hs => ⟨fun _ => ⟨rfl, hR.fr (FX.rf σ) (hF.tr hs)⟩, fun c => absurd c (by decide)⟩) (fun ix' s1 hix' ea f1 hop => ?_)
    rw [ea, ixB_nI hix' (by omega)] at q
    exact absurd q (by decide)
theorem ixF_zero {f : Nat → Bool} {n m : Nat} (h : ∀ l, l < m → f (4 * n + l) = false) : ixF f n m = 0 :=
  (ixF_ext (Nat.two_pow_pos m) (fun l hl => by rw [h l hl, Nat.zero_testBit])).symm
theorem stF_00 {en : Nat → Nat} {W x : Nat} : stF en W (fun _ => false) 0 x = false := by
  unfold stF
  split
  · exact Nat.zero_testBit _
  · rfl
theorem c_some {some : Nat} {post : St → Prop} (h : NetX nn nl w N σ) (hV : NetV P nn nl w) (hn : nn ≤ 6) (hl : ∀ j, j < nn → nl j ≤ 4) (hN : N + 15 ≤ 291 ∨ 294 ≤ N) (hs : some < 2 ^ 31) (h2 : 2 ≤ P) (h97 : P ≤ 97) (k : ∀ s, (∀ o, o ≠ 291 → o ≠ 292 → o ≠ 293 → s.1 o = σ.1 o) → (s.1 291 0).toInt = fb_si (fun y => if sbB (inF w.2.1 some) w.1 y then (prF P some (vlC nl w (stF w.2.1 w.1 (fun _ => false) y)) nn).toInt else 0) (2 ^ w.1) % (P : Int) → post s) : wX8_goThroughSome 291 N (nI some) (nI P) σ post := by
  unfold wX8_goThroughSome
  refine loop_0 (fun x i (r : St) => wX8_goThroughSome_3 post x 291 N (nI some) (nI P) (nI i) r) (fun i r => (∀ o, o ≠ 292 → r.1 o = σ.1 o) ∧ ∀ n, n < i → r.1 292 n = 0) 6 σ ⟨fun _ _ => rfl, fun n hn => by omega⟩ ?_ ?_
  · rintro x r ⟨i1, i2⟩
    unfold wX8_goThroughSome_3
    refine ⟨fun _ => ?_, fun q => absurd (nI_le (Nat.le_refl _) (by decide)) q⟩
    refine c_go (g := fun _ => false) (h.fr hn (fun o h1 h2 => i1 o (by omega))) hV hn hl hN hs h2 h97 (fun n hn2 => ?_) (fun s f e1 e2 => k s (fun o h1 h2 h3 => by rw [f o h1 h2 h3, i1 o h2]) e1)
    rw [i2 n (by omega), ixF_zero (fun l _ => stF_00)]
    rfl
  · rintro x i r hi ⟨i1, i2⟩ ih
    unfold wX8_goThroughSome_3
    refine ⟨fun q => absurd q (nI_ge hi (by decide)), fun _ => ⟨vp_in_nI (by omega) (by decide), ?_⟩⟩
    rintro _ rfl _ rfl
    rw [nI_1, nI_clamp (by omega)]
    refine ih _ ⟨fun o ho => by rw [u1_n ho, i1 o ho], fun n hn => ?_⟩
    rw [u1_s]
    by_cases e : n = i
    · rw [e, pk_us]
    · rw [pk_un e]; exact i2 n (by omega)
theorem and_not {a b : Nat} (ha : a < 2 ^ 31) : (nI a &&& (nI b ^^^ (-1 : Int32)) = 0) ↔ ∀ i, a.testBit i = true → b.testBit i = true := by
  have e : nI a &&& (nI b ^^^ (-1 : Int32)) = 0 ↔ BitVec.ofNat 32 a &&& (BitVec.ofNat 32 b ^^^ BitVec.allOnes 32) = 0#32 := by
    constructor
    · intro h; exact congrArg Int32.toBitVec h
    · intro h; exact Int32.toBitVec_inj.1 h
  rw [e]
  constructor
  · intro h i hi
    have h2 : i < 32 := by
      apply Nat.lt_of_not_le
      intro q
      rw [bit_ge (m := 32) (by omega) q] at hi
      exact absurd hi (by decide)
    have h3 : (BitVec.ofNat 32 a &&& (BitVec.ofNat 32 b ^^^ BitVec.allOnes 32)).getLsbD i = (0#32).getLsbD i := by rw [h]
    rw [BitVec.getLsbD_and, BitVec.getLsbD_xor, BitVec.getLsbD_ofNat, BitVec.getLsbD_ofNat, BitVec.getLsbD_allOnes, BitVec.getLsbD_zero, hi] at h3
    cases hb : b.testBit i with
    | true => rfl
    | false =>
      rw [hb] at h3
      simp [h2] at h3
  · intro h
    apply BitVec.eq_of_getLsbD_eq
    intro i hi
    rw [BitVec.getLsbD_and, BitVec.getLsbD_xor, BitVec.getLsbD_ofNat, BitVec.getLsbD_ofNat, BitVec.getLsbD_allOnes, BitVec.getLsbD_zero]
    cases ha2 : a.testBit i with
    | false => simp
    | true =>
      rw [h i ha2]
      simp [hi]
theorem m_isInside {some v : Nat} {post : Bool → St → Prop} (hV : RV P tn bn nn lg tof tv bv L tp nw sz old ac kb kn) (hM : RM P tn bn nn lg tof tv bv L tp nw sz ac kb kn τ) (hs : some < 2 ^ 31) (hv : v < nw.1) (k : post (inF nw.2.1 some v) τ) : wX11_isInside 0 (nI v) (nI some) τ post := by
  have hn := hV.2.1.1
  have hw := hV.2.2.2.1.1
  have l1 := hV.2.2.2.1.lt hn (e := 2 * v) (by omega)
  have l2 := hV.2.2.2.1.lt hn (e := 2 * v + 1) (by omega)
  have e : ∀ r, inF nw.2.1 some v = r → post r τ := fun r hr => by rw [← hr]; exact k
  unfold inF at e
  unfold wX11_isInside
  rw [show (96 : Int32) = nI 96 from rfl, show (2 : Int32) = nI 2 from rfl, pk_mul, nI_add, nI_1]
  rintro _ rfl
  refine ⟨vp_in_nI (by omega) (by decide), ?_⟩
  rw [nI_clamp (by omega), show τ.1 (0 + 16) (96 + 2 * v) = nI (nw.2.1 (2 * v)) from hM.2.2.2.1.2.1 _ (by omega), show (4 : Int32) = nI 4 from rfl, pk_div (by omega) (by decide) (by decide), sr_b1 hs (by omega)]
  refine ⟨fun q => e _ (by simp [q]), fun q => ?_⟩
  rintro _ rfl
  refine ⟨vp_in_nI (by omega) (by decide), ?_⟩
  rw [nI_clamp (by omega), show τ.1 (0 + 16) (96 + 2 * v + 1) = nI (nw.2.1 (2 * v + 1)) from by rw [Nat.add_assoc]; exact hM.2.2.2.1.2.1 _ (by omega), pk_div (by omega) (by decide) (by decide), sr_b1 hs (by omega)]
  exact ⟨fun q2 => e _ (by simp [q2]), fun q2 => e _ (by simp [q, q2])⟩
theorem M_within {some : Nat} {V : Nat → Nat → Int32} {post : Int32 → St → Prop} (hV : RV P tn bn nn lg tof tv bv L tp nw sz old ac kb kn) (hM : RM P tn bn nn lg tof tv bv L tp nw sz ac kb kn τ) (hs : some < 2 ^ 31) (hval : ∀ y, y < 2 ^ nw.1 → ∀ st, StM nw y st → OpM nn (fun n => lg (tof n)) nw (fun x => nI (false).toNat) st → ∀ n, n < nn → vlM P (fun n => lg (tof n)) nw st n = V y n) (k : ∀ s r, FM τ s → r.toInt = fb_si (fun y => if sbB (inF nw.2.1 some) nw.1 y then (prF P some (V y) nn).toInt else 0) (2 ^ nw.1) % (P : Int) → post r s) : ∃ j, wX11_within__25 post j 0 (nI some) 0 0 τ := by
  have hn6 := hV.2.1.1
  have h97 := hV.1.1.2.1
  have h3 := hV.1.1.1
  have hw := hV.2.2.2.1.1
  have h1024 := p2_10 hw
  refine loop_0 (fun x i (_ : Unit) => wX11_within__25 post x 0 (nI some) (nI (ixF (inF nw.2.1 some) 0 i)) (nI i) τ) (fun _ _ => True) nw.1 () trivial ?_ ?_
  · rintro x _ _
    have hin : ixF (inF nw.2.1 some) 0 nw.1 < 1024 := Nat.lt_of_lt_of_le (ixF_lt _ _ _) h1024
    have hcond : ∀ y, y < 2 ^ nw.1 → ((nI y &&& (nI (ixF (inF nw.2.1 some) 0 nw.1) ^^^ (-1 : Int32)) = 0) ↔ sbB (inF nw.2.1 some) nw.1 y = true) := by
      intro y hy
      rw [and_not (by omega)]
      unfold sbB
      rw [decide_eq_true_iff]
      constructor
      · intro h v hv hb
        have := h v hb
        rw [ixF_bit, Nat.mul_zero, Nat.zero_add] at this
        simpa [hv] using this
      · intro h v hb
        have hv : v < nw.1 := by
          apply Nat.lt_of_not_le
          intro q
          rw [bit_ge hy q] at hb
          exact absurd hb (by decide)
        rw [ixF_bit, Nat.mul_zero, Nat.zero_add, h v hv hb]
        simp [hv]
    unfold wX11_within__25
    rw [show τ.1 (0 + 16) (116 : Int32).toNatClampNeg = nI nw.1 from hM.2.2.2.1.1]
    refine ⟨fun _ => ?_, fun q => absurd (nI_le (Nat.le_refl _) (by omega)) q⟩
    refine loop_0 (fun x i (q : Int32 × St) => wX11_within__66 post x 0 (nI some) (nI (ixF (inF nw.2.1 some) 0 nw.1)) q.1 (nI i) q.2) (fun i q => FM τ q.2 ∧ Sm P q.1 ∧ q.1.toInt = fb_si (fun y => if sbB (inF nw.2.1 some) nw.1 y then (prF P some (V y) nn).toInt else 0) i % (P : Int)) (2 ^ nw.1) (0, τ) ⟨FM.rf τ, Sm_nI (k := 0) (by omega) (by omega), by show (0 : Int) = 0 % _; rw [Int.zero_emod]⟩ ?_ ?_
    · rintro x ⟨r, s⟩ ⟨i1, i2, i3⟩
      have i1 : FM τ s := i1
      show wX11_within__66 post (x + 1) 0 (nI some) (nI (ixF (inF nw.2.1 some) 0 nw.1)) r (nI (2 ^ nw.1)) s
      unfold wX11_within__66
      rw [show s.1 (0 + 16) (116 : Int32).toNatClampNeg = nI nw.1 from (hM.fr i1).2.2.2.1.1, sh1 _ (by omega)]
      exact ⟨fun _ => k s r i1 i3, fun q => absurd (nI_le (Nat.le_refl _) (by omega)) q⟩
    · rintro x i ⟨r, s⟩ hi ⟨i1, i2, i3⟩ ih
      have i1 : FM τ s := i1
      have i2 : Sm P r := i2
      have i3 : r.toInt = fb_si (fun y => if sbB (inF nw.2.1 some) nw.1 y then (prF P some (V y) nn).toInt else 0) i % (P : Int) := i3
      show wX11_within__66 post (x + 1) 0 (nI some) (nI (ixF (inF nw.2.1 some) 0 nw.1)) r (nI i) s
      unfold wX11_within__66
      rw [show s.1 (0 + 16) (116 : Int32).toNatClampNeg = nI nw.1 from (hM.fr i1).2.2.2.1.1, sh1 _ (by omega), hcond i hi]
      refine ⟨fun q => absurd q (nI_ge hi (by omega)), fun _ => ⟨fun q => ?_, fun q => ?_⟩⟩
      · refine loop_0 (fun z l (u : St) => wX11_within__95 post (wX11_within__66 post x) z 0 (nI some) (nI (ixF (inF nw.2.1 some) 0 nw.1)) r (nI i) (nI l) u) (fun l u => (∀ o, o ≠ 23 → u.1 o = s.1 o) ∧ ∀ x, x < l → u.1 23 x = 0) 24 s ⟨fun _ _ => rfl, fun x hx => by omega⟩ ?_ ?_
        · rintro z u ⟨g1, g2⟩
          have hMu := (hM.fr i1).fr (FM.r23 g1)
          unfold wX11_within__95
          refine ⟨fun _ => ?_, fun q => absurd (nI_le (Nat.le_refl _) (by decide)) q⟩
          refine m_setsWires hV hMu (by omega) (fun s1 f1 st1 st2 => ?_)
          have hM1 := hMu.fr (FM.r23 f1)
          refine m_product hV hM1 hs ?_
          have hop : OpM nn (fun n => lg (tof n)) nw (fun x => nI (false).toNat) (s1.1 23) := fun z z1 z2 z3 => by
            rw [st2 z z3]
            exact g2 z (by omega)
          rw [prF_cg (fun n hn _ => hval i hi _ st1 hop n hn)]
          have sp : Sm P (prF P some (V i) nn) := prF_Sm (by omega) (by omega) nn
          obtain ⟨b1, b2⟩ := sp
          obtain ⟨a1, a2⟩ := i2
          have e1 : (r + prF P some (V i) nn).toInt = r.toInt + (prF P some (V i) nn).toInt := fb_addI (by omega) (by omega)
          unfold wX11_p
          rw [show s1.1 (0 + 2) (0 : Int32).toNatClampNeg = nI P from hM1.1.1]
          refine ⟨nI_ne0 hV.1.p0 hV.1.p31, ?_⟩
          rw [rem_md hV.1.p0 hV.1.p31 (by omega), nI_1]
          rintro _ rfl _ rfl
          refine ih (md (r + prF P some (V i) nn) P, s1) ⟨i1.tr ((FM.r23 g1).tr (FM.r23 f1)), md_Sm hV.1.p0 hV.1.p31, ?_⟩
          show (md (r + prF P some (V i) nn) P).toInt = _
          rw [md_toInt hV.1.p0 hV.1.p31, e1, fb_si_succ, q]
          exact cg_add (by rw [i3, Int.emod_emod]) rfl
        · rintro z l u hl ⟨g1, g2⟩ ih2
          unfold wX11_within__95
          refine ⟨fun q => absurd q (nI_ge hl (by decide)), fun _ => ⟨vp_in_nI (by omega) (by decide), ?_⟩⟩
          rintro _ rfl _ rfl
          rw [nI_1, nI_clamp (by omega)]
          simp only [Nat.zero_add]
          refine ih2 _ ⟨fun o ho => by rw [u1_n ho, g1 o ho], fun x hx => ?_⟩
          rw [u1_s]
          by_cases e : x = l
          · rw [e, pk_us]
          · rw [pk_un e]; exact g2 x (by omega)
      · rintro _ rfl
        rw [nI_1]
        refine ih (r, s) ⟨i1, i2, ?_⟩
        show r.toInt = _
        rw [i3, fb_si_succ, if_neg q, Int.add_zero]
  · rintro x i _ hi _ ih
    have ih := ih () trivial
    rw [ixF, Nat.mul_zero, Nat.zero_add] at ih
    unfold wX11_within__25 wX11_within__53
    rw [show τ.1 (0 + 16) (116 : Int32).toNatClampNeg = nI nw.1 from hM.2.2.2.1.1, sh1 _ (by omega), nI_1, fa_or]
    refine ⟨fun q => absurd q (nI_ge hi (by omega)), fun _ => m_isInside hV hM hs hi ⟨fun q => ?_, fun q => ?_⟩⟩
    · rintro _ rfl _ rfl
      rw [if_neg (by rw [q]; decide)] at ih
      rw [show (0 : Int32) = nI 0 from rfl, fa_or]
      exact ih
    · rintro _ rfl _ rfl
      rw [if_pos q] at ih
      exact ih
theorem S_within (hR : Rel σ τ) (a : Int32) : wX10_within 0 a σ (fun r u => wX11_within_ 0 a τ (fun r2 v => r = r2 ∧ Rel u v)) := by
  obtain ⟨t, P, tn, bn, nn, lg, tof, tv, bv, L, tp, nw, sz, old, ac, kb, kn, hV, hX, hM⟩ := id hR
  have hn := hV.2.1.1
  have h97 := hV.1.1.2.1
  have h3 := hV.1.1.1
  have h64 := p2_6 hn
  have hp0 := Nat.two_pow_pos nn
  have hF : FM τ (u1 τ 0 0 0) := FM.u0 (by decide)
  have hM1 := hM.fr hF
  have z : (0 : Int32).toInt = 0 := rfl
  have K : ∀ Q : Int32 → St → Prop, (ixB a (2 ^ nn) = false → Q (-1) (u1 τ 0 0 0)) → (∀ some, some < 2 ^ nn → a = nI some → ∃ j, wX11_within__25 Q j 0 (nI some) 0 0 (u1 τ 0 0 0)) → wX11_within_ 0 a τ Q := by
    intro Q k0 k1
    unfold wX11_within_ wX11_allNodes
    rintro _ rfl
    rw [show (u1 τ 0 0 0).1 (0 + 5) (0 : Int32).toNatClampNeg = nI nn from hM1.2.1.1, sh1 _ (by omega)]
    refine m_within (pred_toInt (by omega)) ⟨fun q => ?_, fun q => k0 q⟩
    obtain ⟨so, hso, rfl⟩ := ixB_t (by omega) q
    exact k1 so hso rfl
  unfold wX10_within wX4_allNodes
  simp only [Nat.zero_add]
  rw [hX.2.2.2.1.1, sh1 _ (by omega), fa_lt, z, fa_le, pred_toInt (by omega)]
  refine ⟨fun q => K _ (fun _ => ⟨rfl, hR.fr (FX.rf σ) hF⟩) (fun so hso e => ?_), fun q => ⟨fun q2 => ?_, fun q2 => K _ (fun _ => ⟨rfl, hR.fr (FX.rf σ) hF⟩) (fun so hso e => ?_)⟩⟩
  · rw [e, nI_toInt (by omega)] at q; omega
  · have hb : ixB a (2 ^ nn) = true := decide_eq_true ⟨by omega, by omega⟩
    obtain ⟨so, hso, rfl⟩ := ixB_t (by omega) hb
    rintro _ rfl
    rw [hX.1.p, hX.1.pr]
    refine ⟨kX_t hX.1.1, c_some hX.2.2.2.1 hV.2.2.2.1 hn hV.hl (by omega) (by omega) (by omega) h97 (fun s fs e1 => K _ (fun c => absurd (hb.symm.trans c) (by decide)) (fun so' hso' ea => ?_))⟩
    have ee := (nI_eq (by omega) (by omega)).mp ea
    subst ee
    refine M_within (V := fun y => vlC (fun n => lg (tof n)) nw (stF nw.2.1 nw.1 (fun _ => false) y)) hV hM1 (by omega) (fun y hy st h1 h2 => hval_set hV.2.2.2.1 hV.hl h97 h1 h2) (fun s2 r f2 g1 => ⟨Int32.toInt_inj.mp ?_, hR.fr (fun o ho => fs o (by omega) (by omega) (by omega)) (hF.tr f2)⟩)
    rw [e1, g1]
  · rw [e, nI_toInt (by omega)] at q2; omega
end SM
