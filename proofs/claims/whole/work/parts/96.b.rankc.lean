/-! rank: the class -/
def spF (v legs m : Nat) : Nat := ixF (fun k => legs.testBit k && v.testBit (fb_ct (fun k => legs.testBit k) k)) 0 m
theorem spF_succ {v legs m : Nat} : spF v legs (m + 1) = if legs.testBit m then spF v legs m ||| (if v.testBit (fb_ct (fun k => legs.testBit k) m) then 2 ^ m else 0) else spF v legs m := by
  unfold spF
  rw [ixF, Nat.mul_zero, Nat.zero_add]
  cases legs.testBit m <;> simp
theorem spF_4 {v legs n : Nat} (h4 : n ≤ 4) (h : legs < 2 ^ n) : spF v legs 4 = spF v legs n := by
  refine (ixF_ext (Nat.lt_of_lt_of_le (ixF_lt _ _ _) (Nat.pow_le_pow_right (by decide) h4)) (fun l hl => ?_)).symm
  rw [ixF_bit, Nat.mul_zero, Nat.zero_add]
  by_cases e : l < n
  · simp [e]
  · rw [bit_ge h (by omega)]
    simp
theorem c_spread {v legs : Nat} {σ : St} {post : Int32 → St → Prop} (hv : v < 2 ^ 31) (hl : legs < 2 ^ 31) (k : post (nI (spF v legs 4)) σ) : wX3_spread (nI v) (nI legs) σ post := by
  unfold wX3_spread
  refine loop_0 (fun j i (_ : Unit) => wX3_spread_7 post j (nI v) (nI legs) (nI (spF v legs i)) (nI (fb_ct (fun k => legs.testBit k) i)) (nI i) σ) (fun _ _ => True) 4 () trivial ?_ ?_
  · rintro j _ _
    unfold wX3_spread_7
    exact ⟨fun _ => k, fun q => absurd (nI_le (Nat.le_refl _) (by decide)) q⟩
  · rintro j i _ hi _ ih
    have ih := ih () trivial
    have hc : fb_ct (fun k => legs.testBit k) i ≤ i := fb_ct_le _ _
    rw [spF_succ, fb_ct_succ] at ih
    unfold wX3_spread_7
    rw [sr_b1 hl (by omega), sr_bit hv (by omega), sh_b _ (Bool.toNat_lt _) _ hi, or_if rfl, nI_1]
    refine ⟨fun q => absurd q (nI_ge hi (by decide)), fun _ => ⟨fun q => ?_, fun q => ?_⟩⟩
    · rintro _ rfl
      rw [if_neg q, if_neg q] at ih
      exact ih
    · rw [nI_1]
      rintro _ rfl _ rfl _ rfl
      rw [if_pos q, if_pos q] at ih
      exact ih
theorem rc_lt {r c R C : Nat} (hr : r < R) (hc : c < C) : r * C + c < R * C := by
  have h1 : (r + 1) * C ≤ R * C := Nat.mul_le_mul_right C (by omega)
  rw [Nat.add_mul, Nat.one_mul] at h1
  omega
theorem rc_inj {r c r' c' C : Nat} (hc : c < C) (hc' : c' < C) (h : r * C + c = r' * C + c') : r = r' ∧ c = c' := by
  have e1 : (r * C + c) / C = r := by rw [Nat.mul_comm, Nat.mul_add_div (by omega), Nat.div_eq_of_lt hc, Nat.add_zero]
  have e2 : (r' * C + c') / C = r' := by rw [Nat.mul_comm, Nat.mul_add_div (by omega), Nat.div_eq_of_lt hc', Nat.add_zero]
  have e3 : r = r' := by rw [← e1, ← e2, h]
  subst e3
  exact ⟨rfl, by omega⟩
def m0F (v : Nat → Int32) (n legs : Nat) : Nat → Nat → Int32 := fun r c => v (spF r legs n ||| spF c (2 ^ n - 1 - legs) n)
theorem spF_lt {v legs n : Nat} : spF v legs n < 2 ^ n := ixF_lt _ _ _
def matX (R C : Nat) (A : Nat → Nat → Int32) (σ : St) : Prop := σ.1 311 0 = nI R ∧ σ.1 311 1 = nI C ∧ ∀ r, r < R → ∀ c, c < C → σ.1 312 (r * C + c) = A r c
theorem cl_nI : ∀ n, n ≤ 4 → ∀ l, l < 2 ^ n → (nI (2 ^ n) - (1 : Int32)) &&& (nI l ^^^ (-1 : Int32)) = nI (2 ^ n - 1 - l) := by decide +kernel
theorem rc_16 : ∀ n, n ≤ 4 → ∀ l, l < 2 ^ n → 2 ^ bc l * 2 ^ bc (2 ^ n - 1 - l) = 2 ^ n := by decide +kernel
theorem bc_sub : ∀ n, n ≤ 4 → ∀ l, l < 2 ^ n → bc (2 ^ n - 1 - l) = n - bc l ∧ bc l ≤ n := by decide +kernel
section RC
variable {σ : St} {R C P : Nat} {A : Nat → Nat → Int32}
theorem c_fill {v1 n legs : Nat} {v : Nat → Int32} {post : St → Prop} (hn : σ.1 v1 0 = nI n) (h4 : n ≤ 4) (hv : ∀ i, i < 2 ^ n → σ.1 (v1 + 1) i = v i) (hv1 : v1 + 1 < 311) (hl : legs < 2 ^ n) (k : ∀ s, (∀ o, o ≠ 311 → o ≠ 312 → s.1 o = σ.1 o) → matX (2 ^ bc legs) (2 ^ bc (2 ^ n - 1 - legs)) (m0F v n legs) s → post s) : wX3_fill 311 v1 (nI legs) σ post := by
  have h16 := p2le h4
  have hRC := rc_16 n h4 legs hl
  have hb1 := bc_le legs
  have hb2 := bc_le (2 ^ n - 1 - legs)
  have hR := p2le hb1
  have hC := p2le hb2
  unfold wX3_fill
  refine s_size hn h4 ?_
  rw [cl_nI n h4 legs hl]
  rintro _ rfl
  refine s_bitCount (by omega) ?_
  rw [sh1 _ (by omega)]
  rintro _ rfl
  refine s_bitCount (by omega) ?_
  rw [sh1 _ (by omega)]
  rintro _ rfl
  generalize hRR : 2 ^ bc legs = R at *
  generalize hCC : 2 ^ bc (2 ^ n - 1 - legs) = C at *
  refine loop_0 (fun j i (s : St) => wX3_fill_34 post j 311 v1 (nI legs) (nI (2 ^ n - 1 - legs)) (nI i) s) (fun i s => (∀ o, o ≠ 311 → o ≠ 312 → s.1 o = σ.1 o) ∧ s.1 311 0 = nI R ∧ s.1 311 1 = nI C ∧ ∀ r, r < i → ∀ c, c < C → s.1 312 (r * C + c) = m0F v n legs r c) R _ ⟨fun o h1 h2 => by rw [u1_n h1, u1_n h1], by rw [u1_s, pk_un (by decide), u1_s, pk_us], by rw [u1_s, pk_us], fun r hr => by omega⟩ ?_ ?_
  · rintro j s ⟨i1, i2, i3, i4⟩
    unfold wX3_fill_34
    rw [i2]
    exact ⟨fun _ => k s i1 ⟨i2, i3, i4⟩, fun q => absurd (nI_le (Nat.le_refl _) (by omega)) q⟩
  · rintro j i s hi ⟨i1, i2, i3, i4⟩ ih
    unfold wX3_fill_34
    rw [i2]
    refine ⟨fun q => absurd q (nI_ge hi (by omega)), fun _ => ?_⟩
    refine loop_0 (fun y l (r : St) => wX3_fill_46 post (wX3_fill_34 post j) y 311 v1 (nI legs) (nI (2 ^ n - 1 - legs)) (nI i) (nI l) r) (fun l r => (∀ o, o ≠ 311 → o ≠ 312 → r.1 o = σ.1 o) ∧ r.1 311 0 = nI R ∧ r.1 311 1 = nI C ∧ (∀ z, z < i → ∀ c, c < C → r.1 312 (z * C + c) = m0F v n legs z c) ∧ ∀ c, c < l → r.1 312 (i * C + c) = m0F v n legs i c) C s ⟨i1, i2, i3, i4, fun c hc => by omega⟩ ?_ ?_
    · rintro y r ⟨g1, g2, g3, g4, g5⟩
      unfold wX3_fill_46
      rw [g3]
      refine ⟨fun _ => ?_, fun q => absurd (nI_le (Nat.le_refl _) (by omega)) q⟩
      rintro _ rfl
      rw [nI_1]
      refine ih r ⟨g1, g2, g3, fun z hz c hc => ?_⟩
      by_cases e : z = i
      · subst e; exact g5 c hc
      · exact g4 z (by omega) c hc
    · rintro y l r hl2 ⟨g1, g2, g3, g4, g5⟩ ih2
      have hlt := rc_lt hi hl2
      have hx : spF i legs n ||| spF l (2 ^ n - 1 - legs) n < 2 ^ n := Nat.or_lt_two_pow spF_lt spF_lt
      unfold wX3_fill_46
      rw [g3]
      refine ⟨fun q => absurd q (nI_ge hl2 (by omega)), fun _ => c_spread (by omega) (by omega) (c_spread (by omega) (by omega) ?_)⟩
      rw [spF_4 h4 hl, spF_4 h4 (by omega), fa_or, g3, pk_mul, nI_add]
      rintro _ rfl
      refine ⟨vp_in_nI (by omega) (by decide), vp_in_nI (by omega) (by decide), ?_⟩
      rintro _ rfl _ rfl
      rw [nI_1, nI_clamp (by omega), nI_clamp (by omega), g1 _ (by omega) (by omega), hv _ hx]
      refine ih2 _ ⟨fun o h1 h2 => by rw [u1_n h2, g1 o h1 h2], by rw [u1_n (by decide)]; exact g2, by rw [u1_n (by decide)]; exact g3, fun z hz c hc => ?_, fun c hc => ?_⟩
      · rw [u1_s, pk_un (fun e => by have := (rc_inj hc hl2 e).1; omega)]
        exact g4 z hz c hc
      · rw [u1_s]
        by_cases e : c = l
        · subst e; rw [pk_us]; rfl
        · rw [pk_un (by omega)]; exact g5 c (by omega)
theorem c_row0 {r0 c : Nat} {post : Int32 → St → Prop} (h : matX R C A σ) (hRC : R * C ≤ 16) (hc : c < C) (hR : R ≤ 16) (hr0 : r0 ≤ R) (k1 : pvF (nzB A c) (R - r0) r0 < R → post (nI (pvF (nzB A c) (R - r0) r0)) σ) (k2 : pvF (nzB A c) (R - r0) r0 = R → post (-1) σ) : wX3_rowWithout0 311 (nI r0) (nI c) σ post := by
  unfold wX3_rowWithout0
  have hm : ∀ m r, r + m = R → pvF (nzB A c) (R - r0) r0 = pvF (nzB A c) m r → wX3_rowWithout0_2 post (m + 1) 311 (nI c) (nI r) σ := by
    intro m
    induction m with
    | zero =>
      intro r e hf
      unfold wX3_rowWithout0_2
      rw [h.1]
      refine ⟨fun _ => k2 (by rw [hf, pvF]; omega), fun q => absurd (nI_le (by omega) (by omega)) q⟩
    | succ m ih =>
      intro r e hf
      have hr : r < R := by omega
      have hlt := rc_lt hr hc
      unfold wX3_rowWithout0_2
      rw [h.1, h.2.1, pk_mul, nI_add]
      refine ⟨fun q => absurd q (nI_ge hr (by omega)), fun _ => ?_⟩
      rintro _ rfl
      refine ⟨vp_in_nI (by omega) (by decide), ?_⟩
      rw [nI_clamp (by omega), show σ.1 (311 + 1) (r * C + c) = A r c from h.2.2 r hr c hc]
      rw [pvF] at hf
      refine ⟨fun q => ?_, fun q => ?_⟩
      · rintro _ rfl
        rw [nI_1]
        exact ih (r + 1) (by omega) (by rw [hf, if_neg]; unfold nzB; rw [q]; decide)
      · rw [if_pos (by unfold nzB; simp [q])] at hf
        rw [← hf]
        exact k1 (by omega)
  exact ⟨R - r0 + 1, hm (R - r0) r0 (by omega) rfl⟩
theorem c_exch {i j : Nat} {post : St → Prop} (h : matX R C A σ) (hRC : R * C ≤ 16) (hC : C ≤ 16) (hi : i < R) (hj : j < R) (k : ∀ s, (∀ o, o ≠ 312 → s.1 o = σ.1 o) → matX R C (exR A i j) s → post s) : wX3_exchangeRows 311 (nI i) (nI j) σ post := by
  unfold wX3_exchangeRows
  refine loop_0 (fun y l (s : St) => wX3_exchangeRows_2 post y 311 (nI i) (nI j) (nI l) s) (fun l s => (∀ o, o ≠ 312 → s.1 o = σ.1 o) ∧ ∀ r, r < R → ∀ c, c < C → s.1 312 (r * C + c) = if c < l then exR A i j r c else A r c) C σ ⟨fun _ _ => rfl, fun r hr c hc => by rw [if_neg (by omega)]; exact h.2.2 r hr c hc⟩ ?_ ?_
  · rintro y s ⟨i1, i2⟩
    unfold wX3_exchangeRows_2
    rw [i1 311 (by decide), h.2.1]
    refine ⟨fun _ => k s i1 ⟨by rw [i1 311 (by decide)]; exact h.1, by rw [i1 311 (by decide)]; exact h.2.1, fun r hr c hc => by rw [i2 r hr c hc, if_pos hc]⟩, fun q => absurd (nI_le (Nat.le_refl _) (by omega)) q⟩
  · rintro y l s hl ⟨i1, i2⟩ ih
    have l1 := rc_lt hi hl
    have l2 := rc_lt hj hl
    unfold wX3_exchangeRows_2
    rw [i1 311 (by decide), h.2.1, pk_mul, nI_add, pk_mul, nI_add]
    refine ⟨fun q => absurd q (nI_ge hl (by omega)), fun _ => ?_⟩
    rintro _ rfl
    refine ⟨vp_in_nI (by omega) (by decide), ?_⟩
    rintro _ rfl _ rfl
    refine ⟨vp_in_nI (by omega) (by decide), vp_in_nI (by omega) (by decide), ?_⟩
    rintro _ rfl
    rw [nI_clamp (by omega), nI_clamp (by omega), u1_n (o' := 311) (by decide), i1 311 (by decide), h.2.1, pk_mul, nI_add]
    refine ⟨vp_in_nI (by omega) (by decide), ?_⟩
    rintro _ rfl _ rfl
    rw [nI_1, nI_clamp (by omega), show s.1 (311 + 1) (i * C + l) = A i l from by rw [show (311 + 1 : Nat) = 312 from rfl, i2 i hi l hl, if_neg (by omega)], show s.1 (311 + 1) (j * C + l) = A j l from by rw [show (311 + 1 : Nat) = 312 from rfl, i2 j hj l hl, if_neg (by omega)]]
    refine ih _ ⟨fun o ho => by rw [u1_n ho, u1_n ho, i1 o ho], fun r hr c hc => ?_⟩
    rw [show (311 + 1 : Nat) = 312 from rfl, u1_s, u1_s]
    by_cases e1 : c = l
    · subst e1
      rw [if_pos (by omega)]
      unfold exR
      by_cases f2 : r = j
      · subst f2
        rw [pk_us]
        by_cases f3 : r = i
        · rw [if_pos f3, f3]
        · rw [if_neg f3, if_pos rfl]
      · rw [pk_un (fun e => f2 (rc_inj hc hc e).1)]
        by_cases f3 : r = i
        · rw [f3, pk_us, if_pos rfl]
        · rw [pk_un (fun e => f3 (rc_inj hc hc e).1), if_neg f3, if_neg f2, i2 r hr c hc, if_neg (by omega)]
    · rw [pk_un (fun e => e1 (rc_inj hc hl e).2), pk_un (fun e => e1 (rc_inj hc hl e).2), i2 r hr c hc]
      by_cases f : c < l
      · rw [if_pos f, if_pos (by omega)]
      · rw [if_neg f, if_neg (by omega)]
theorem c_clear {t c : Nat} {post : St → Prop} (h : matX R C A σ) (hRC : R * C ≤ 16) (hC : C ≤ 16) (hR : R ≤ 16) (ht : t < R) (hc : c < C) (h0 : 0 < P) (hP : P < 2 ^ 31) (k : ∀ s, (∀ o, o ≠ 312 → s.1 o = σ.1 o) → matX R C (clrC P t c A) s → post s) : wX3_clearBelow 311 (nI t) (nI c) (nI P) σ post := by
  have l0 := rc_lt ht hc
  unfold wX3_clearBelow
  rw [h.2.1, pk_mul, nI_add, nI_1]
  rintro _ rfl
  refine ⟨vp_in_nI (by omega) (by decide), ?_⟩
  rw [nI_clamp (by omega), show σ.1 (311 + 1) (t * C + c) = A t c from h.2.2 t ht c hc]
  rintro _ rfl _ rfl
  refine pk_loop (fun y i (s : St) => wX3_clearBelow_20 post y 311 (nI t) (nI c) (nI P) (A t c) (nI i) s) (fun i s => t < i ∧ (∀ o, o ≠ 312 → s.1 o = σ.1 o) ∧ ∀ r, r < R → ∀ k, k < C → s.1 312 (r * C + k) = if r < i then clrC P t c A r k else A r k) R (t + 1) σ (by omega) ⟨by omega, fun _ _ => rfl, fun r hr k hk => ?_⟩ ?_ ?_
  · rw [h.2.2 r hr k hk]
    unfold clrC
    by_cases e : r < t + 1
    · rw [if_pos e, if_neg (by omega)]
    · rw [if_neg e]
  · rintro y s ⟨i0, i1, i2⟩
    unfold wX3_clearBelow_20
    rw [i1 311 (by decide), h.1]
    refine ⟨fun _ => k s i1 ⟨by rw [i1 311 (by decide)]; exact h.1, by rw [i1 311 (by decide)]; exact h.2.1, fun r hr k hk => by rw [i2 r hr k hk, if_pos hr]⟩, fun q => absurd (nI_le (Nat.le_refl _) (by omega)) q⟩
  · rintro y i s hi ⟨i0, i1, i2⟩ ih
    have l1 := rc_lt hi hc
    unfold wX3_clearBelow_20
    rw [i1 311 (by decide), h.1, h.2.1, pk_mul, nI_add]
    refine ⟨fun q => absurd q (nI_ge hi (by omega)), fun _ => ?_⟩
    rintro _ rfl
    refine ⟨vp_in_nI (by omega) (by decide), ?_⟩
    rw [nI_clamp (by omega), show s.1 (311 + 1) (i * C + c) = A i c from by rw [show (311 + 1 : Nat) = 312 from rfl, i2 i hi c hc, if_neg (by omega)]]
    rintro _ rfl
    refine loop_0 (fun z l (u : St) => wX3_clearBelow_48 post (wX3_clearBelow_20 post y) z 311 (nI t) (nI c) (nI P) (A t c) (nI i) (A i c) (nI l) u) (fun l u => (∀ o, o ≠ 312 → u.1 o = σ.1 o) ∧ ∀ r, r < R → ∀ k, k < C → u.1 312 (r * C + k) = if r < i ∨ (r = i ∧ k < l) then clrC P t c A r k else A r k) C s ⟨i1, fun r hr k hk => ?_⟩ ?_ ?_
    · rw [i2 r hr k hk]
      by_cases e : r < i
      · rw [if_pos e, if_pos (Or.inl e)]
      · rw [if_neg e, if_neg (by omega)]
    · rintro z u ⟨g1, g2⟩
      unfold wX3_clearBelow_48
      rw [g1 311 (by decide), h.2.1]
      refine ⟨fun _ => ?_, fun q => absurd (nI_le (Nat.le_refl _) (by omega)) q⟩
      rintro _ rfl
      rw [nI_1]
      refine ih u ⟨by omega, g1, fun r hr k hk => ?_⟩
      rw [g2 r hr k hk]
      by_cases e : r < i + 1
      · rw [if_pos e, if_pos (by omega)]
      · rw [if_neg e, if_neg (by omega)]
    · rintro z l u hl ⟨g1, g2⟩ ih2
      have l2 := rc_lt hi hl
      have l3 := rc_lt ht hl
      unfold wX3_clearBelow_48
      rw [g1 311 (by decide), h.2.1, pk_mul, nI_add, pk_mul, nI_add]
      refine ⟨fun q => absurd q (nI_ge hl (by omega)), fun _ => ?_⟩
      rintro _ rfl
      refine ⟨vp_in_nI (by omega) (by decide), ?_⟩
      rintro _ rfl
      refine ⟨vp_in_nI (by omega) (by decide), ?_⟩
      rw [nI_clamp (by omega), nI_clamp (by omega), show u.1 (311 + 1) (i * C + l) = A i l from by rw [show (311 + 1 : Nat) = 312 from rfl, g2 i hi l hl, if_neg (by omega)], show u.1 (311 + 1) (t * C + l) = A t l from by rw [show (311 + 1 : Nat) = 312 from rfl, g2 t ht l hl, if_pos (Or.inl i0)]; unfold clrC; rw [if_neg (by omega)]]
      rintro _ rfl
      refine c_mod h0 hP ⟨vp_in_nI (by omega) (by decide), ?_⟩
      rintro _ rfl _ rfl
      rw [nI_1]
      refine ih2 _ ⟨fun o ho => by rw [u1_n ho, g1 o ho], fun r hr k hk => ?_⟩
      rw [show (311 + 1 : Nat) = 312 from rfl, u1_s]
      by_cases e : r = i ∧ k = l
      · obtain ⟨e1, e2⟩ := e
        subst e1 e2
        rw [pk_us, if_pos (by omega)]
        unfold clrC
        rw [if_pos i0]
      · rw [pk_un (fun f => e (rc_inj hk hl f)), g2 r hr k hk]
        by_cases f : r < i ∨ (r = i ∧ k < l)
        · rw [if_pos f, if_pos (by omega)]
        · rw [if_neg f, if_neg (by omega)]
theorem c_ranked {post : Int32 → St → Prop} (hRC : R * C ≤ 16) (hC : C ≤ 16) (hR : R ≤ 16) (h0 : 0 < P) (hP : P < 2 ^ 31) : ∀ (m c rank : Nat) (A : Nat → Nat → Int32) (s : St), c + m = C → rank ≤ R → matX R C A s → (∀ s', (∀ o, o ≠ 312 → s'.1 o = s.1 o) → post (nI (rkC P R m c rank A)) s') → wX3_rankModulo_4 post (m + 1) 311 (nI P) (nI rank) (nI c) s := by
  intro m
  induction m with
  | zero =>
    intro c rank A s e hr h k
    unfold wX3_rankModulo_4
    rw [h.2.1]
    refine ⟨fun _ => k s (fun _ _ => rfl), fun q => absurd (nI_le (by omega) (by omega)) q⟩
  | succ m ih =>
    intro c rank A s e hr h k
    have hc : c < C := by omega
    unfold wX3_rankModulo_4
    rw [h.2.1, h.1]
    refine ⟨fun q => absurd q (nI_ge hc (by omega)), fun _ => ?_⟩
    rw [nI_leI (by omega) (by omega)]
    rw [rkC] at k
    refine ⟨fun q => ?_, fun q => ?_⟩
    · rw [if_pos q] at k
      exact k s (fun _ _ => rfl)
    · rw [if_neg q] at k
      have b := pvF_le (z := nzB A c) (R - rank) rank
      refine c_row0 h hRC hc hR (by omega) (fun q2 => ⟨fun e2 => ?_, fun _ => ?_⟩) (fun q2 => ⟨fun _ => ?_, fun e2 => absurd rfl e2⟩)
      · have := congrArg Int32.toInt e2
        rw [nI_toInt (by omega)] at this
        have z : (-1 : Int32).toInt = -1 := rfl
        omega
      · rw [if_neg (by omega)] at k
        refine c_exch h hRC hC (by omega) q2 (fun s1 f1 h1 => c_clear h1 hRC hC hR (by omega) hc h0 hP (fun s2 f2 h2 => ?_))
        rw [nI_1, nI_1]
        rintro _ rfl _ rfl
        exact ih (c + 1) (rank + 1) _ s2 (by omega) (by omega) h2 (fun s' f => k s' (fun o ho => by rw [f o ho, f2 o ho, f1 o ho]))
      · rw [if_pos q2] at k
        rintro _ rfl
        rw [nI_1]
        exact ih (c + 1) rank A s (by omega) hr h k
end RC
