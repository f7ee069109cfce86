/-! the reference's rows -/
theorem sm31 : ∀ j, j < 31 → ((nI j &&& 31).toBitVec.smod 32).toNat = j := by decide +kernel
theorem sr_nI {k j : Nat} (hk : k < 2 ^ 31) (hj : j < 31) : nI k >>> (nI j &&& 31) = nI (k / 2 ^ j) := by
  apply Int32.toInt_inj.mp
  have hd : k / 2 ^ j < 2 ^ 31 := Nat.lt_of_le_of_lt (Nat.div_le_self _ _) hk
  rw [Jvm.Kit.i32_shr _ _ (sm31 j hj), nI_toInt hk, nI_toInt hd, Int.natCast_ediv, Int.natCast_pow]
  rfl
theorem sr_bit {k j : Nat} (hk : k < 2 ^ 31) (hj : j < 31) : (nI k >>> (nI j &&& 31)) &&& (1 : Int32) = nI (k.testBit j).toNat := by
  rw [sr_nI hk hj, show (1 : Int32) = nI 1 from rfl, fa_and, Nat.and_one_is_mod, Nat.testBit_eq_decide_div_mod_eq]
  by_cases h : k / 2 ^ j % 2 = 1
  · simp [h]
  · simp [h, show k / 2 ^ j % 2 = 0 by omega]
theorem sr_b1 {k j : Nat} (hk : k < 2 ^ 31) (hj : j < 31) : (nI k >>> (nI j &&& 31)) &&& (1 : Int32) = 1 ↔ k.testBit j = true := by
  rw [sr_bit hk hj]
  cases k.testBit j <;> decide
theorem sr_b0 {k j : Nat} (hk : k < 2 ^ 31) (hj : j < 31) : (nI k >>> (nI j &&& 31)) &&& (1 : Int32) = 0 ↔ k.testBit j = false := by
  rw [sr_bit hk hj]
  cases k.testBit j <;> decide
theorem m_within {x y : Int32} {N : Nat} {σ : St} {post : Bool → St → Prop} (hy : y.toInt = (N : Int) - 1) (k : post (ixB x N) σ) : wX11_within x.toInt64 (0 : Int64) y.toInt64 σ post := by
  unfold wX11_within
  rw [lg_cmp_lt, lg_cmp_gt, fa_lt64, fa_lt64, Int32.toInt_toInt64, Int32.toInt_toInt64, hy]
  have z : (0 : Int64).toInt = 0 := rfl
  rw [z]
  have e : ∀ b : Bool, b = ixB x N → post b σ := fun b hb => by rw [hb]; exact k
  refine ⟨fun q => e _ ?_, fun q => ⟨fun q2 => e _ ?_, fun q2 => e _ ?_⟩⟩
  · simp [ixB]; omega
  · simp [ixB]; omega
  · simp [ixB]; omega
theorem pred_toInt {n : Nat} (h : n < 2 ^ 30) : (nI n - (1 : Int32)).toInt = (n : Int) - 1 := by
  have h1 : (1 : Int32).toInt = 1 := rfl
  rw [fb_subI (by rw [nI_toInt (by omega), h1]; omega) (by rw [nI_toInt (by omega), h1]; omega), nI_toInt (by omega), h1]
theorem bc_step : ∀ k, k < 16 → k ≠ 0 → nI k &&& (nI k - (1 : Int32)) = nI (k &&& (k - 1)) ∧ bc (k &&& (k - 1)) + 1 = bc k ∧ k &&& (k - 1) < 16 := by decide +kernel
theorem bc_0 : ∀ k, k < 16 → (bc k = 0 ↔ k = 0) := by decide +kernel
theorem m_bits {k : Nat} {σ : St} {post : Int32 → St → Prop} (hk : k < 16) (kk : post (nI (bc k)) σ) : wX11_bits (nI k) σ post := by
  have H : ∀ m c k, k < 16 → bc k = m → post (nI (c + m)) σ → wX11_bits_4 post (m + 1) (nI c) (nI k) σ := by
    intro m
    induction m with
    | zero =>
      intro c k hk hb hp
      unfold wX11_bits_4
      have h0 := (bc_0 k hk).mp hb
      subst h0
      exact ⟨fun _ => hp, fun q => absurd rfl q⟩
    | succ m ih =>
      intro c k hk hb hp
      have h0 : k ≠ 0 := fun e => by
        have := (bc_0 k hk).mpr e
        omega
      obtain ⟨b1, b2, b3⟩ := bc_step k hk h0
      unfold wX11_bits_4
      refine ⟨fun q => absurd q (nI_ne0 (by omega) (by omega)), fun _ => ?_⟩
      rw [b1]
      rintro _ rfl _ rfl
      rw [nI_1]
      exact ih (c + 1) _ b3 (by omega) (by rw [show c + 1 + m = c + (m + 1) by omega]; exact hp)
  exact ⟨bc k + 1, H (bc k) 0 k hk rfl (by rw [Nat.zero_add]; exact kk)⟩
theorem m_laysTable {t n : Nat} {τ : St} {post : St → Prop} (ht : t < 16) (hn : τ.1 9 t = nI n) (h4 : n ≤ 4) (k : ∀ s : St, s.1 0 36 = nI n → (∀ j, j < 2 ^ n → s.1 20 j = τ.1 10 (16 * t + j)) → (∀ j, j ≠ 36 → s.1 0 j = τ.1 0 j) → (∀ o, o ≠ 0 → o ≠ 20 → s.1 o = τ.1 o) → s.2 = τ.2 → post s) : wX11_laysTable 0 (nI t) τ post := by
  have h16 := p2le h4
  unfold wX11_laysTable
  simp only [Nat.zero_add]
  refine ⟨vp_in_nI ht (by decide), ?_⟩
  rintro _ rfl
  rw [nI_clamp (by omega), hn]
  refine loop_0 (fun j i (s : St) => wX11_laysTable_12 post j 0 (nI t) (nI i) s) (fun i s => s.1 0 36 = nI n ∧ (∀ j, j < i → s.1 20 j = τ.1 10 (16 * t + j)) ∧ (∀ j, j ≠ 36 → s.1 0 j = τ.1 0 j) ∧ (∀ o, o ≠ 0 → o ≠ 20 → s.1 o = τ.1 o) ∧ s.2 = τ.2) (2 ^ n) _ ⟨by rw [u1_s, pk_us], fun j hj => by omega, fun j hj => by rw [u1_s, pk_un hj], fun o h1 h2 => u1_n h1, rfl⟩ ?_ ?_
  · intro j s hI
    obtain ⟨i1, i2, i3, i4, i5⟩ := hI
    unfold wX11_laysTable_12
    rw [i1, sh1 n (by omega)]
    exact ⟨fun _ => k s i1 i2 i3 i4 i5, fun q => absurd (nI_le (Nat.le_refl _) (by omega)) q⟩
  · intro j i s hi hI ih
    obtain ⟨i1, i2, i3, i4, i5⟩ := hI
    unfold wX11_laysTable_12
    simp only [Nat.zero_add]
    rw [i1, sh1 n (by omega)]
    refine ⟨fun q => absurd q (nI_ge hi (by omega)), fun _ => ?_⟩
    rw [show (16 : Int32) = nI 16 from rfl, pk_mul, nI_add]
    rintro _ rfl
    refine ⟨vp_in_nI (by omega) (by decide), vp_in_nI (by omega) (by decide), ?_⟩
    rw [nI_clamp (by omega), nI_clamp (by omega)]
    rintro _ rfl _ rfl
    rw [nI_1]
    refine ih _ ⟨by rw [u1_n (by decide)]; exact i1, fun x hx => ?_, fun x hx => by rw [u1_n (by decide)]; exact i3 x hx, fun o h1 h2 => by rw [u1_n h2]; exact i4 o h1 h2, by rw [u1_2]; exact i5⟩
    rw [u1_s]
    by_cases e : x = i
    · subst e
      rw [pk_us, i4 10 (by decide) (by decide)]
    · rw [pk_un e, i2 x (by omega)]
theorem m_parity {n : Nat} {τ : St} {post : Int32 → St → Prop} (hn : τ.1 0 36 = nI n) (h4 : n ≤ 4) (k : post (parF n (τ.1 20)) τ) : wX11_parityHere 0 τ post := by
  have h16 := p2le h4
  unfold wX11_parityHere
  refine loop_0 (fun j i (_ : Unit) => wX11_parityHere_6 post j 0 (b2i (!odF (τ.1 20) i)) (b2i (!evF (τ.1 20) i)) (nI i) τ) (fun _ _ => True) (2 ^ n) () trivial ?_ ?_
  · intro j _ _
    unfold wX11_parityHere_6 wX11_parityHere_62
    rw [hn, sh1 n (by omega)]
    refine ⟨fun _ => ?_, fun q => absurd (nI_le (Nat.le_refl _) (by omega)) q⟩
    unfold parF at k
    cases he : evF (τ.1 20) (2 ^ n) <;> cases ho : odF (τ.1 20) (2 ^ n) <;> rw [he, ho] at k <;> simpa [b2i] using k
  · intro j i _ hi _ ih
    have ih := ih () trivial
    unfold wX11_parityHere_6
    simp only [Nat.zero_add]
    rw [hn, sh1 n (by omega)]
    refine ⟨fun q => absurd q (nI_ge hi (by omega)), fun _ => ⟨vp_in_nI (by omega) (by decide), ?_⟩⟩
    rw [nI_clamp (by omega)]
    refine ⟨fun q => m_bits (by omega) ?_, fun q => ?_⟩
    · rw [rem2 _ (by have := bc_le i; omega)]
      have hb : bc i % 2 = 0 ∨ bc i % 2 = 1 := by omega
      rcases hb with hb | hb
      · rw [hb]
        refine ⟨fun q2 => absurd rfl q2, fun _ => ?_⟩
        rintro _ rfl
        rw [nI_1]
        simpa [evF, odF, hb, q, b2i] using ih
      · rw [hb]
        refine ⟨fun _ => ?_, fun q2 => absurd q2 (by decide)⟩
        rintro _ rfl
        rw [nI_1]
        simpa [evF, odF, hb, q, b2i] using ih
    · rintro _ rfl
      rw [nI_1]
      simpa [evF, odF, q] using ih
theorem m_rule {p : Nat} {v1 : Int32} {τ : St} {post : Int32 → St → Prop} (hp : τ.1 2 0 = nI p) (h : 0 < p) (h2 : p < 2 ^ 31) (k : post (ruleF (!decide (v1 = 0)) (τ.1 20) p) τ) : wX11_ruleHere 0 v1 τ post := by
  have hp' : τ.1 (0 + 2) ((0 : Int32).toNatClampNeg) = nI p := hp
  unfold wX11_ruleHere wX11_ruleHere_127 wX11_p
  rw [hp']
  refine ⟨fun q => m_mod h h2 ?_, fun q => m_mod h h2 ?_⟩
  · simp [ruleF, q] at k
    exact k
  · simp [ruleF, q] at k
    exact k
theorem m_isMade {n p : Nat} {τ : St} {post : Bool → St → Prop} (hn : τ.1 0 36 = nI n) (h4 : n ≤ 4) (hp : τ.1 2 0 = nI p) (h : 0 < p) (h2 : p < 2 ^ 31) (k : post (madeF n (τ.1 20) p) τ) : wX11_isMadeHere 0 τ post := by
  have e : ∀ b : Bool, madeF n (τ.1 20) p = b → post b τ := fun b hb => by rw [← hb]; exact k
  unfold wX11_isMadeHere
  refine m_parity hn h4 ⟨fun q => e _ (by simp [madeF, q]), fun q => ?_⟩
  rw [hn]
  refine ⟨fun q2 => e _ ?_, fun q2 => ?_⟩
  · have : n < 4 := (nI_ltI (a := n) (b := 4) (by omega) (by decide)).mp q2
    simp [madeF, q]; omega
  · have : n = 4 := by
      have := mt (nI_ltI (a := n) (b := 4) (by omega) (by decide)).mpr q2
      omega
    refine m_rule hp h h2 ⟨fun q3 => e _ ?_, fun q3 => m_rule hp h h2 ⟨fun q4 => e _ ?_, fun q4 => e _ ?_⟩⟩
    · have q3 : ¬ ruleF false (τ.1 20) p = 0 := q3
      simp [madeF, q3, this]
    · have q4 : ¬ ruleF true (τ.1 20) p = 0 := q4
      simp [madeF, q4, this]
    · have q3 : ruleF false (τ.1 20) p = 0 := q3
      have q4 : ruleF true (τ.1 20) p = 0 := q4
      simp [madeF, q, q3, q4]
theorem m_changes {ln v1 at_ n leg p : Nat} {a b c d : Int32} {τ : St} {post : St → Prop} (h4 : n ≤ 4) (hl : leg < n) (hat : at_ + 2 ^ n ≤ ln) (hln : ln < 2 ^ 30) (hv : v1 ≠ 2) (hp : τ.1 2 0 = nI p) (h : 0 < p) (h2 : p < 2 ^ 31) (k : ∀ s : St, (∀ j, j < 2 ^ n → s.1 v1 (at_ + j) = chF leg a b c d p (fun k => τ.1 v1 (at_ + k)) (2 ^ n) j) → (∀ x, (x < at_ ∨ at_ + 2 ^ n ≤ x) → s.1 v1 x = τ.1 v1 x) → (∀ o, o ≠ v1 → s.1 o = τ.1 o) → s.2 = τ.2 → post s) : wX11_changes ln 0 v1 (nI at_) (nI n) (nI leg) a b c d τ post := by
  have h16 := p2le h4
  unfold wX11_changes
  refine loop_0 (fun j i (s : St) => wX11_changes_3 ln post j 0 v1 (nI at_) (nI n) (nI leg) a b c d (nI i) s) (fun i s => (∀ j, j < 2 ^ n → s.1 v1 (at_ + j) = chF leg a b c d p (fun k => τ.1 v1 (at_ + k)) i j) ∧ (∀ x, (x < at_ ∨ at_ + 2 ^ n ≤ x) → s.1 v1 x = τ.1 v1 x) ∧ (∀ o, o ≠ v1 → s.1 o = τ.1 o) ∧ s.2 = τ.2) (2 ^ n) τ ⟨fun _ _ => rfl, fun _ _ => rfl, fun _ _ => rfl, rfl⟩ ?_ ?_
  · intro j s hI
    obtain ⟨i1, i2, i3, i4⟩ := hI
    unfold wX11_changes_3
    rw [sh1 n (by omega)]
    exact ⟨fun _ => k s i1 i2 i3 i4, fun q => absurd (nI_le (Nat.le_refl _) (by omega)) q⟩
  · intro j i s hi hI ih
    obtain ⟨i1, i2, i3, i4⟩ := hI
    unfold wX11_changes_3
    rw [sh1 n (by omega), sh1 leg (by omega), sr_b1 (by omega) (by omega), fa_or, nI_add, nI_add]
    refine ⟨fun q => absurd q (nI_ge hi (by omega)), fun _ => ⟨fun q => ?_, fun q => ?_⟩⟩
    · have q : i.testBit leg = false := by simpa using q
      have e1 := or_add i (by omega) leg (by omega) q
      have e2 := add_lt n h4 i hi leg hl q
      have e3 : 0 < 2 ^ leg := Nat.pow_pos (by decide)
      rw [e1]
      rintro _ rfl
      refine ⟨vp_in_nI (by omega) (by omega), ?_⟩
      rintro _ rfl _ rfl
      refine ⟨vp_in_nI (by omega) (by omega), ?_⟩
      rintro _ rfl
      rw [nI_clamp (by omega), nI_clamp (by omega), i1 i hi, i1 _ e2]
      unfold wX11_p
      have hps : s.1 (0 + 2) ((0 : Int32).toNatClampNeg) = nI p := by
        show s.1 2 0 = _
        rw [i3 2 (Ne.symm hv)]; exact hp
      rw [hps]
      refine m_mod h h2 ⟨vp_in_nI (by omega) (by omega), ?_⟩
      rintro _ rfl
      have hps : ∀ x y, (u1 s v1 x y).1 (0 + 2) ((0 : Int32).toNatClampNeg) = nI p := fun x y => by
        show (u1 s v1 x y).1 2 0 = _
        rw [u1_n (Ne.symm hv), i3 2 (Ne.symm hv)]; exact hp
      rw [hps]
      refine m_mod h h2 ⟨vp_in_nI (by omega) (by omega), ?_⟩
      rintro _ rfl _ rfl
      rw [nI_1]
      refine ih _ ⟨fun x hx => ?_, fun x hx => ?_, fun o ho => by rw [u1_n ho, u1_n ho, i3 o ho], by rw [u1_2, u1_2, i4]⟩
      · rw [u1_s, u1_s, chF, chS, if_neg (by rw [q]; decide)]
        by_cases f1 : x = i + 2 ^ leg
        · subst f1; rw [pk_us, pk_us]
        · rw [pk_un (by omega), pk_un f1]
          by_cases f2 : x = i
          · subst f2; rw [pk_us, pk_us]
          · rw [pk_un (by omega), pk_un f2, i1 x hx]
      · rw [u1_s, u1_s, pk_un (by omega), pk_un (by omega), i2 x hx]
    · rintro _ rfl
      rw [nI_1]
      refine ih s ⟨fun x hx => ?_, i2, i3, i4⟩
      rw [i1 x hx, chF, chS, if_pos q]
