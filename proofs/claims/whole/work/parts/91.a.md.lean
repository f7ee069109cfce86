/-! numbers modulo p: what both sides' remainders are -/
def md (x : Int32) (p : Nat) : Int32 := Int32.ofInt (x.toInt % (p : Int))
def Sm (p : Nat) (x : Int32) : Prop := 0 ≤ x.toInt ∧ x.toInt < (p : Int)
theorem md_toInt {x : Int32} {p : Nat} (h : 0 < p) (h2 : p < 2 ^ 31) : (md x p).toInt = x.toInt % (p : Int) := by
  have a := Int.emod_nonneg x.toInt (b := (p : Int)) (by omega)
  have b := Int.emod_lt_of_pos x.toInt (b := (p : Int)) (by omega)
  exact fb_ofI (by omega) (by omega)
theorem md_Sm {x : Int32} {p : Nat} (h : 0 < p) (h2 : p < 2 ^ 31) : Sm p (md x p) := by
  have a := Int.emod_nonneg x.toInt (b := (p : Int)) (by omega)
  have b := Int.emod_lt_of_pos x.toInt (b := (p : Int)) (by omega)
  unfold Sm
  rw [md_toInt h h2]
  exact ⟨a, b⟩
theorem Sm_nI {p k : Nat} (h : k < p) (h2 : p < 2 ^ 31) : Sm p (nI k) := by
  unfold Sm
  rw [nI_toInt (by omega)]
  omega
theorem Sm.nI {p : Nat} {x : Int32} (h : Sm p x) (h2 : p < 2 ^ 31) : ∃ k, k < p ∧ x = nI k := by
  obtain ⟨h1, h3⟩ := h
  obtain ⟨j, hj, e⟩ := nI_of (x := x) (fun q => by
    have q := Int32.lt_iff_toInt_lt.mp q
    have z : (0 : Int32).toInt = 0 := rfl
    omega)
  refine ⟨j, ?_, e⟩
  rw [e, nI_toInt hj] at h3
  omega
theorem md_same {x : Int32} {p : Nat} (h : Sm p x) : md x p = x := by
  unfold md
  rw [Int.emod_eq_of_lt h.1 h.2, fb_asI]
theorem md_nI {a p : Nat} (ha : a < 2 ^ 31) : md (nI a) p = nI (a % p) := by
  unfold md
  rw [nI_toInt ha, ← Int.natCast_emod]
  rfl
theorem md_eq {x y : Int32} {p : Nat} (h : x.toInt % (p : Int) = y.toInt % (p : Int)) : md x p = md y p := by
  unfold md
  rw [h]
theorem rem_md {x : Int32} {p : Nat} (h : 0 < p) (h2 : p < 2 ^ 31) (hx : 0 ≤ x.toInt) : x - x / nI p * nI p = md x p := by
  apply Int32.toInt_inj.mp
  rw [md_toInt h h2, rem_toInt, nI_toInt h2, Int.tmod_eq_emod_of_nonneg hx]
theorem xor_sgn (a b : Int32) (hb : 0 ≤ b.toInt) : (0 ≤ a ^^^ b) ↔ 0 ≤ a.toInt := by
  rw [fa_le]
  have e : (a ^^^ b).toBitVec.msb = (a.toBitVec.msb ^^ b.toBitVec.msb) := by
    rw [Int32.toBitVec_xor, BitVec.msb_xor]
  rw [BitVec.msb_eq_toInt, BitVec.msb_eq_toInt, BitVec.msb_eq_toInt] at e
  have z : (0 : Int32).toInt = 0 := rfl
  have e1 : (a ^^^ b).toBitVec.toInt = (a ^^^ b).toInt := rfl
  have e2 : a.toBitVec.toInt = a.toInt := rfl
  have e3 : b.toBitVec.toInt = b.toInt := rfl
  rw [e1, e2, e3] at e
  rw [z]
  have hb' : decide (b.toInt < 0) = false := by simp; omega
  rw [hb', Bool.xor_false] at e
  have e := decide_eq_decide.mp e
  omega
theorem neg_emod_up (x p : Int) : x % p = (-((-x) % p) + p) % p := by
  have h1 := Int.emod_add_mul_ediv (-x) p
  have e5 : x = (-((-x) % p) + p) + p * (-((-x) / p) - 1) := by
    rw [Int.mul_sub, Int.mul_neg, Int.mul_one]
    omega
  have e6 : x % p = ((-((-x) % p) + p) + p * (-((-x) / p) - 1)) % p := congrArg (· % p) e5
  rw [e6, Int.add_mul_emod_self_left]
theorem c_mod {x : Int32} {p : Nat} {σ : St} {post : Int32 → St → Prop} (h : 0 < p) (h2 : p < 2 ^ 31) (k : post (md x p) σ) : wX10_mod x (nI p) σ post := by
  unfold wX10_mod wJ9_floorMod_7cf53
  refine ⟨fun q => absurd q (nI_nle h h2), fun _ => ⟨nI_ne0 h h2, fun x1 e1 => ?_⟩⟩
  have hp := nI_toInt h2
  have t := tmod_bounds (a := x.toInt) (M := (p : Int)) (by omega)
  have r : x1.toInt = x.toInt.tmod p := by rw [e1, rem_toInt, hp]
  have z : (0 : Int32).toInt = 0 := rfl
  have hem := Int.emod_nonneg x.toInt (b := (p : Int)) (by omega)
  have hel := Int.emod_lt_of_pos x.toInt (b := (p : Int)) (by omega)
  have hs := xor_sgn x (nI p) (by rw [hp]; omega)
  have hk : ∀ y : Int32, y.toInt = x.toInt % (p : Int) → post y σ := fun y hy => by
    have : y = md x p := Int32.toInt_inj.mp (by rw [hy, md_toInt h h2])
    rw [this]
    exact k
  refine ⟨fun q => hk _ ?_, fun q => ⟨fun q2 => hk _ ?_, fun q2 => hk _ ?_⟩⟩
  · rw [r, Int.tmod_eq_emod_of_nonneg (hs.mp q)]
  · have q1 : x.toInt < 0 := by
      have := mt hs.mpr q
      omega
    rw [q2, z] at r
    have hd : (p : Int) ∣ x.toInt := Int.dvd_of_tmod_eq_zero r.symm
    rw [q2, z, Int.emod_eq_zero_of_dvd hd]
  · have q1 : x.toInt < 0 := by
      have := mt hs.mpr q
      omega
    have q3 : x1.toInt ≠ 0 := fun w => q2 (Int32.toInt_inj.mp (by rw [w, z]))
    have e3 : x.toInt.tmod p = -((-x.toInt).tmod p) := by rw [Int.neg_tmod, Int.neg_neg]
    rw [Int.tmod_eq_emod_of_nonneg (a := -x.toInt) (by omega)] at e3
    have hn := Int.emod_nonneg (-x.toInt) (b := (p : Int)) (by omega)
    have hl := Int.emod_lt_of_pos (-x.toInt) (b := (p : Int)) (by omega)
    rw [fb_addI (by rw [hp]; omega) (by rw [hp]; omega), hp, r, e3]
    have e4 := neg_emod_up x.toInt (p : Int)
    rw [e4, Int.emod_eq_of_lt (a := -((-x.toInt) % (p : Int)) + p) (by omega) (by omega)]
theorem m_mod {x : Int32} {p : Nat} {σ : St} {post : Int32 → St → Prop} (h : 0 < p) (h2 : p < 2 ^ 31) (k : post (md x p) σ) : wX11_modulo x.toInt64 (nI p) σ post := by
  unfold wX11_modulo
  have hp := nI_toInt h2
  have hx := fb_rng x
  have ex : x.toInt64.toInt = x.toInt := Int32.toInt_toInt64 x
  have ep : (nI p).toInt64.toInt = (p : Int) := by rw [Int32.toInt_toInt64, hp]
  refine ⟨fun q => ?_, fun x1 e1 => ?_⟩
  · have q := congrArg Int64.toInt q
    rw [ep] at q
    have : (0 : Int64).toInt = 0 := rfl
    omega
  have t := tmod_bounds (a := x.toInt) (M := (p : Int)) (by omega)
  have r : x1.toInt = x.toInt.tmod p := by
    rw [e1, Int64.toInt_toInt32, Jvm.Kit.i64_rem, ex, ep, fb_bmod (by omega) (by omega)]
  have z : (0 : Int32).toInt = 0 := rfl
  have hk : ∀ y : Int32, y.toInt = x.toInt % (p : Int) → post y σ := fun y hy => by
    have : y = md x p := Int32.toInt_inj.mp (by rw [hy, md_toInt h h2])
    rw [this]
    exact k
  refine ⟨fun q => hk _ ?_, fun q => hk _ ?_⟩
  · have q : (0 : Int) ≤ x1.toInt := by
      have q := (fa_le _ _).mp q
      rwa [z] at q
    by_cases q1 : 0 ≤ x.toInt
    · rw [r, Int.tmod_eq_emod_of_nonneg q1]
    · have e3 : x.toInt.tmod p = -((-x.toInt).tmod p) := by rw [Int.neg_tmod, Int.neg_neg]
      rw [Int.tmod_eq_emod_of_nonneg (a := -x.toInt) (by omega)] at e3
      have hn := Int.emod_nonneg (-x.toInt) (b := (p : Int)) (by omega)
      have h0 : x.toInt.tmod p = 0 := by omega
      have hd : (p : Int) ∣ x.toInt := Int.dvd_of_tmod_eq_zero h0
      rw [r, h0, Int.emod_eq_zero_of_dvd hd]
  · have q : x1.toInt < 0 := by
      have q := mt (fa_le _ _).mpr q
      rw [z] at q
      omega
    have q1 : x.toInt < 0 := by
      by_cases q1 : 0 ≤ x.toInt
      · rw [Int.tmod_eq_emod_of_nonneg q1] at r
        have hn := Int.emod_nonneg x.toInt (b := (p : Int)) (by omega)
        omega
      · omega
    have e3 : x.toInt.tmod p = -((-x.toInt).tmod p) := by rw [Int.neg_tmod, Int.neg_neg]
    rw [Int.tmod_eq_emod_of_nonneg (a := -x.toInt) (by omega)] at e3
    have hn := Int.emod_nonneg (-x.toInt) (b := (p : Int)) (by omega)
    have hl := Int.emod_lt_of_pos (-x.toInt) (b := (p : Int)) (by omega)
    rw [fb_addI (by rw [hp]; omega) (by rw [hp]; omega), hp, r, e3]
    have e4 := neg_emod_up x.toInt (p : Int)
    rw [e4, Int.emod_eq_of_lt (a := -((-x.toInt) % (p : Int)) + p) (by omega) (by omega)]
