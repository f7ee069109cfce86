/-! rows of values: what both sides do with them -/
theorem sh1 : ∀ n, n < 31 → (1 : Int32) <<< (nI n &&& 31) = nI (2 ^ n) := by decide +kernel
theorem p2le {n : Nat} (h : n ≤ 4) : 2 ^ n ≤ 16 := by
  have : 2 ^ n ≤ 2 ^ 4 := Nat.pow_le_pow_right (by decide) h
  omega
def ixB (x : Int32) (N : Nat) : Bool := decide (0 ≤ x.toInt ∧ x.toInt < (N : Int))
theorem ixB_t {x : Int32} {N : Nat} (hN : N < 2 ^ 31) (h : ixB x N = true) : ∃ j, j < N ∧ x = nI j := by
  have h := of_decide_eq_true h
  exact vp_in_of (vp_in_iff.mpr h) hN
theorem ixB_nI {j N : Nat} (h : j < N) (hN : N < 2 ^ 31) : ixB (nI j) N = true := by
  unfold ixB
  rw [nI_toInt (by omega)]
  simp
  omega
theorem b2i_0 (b : Bool) : (b2i b = 0) ↔ b = false := by cases b <;> decide
theorem b2i_n (b : Bool) : (¬ b2i b = 0) ↔ b = true := by cases b <;> decide
theorem u1_s {σ : St} {o k : Nat} {x : Int32} : (u1 σ o k x).1 o = upd (σ.1 o) k x := by simp [u1, rs]
theorem u1_n {σ : St} {o k o' : Nat} {x : Int32} (h : o' ≠ o) : (u1 σ o k x).1 o' = σ.1 o' := by simp [u1, rs, h]
theorem u1_2 {σ : St} {o k : Nat} {x : Int32} : (u1 σ o k x).2 = σ.2 := rfl
theorem r1_s {σ : St} {o : Nat} {g : Nat → Int32} : (r1 σ o g).1 o = g := by simp [r1, rs]
theorem r1_n {σ : St} {o o' : Nat} {g : Nat → Int32} (h : o' ≠ o) : (r1 σ o g).1 o' = σ.1 o' := by simp [r1, rs, h]
theorem r1_2 {σ : St} {o : Nat} {g : Nat → Int32} : (r1 σ o g).2 = σ.2 := rfl
theorem s_size {v0 n : Nat} {σ : St} {post : Int32 → St → Prop} (hn : σ.1 v0 0 = nI n) (h4 : n ≤ 4) (k : post (nI (2 ^ n)) σ) : wX7_size v0 σ post := by
  unfold wX7_size
  rw [hn, sh1 n (by omega)]
  exact k
theorem s_hasIndex {v0 n : Nat} {v1 : Int32} {σ : St} {post : Bool → St → Prop} (hn : σ.1 v0 0 = nI n) (h4 : n ≤ 4) (k : post (ixB v1 (2 ^ n)) σ) : wX7_hasIndex v0 v1 σ post := by
  have h16 := p2le h4
  unfold wX7_hasIndex
  have z : (0 : Int32).toInt = 0 := rfl
  refine ⟨fun q => ?_, fun q => s_size hn h4 ⟨fun q2 => ?_, fun q2 => ?_⟩⟩
  · have : ixB v1 (2 ^ n) = false := by
      have q := (fa_lt _ _).mp q
      simp [ixB]; omega
    rw [← this]; exact k
  · have : ixB v1 (2 ^ n) = false := by
      have q2 := (fa_le _ _).mp q2
      rw [nI_toInt (by omega)] at q2
      simp [ixB] at *; omega
    rw [← this]; exact k
  · have : ixB v1 (2 ^ n) = true := by
      have q2 := mt (fa_le _ _).mpr q2
      have q := mt (fa_lt _ _).mpr q
      rw [nI_toInt (by omega)] at q2
      simp [ixB] at *; omega
    rw [← this]; exact k
theorem s_copyFrom {v0 v1 : Nat} {σ : St} {post : St → Prop} (hv : v0 + 1 < v1 ∨ v1 + 1 < v0) (k : ∀ s : St, s.1 v0 0 = σ.1 v1 0 → (∀ j, j < 16 → s.1 (v0 + 1) j = σ.1 (v1 + 1) j) → (∀ o, o ≠ v0 → o ≠ v0 + 1 → s.1 o = σ.1 o) → s.2 = σ.2 → post s) : wX7_copyFrom v0 v1 σ post := by
  unfold wX7_copyFrom
  rintro _ rfl _ rfl
  refine k _ ?_ (fun j hj => ?_) (fun o h1 h2 => ?_) rfl
  · rw [r1_n (by omega), u1_s, pk_us]
  · rw [r1_s]
    show va_cpy _ _ 0 0 16 j = _
    rw [pk_cpy_in (by omega) (by omega), u1_n (by omega), show 0 + (j - 0) = j by omega]
  · rw [r1_n h2, u1_n h1]
def bc (i : Nat) : Nat := [0, 1, 1, 2, 1, 2, 2, 3, 1, 2, 2, 3, 2, 3, 3, 4].getD i 0
theorem bc_le (i : Nat) : bc i ≤ 4 := by
  by_cases h : i < 16
  · revert i; decide
  · simp [bc, List.getD, List.getElem?_eq_none (show [0, 1, 1, 2, 1, 2, 2, 3, 1, 2, 2, 3, 2, 3, 3, 4].length ≤ i by simp; omega)]
theorem s_bitCount {i : Nat} {σ : St} {post : Int32 → St → Prop} (hi : i < 16) (k : post (nI (bc i)) σ) : wJ6_bitCount_0f7a4 (nI i) σ post := by
  unfold wJ6_bitCount_0f7a4
  rintro _ rfl _ rfl _ rfl _ rfl _ rfl
  refine fa_post2 ?_ rfl k
  clear k
  revert i
  decide +kernel
theorem rem2 : ∀ b, b < 5 → nI b - nI b / (2 : Int32) * (2 : Int32) = nI (b % 2) := by decide +kernel
def evF (v : Nat → Int32) : Nat → Bool
  | 0 => false
  | i + 1 => evF v i || (decide (v i ≠ 0) && decide (bc i % 2 = 0))
def odF (v : Nat → Int32) : Nat → Bool
  | 0 => false
  | i + 1 => odF v i || (decide (v i ≠ 0) && !decide (bc i % 2 = 0))
def parF (n : Nat) (v : Nat → Int32) : Int32 := if evF v (2 ^ n) then (if odF v (2 ^ n) then 3 else 0) else (if odF v (2 ^ n) then 1 else 2)
theorem s_parity {v0 n : Nat} {σ : St} {post : Int32 → St → Prop} (hn : σ.1 v0 0 = nI n) (h4 : n ≤ 4) (k : post (parF n (σ.1 (v0 + 1))) σ) : wX7_parityKind v0 σ post := by
  have h16 := p2le h4
  unfold wX7_parityKind
  refine loop_0 (fun j i (_ : Unit) => wX7_parityKind_6 post j v0 (b2i (evF (σ.1 (v0 + 1)) i)) (b2i (odF (σ.1 (v0 + 1)) i)) (nI i) σ) (fun _ _ => True) (2 ^ n) () trivial ?_ ?_
  · intro j _ _
    unfold wX7_parityKind_6
    refine s_size hn h4 ⟨fun _ => ?_, fun q => absurd (nI_le (Nat.le_refl _) (by omega)) q⟩
    unfold parF at k
    simp only [b2i_0]
    refine ⟨fun q => ⟨fun q2 => ?_, fun q2 => ?_⟩, fun q => ⟨fun q2 => ?_, fun q2 => ?_⟩⟩ <;> simp_all
  · intro j i _ hi _ ih
    have ih := ih () trivial
    unfold wX7_parityKind_6
    refine s_size hn h4 ⟨fun q => absurd q (nI_ge hi (by omega)), fun _ => ⟨vp_in_nI (by omega) (by decide), ?_⟩⟩
    rw [nI_clamp (by omega)]
    refine ⟨fun q => ?_, fun q => s_bitCount (by omega) ?_⟩
    · rintro _ rfl
      rw [nI_1]
      simpa [evF, odF, q] using ih
    · rw [rem2 _ (by have := bc_le i; omega)]
      have hb : bc i % 2 = 0 ∨ bc i % 2 = 1 := by omega
      refine ⟨fun q2 => ?_, fun q2 => ?_⟩
      · have hb : bc i % 2 = 1 := by
          rcases hb with hb | hb
          · rw [hb] at q2; exact absurd rfl q2
          · exact hb
        unfold wX7_parityKind_37 wX7_parityKind_48 wX7_parityKind_53 wX7_parityKind_63 wX7_parityKind_68
        have e1 : evF (σ.1 (v0 + 1)) (i + 1) = evF (σ.1 (v0 + 1)) i := by simp [evF, hb]
        have e2 : odF (σ.1 (v0 + 1)) (i + 1) = true := by simp [odF, hb, q]
        rw [e1, e2] at ih
        cases he : evF (σ.1 (v0 + 1)) i <;> cases ho : odF (σ.1 (v0 + 1)) i <;> rw [he] at ih <;> simpa [b2i, nI_1] using ih
      · have hb : bc i % 2 = 0 := by
          rcases hb with hb | hb
          · exact hb
          · rw [hb] at q2; exact absurd q2 (by decide)
        unfold wX7_parityKind_37 wX7_parityKind_48 wX7_parityKind_53 wX7_parityKind_63 wX7_parityKind_68
        have e1 : evF (σ.1 (v0 + 1)) (i + 1) = true := by simp [evF, hb, q]
        have e2 : odF (σ.1 (v0 + 1)) (i + 1) = odF (σ.1 (v0 + 1)) i := by simp [odF, hb]
        rw [e1, e2] at ih
        cases he : evF (σ.1 (v0 + 1)) i <;> cases ho : odF (σ.1 (v0 + 1)) i <;> rw [ho] at ih <;> simpa [b2i, nI_1] using ih
