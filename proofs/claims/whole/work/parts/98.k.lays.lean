/-! the reference's matchings -/
section LA
variable {ea eb ew : Nat → Nat} {ne K P : Nat} {σ τ : St}
theorem wt_le (hG : GV K P ne ea eb ew) (x y : Nat) : wtF ea eb ew ne x y ≤ 1164 := by
  obtain ⟨g1, g2, g3, g4, g5, g6⟩ := hG
  have : wtF ea eb ew ne x y ≤ 97 * ne := sN_le (fun k hk => by
    have := g6 k hk
    show (if _ then _ else _) ≤ _
    split <;> omega)
  omega
theorem m_mof {S : Nat} {T : Nat → Nat} {post : St → Prop} {R9 : Nat → Int32 → Int32 → Int32 → St → Prop} (hG : GV K P ne ea eb ew) (hw : ∀ x, x < 8 → ∀ y, y < 8 → τ.1 14 (8 * x + y) = nI (wtF ea eb ew ne x y)) (hS : S < 2 ^ K) (h0 : S ≠ 0) (hT : ∀ x, x < S → τ.1 15 x = nI (T x)) (hTl : ∀ x, T x < P) (k : R9 0 (nI K) (nI P) (nI (S + 1)) (u1 τ 15 S (nI (sC ea eb ew ne S T % P)))) : ∃ j, wX11_laysMatchings_19 post R9 j 0 (nI K) (nI P) (nI S) (0 : Int32) τ := by
  have hG2 := hG
  obtain ⟨g1, g2, g3, g4, g5, g6⟩ := hG2
  have h256 := p2_8 g2
  have hS2 : S < 256 := by omega
  obtain ⟨z1, z2, z3⟩ := (tz_lt S hS2).resolve_left h0
  have zK : tzF S < K := by
    apply Nat.lt_of_not_le
    intro q
    rw [bit_ge hS q] at z2
    exact absurd z2 (by decide)
  rw [sC_sR g2 hS2 h0 ne (fun k hk => ⟨(g6 k hk).1, (g6 k hk).2.1, (g6 k hk).2.2.1⟩)] at k
  have bnd : ∀ i, i ≤ K → sN (fun o => if tzF S < o ∧ S.testBit o = true then wtF ea eb ew ne (tzF S) o * T (S ^^^ mkF (tzF S) o) else 0) i ≤ 112908 * i := fun i hi => sN_le (fun o ho => by
    show (if _ then _ else _) ≤ _
    split
    · have := hTl (S ^^^ mkF (tzF S) o)
      exact Nat.le_trans (Nat.mul_le_mul (wt_le hG (tzF S) o) (show T (S ^^^ mkF (tzF S) o) ≤ 97 by omega)) (by decide)
    · omega)
  refine loop_0 (fun j i (_ : Unit) => wX11_laysMatchings_19 post R9 j 0 (nI K) (nI P) (nI S) (nI i) τ) (fun i _ => i ≤ tzF S) (tzF S) () (Nat.zero_le _) ?_ ?_
  · rintro j _ _
    unfold wX11_laysMatchings_19
    rw [sr_b0 (by omega) (by omega), z2, nI_1]
    refine ⟨fun _ => ?_, fun q => absurd q (by decide)⟩
    rintro _ rfl
    refine ⟨K - (tzF S + 1) + 1, loop_i (fun j i (v : Int32) => wX11_laysMatchings_43 post R9 j 0 (nI K) (nI P) (nI S) (nI (tzF S)) v (nI i) τ) (fun i v => tzF S < i ∧ v = nI (sN (fun o => if tzF S < o ∧ S.testBit o = true then wtF ea eb ew ne (tzF S) o * T (S ^^^ mkF (tzF S) o) else 0) i)) K ?_ ?_ _ (tzF S + 1) 0 (by omega) (by omega) ?_⟩
    · rintro j _ ⟨_, rfl⟩
      unfold wX11_laysMatchings_43
      refine ⟨fun _ => ⟨fun q => ?_, vp_in_nI (by omega) (by decide), ?_⟩, fun q => absurd (nI_le (Nat.le_refl _) (by omega)) q⟩
      · rw [show (0 : Int32) = nI 0 from rfl, nI_eq (by omega) (by decide)] at q
        omega
      · have := bnd K (Nat.le_refl _)
        rw [nI_clamp (by omega), pk_rem (by omega) (by omega) (by omega), nI_1]
        rintro _ rfl _ rfl
        exact k
    · rintro j i _ hi ⟨lt, rfl⟩ ih
      have st : sN (fun o => if tzF S < o ∧ S.testBit o = true then wtF ea eb ew ne (tzF S) o * T (S ^^^ mkF (tzF S) o) else 0) (i + 1) = sN (fun o => if tzF S < o ∧ S.testBit o = true then wtF ea eb ew ne (tzF S) o * T (S ^^^ mkF (tzF S) o) else 0) i + (if tzF S < i ∧ S.testBit i = true then wtF ea eb ew ne (tzF S) i * T (S ^^^ mkF (tzF S) i) else 0) := rfl
      have next : ∀ v : Int32, v = nI (sN (fun o => if tzF S < o ∧ S.testBit o = true then wtF ea eb ew ne (tzF S) o * T (S ^^^ mkF (tzF S) o) else 0) (i + 1)) → wX11_laysMatchings_43 post R9 j 0 (nI K) (nI P) (nI S) (nI (tzF S)) v (nI (i + 1)) τ := fun v e => ih v ⟨by omega, e⟩
      unfold wX11_laysMatchings_43
      refine ⟨fun q => absurd q (nI_ge hi (by omega)), fun _ => ?_⟩
      rw [sr_b0 (by omega) (by omega), show (8 : Int32) = nI 8 from rfl, pk_mul, nI_add, nI_1]
      refine ⟨fun c => ?_, fun c => ?_⟩
      · rintro _ rfl
        refine next _ ?_
        rw [st, if_neg (by rw [c]; simp)]; rfl
      · have c : S.testBit i = true := by simpa using c
        rintro _ rfl
        refine ⟨vp_in_nI (by omega) (by decide), ?_⟩
        have hwb := wt_le hG (tzF S) i
        rw [nI_clamp (by omega), show τ.1 (0 + 14) (8 * tzF S + i) = nI (wtF ea eb ew ne (tzF S) i) from hw _ (by omega) _ (by omega), show (0 : Int32) = nI 0 from rfl, nI_eq (by omega) (by decide)]
        refine ⟨fun d => ?_, fun d => ?_⟩
        · obtain ⟨x1, x2⟩ := (xor_mk (tzF S) (by omega) i (by omega) S hS2).resolve_left (by rw [z2, c]; simp; omega)
          rintro _ rfl
          refine ⟨vp_in_nI (by omega) (by decide), ?_⟩
          rw [x1]
          rintro _ rfl
          refine ⟨vp_in_nI (by omega) (by decide), ?_⟩
          rw [nI_clamp (by omega), nI_clamp (by omega), show τ.1 (0 + 14) (8 * tzF S + i) = nI (wtF ea eb ew ne (tzF S) i) from hw _ (by omega) _ (by omega), show τ.1 (0 + 15) (S ^^^ mkF (tzF S) i) = nI (T (S ^^^ mkF (tzF S) i)) from hT _ x2, pk_mul, nI_add]
          rintro _ rfl _ rfl
          refine next _ ?_
          rw [st, if_pos ⟨lt, c⟩]
        · rintro _ rfl
          refine next _ ?_
          rw [st, d, Nat.zero_mul]
          split <;> rfl
    · refine ⟨Nat.lt_succ_self _, ?_⟩
      rw [sN_zero]
      · rfl
      · intro o ho
        rw [if_neg (by omega)]
  · rintro j i _ hi _ ih
    unfold wX11_laysMatchings_19
    have nb : S.testBit i = false := by
      apply Classical.byContradiction
      intro q
      have := z3 i (by omega) (by simpa using q)
      omega
    rw [sr_b0 (by omega) (by omega), nb, nI_1]
    refine ⟨fun q => absurd rfl q, fun _ => ?_⟩
    rintro _ rfl
    exact ih () (by omega)
theorem m_lays {post : St → Prop} (hG : GV K P ne ea eb ew) (hw : ∀ x, x < 8 → ∀ y, y < 8 → τ.1 14 (8 * x + y) = nI (wtF ea eb ew ne x y)) (k : ∀ u, (∀ o, o ≠ 15 → u.1 o = τ.1 o) → u.2 = τ.2 → (∀ x, x < 2 ^ K → u.1 15 x = nI (mtT ea eb ew ne P (2 ^ K - 1) x)) → post u) : wX11_laysMatchings 0 (nI K) (nI P) τ post := by
  have hG2 := hG
  obtain ⟨g1, g2, g3, g4, g5, g6⟩ := hG2
  have h256 := p2_8 g2
  have hp0 := Nat.two_pow_pos K
  unfold wX11_laysMatchings
  rintro _ rfl
  refine loop_0 (fun j i (s : St) => wX11_laysMatchings_9 post j 0 (nI K) (nI P) (nI (i + 1)) s) (fun i s => (∀ o, o ≠ 15 → s.1 o = τ.1 o) ∧ s.2 = τ.2 ∧ ∀ x, x ≤ i → s.1 15 x = nI (mtT ea eb ew ne P i x)) (2 ^ K - 1) _ ⟨fun o ho => u1_n ho, rfl, fun x hx => by rw [show x = 0 by omega]; exact congrFun u1_s _⟩ ?_ ?_
  · rintro j s ⟨i1, i2, i3⟩
    unfold wX11_laysMatchings_9
    rw [sh1 _ (by omega)]
    exact ⟨fun _ => k s i1 i2 (fun x hx => i3 x (by omega)), fun q => absurd (nI_le (by omega) (by omega)) q⟩
  · rintro j i s hi ⟨i1, i2, i3⟩ ih
    unfold wX11_laysMatchings_9
    rw [sh1 _ (by omega)]
    refine ⟨fun q => absurd q (nI_ge (by omega) (by omega)), fun _ => ?_⟩
    refine m_mof (T := mtT ea eb ew ne P i) hG (fun x hx y hy => by rw [i1 14 (by decide)]; exact hw x hx y hy) (by omega) (by omega) (fun x hx => i3 x (by omega)) (mtT_lt g4 i) ?_
    refine ih _ ⟨fun o o1 => by rw [u1_n o1]; exact i1 o o1, i2, fun x hx => ?_⟩
    rw [u1_s]
    by_cases c : x = i + 1
    · rw [c, pk_us]
      exact congrArg nI uN_s.symm
    · rw [pk_un c, i3 x (by omega), mt_keep (by omega)]
end LA
