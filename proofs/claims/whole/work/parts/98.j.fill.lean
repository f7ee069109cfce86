/-! the matchings, as the class and the reference lay them -/
theorem nI_xor' (a b : Nat) : nI a ^^^ nI b = nI (a ^^^ b) := by
  apply Int32.toBitVec_inj.mp
  apply BitVec.eq_of_toNat_eq
  rw [Int32.toBitVec_xor, BitVec.toNat_xor]
  show (BitVec.ofNat 32 a).toNat ^^^ (BitVec.ofNat 32 b).toNat = (BitVec.ofNat 32 (a ^^^ b)).toNat
  simp only [BitVec.toNat_ofNat]
  exact (Nat.xor_mod_two_pow).symm
theorem low_x : ∀ S, S < 256 → S = 0 ∨ (nI S &&& (-(nI S))) = nI (2 ^ tzF S) := by decide +kernel
theorem mk_lt : ∀ a, a < 8 → ∀ b, b < 8 → mkF a b < 256 ∧ ((1 : Int32) <<< (nI a &&& 31)) ||| ((1 : Int32) <<< (nI b &&& 31)) = nI (mkF a b) := by decide +kernel
theorem mk_inj : ∀ a, a < 8 → ∀ b, b < 8 → ∀ c, c < 8 → ∀ d, d < 8 → c = d ∨ decide (mkF a b = mkF c d) = (decide (a = c ∧ b = d) || decide (a = d ∧ b = c)) := by decide +kernel
theorem not_x : ∀ K, K ≤ 8 → ∀ i, i < 16 → 2 ^ K ≤ i ∨ (nI (2 ^ K - 1) &&& (nI i ^^^ (-1 : Int32))) = nI (2 ^ K - 1 - i) := by decide +kernel
theorem xor_mk : ∀ f, f < 8 → ∀ o, o < 8 → ∀ S, S < 256 → (f = o ∨ S.testBit f = false ∨ S.testBit o = false) ∨ (((nI S &&& (((1 : Int32) <<< (nI f &&& 31)) ^^^ (-1 : Int32))) &&& (((1 : Int32) <<< (nI o &&& 31)) ^^^ (-1 : Int32))) = nI (S ^^^ mkF f o) ∧ S ^^^ mkF f o < S) := by decide +kernel
theorem xor_lt' : ∀ a, a < 8 → ∀ b, b < 8 → ∀ S, S < 256 → cdF a b S = false ∨ S ^^^ mkF a b < S := by decide +kernel
section FI
variable {ea eb ew : Nat → Nat} {ne K P : Nat} {σ τ : St}
def GX (K ne : Nat) (ea eb ew : Nat → Nat) (σ : St) : Prop := σ.1 286 0 = nI K ∧ σ.1 286 1 = nI ne ∧ ∀ k, k < ne → σ.1 287 k = nI (mkF (ea k) (eb k)) ∧ σ.1 288 k = nI (ew k)
def GV (K P ne : Nat) (ea eb ew : Nat → Nat) : Prop := 1 ≤ K ∧ K ≤ 8 ∧ ne ≤ 12 ∧ 3 ≤ P ∧ P ≤ 97 ∧ ∀ k, k < ne → ea k < K ∧ eb k < K ∧ ea k ≠ eb k ∧ ew k < P
theorem p2_8 {K : Nat} (h : K ≤ 8) : 2 ^ K ≤ 256 := Nat.pow_le_pow_right (n := 2) (by decide) h
theorem mt_keep {s x : Nat} (h : x ≤ s) : mtT ea eb ew ne P (s + 1) x = mtT ea eb ew ne P s x := by
  show uN _ _ _ x = _
  rw [uN_n (by omega)]
theorem c_mof {s : Nat} {T : Nat → Nat} {post : Int32 → St → Prop} (hG : GV K P ne ea eb ew) (h : GX K ne ea eb ew σ) (hs : s < 256) (h0 : s ≠ 0) (hT : ∀ x, x < s → σ.1 289 x = nI (T x)) (hTl : ∀ x, T x < P) (k : post (nI (sC ea eb ew ne s T % P)) σ) : wX2_matchingsOf 286 (nI s) (nI P) σ post := by
  obtain ⟨g1, g2, g3, g4, g5, g6⟩ := hG
  have bnd : ∀ i, i ≤ ne → sN (fun k => if cdF (ea k) (eb k) s then ew k * T (s ^^^ mkF (ea k) (eb k)) else 0) i ≤ 9409 * i := fun i hi => sN_le (fun k hk => by
    show (if _ then _ else _) ≤ _
    split
    · have := g6 k (by omega)
      have := hTl (s ^^^ mkF (ea k) (eb k))
      exact Nat.le_trans (Nat.mul_le_mul (show ew k ≤ 97 by omega) (show T (s ^^^ mkF (ea k) (eb k)) ≤ 97 by omega)) (by decide)
    · omega)
  unfold wX2_matchingsOf
  rw [(low_x s hs).resolve_left h0]
  rintro _ rfl
  have htz : tzF s < 8 := ((tz_lt s hs).resolve_left h0).1
  have h2 : 2 ^ tzF s < 2 ^ 8 := Nat.pow_lt_pow_right (by decide) htz
  refine loop_0 (fun j i (v : Int32) => wX2_matchingsOf_11 post j 286 (nI s) (nI P) (nI (2 ^ tzF s)) v (nI i) σ) (fun i v => v = nI (sN (fun k => if cdF (ea k) (eb k) s then ew k * T (s ^^^ mkF (ea k) (eb k)) else 0) i)) ne 0 rfl ?_ ?_
  · rintro j _ rfl
    unfold wX2_matchingsOf_11
    rw [h.2.1]
    refine ⟨fun _ => c_mod (by omega) (by omega) ?_, fun q => absurd (nI_le (Nat.le_refl _) (by omega)) q⟩
    have := bnd ne (Nat.le_refl _)
    rw [md_nI (by omega)]
    exact k
  · rintro j i _ hi rfl ih
    obtain ⟨a1, a2, a3, a4⟩ := g6 i hi
    obtain ⟨m1, m2⟩ := mk_lt (ea i) (by omega) (eb i) (by omega)
    unfold wX2_matchingsOf_11
    rw [h.2.1, nI_clamp (by omega), show σ.1 (286 + 1) i = nI (mkF (ea i) (eb i)) from (h.2.2 i hi).1, nI_1]
    refine ⟨fun q => absurd q (nI_ge hi (by omega)), fun _ => ⟨vp_in_nI (by omega) (by decide), ?_⟩⟩
    rintro _ rfl
    rw [fa_and, fa_and, show (0 : Int32) = nI 0 from rfl, nI_eq (Nat.lt_of_le_of_lt Nat.and_le_left (by omega)) (by decide), nI_eq (Nat.lt_of_le_of_lt Nat.and_le_left (by omega)) (by omega)]
    have st : ∀ c : Bool, cdF (ea i) (eb i) s = c → sN (fun k => if cdF (ea k) (eb k) s then ew k * T (s ^^^ mkF (ea k) (eb k)) else 0) (i + 1) = sN (fun k => if cdF (ea k) (eb k) s then ew k * T (s ^^^ mkF (ea k) (eb k)) else 0) i + (if c then ew i * T (s ^^^ mkF (ea i) (eb i)) else 0) := fun c hc => by rw [sN, hc]
    refine ⟨fun c1 => ?_, fun c1 => ⟨fun c2 => ?_, fun c2 => ⟨vp_in_nI (by omega) (by decide), ?_⟩⟩⟩
    · rintro _ rfl
      refine ih _ ?_
      rw [st false (by unfold cdF; simp [c1])]; rfl
    · rintro _ rfl
      refine ih _ ?_
      rw [st false (by unfold cdF; simp [c2])]; rfl
    · have hc : cdF (ea i) (eb i) s = true := by
        unfold cdF
        rw [decide_eq_true c2, decide_eq_true c1]; rfl
      have hl := (xor_lt' (ea i) (by omega) (eb i) (by omega) s hs).resolve_left (by rw [hc]; decide)
      rw [show nI s ^^^ nI (mkF (ea i) (eb i)) = nI (s ^^^ mkF (ea i) (eb i)) from nI_xor' _ _]
      rintro _ rfl
      refine ⟨vp_in_nI (by omega) (by decide), ?_⟩
      rw [nI_clamp (by omega), show σ.1 (286 + 2) i = nI (ew i) from (h.2.2 i hi).2, show σ.1 (286 + 3) (s ^^^ mkF (ea i) (eb i)) = nI (T (s ^^^ mkF (ea i) (eb i))) from hT _ hl, pk_mul, nI_add]
      rintro _ rfl _ rfl
      refine ih _ ?_
      rw [st true hc]; rfl
theorem c_mfill {l v1 : Nat} {post : St → Prop} (hG : GV K P ne ea eb ew) (h : GX K ne ea eb ew σ) (hv : v1 + 1 < 285) (hl : l ≤ 4) (hlK : l ≤ K) (e : σ.1 v1 0 = nI l) (k : ∀ u, (∀ o, o ≠ 289 → o ≠ v1 + 1 → u.1 o = σ.1 o) → (∀ i, i < 2 ^ l → u.1 (v1 + 1) i = nI (mtT ea eb ew ne P (2 ^ K - 1) (2 ^ K - 1 - i))) → post u) : wX2_fill 286 v1 (nI P) σ post := by
  have hG2 := hG
  obtain ⟨g1, g2, g3, g4, g5, g6⟩ := hG2
  have h256 := p2_8 g2
  have hp0 := Nat.two_pow_pos K
  have h16 := p2le hl
  have hle : 2 ^ l ≤ 2 ^ K := Nat.pow_le_pow_right (by decide) hlK
  unfold wX2_fill
  rw [h.1, sh1 _ (by omega), show nI (2 ^ K) - (1 : Int32) = nI (2 ^ K - 1) from pk_sub (a := 2 ^ K) (b := 1) hp0]
  rintro _ rfl _ rfl
  have hF : ∀ i, nI i = nI (i + 1 - 1) := fun i => rfl
  refine loop_0 (fun j i (s : St) => wX2_fill_19 post j 286 v1 (nI P) (nI (2 ^ K - 1)) (nI (i + 1)) s) (fun i s => (∀ o, o ≠ 289 → s.1 o = σ.1 o) ∧ ∀ x, x ≤ i → s.1 289 x = nI (mtT ea eb ew ne P i x)) (2 ^ K - 1) _ ⟨fun o ho => u1_n ho, fun x hx => by rw [show x = 0 by omega]; exact congrFun u1_s _⟩ ?_ ?_
  · rintro j s ⟨i1, i2⟩
    unfold wX2_fill_19
    rw [nI_ltI (by omega) (by omega)]
    refine ⟨fun _ => ?_, fun q => absurd (by omega) q⟩
    refine loop_0 (fun j i (y : St) => wX2_fill_48 post j 286 v1 (nI (2 ^ K - 1)) (nI i) y) (fun i y => (∀ o, o ≠ 289 → o ≠ v1 + 1 → y.1 o = σ.1 o) ∧ (y.1 289 = s.1 289) ∧ ∀ x, x < i → y.1 (v1 + 1) x = nI (mtT ea eb ew ne P (2 ^ K - 1) (2 ^ K - 1 - x))) (2 ^ l) s ⟨fun o o1 _ => i1 o o1, rfl, fun x hx => by omega⟩ ?_ ?_
    · rintro j y ⟨y1, y2, y3⟩
      unfold wX2_fill_48
      exact s_size (by rw [y1 v1 (by omega) (by omega)]; exact e) hl ⟨fun _ => k y y1 y3, fun q => absurd (nI_le (Nat.le_refl _) (by omega)) q⟩
    · rintro j i y hi ⟨y1, y2, y3⟩ ih
      unfold wX2_fill_48
      refine s_size (by rw [y1 v1 (by omega) (by omega)]; exact e) hl ⟨fun q => absurd q (nI_ge hi (by omega)), fun _ => ?_⟩
      rw [(not_x K g2 i (by omega)).resolve_left (by omega)]
      rintro _ rfl
      refine ⟨vp_in_nI (by omega) (by decide), vp_in_nI (by omega) (by decide), ?_⟩
      rw [nI_clamp (by omega), nI_clamp (by omega), show y.1 (286 + 3) (2 ^ K - 1 - i) = s.1 289 (2 ^ K - 1 - i) from congrFun y2 _, i2 _ (by omega), nI_1]
      rintro _ rfl _ rfl
      refine ih _ ⟨fun o o1 o2 => by rw [u1_n o2]; exact y1 o o1 o2, by rw [u1_n (by omega)]; exact y2, fun x hx => ?_⟩
      rw [u1_s]
      by_cases c : x = i
      · rw [c, pk_us]
      · rw [pk_un c]; exact y3 x (by omega)
  · rintro j i s hi ⟨i1, i2⟩ ih
    unfold wX2_fill_19
    rw [nI_ltI (by omega) (by omega)]
    refine ⟨fun q => absurd q (by omega), fun _ => ?_⟩
    refine c_mof (T := mtT ea eb ew ne P i) hG ⟨by rw [i1 286 (by decide)]; exact h.1, by rw [i1 286 (by decide)]; exact h.2.1, fun k hk => by rw [i1 287 (by decide), i1 288 (by decide)]; exact h.2.2 k hk⟩ (by omega) (by omega) (fun x hx => i2 x (by omega)) (mtT_lt g4 i) ⟨vp_in_nI (by omega) (by decide), ?_⟩
    rw [nI_clamp (by omega), nI_1]
    rintro _ rfl _ rfl
    refine ih _ ⟨fun o o1 => by rw [u1_n o1]; exact i1 o o1, fun x hx => ?_⟩
    rw [show (286 + 3 : Nat) = 289 from rfl, u1_s]
    by_cases c : x = i + 1
    · rw [c, pk_us]
      exact congrArg nI uN_s.symm
    · rw [pk_un c, i2 x (by omega), mt_keep (by omega)]
end FI
