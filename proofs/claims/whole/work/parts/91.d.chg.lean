/-! changes of a leg, and what else is done to a row -/
theorem or_add : ∀ i, i < 16 → ∀ l, l < 4 → i.testBit l = false → i ||| 2 ^ l = i + 2 ^ l := by decide +kernel
theorem add_lt : ∀ n, n ≤ 4 → ∀ i, i < 2 ^ n → ∀ l, l < n → i.testBit l = false → i + 2 ^ l < 2 ^ n := by decide +kernel
def chS (leg : Nat) (a b c d : Int32) (p : Nat) (i : Nat) (v : Nat → Int32) : Nat → Int32 :=
  if i.testBit leg then v else upd (upd v i (md (a * v i + b * v (i + 2 ^ leg)) p)) (i + 2 ^ leg) (md (c * v i + d * v (i + 2 ^ leg)) p)
def chF (leg : Nat) (a b c d : Int32) (p : Nat) (v : Nat → Int32) : Nat → (Nat → Int32)
  | 0 => v
  | i + 1 => chS leg a b c d p i (chF leg a b c d p v i)
theorem lt16 : ∀ n, n ≤ 4 → ∀ i, i < 2 ^ n → i < 16 := fun n h i hi => Nat.lt_of_lt_of_le hi (p2le h)
theorem s_changeLeg {v0 v2 n leg p : Nat} {σ : St} {post : St → Prop} (hn : σ.1 v0 0 = nI n) (h4 : n ≤ 4) (hl : leg < n) (hv : v2 ≠ v0 + 1) (h : 0 < p) (h2 : p < 2 ^ 31) (k : ∀ s : St, s.1 (v0 + 1) = chF leg (σ.1 v2 0) (σ.1 v2 1) (σ.1 v2 2) (σ.1 v2 3) p (σ.1 (v0 + 1)) (2 ^ n) → (∀ o, o ≠ v0 + 1 → s.1 o = σ.1 o) → s.2 = σ.2 → post s) : wX7_changeLeg v0 (nI leg) v2 (nI p) σ post := by
  have h16 := p2le h4
  unfold wX7_changeLeg
  rw [sh1 leg (by omega)]
  rintro _ rfl
  refine loop_0 (fun j i (s : St) => wX7_changeLeg_8 post j v0 v2 (nI p) (nI (2 ^ leg)) (nI i) s) (fun i s => s.1 (v0 + 1) = chF leg (σ.1 v2 0) (σ.1 v2 1) (σ.1 v2 2) (σ.1 v2 3) p (σ.1 (v0 + 1)) i ∧ (∀ o, o ≠ v0 + 1 → s.1 o = σ.1 o) ∧ s.2 = σ.2) (2 ^ n) σ ⟨rfl, fun _ _ => rfl, rfl⟩ ?_ ?_
  · intro j s hI
    obtain ⟨i1, i2, i3⟩ := hI
    unfold wX7_changeLeg_8
    refine s_size (by rw [i2 _ (by omega)]; exact hn) h4 ⟨fun _ => k s i1 i2 i3, fun q => absurd (nI_le (Nat.le_refl _) (by omega)) q⟩
  · intro j i s hi hI ih
    obtain ⟨i1, i2, i3⟩ := hI
    unfold wX7_changeLeg_8
    refine s_size (by rw [i2 _ (by omega)]; exact hn) h4 ⟨fun q => absurd q (nI_ge hi (by omega)), fun _ => ?_⟩
    rw [fa_bit (by omega), fa_or]
    refine ⟨fun q => ?_, fun q => ?_⟩
    · rintro _ rfl
      rw [nI_1]
      refine ih s ⟨?_, i2, i3⟩
      rw [i1, chF, chS, if_pos (by simpa using q)]
    · have e1 := or_add i (by omega) leg (by omega) q
      have e2 := add_lt n h4 i hi leg hl q
      rw [e1]
      refine ⟨fun q2 => absurd q2 (nI_ge (a := i + 2 ^ leg) (b := 16) (by omega) (by decide)), fun _ => ⟨vp_in_nI (by omega) (by decide), ?_⟩⟩
      rintro _ rfl _ rfl
      refine ⟨vp_in_nI (by omega) (by decide), ?_⟩
      rintro _ rfl
      rw [nI_clamp (by omega), nI_clamp (by omega)]
      refine c_mod h h2 ⟨vp_in_nI (by omega) (by decide), ?_⟩
      rintro _ rfl
      refine c_mod h h2 ⟨vp_in_nI (by omega) (by decide), ?_⟩
      rintro _ rfl _ rfl
      rw [nI_1]
      refine ih _ ⟨?_, ?_, ?_⟩
      · rw [u1_s, u1_s, u1_n hv, i2 v2 hv, i1, chF, chS, if_neg (by rw [q]; decide)]
      · intro o ho
        rw [u1_n ho, u1_n ho, i2 o ho]
      · rw [u1_2, u1_2, i3]
def chA (n : Nat) (a b c d : Int32) (p : Nat) (v : Nat → Int32) : Nat → (Nat → Int32)
  | 0 => v
  | l + 1 => chF l a b c d p (chA n a b c d p v l) (2 ^ n)
theorem s_changeAll {v0 v2 n p : Nat} {σ : St} {post : St → Prop} (hn : σ.1 v0 0 = nI n) (h4 : n ≤ 4) (hv : v2 ≠ v0 + 1) (h : 0 < p) (h2 : p < 2 ^ 31) (k : ∀ s : St, s.1 (v0 + 1) = chA n (σ.1 v2 0) (σ.1 v2 1) (σ.1 v2 2) (σ.1 v2 3) p (σ.1 (v0 + 1)) n → (∀ o, o ≠ v0 + 1 → s.1 o = σ.1 o) → s.2 = σ.2 → post s) : wX7_changeAllLegs v0 v2 (nI p) σ post := by
  unfold wX7_changeAllLegs
  refine loop_0 (fun j i (s : St) => wX7_changeAllLegs_2 post j v0 v2 (nI p) (nI i) s) (fun i s => s.1 (v0 + 1) = chA n (σ.1 v2 0) (σ.1 v2 1) (σ.1 v2 2) (σ.1 v2 3) p (σ.1 (v0 + 1)) i ∧ (∀ o, o ≠ v0 + 1 → s.1 o = σ.1 o) ∧ s.2 = σ.2) n σ ⟨rfl, fun _ _ => rfl, rfl⟩ ?_ ?_
  · intro j s hI
    obtain ⟨i1, i2, i3⟩ := hI
    unfold wX7_changeAllLegs_2
    rw [i2 v0 (by omega), hn]
    exact ⟨fun _ => k s i1 i2 i3, fun q => absurd (nI_le (Nat.le_refl _) (by omega)) q⟩
  · intro j i s hi hI ih
    obtain ⟨i1, i2, i3⟩ := hI
    have hn2 : s.1 v0 0 = nI n := by rw [i2 v0 (by omega)]; exact hn
    unfold wX7_changeAllLegs_2
    rw [hn2]
    refine ⟨fun q => absurd q (nI_ge hi (by omega)), fun _ => s_changeLeg hn2 h4 hi hv h h2 (fun s' j1 j2 j3 => ?_)⟩
    rintro _ rfl
    rw [nI_1]
    refine ih s' ⟨?_, fun o ho => by rw [j2 o ho, i2 o ho], by rw [j3, i3]⟩
    rw [j1, i1, i2 v2 hv, chA]
def mulF (f : Int32) (p N : Nat) (v : Nat → Int32) : Nat → Int32 := fun i => if i < N then md (f * v i) p else v i
theorem mulF_step (f : Int32) (p i : Nat) (v : Nat → Int32) : upd (mulF f p i v) i (md (f * v i) p) = mulF f p (i + 1) v := by
  funext j
  unfold upd mulF
  by_cases h : j = i
  · subst h; simp
  · by_cases h2 : j < i
    · simp [h, h2, show j < i + 1 by omega]
    · simp [h, h2, show ¬ j < i + 1 by omega]
theorem s_multiply {v0 n p : Nat} {f : Int32} {σ : St} {post : St → Prop} (hn : σ.1 v0 0 = nI n) (h4 : n ≤ 4) (h : 0 < p) (h2 : p < 2 ^ 31) (k : ∀ s : St, s.1 (v0 + 1) = mulF f p (2 ^ n) (σ.1 (v0 + 1)) → (∀ o, o ≠ v0 + 1 → s.1 o = σ.1 o) → s.2 = σ.2 → post s) : wX7_multiply v0 f (nI p) σ post := by
  have h16 := p2le h4
  unfold wX7_multiply
  refine loop_0 (fun j i (s : St) => wX7_multiply_2 post j v0 f (nI p) (nI i) s) (fun i s => s.1 (v0 + 1) = mulF f p i (σ.1 (v0 + 1)) ∧ (∀ o, o ≠ v0 + 1 → s.1 o = σ.1 o) ∧ s.2 = σ.2) (2 ^ n) σ ⟨by funext j; simp [mulF], fun _ _ => rfl, rfl⟩ ?_ ?_
  · intro j s hI
    obtain ⟨i1, i2, i3⟩ := hI
    unfold wX7_multiply_2
    exact s_size (by rw [i2 _ (by omega)]; exact hn) h4 ⟨fun _ => k s i1 i2 i3, fun q => absurd (nI_le (Nat.le_refl _) (by omega)) q⟩
  · intro j i s hi hI ih
    obtain ⟨i1, i2, i3⟩ := hI
    unfold wX7_multiply_2
    refine s_size (by rw [i2 _ (by omega)]; exact hn) h4 ⟨fun q => absurd q (nI_ge hi (by omega)), fun _ => ⟨vp_in_nI (by omega) (by decide), ?_⟩⟩
    rw [nI_clamp (by omega)]
    refine c_mod h h2 ⟨vp_in_nI (by omega) (by decide), ?_⟩
    rintro _ rfl _ rfl
    rw [nI_1]
    refine ih _ ⟨?_, ?_, ?_⟩
    · rw [u1_s, i1, ← mulF_step]
      congr 2
      simp [mulF]
    · intro o ho
      rw [u1_n ho, i2 o ho]
    · rw [u1_2, i3]
def exS (leg o i : Nat) (v : Nat → Int32) : Nat → Int32 := if i.testBit leg && !i.testBit o then upd (upd v i (v (i - 2 ^ leg + 2 ^ o))) (i - 2 ^ leg + 2 ^ o) (v i) else v
def exF (leg o : Nat) (v : Nat → Int32) : Nat → (Nat → Int32)
  | 0 => v
  | i + 1 => exS leg o i (exF leg o v i)
theorem ex_bits1 : ∀ a, a < 4 → ∀ b, b < 4 → ∀ i, i < 16 → a = b ∨ (decide (i &&& (2 ^ a ||| 2 ^ b) = 2 ^ a)) = (i.testBit a && !i.testBit b) := by decide +kernel
theorem ex_bits2 : ∀ a, a < 4 → ∀ b, b < 4 → ∀ i, i < 16 → (i.testBit a && !i.testBit b) = true → i ^^^ (2 ^ a ||| 2 ^ b) = i - 2 ^ a + 2 ^ b := by decide +kernel
theorem ex_bits (a : Nat) (ha : a < 4) (b : Nat) (hb : b < 4) (hab : a ≠ b) (i : Nat) (hi : i < 16) : ((i &&& (2 ^ a ||| 2 ^ b) = 2 ^ a) ↔ (i.testBit a && !i.testBit b) = true) ∧ ((i.testBit a && !i.testBit b) = true → i ^^^ (2 ^ a ||| 2 ^ b) = i - 2 ^ a + 2 ^ b) := by
  refine ⟨?_, ex_bits2 a ha b hb i hi⟩
  rcases ex_bits1 a ha b hb i hi with h | h
  · exact absurd h hab
  · rw [← h]; simp
theorem ex_lt : ∀ n, n ≤ 4 → ∀ a, a < n → ∀ b, b < n → ∀ i, i < 2 ^ n → (i.testBit a && !i.testBit b) = true → i - 2 ^ a + 2 ^ b < 2 ^ n := by decide +kernel
theorem s_exchange {v0 n leg o : Nat} {σ : St} {post : St → Prop} (hn : σ.1 v0 0 = nI n) (h4 : n ≤ 4) (hl : leg < n) (ho : o < n) (hlo : leg ≠ o) (k : ∀ s : St, s.1 (v0 + 1) = exF leg o (σ.1 (v0 + 1)) (2 ^ n) → (∀ o, o ≠ v0 + 1 → s.1 o = σ.1 o) → s.2 = σ.2 → post s) : wX7_exchangeLegs v0 (nI leg) (nI o) σ post := by
  have h16 := p2le h4
  unfold wX7_exchangeLegs
  rw [sh1 leg (by omega), sh1 o (by omega), fa_or]
  rintro _ rfl
  refine loop_0 (fun j i (s : St) => wX7_exchangeLegs_11 post j v0 (nI leg) (nI (2 ^ leg ||| 2 ^ o)) (nI i) s) (fun i s => s.1 (v0 + 1) = exF leg o (σ.1 (v0 + 1)) i ∧ (∀ o, o ≠ v0 + 1 → s.1 o = σ.1 o) ∧ s.2 = σ.2) (2 ^ n) σ ⟨rfl, fun _ _ => rfl, rfl⟩ ?_ ?_
  · intro j s hI
    obtain ⟨i1, i2, i3⟩ := hI
    unfold wX7_exchangeLegs_11
    exact s_size (by rw [i2 _ (by omega)]; exact hn) h4 ⟨fun _ => k s i1 i2 i3, fun q => absurd (nI_le (Nat.le_refl _) (by omega)) q⟩
  · intro j i s hi hI ih
    obtain ⟨i1, i2, i3⟩ := hI
    obtain ⟨b1, b2⟩ := ex_bits leg (by omega) o (by omega) hlo i (by omega)
    have hb : 2 ^ leg ≤ 8 := by
      have := Nat.pow_le_pow_right (n := 2) (by decide) (show leg ≤ 3 by omega)
      omega
    have ha : i &&& (2 ^ leg ||| 2 ^ o) < 2 ^ 31 := Nat.lt_of_le_of_lt Nat.and_le_left (by omega)
    unfold wX7_exchangeLegs_11
    refine s_size (by rw [i2 _ (by omega)]; exact hn) h4 ⟨fun q => absurd q (nI_ge hi (by omega)), fun _ => ?_⟩
    rw [sh1 leg (by omega), fa_and, nI_eq ha (by omega), b1, fb_xorI]
    refine ⟨fun q => ?_, fun q => ?_⟩
    · rintro _ rfl
      rw [nI_1]
      refine ih s ⟨?_, i2, i3⟩
      rw [i1, exF, exS, if_neg q]
    · have e2 := ex_lt n h4 leg hl o ho i hi q
      rw [b2 q]
      refine ⟨fun q2 => absurd q2 (nI_ge (a := i - 2 ^ leg + 2 ^ o) (b := 16) (by omega) (by decide)), fun _ => ⟨vp_in_nI (by omega) (by decide), ?_⟩⟩
      rintro _ rfl _ rfl
      refine ⟨vp_in_nI (by omega) (by decide), vp_in_nI (by omega) (by decide), ?_⟩
      rintro _ rfl
      refine ⟨vp_in_nI (by omega) (by decide), ?_⟩
      rintro _ rfl _ rfl
      rw [nI_1, nI_clamp (by omega), nI_clamp (by omega)]
      refine ih _ ⟨?_, ?_, ?_⟩
      · rw [u1_s, u1_s, i1, exF, exS, if_pos q]
      · intro o ho
        rw [u1_n ho, u1_n ho, i2 o ho]
      · rw [u1_2, u1_2, i3]
