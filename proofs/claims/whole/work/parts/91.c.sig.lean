/-! a signature's own methods -/
def ruleF (odd : Bool) (v : Nat → Int32) (p : Nat) : Int32 := if odd then md (v 1 * v 14 - v 2 * v 13 + v 4 * v 11 - v 8 * v 7) p else md (v 0 * v 15 - v 3 * v 12 + v 5 * v 10 - v 6 * v 9) p
theorem s_rule {v0 p : Nat} {v1 : Int32} {σ : St} {post : Int32 → St → Prop} (h : 0 < p) (h2 : p < 2 ^ 31) (k : post (ruleF (!decide (v1 = 0)) (σ.1 (v0 + 1)) p) σ) : wX7_rule v0 v1 (nI p) σ post := by
  unfold wX7_rule
  refine ⟨fun q => c_mod h h2 ?_, fun q => c_mod h h2 ?_⟩
  · simp [ruleF, q] at k
    exact k
  · simp [ruleF, q] at k
    exact k
def madeF (n : Nat) (v : Nat → Int32) (p : Nat) : Bool := decide (parF n v ≠ 3) && (decide (n ≠ 4) || (decide (ruleF false v p = 0) && decide (ruleF true v p = 0)))
theorem nI_4 {n : Nat} (h : n ≤ 4) : (nI n = (4 : Int32)) ↔ n = 4 := by
  constructor
  · intro q
    have q := (nI_eq (a := n) (b := 4) (by omega) (by omega)).mp q
    exact q
  · rintro rfl; rfl
theorem s_isMade {v0 n p : Nat} {σ : St} {post : Bool → St → Prop} (hn : σ.1 v0 0 = nI n) (h4 : n ≤ 4) (h : 0 < p) (h2 : p < 2 ^ 31) (k : post (madeF n (σ.1 (v0 + 1)) p) σ) : wX7_isMade v0 (nI p) σ post := by
  unfold wX7_isMade
  refine s_parity hn h4 ⟨fun q => ⟨fun q2 => ?_, fun q2 => ?_⟩, fun q => ?_⟩
  · rw [hn, nI_4 h4] at q2
    simpa [madeF, q, q2] using k
  · rw [hn, nI_4 h4] at q2
    refine s_rule h h2 ⟨fun q3 => ?_, fun q3 => s_rule h h2 ⟨fun q4 => ?_, fun q4 => ?_⟩⟩
    · have q3 : ¬ ruleF false (σ.1 (v0 + 1)) p = 0 := q3
      simpa [madeF, q, q2, q3] using k
    · have q3 : ruleF false (σ.1 (v0 + 1)) p = 0 := q3
      have q4 : ¬ ruleF true (σ.1 (v0 + 1)) p = 0 := q4
      simpa [madeF, q, q2, q3, q4] using k
    · have q3 : ruleF false (σ.1 (v0 + 1)) p = 0 := q3
      have q4 : ruleF true (σ.1 (v0 + 1)) p = 0 := q4
      have e : madeF n (σ.1 (v0 + 1)) p = true := by simp [madeF, q, q3, q4]
      rw [← e]; exact k
  · simpa [madeF, q] using k
theorem bc_lt : ∀ i, i < 16 → 2 ^ bc i - 1 < 16 ∧ ((1 : Int32) <<< (nI (bc i) &&& 31)) - (1 : Int32) = nI (2 ^ bc i - 1) := by decide +kernel
def plainF (n : Nat) (v : Nat → Int32) : Bool := decide (∀ i, i < 2 ^ n → v i = v (2 ^ bc i - 1))
theorem s_plain {v0 n : Nat} {σ : St} {post : Bool → St → Prop} (hn : σ.1 v0 0 = nI n) (h4 : n ≤ 4) (k : post (plainF n (σ.1 (v0 + 1))) σ) : wX7_dependsOnBitCount v0 σ post := by
  have h16 := p2le h4
  unfold wX7_dependsOnBitCount
  refine loop_0 (fun j i (_ : Unit) => wX7_dependsOnBitCount_2 post j v0 (nI i) σ) (fun i _ => ∀ x, x < i → σ.1 (v0 + 1) x = σ.1 (v0 + 1) (2 ^ bc x - 1)) (2 ^ n) () (fun x hx => by omega) ?_ ?_
  · intro j _ hI
    unfold wX7_dependsOnBitCount_2
    refine s_size hn h4 ⟨fun _ => ?_, fun q => absurd (nI_le (Nat.le_refl _) (by omega)) q⟩
    have : plainF n (σ.1 (v0 + 1)) = true := decide_eq_true hI
    rw [← this]; exact k
  · intro j i _ hi hI ih
    unfold wX7_dependsOnBitCount_2
    refine s_size hn h4 ⟨fun q => absurd q (nI_ge hi (by omega)), fun _ => s_bitCount (by omega) ?_⟩
    obtain ⟨b1, b2⟩ := bc_lt i (by omega)
    rw [b2]
    rintro _ rfl
    refine ⟨vp_in_nI (by omega) (by decide), vp_in_nI b1 (by decide), ?_⟩
    rw [nI_clamp (by omega), nI_clamp (by omega)]
    refine ⟨fun q => ?_, fun q => ?_⟩
    · rintro _ rfl
      rw [nI_1]
      refine ih () (fun x hx => ?_)
      by_cases e : x = i
      · subst e; exact q
      · exact hI x (by omega)
    · have : plainF n (σ.1 (v0 + 1)) = false := decide_eq_false (fun w => q (w i hi))
      rw [← this]; exact k
def timesF (n : Nat) (v w : Nat → Int32) (f : Int32) (p : Nat) : Bool := decide (∀ i, i < 2 ^ n → v i = md (f * w i) p)
theorem s_isTimes {v0 v2 n p : Nat} {f : Int32} {σ : St} {post : Bool → St → Prop} (hn : σ.1 v0 0 = nI n) (h4 : n ≤ 4) (h : 0 < p) (h2 : p < 2 ^ 31) (k : post (timesF n (σ.1 (v0 + 1)) (σ.1 (v2 + 1)) f p) σ) : wX7_isTimes v0 f v2 (nI p) σ post := by
  have h16 := p2le h4
  unfold wX7_isTimes
  refine loop_0 (fun j i (_ : Unit) => wX7_isTimes_3 post j v0 f v2 (nI p) (nI i) σ) (fun i _ => ∀ x, x < i → σ.1 (v0 + 1) x = md (f * σ.1 (v2 + 1) x) p) (2 ^ n) () (fun x hx => by omega) ?_ ?_
  · intro j _ hI
    unfold wX7_isTimes_3
    refine s_size hn h4 ⟨fun _ => ?_, fun q => absurd (nI_le (Nat.le_refl _) (by omega)) q⟩
    have : timesF n (σ.1 (v0 + 1)) (σ.1 (v2 + 1)) f p = true := decide_eq_true hI
    rw [← this]; exact k
  · intro j i _ hi hI ih
    unfold wX7_isTimes_3
    refine s_size hn h4 ⟨fun q => absurd q (nI_ge hi (by omega)), fun _ => ⟨vp_in_nI (by omega) (by decide), vp_in_nI (by omega) (by decide), ?_⟩⟩
    rw [nI_clamp (by omega)]
    refine c_mod h h2 ⟨fun q => ?_, fun q => ?_⟩
    · rintro _ rfl
      rw [nI_1]
      refine ih () (fun x hx => ?_)
      by_cases e : x = i
      · subst e; exact q
      · exact hI x (by omega)
    · have : timesF n (σ.1 (v0 + 1)) (σ.1 (v2 + 1)) f p = false := decide_eq_false (fun w => q (w i hi))
      rw [← this]; exact k
def findI (P : Nat → Bool) (r : Nat → Int32) (d : Int32) : Nat → Nat → Int32
  | _, 0 => d
  | a, m + 1 => if P a then r a else findI P r d (a + 1) m
def likeF (n : Nat) (v w : Nat → Int32) (p : Nat) : Int32 := findI (fun f => timesF n v w (nI f) p) nI 0 1 (p - 1)
theorem s_factor {v0 v1 n n' p : Nat} {σ : St} {post : Int32 → St → Prop} (hn : σ.1 v0 0 = nI n) (hn' : σ.1 v1 0 = nI n') (h4 : n ≤ 4) (h4' : n' ≤ 4) (h : 0 < p) (h2 : p < 2 ^ 31) (k : post (if n = n' then likeF n (σ.1 (v0 + 1)) (σ.1 (v1 + 1)) p else 0) σ) : wX7_factorOver v0 v1 (nI p) σ post := by
  unfold wX7_factorOver
  rw [hn, hn', nI_eq (by omega) (by omega)]
  refine ⟨fun q => ?_, fun q => ?_⟩
  · rw [if_pos q] at k
    have hm : ∀ m i, i + m = p → 1 ≤ i → likeF n (σ.1 (v0 + 1)) (σ.1 (v1 + 1)) p = findI (fun f => timesF n (σ.1 (v0 + 1)) (σ.1 (v1 + 1)) (nI f) p) nI 0 i m → wX7_factorOver_15 post (m + 1) v0 v1 (nI p) (nI i) σ := by
      intro m
      induction m with
      | zero =>
        intro i e _ hf
        unfold wX7_factorOver_15
        refine ⟨fun _ => ?_, fun q => absurd (nI_le (by omega) (by omega)) q⟩
        rw [hf] at k
        exact k
      | succ m ih =>
        intro i e h1 hf
        unfold wX7_factorOver_15
        refine ⟨fun q => absurd q (nI_ge (by omega) (by omega)), fun _ => s_isTimes hn h4 h h2 ⟨fun q => ?_, fun q => ?_⟩⟩
        · rintro _ rfl
          rw [nI_1]
          refine ih (i + 1) (by omega) (by omega) ?_
          rw [hf, findI, if_neg (by rw [q]; decide)]
        · rw [hf, findI, if_pos q] at k
          exact k
    exact ⟨p - 1 + 1, hm (p - 1) 1 (by omega) (by omega) rfl⟩
  · rw [if_neg q] at k
    exact k
