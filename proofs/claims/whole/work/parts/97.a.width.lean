/-! width: legs that lead out; the class -/
def wqB (en : Nat → Nat) (q : Nat → Bool) : Nat → Nat → Bool
  | 0, _ => false
  | n + 1, x => wqB en q n x || (q n && decide (en n = x))
theorem wqB_iff {en : Nat → Nat} {q : Nat → Bool} {x : Nat} : ∀ {n : Nat}, wqB en q n x = true ↔ ∃ e, e < n ∧ q e = true ∧ en e = x
  | 0 => by simp [wqB]
  | n + 1 => by
    rw [wqB, Bool.or_eq_true, wqB_iff, Bool.and_eq_true, decide_eq_true_iff]
    constructor
    · rintro (⟨e, h1, h2⟩ | h)
      · exact ⟨e, by omega, h2⟩
      · exact ⟨n, by omega, h⟩
    · rintro ⟨e, h1, h2⟩
      by_cases q : e = n
      · subst q; exact Or.inr h2
      · exact Or.inl ⟨e, by omega, h2⟩
theorem cnt_wq {en : Nat → Nat} {q : Nat → Bool} {n : Nat} : ∀ m, (∀ e, e < m → en e < n) → (∀ e e', e < e' → e' < m → en e ≠ en e') → fb_ct (wqB en q m) n = fb_ct q m
  | 0, _, _ => fb_ct_zero.mpr (fun _ _ => rfl)
  | m + 1, h1, h2 => by
    have ih := cnt_wq (q := q) m (fun e he => h1 e (by omega)) (fun e e' he he' => h2 e e' he (by omega))
    have h := fb_ct_or (p := wqB en q m) (q := fun x => q m && decide (en m = x)) (n := n) (fun k hk => ?_)
    · rw [ih] at h
      rw [fb_ct_succ]
      have e : fb_ct (fun x => q m && decide (en m = x)) n = if q m then 1 else 0 := by
        cases hq : q m with
        | false => exact fb_ct_zero.mpr (fun _ _ => by simp)
        | true =>
          simp only [Bool.true_and]
          rw [cnt_is, if_pos (h1 m (by omega))]
          rfl
      rw [e] at h
      exact h
    · rintro ⟨a, b⟩
      obtain ⟨e, he, _, c⟩ := wqB_iff.mp a
      simp only [Bool.and_eq_true, decide_eq_true_eq] at b
      exact h2 e m he (by omega) (c.trans b.2.symm)
theorem cnt_half {p : Nat → Bool} : ∀ W, fb_ct (fun e => p (e / 2)) (2 * W) = 2 * fb_ct p W
  | 0 => rfl
  | W + 1 => by
    rw [show 2 * (W + 1) = 2 * W + 1 + 1 by omega, fb_ct_succ, fb_ct_succ, cnt_half W, fb_ct_succ, show (2 * W + 1) / 2 = W by omega, show 2 * W / 2 = W by omega]
    cases p W <;> simp <;> omega
def lgT (nn : Nat) (nl : Nat → Nat) (T x : Nat) : Bool := decide (x / 4 < nn) && (decide (x % 4 < nl (x / 4)) && T.testBit (x / 4))
def edX (nn : Nat) (nl : Nat → Nat) (w : NetT) (T x : Nat) : Bool := lgT nn nl T x && !wqB w.2.1 (fun e => inF w.2.1 T (e / 2)) (2 * w.1) x
def gF (nn : Nat) (nl : Nat → Nat) (w : NetT) (T : Nat) : Nat := fb_ct (edX nn nl w T) (4 * nn)
theorem cnt_lgT {nn : Nat} {nl : Nat → Nat} {T : Nat} (hl : ∀ j, j < nn → nl j ≤ 4) : ∀ {m : Nat}, m ≤ nn → fb_ct (lgT nn nl T) (4 * m) = fb_sm (fun k => if T.testBit k then nl k else 0) m
  | 0, _ => rfl
  | m + 1, h => by
    rw [show 4 * (m + 1) = 4 * m + 4 by omega, fb_ct_split, cnt_lgT hl (show m ≤ nn by omega), fb_sm_succ]
    congr 1
    have h4 := hl m (by omega)
    have e : fb_ct (fun k => lgT nn nl T (4 * m + k)) 4 = fb_ct (fun k => decide (k < nl m) && T.testBit m) 4 := fb_ct_cong (fun k hk => by
      unfold lgT
      rw [show (4 * m + k) % 4 = k by omega, show (4 * m + k) / 4 = m by omega]
      simp [show m < nn by omega])
    rw [e]
    cases hb : T.testBit m with
    | false => exact (fb_ct_zero.mpr (fun _ _ => by simp)).trans (by simp)
    | true =>
      simp only [Bool.and_true, if_true]
      exact cnt_le4 _ h4
section WD
variable {t P tn bn nn : Nat} {lg tof : Nat → Nat} {tv bv : Nat → Nat → Int32} {L L' : Nat} {tp tp' : Nat → Int32} {nw nw' : NetT} {sz old sz' old' : Nat} {ac ac' : Nat → NetT} {kb kb' : Nat → Bool} {kn kn' : Nat → NetT} {σ τ σ' τ' : St} {nl : Nat → Nat} {w : NetT} {N j : Nat}
theorem g_sum {T : Nat} (hV : NetV P nn nl w) (hl : ∀ j, j < nn → nl j ≤ 4) : fb_sm (fun k => if T.testBit k then nl k else 0) nn = gF nn nl w T + 2 * fb_ct (inF w.2.1 T) w.1 := by
  obtain ⟨h1, h2, h3, h4⟩ := hV
  rw [← cnt_lgT hl (Nat.le_refl nn), ← cnt_half, ← cnt_wq (en := w.2.1) (n := 4 * nn) (2 * w.1) (fun e he => by have := (h2 e he).1; omega) h3]
  unfold gF
  rw [← fb_ct_or (p := edX nn nl w T)]
  · refine fb_ct_cong (fun k hk => ?_)
    unfold edX
    cases hw : wqB w.2.1 (fun e => inF w.2.1 T (e / 2)) (2 * w.1) k with
    | false => simp
    | true =>
      obtain ⟨e, he, q1, q2⟩ := wqB_iff.mp hw
      have v := h2 e he
      rw [q2] at v
      have hT : T.testBit (k / 4) = true := by
        unfold inF at q1
        simp only [Bool.and_eq_true] at q1
        by_cases c : e % 2 = 0
        · have := q1.1
          rw [show 2 * (e / 2) = e by omega, q2] at this
          exact this
        · have := q1.2
          rw [show 2 * (e / 2) + 1 = e by omega, q2] at this
          exact this
      unfold lgT
      simp [v.1, v.2, hT]
  · rintro k hk ⟨a, b⟩
    unfold edX at a
    rw [b] at a
    simp at a
theorem g_le {T : Nat} : gF nn nl w T ≤ 4 * nn := fb_ct_le _ _
theorem c_legsOut {T : Nat} {post : Int32 → St → Prop} (h : NetX nn nl w 86 σ) (hV : NetV P nn nl w) (hn : nn ≤ 6) (hl : ∀ j, j < nn → nl j ≤ 4) (hT : T < 2 ^ 31) (k : post (nI (gF nn nl w T)) σ) : wX5_legsOut 86 (nI T) σ post := by
  have hw := hV.1
  have hs := g_sum (T := T) hV hl
  unfold wX5_legsOut
  refine loop_0 (fun j i (_ : Unit) => wX5_legsOut_4 post j 86 (nI T) (nI (fb_sm (fun k => if T.testBit k then nl k else 0) i)) (nI i) σ) (fun _ _ => True) nn () trivial ?_ ?_
  · rintro j _ _
    unfold wX5_legsOut_4
    rw [h.1]
    refine ⟨fun _ => ?_, fun q => absurd (nI_le (Nat.le_refl _) (by omega)) q⟩
    rw [hs]
    refine loop_0 (fun j i (_ : Unit) => wX5_legsOut_45 post j 86 (nI T) (nI (gF nn nl w T + 2 * fb_ct (inF w.2.1 T) w.1 - 2 * fb_ct (inF w.2.1 T) i)) (nI i) σ) (fun _ _ => True) w.1 () trivial ?_ ?_
    · rintro j _ _
      unfold wX5_legsOut_45
      rw [h.2.1, Nat.add_sub_cancel]
      exact ⟨fun _ => k, fun q => absurd (nI_le (Nat.le_refl _) (by omega)) q⟩
    · rintro j i _ hi _ ih
      have ih := ih () trivial
      have hm : fb_ct (inF w.2.1 T) (i + 1) ≤ fb_ct (inF w.2.1 T) w.1 := fb_ct_mono _ (by omega)
      rw [fb_ct_succ] at ih hm
      unfold wX5_legsOut_45 wX5_legsOut_68
      rw [h.2.1, nI_1]
      refine ⟨fun q => absurd q (nI_ge hi (by omega)), fun _ => c_between h hV hn hT hi ⟨fun q => ?_, fun q => ?_⟩⟩
      · rintro _ rfl _ rfl
        rw [q] at ih
        rw [Int32.sub_zero]
        exact ih
      · rw [q] at ih hm
        simp only [if_true] at ih hm
        rw [show (2 : Int32) = nI 2 from rfl, pk_sub (by omega)]
        rintro _ rfl _ rfl
        rw [show gF nn nl w T + 2 * fb_ct (inF w.2.1 T) w.1 - 2 * fb_ct (inF w.2.1 T) i - 2 = gF nn nl w T + 2 * fb_ct (inF w.2.1 T) w.1 - 2 * (fb_ct (inF w.2.1 T) i + 1) by omega]
        exact ih
  · rintro j i _ hi _ ih
    have ih := ih () trivial
    rw [fb_sm_succ] at ih
    unfold wX5_legsOut_4 wX5_legsOut_35
    rw [h.1, sr_b1 hT (by omega), nI_1]
    refine ⟨fun q => absurd q (nI_ge hi (by omega)), fun _ => ⟨fun q => ?_, fun q => ⟨vp_in_nI (by omega) (by decide), ?_⟩⟩⟩
    · rintro _ rfl _ rfl
      rw [if_neg q] at ih
      rw [Int32.add_zero]
      exact ih
    · rw [nI_clamp (by omega), (h.2.2.2 i hi).1, nI_add]
      rintro _ rfl _ rfl
      rw [if_pos q] at ih
      exact ih
def lbF (W : Nat → Nat) (T : Nat) : Nat → Nat
  | 0 => 24
  | k + 1 => if T.testBit k then lbF W T k else min (lbF W T k) (W (T ||| 2 ^ k))
theorem lbF_le {W : Nat → Nat} {T : Nat} : ∀ m, lbF W T m ≤ 24
  | 0 => Nat.le_refl _
  | m + 1 => by
    rw [lbF]
    split
    · exact lbF_le m
    · exact Nat.le_trans (Nat.min_le_left _ _) (lbF_le m)
theorem lbF_all {W : Nat → Nat} {T : Nat} : ∀ m, ∀ k, k < m → T.testBit k = false → lbF W T m ≤ W (T ||| 2 ^ k)
  | 0, k, h, _ => by omega
  | m + 1, k, h, hb => by
    rw [lbF]
    by_cases e : k = m
    · subst e
      rw [if_neg (by rw [hb]; decide)]
      exact Nat.min_le_right _ _
    · have ih := lbF_all (W := W) (T := T) m k (by omega) hb
      split
      · exact ih
      · exact Nat.le_trans (Nat.min_le_left _ _) ih
theorem lbF_one {W : Nat → Nat} {T : Nat} : ∀ m, lbF W T m = 24 ∨ ∃ k, k < m ∧ T.testBit k = false ∧ lbF W T m = W (T ||| 2 ^ k)
  | 0 => Or.inl rfl
  | m + 1 => by
    rw [lbF]
    have ih := lbF_one (W := W) (T := T) m
    by_cases c : T.testBit m = true
    · rw [if_pos c]
      rcases ih with h | ⟨k, h1, h2⟩
      · exact Or.inl h
      · exact Or.inr ⟨k, by omega, h2⟩
    · rw [if_neg c]
      by_cases d : lbF W T m ≤ W (T ||| 2 ^ m)
      · rw [Nat.min_eq_left d]
        rcases ih with h | ⟨k, h1, h2⟩
        · exact Or.inl h
        · exact Or.inr ⟨k, by omega, h2⟩
      · rw [Nat.min_eq_right (by omega)]
        exact Or.inr ⟨m, by omega, by simpa using c, rfl⟩
theorem lbF_cg {W W' : Nat → Nat} {T : Nat} : ∀ {m : Nat}, (∀ k, k < m → T.testBit k = false → W (T ||| 2 ^ k) = W' (T ||| 2 ^ k)) → lbF W T m = lbF W' T m
  | 0, _ => rfl
  | m + 1, h => by
    rw [lbF, lbF, lbF_cg (fun k hk => h k (by omega))]
    by_cases c : T.testBit m = true
    · rw [if_pos c, if_pos c]
    · rw [if_neg c, if_neg c, h m (by omega) (by simpa using c)]
def mTF (W : Nat → Nat) (nn T : Nat) : Nat := if T = 2 ^ nn - 1 then 0 else lbF W T nn
theorem or_gt {T k : Nat} (h : T.testBit k = false) : T < T ||| 2 ^ k := by
  apply Nat.lt_of_le_of_ne Nat.left_le_or
  intro e
  have := congrArg (fun x => x.testBit k) e
  simp only [fb_bit_set, h] at this
  simp at this
theorem or_lt {T k : Nat} (hT : T < 2 ^ nn) (hk : k < nn) : T ||| 2 ^ k < 2 ^ nn := Nat.or_lt_two_pow hT (Nat.pow_lt_pow_right (by decide) hk)
theorem min_nI {a b : Nat} (ha : a < 2 ^ 31) (hb : b < 2 ^ 31) : (if nI a < nI b then nI a else nI b) = nI (min b a) := by
  by_cases c : a < b
  · rw [if_pos ((nI_ltI ha hb).mpr c), Nat.min_eq_right (by omega)]
  · rw [if_neg (fun q => c ((nI_ltI ha hb).mp q)), Nat.min_eq_left (by omega)]
theorem max_nI {a b : Nat} (ha : a < 2 ^ 31) (hb : b < 2 ^ 31) : (if nI a < nI b then nI b else nI a) = nI (max a b) := by
  by_cases c : a < b
  · rw [if_pos ((nI_ltI ha hb).mpr c), Nat.max_eq_right (by omega)]
  · rw [if_neg (fun q => c ((nI_ltI ha hb).mp q)), Nat.max_eq_left (by omega)]
def WdX (nn : Nat) (nl : Nat → Nat) (w : NetT) (W : Nat → Nat) : Prop := ∀ T, T < 2 ^ nn → W T ≤ 24 ∧ W T = max (gF nn nl w T) (mTF W nn T)
theorem c_least {T : Nat} {W : Nat → Nat} {post : Int32 → St → Prop} (h : NetX nn nl w 86 σ) (hn : nn ≤ 6) (hT : T < 2 ^ nn) (hW : ∀ T', T < T' → T' < 2 ^ nn → σ.1 310 T' = nI (W T') ∧ W T' ≤ 24) (k : post (nI (mTF W nn T)) σ) : wX5_leastBehind 309 86 (nI T) σ post := by
  have h64 := p2_6 hn
  have hp := Nat.two_pow_pos nn
  unfold wX5_leastBehind wX4_allNodes
  rw [h.1, sh1 _ (by omega), all_nI hn]
  unfold mTF at k
  refine ⟨fun q => ?_, fun q => ?_⟩ <;> rw [nI_eq (by omega) (by omega)] at q
  · rw [if_neg q] at k
    refine loop_0 (fun j i (_ : Unit) => wX5_leastBehind_16 post j 309 86 (nI T) (nI (lbF W T i)) (nI i) σ) (fun _ _ => True) nn () trivial ?_ ?_
    · rintro j _ _
      unfold wX5_leastBehind_16
      rw [h.1]
      exact ⟨fun _ => k, fun q => absurd (nI_le (Nat.le_refl _) (by omega)) q⟩
    · rintro j i _ hi _ ih
      have ih := ih () trivial
      rw [lbF] at ih
      unfold wX5_leastBehind_16
      rw [h.1, sr_b0 (by omega) (by omega), sh1 _ (by omega), fa_or, nI_1]
      refine ⟨fun q => absurd q (nI_ge hi (by omega)), fun _ => ⟨fun q2 => ?_, fun q2 => ?_⟩⟩
      · rintro _ rfl
        rw [if_pos (by simpa using q2)] at ih
        exact ih
      · have hlt := or_lt hT hi
        have hgt := or_gt q2
        obtain ⟨w1, w2⟩ := hW _ hgt hlt
        have hb := lbF_le (W := W) (T := T) i
        rintro _ rfl
        refine ⟨vp_in_nI (by omega) (by decide), ?_⟩
        rw [nI_clamp (by omega), show σ.1 (309 + 1) (T ||| 2 ^ i) = nI (W (T ||| 2 ^ i)) from w1, min_nI (by omega) (by omega)]
        rintro _ rfl _ rfl
        rw [if_neg (by rw [q2]; decide)] at ih
        exact ih
  · rw [if_pos q] at k
    exact k
theorem c_weigh {post : St → Prop} (h : NetX nn nl w 86 σ) (hV : NetV P nn nl w) (hn : nn ≤ 6) (hl : ∀ j, j < nn → nl j ≤ 4) (k : ∀ s W, (∀ o, o ≠ 310 → s.1 o = σ.1 o) → WdX nn nl w W → (∀ T, T < 2 ^ nn → s.1 310 T = nI (W T)) → post s) : wX5_weigh 309 86 σ post := by
  have h64 := p2_6 hn
  have hp := Nat.two_pow_pos nn
  unfold wX5_weigh wX4_allNodes
  rw [h.1, sh1 _ (by omega)]
  refine ⟨2 ^ nn + 1, ?_⟩
  refine pk_loopD (fun y i (s : St) => wX5_weigh_5 post y 309 86 (nI i - 1) s) (fun i s => i ≤ 2 ^ nn ∧ (∀ o, o ≠ 310 → s.1 o = σ.1 o) ∧ ∃ W : Nat → Nat, ∀ T, i ≤ T → T < 2 ^ nn → s.1 310 T = nI (W T) ∧ W T ≤ 24 ∧ W T = max (gF nn nl w T) (mTF W nn T)) ?_ ?_ (2 ^ nn) σ ⟨Nat.le_refl _, fun _ _ => rfl, fun _ => 0, fun T h1 h2 => by omega⟩
  · rintro y s ⟨_, i1, W, i2⟩
    unfold wX5_weigh_5
    exact ⟨fun _ => k s W i1 (fun T hT => (i2 T (by omega) hT).2) (fun T hT => (i2 T (by omega) hT).1), fun q => absurd (by decide) q⟩
  · rintro y i s ⟨i0, i1, W, i2⟩ ih
    have hs : NetX nn nl w 86 s := h.fr hn (fun o h1 h2 => i1 o (by omega))
    have hg : gF nn nl w i ≤ 4 * nn := g_le
    have hm : mTF W nn i ≤ 24 := by
      unfold mTF
      split
      · omega
      · exact lbF_le _
    unfold wX5_weigh_5
    rw [nI_pred]
    refine ⟨fun q => absurd q (nI_pos (by omega)), fun _ => c_legsOut hs hV hn hl (by omega) (c_least (W := W) hs hn (by omega) (fun T' h1 h2 => ⟨(i2 T' (by omega) h2).1, (i2 T' (by omega) h2).2.1⟩) ⟨vp_in_nI (by omega) (by decide), ?_⟩)⟩
    rw [nI_clamp (by omega), max_nI (by omega) (by omega)]
    rintro _ rfl _ rfl
    rw [show nI i + (-1 : Int32) = nI i - 1 from by rw [Int32.sub_eq_add_neg]]
    have hmx : max (gF nn nl w i) (mTF W nn i) ≤ 24 := Nat.max_le.mpr ⟨by omega, hm⟩
    refine ih _ ⟨by omega, fun o ho => by rw [u1_n ho, i1 o ho], fun T => if T = i then max (gF nn nl w i) (mTF W nn i) else W T, fun T h1 h2 => ?_⟩
    have hcg : ∀ T, i ≤ T → T < 2 ^ nn → mTF (fun T => if T = i then max (gF nn nl w i) (mTF W nn i) else W T) nn T = mTF W nn T := fun T h1 h2 => by
      unfold mTF
      split
      · rfl
      · refine lbF_cg (fun k hk hb => ?_)
        have := or_gt hb
        rw [if_neg (by omega)]
    rw [u1_s, hcg T h1 h2]
    dsimp only
    by_cases e : T = i
    · subst e
      rw [pk_us, if_pos rfl]
      exact ⟨rfl, hmx, rfl⟩
    · rw [pk_un e, if_neg e]
      exact i2 T (by omega) h2
def nxF (W : Nat → Nat) (nn v T : Nat) : Nat := fa_first (fun k => !T.testBit k && decide (W (T ||| 2 ^ k) ≤ v)) nn
def tkF (W : Nat → Nat) (nn v : Nat) : Nat → Nat → Nat
  | T, 0 => T
  | T, m + 1 => tkF W nn v (T ||| 2 ^ nxF W nn v T) m
theorem tkF_end {W : Nat → Nat} {v : Nat} : ∀ m T, tkF W nn v T (m + 1) = tkF W nn v T m ||| 2 ^ nxF W nn v (tkF W nn v T m)
  | 0, T => rfl
  | m + 1, T => by rw [tkF, tkF_end m, ← tkF]
/-- a set that isn't full, from which it goes on within v, has a next node -/
theorem nx_ex {W : Nat → Nat} {v T : Nat} (hn : nn ≤ 6) (hW : WdX nn nl w W) (hT : T < 2 ^ nn) (hne : T ≠ 2 ^ nn - 1) (hv : mTF W nn T ≤ v) (hsm : v ≤ 24) : nxF W nn v T < nn ∧ T.testBit (nxF W nn v T) = false ∧ W (T ||| 2 ^ nxF W nn v T) ≤ v := by
  have hp := Nat.two_pow_pos nn
  have hex : ∃ k, k < nn ∧ T.testBit k = false ∧ W (T ||| 2 ^ k) ≤ v := by
    unfold mTF at hv
    rw [if_neg hne] at hv
    rcases lbF_one (W := W) (T := T) nn with h | ⟨k, h1, h2, h3⟩
    · obtain ⟨k, hk, hb⟩ : ∃ k, k < nn ∧ T.testBit k = false := by
        apply Classical.byContradiction
        intro q
        apply hne
        apply Nat.eq_of_testBit_eq
        intro i
        rw [Nat.testBit_two_pow_sub_one]
        by_cases c : i < nn
        · cases hb : T.testBit i with
          | true => simp [c]
          | false => exact absurd ⟨i, c, hb⟩ q
        · rw [bit_ge hT (by omega)]
          simp [c]
      have := (hW _ (or_lt hT hk)).1
      exact ⟨k, hk, hb, by omega⟩
    · exact ⟨k, h1, h2, by omega⟩
  obtain ⟨k, k1, k2, k3⟩ := hex
  have hle : nxF W nn v T ≤ k := by
    apply Nat.le_of_not_lt
    intro q
    have := fa_first_no _ _ _ q
    simp [k2, k3] at this
  have hy := fa_first_yes (fun k => !T.testBit k && decide (W (T ||| 2 ^ k) ≤ v)) nn (by show nxF W nn v T < nn; omega)
  simp only [Bool.and_eq_true, Bool.not_eq_true', decide_eq_true_eq] at hy
  exact ⟨by omega, hy.1, hy.2⟩
theorem c_lowest {T : Nat} {W : Nat → Nat} {post : Int32 → St → Prop} (h : NetX nn nl w 86 σ) (hn : nn ≤ 6) (hT : T < 2 ^ nn) (hW : WdX nn nl w W) (hs : ∀ T, T < 2 ^ nn → σ.1 310 T = nI (W T)) (hx : nxF W nn (W 0) T < nn) (k : post (nI (nxF W nn (W 0) T)) σ) : wX5_lowestGoodNode 309 86 (nI T) σ post := by
  have h64 := p2_6 hn
  have hp := Nat.two_pow_pos nn
  unfold wX5_lowestGoodNode
  have e0 : σ.1 (309 + 1) (0 : Int32).toNatClampNeg = nI (W 0) := hs 0 hp
  have w0 := (hW 0 hp).1
  refine loop_0 (fun j i (_ : Unit) => wX5_lowestGoodNode_2 post j 309 86 (nI T) (nI i) σ) (fun i _ => i ≤ nxF W nn (W 0) T) nn () (Nat.zero_le _) ?_ ?_
  · rintro j _ hI
    omega
  · rintro j i _ hi hI ih
    have next : (!T.testBit i && decide (W (T ||| 2 ^ i) ≤ W 0)) = false → wX5_lowestGoodNode_2 post j 309 86 (nI T) (nI (i + 1)) σ := fun q => by
      refine ih () ?_
      by_cases e : i = nxF W nn (W 0) T
      · have hy := fa_first_yes (fun k => !T.testBit k && decide (W (T ||| 2 ^ k) ≤ W 0)) nn hx
        rw [show fa_first (fun k => !T.testBit k && decide (W (T ||| 2 ^ k) ≤ W 0)) nn = i from e.symm] at hy
        rw [hy] at q
        exact absurd q (by decide)
      · omega
    unfold wX5_lowestGoodNode_2
    rw [h.1, sr_b0 (by omega) (by omega), sh1 _ (by omega), fa_or, nI_1, e0]
    refine ⟨fun q => absurd q (nI_ge hi (by omega)), fun _ => ⟨fun q2 => ?_, fun q2 => ?_⟩⟩
    · rintro _ rfl
      exact next (by simp at q2; simp [q2])
    · have hlt := or_lt hT hi
      have w1 := (hW _ hlt).1
      rintro _ rfl
      refine ⟨vp_in_nI (by omega) (by decide), ?_⟩
      rw [nI_clamp (by omega), show σ.1 (309 + 1) (T ||| 2 ^ i) = nI (W (T ||| 2 ^ i)) from hs _ hlt, nI_ltI (by omega) (by omega)]
      refine ⟨fun q3 => ?_, fun q3 => ?_⟩
      · rintro _ rfl
        exact next (by simp [q2]; omega)
      · have : i = nxF W nn (W 0) T := by
          apply Nat.le_antisymm hI
          apply Nat.le_of_not_lt
          intro q
          have := fa_first_no _ _ _ q
          simp [q2] at this
          omega
        rw [this]
        exact k
theorem tk_ok {W : Nat → Nat} (hn : nn ≤ 6) (hW : WdX nn nl w W) : ∀ m, m ≤ nn → tkF W nn (W 0) 0 m < 2 ^ nn ∧ fb_ct (fun k => (tkF W nn (W 0) 0 m).testBit k) nn = m ∧ mTF W nn (tkF W nn (W 0) 0 m) ≤ W 0
  | 0, _ => by
    have hp := Nat.two_pow_pos nn
    refine ⟨hp, fb_ct_zero.mpr (fun k _ => Nat.zero_testBit k), ?_⟩
    have := (hW 0 hp).2
    show mTF W nn 0 ≤ W 0
    omega
  | m + 1, h => by
    have hp := Nat.two_pow_pos nn
    obtain ⟨i1, i2, i3⟩ := tk_ok hn hW m (by omega)
    have hne : tkF W nn (W 0) 0 m ≠ 2 ^ nn - 1 := fun e => by
      rw [e] at i2
      have : fb_ct (fun k => (2 ^ nn - 1).testBit k) nn = nn := fb_ct_all.mpr (fun k hk => by rw [Nat.testBit_two_pow_sub_one]; simp [hk])
      omega
    obtain ⟨x1, x2, x3⟩ := nx_ex hn hW i1 hne i3 (hW 0 hp).1
    rw [tkF_end]
    have hlt := or_lt i1 x1
    refine ⟨hlt, ?_, ?_⟩
    · have := fb_ct_upd (fun k => (tkF W nn (W 0) 0 m).testBit k) true x1
      rw [i2] at this
      rw [show (fun k => (tkF W nn (W 0) 0 m ||| 2 ^ nxF W nn (W 0) (tkF W nn (W 0) 0 m)).testBit k) = (fun k => if k = nxF W nn (W 0) (tkF W nn (W 0) 0 m) then true else (tkF W nn (W 0) 0 m).testBit k) from by
        funext k
        rw [fb_bit_set]
        by_cases e : k = nxF W nn (W 0) (tkF W nn (W 0) 0 m)
        · simp [e]
        · simp [e]]
      simp only [x2] at this
      simpa using this
    · have := (hW _ hlt).2
      omega
theorem tk_ne {W : Nat → Nat} (hn : nn ≤ 6) (hW : WdX nn nl w W) {m : Nat} (h : m < nn) : tkF W nn (W 0) 0 m ≠ 2 ^ nn - 1 := fun e => by
  have i2 := (tk_ok hn hW m (by omega)).2.1
  rw [e] at i2
  have : fb_ct (fun k => (2 ^ nn - 1).testBit k) nn = nn := fb_ct_all.mpr (fun k hk => by rw [Nat.testBit_two_pow_sub_one]; simp [hk])
  omega
theorem c_best {W : Nat → Nat} {ps : Nat} {post : Int32 → St → Prop} (h : NetX nn nl w 86 σ) (hn : nn ≤ 6) (hW : WdX nn nl w W) (hs : ∀ T, T < 2 ^ nn → σ.1 310 T = nI (W T)) (hps : ps < nn) (k : post (nI (nxF W nn (W 0) (tkF W nn (W 0) 0 ps))) σ) : wX5_bestNode 309 86 (nI ps) σ post := by
  have h64 := p2_6 hn
  have hp := Nat.two_pow_pos nn
  unfold wX5_bestNode
  refine loop_0 (fun j i (r : Int32) => wX5_bestNode_8 post j 309 86 (nI ps) (nI (tkF W nn (W 0) 0 i)) r (nI i) σ) (fun i r => i ≠ 0 → r = nI (nxF W nn (W 0) (tkF W nn (W 0) 0 (i - 1)))) (ps + 1) (-1) (fun h => absurd rfl h) ?_ ?_
  · rintro j r hI
    unfold wX5_bestNode_8
    rw [hI (by omega), Nat.add_sub_cancel]
    exact ⟨fun _ => k, fun q => absurd (nI_lt (by omega) (by omega)) q⟩
  · rintro j i r hi hI ih
    obtain ⟨t1, t2, t3⟩ := tk_ok hn hW i (by omega)
    obtain ⟨x1, x2, x3⟩ := nx_ex hn hW t1 (tk_ne hn hW (by omega)) t3 (hW 0 hp).1
    unfold wX5_bestNode_8
    rw [h.1]
    refine ⟨fun q => absurd q (nI_nlt (by omega) (by omega)), fun _ => ⟨fun q => absurd q (nI_ge (by omega) (by omega)), fun _ => c_lowest h hn t1 hW hs x1 ⟨fun _ => ?_, fun q => ?_⟩⟩⟩
    · unfold wX5_bestNode_46
      rw [sh1 _ (by omega), fa_or, nI_1]
      rintro _ rfl _ rfl
      rw [← tkF_end]
      exact ih _ (fun _ => by rw [Nat.add_sub_cancel])
    · have := congrArg Int32.toInt q
      rw [nI_toInt (by omega)] at this
      have z : (-1 : Int32).toInt = -1 := rfl
      omega
end WD
