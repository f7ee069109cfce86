/-! sums over settings of wires -/
theorem brT {c A B : Prop} (h : c) (a : A) : (c → A) ∧ (¬ c → B) := ⟨fun _ => a, fun q => absurd h q⟩
theorem brF {c A B : Prop} (h : ¬ c) (b : B) : (c → A) ∧ (¬ c → B) := ⟨fun q => absurd q h, fun _ => b⟩
def tzF (s : Nat) : Nat := fa_first (fun k => s.testBit k) 10
def grF (s : Nat) : Nat := s ^^^ (s / 2)
def ugF (g : Nat) : Nat := g ^^^ (g / 2) ^^^ (g / 4) ^^^ (g / 8) ^^^ (g / 16) ^^^ (g / 32) ^^^ (g / 64) ^^^ (g / 128) ^^^ (g / 256) ^^^ (g / 512)
theorem gr_un : ∀ s, s < 1024 → ugF (grF s) = s := by decide +kernel
theorem gr_step : ∀ s, s < 1024 → s ≠ 0 → grF s = grF (s - 1) ^^^ 2 ^ tzF s ∧ tzF s < 10 ∧ 2 ^ tzF s ≤ s := by decide +kernel
theorem ntz_x : ∀ s, s < 1024 → s ≠ 0 → ((nI s ^^^ (-1 : Int32)) &&& (nI s - (1 : Int32))) = nI (2 ^ tzF s - 1) := by decide +kernel
theorem c_ntz {s : Nat} {σ : St} {post : Int32 → St → Prop} (hs : s < 1024) (h0 : s ≠ 0) (k : post (nI (tzF s)) σ) : wJ6_numberOfTrailingZeros_0f7a4 (nI s) σ post := by
  unfold wJ6_numberOfTrailingZeros_0f7a4
  rw [ntz_x s hs h0]
  have hq := (gr_step s hs h0).2.1
  generalize tzF s = q at *
  rintro _ rfl
  match q, hq with
  | 0, _ =>
    refine brF (by decide) ?_
    exact fa_post2 (by decide) rfl k
  | 1, _ =>
    refine brT (by decide) (brT (by decide) ?_)
    unfold wJ6_numberOfTrailingZeros_0f7a4_34
    refine brT (by decide) ?_
    unfold wJ6_numberOfTrailingZeros_0f7a4_49
    refine brT (by decide) ?_
    unfold wJ6_numberOfTrailingZeros_0f7a4_62
    refine brT (by decide) ?_
    unfold wJ6_numberOfTrailingZeros_0f7a4_74
    exact fa_post2 (by decide) rfl k
  | 2, _ =>
    refine brT (by decide) (brT (by decide) ?_)
    unfold wJ6_numberOfTrailingZeros_0f7a4_34
    refine brT (by decide) ?_
    unfold wJ6_numberOfTrailingZeros_0f7a4_49
    refine brT (by decide) ?_
    unfold wJ6_numberOfTrailingZeros_0f7a4_62
    refine brT (by decide) ?_
    unfold wJ6_numberOfTrailingZeros_0f7a4_74
    exact fa_post2 (by decide) rfl k
  | 3, _ =>
    refine brT (by decide) (brT (by decide) ?_)
    unfold wJ6_numberOfTrailingZeros_0f7a4_34
    refine brT (by decide) ?_
    unfold wJ6_numberOfTrailingZeros_0f7a4_49
    refine brT (by decide) ?_
    unfold wJ6_numberOfTrailingZeros_0f7a4_62
    refine brF (by decide) ?_
    rintro _ rfl _ rfl
    unfold wJ6_numberOfTrailingZeros_0f7a4_74
    exact fa_post2 (by decide) rfl k
  | 4, _ =>
    refine brT (by decide) (brT (by decide) ?_)
    unfold wJ6_numberOfTrailingZeros_0f7a4_34
    refine brT (by decide) ?_
    unfold wJ6_numberOfTrailingZeros_0f7a4_49
    refine brT (by decide) ?_
    unfold wJ6_numberOfTrailingZeros_0f7a4_62
    refine brF (by decide) ?_
    rintro _ rfl _ rfl
    unfold wJ6_numberOfTrailingZeros_0f7a4_74
    exact fa_post2 (by decide) rfl k
  | 5, _ =>
    refine brT (by decide) (brT (by decide) ?_)
    unfold wJ6_numberOfTrailingZeros_0f7a4_34
    refine brT (by decide) ?_
    unfold wJ6_numberOfTrailingZeros_0f7a4_49
    refine brF (by decide) ?_
    rintro _ rfl _ rfl
    unfold wJ6_numberOfTrailingZeros_0f7a4_62
    refine brT (by decide) ?_
    unfold wJ6_numberOfTrailingZeros_0f7a4_74
    exact fa_post2 (by decide) rfl k
  | 6, _ =>
    refine brT (by decide) (brT (by decide) ?_)
    unfold wJ6_numberOfTrailingZeros_0f7a4_34
    refine brT (by decide) ?_
    unfold wJ6_numberOfTrailingZeros_0f7a4_49
    refine brF (by decide) ?_
    rintro _ rfl _ rfl
    unfold wJ6_numberOfTrailingZeros_0f7a4_62
    refine brT (by decide) ?_
    unfold wJ6_numberOfTrailingZeros_0f7a4_74
    exact fa_post2 (by decide) rfl k
  | 7, _ =>
    refine brT (by decide) (brT (by decide) ?_)
    unfold wJ6_numberOfTrailingZeros_0f7a4_34
    refine brT (by decide) ?_
    unfold wJ6_numberOfTrailingZeros_0f7a4_49
    refine brF (by decide) ?_
    rintro _ rfl _ rfl
    unfold wJ6_numberOfTrailingZeros_0f7a4_62
    refine brF (by decide) ?_
    rintro _ rfl _ rfl
    unfold wJ6_numberOfTrailingZeros_0f7a4_74
    exact fa_post2 (by decide) rfl k
  | 8, _ =>
    refine brT (by decide) (brT (by decide) ?_)
    unfold wJ6_numberOfTrailingZeros_0f7a4_34
    refine brT (by decide) ?_
    unfold wJ6_numberOfTrailingZeros_0f7a4_49
    refine brF (by decide) ?_
    rintro _ rfl _ rfl
    unfold wJ6_numberOfTrailingZeros_0f7a4_62
    refine brF (by decide) ?_
    rintro _ rfl _ rfl
    unfold wJ6_numberOfTrailingZeros_0f7a4_74
    exact fa_post2 (by decide) rfl k
  | 9, _ =>
    refine brT (by decide) (brT (by decide) ?_)
    unfold wJ6_numberOfTrailingZeros_0f7a4_34
    refine brF (by decide) ?_
    rintro _ rfl _ rfl
    unfold wJ6_numberOfTrailingZeros_0f7a4_49
    refine brT (by decide) ?_
    unfold wJ6_numberOfTrailingZeros_0f7a4_62
    refine brT (by decide) ?_
    unfold wJ6_numberOfTrailingZeros_0f7a4_74
    exact fa_post2 (by decide) rfl k
  | q + 10, h => omega
def ixF (f : Nat → Bool) (n : Nat) : Nat → Nat
  | 0 => 0
  | m + 1 => ixF f n m ||| (if f (4 * n + m) then 2 ^ m else 0)
theorem ixF_bit (f : Nat → Bool) (n : Nat) : ∀ m l, (ixF f n m).testBit l = (decide (l < m) && f (4 * n + l))
  | 0, l => by simp [ixF]
  | m + 1, l => by
    rw [ixF, Nat.testBit_or, ixF_bit f n m l]
    by_cases e : l = m
    · subst e
      cases h : f (4 * n + l) <;> simp
    · have h1 : (if f (4 * n + m) then 2 ^ m else 0 : Nat).testBit l = false := by
        cases h : f (4 * n + m)
        · simp
        · simp only [if_true, Nat.testBit_two_pow]
          simp; omega
      rw [h1, Bool.or_false]
      by_cases h2 : l < m
      · simp [h2, show l < m + 1 by omega]
      · simp [h2, show ¬ l < m + 1 by omega]
theorem ixF_lt (f : Nat → Bool) (n : Nat) : ∀ m, ixF f n m < 2 ^ m
  | 0 => by simp [ixF]
  | m + 1 => by
    rw [ixF]
    refine Nat.or_lt_two_pow (Nat.lt_of_lt_of_le (ixF_lt f n m) (Nat.pow_le_pow_right (by decide) (by omega))) ?_
    split
    · exact Nat.pow_lt_pow_right (by decide) (by omega)
    · exact Nat.two_pow_pos _
theorem bit_ge {x m l : Nat} (h : x < 2 ^ m) (hl : m ≤ l) : x.testBit l = false := Nat.testBit_lt_two_pow (Nat.lt_of_lt_of_le h (Nat.pow_le_pow_right (by decide) hl))
theorem ixF_ext {f : Nat → Bool} {n m x : Nat} (hx : x < 2 ^ m) (h : ∀ l, l < m → x.testBit l = f (4 * n + l)) : x = ixF f n m := by
  apply Nat.eq_of_testBit_eq
  intro l
  rw [ixF_bit]
  by_cases e : l < m
  · rw [h l e]; simp [e]
  · rw [bit_ge hx (by omega)]; simp [e]
theorem ixF_cg {f g : Nat → Bool} {n m : Nat} (h : ∀ l, l < m → f (4 * n + l) = g (4 * n + l)) : ixF f n m = ixF g n m :=
  ixF_ext (ixF_lt f n m) (fun l hl => by rw [ixF_bit, h l hl]; simp [hl])
theorem ixF_flip {f : Nat → Bool} {n m x : Nat} (hx : n = x / 4 → x % 4 < m) (hm : m ≤ 4) : ixF (fun z => f z ^^ decide (z = x)) n m = if n = x / 4 then ixF f n m ^^^ 2 ^ (x % 4) else ixF f n m := by
  by_cases e : n = x / 4
  · rw [if_pos e]
    refine (ixF_ext (Nat.xor_lt_two_pow (ixF_lt f n m) (Nat.pow_lt_pow_right (by decide) (hx e))) (fun l hl => ?_)).symm
    rw [fb_bit_flip, ixF_bit]
    have : (4 * n + l = x) ↔ (l = x % 4) := by omega
    simp [hl, this]
  · rw [if_neg e]
    refine ixF_cg (fun l hl => ?_)
    have : ¬ (4 * n + l = x) := by omega
    simp [this]
/-! a sum over an injection -/
theorem si_zero : ∀ N, fb_si (fun _ => 0) N = 0
  | 0 => rfl
  | N + 1 => by rw [fb_si_succ, si_zero N]; rfl
theorem si_swap (F : Nat → Nat → Int) (M : Nat) : ∀ N, fb_si (fun s => fb_si (F s) M) N = fb_si (fun y => fb_si (fun s => F s y) N) M
  | 0 => by
    show (0 : Int) = _
    rw [show (fun y => fb_si (fun s => F s y) 0) = (fun _ => (0 : Int)) from rfl, si_zero]
  | N + 1 => by
    rw [fb_si_succ, si_swap F M N, ← fb_si_add]
    exact fb_si_cong (fun k hk => by rw [fb_si_succ])
theorem si_one {G : Nat → Int} {x : Nat} : ∀ N, fb_si (fun y => if x = y then G y else 0) N = if x < N then G x else 0
  | 0 => by simp [fb_si]
  | N + 1 => by
    rw [fb_si_succ, si_one N]
    by_cases h : x = N
    · subst h; simp
    · by_cases h2 : x < N
      · simp [h, h2, show x < N + 1 by omega]
      · simp [h, h2, show ¬ x < N + 1 by omega]
theorem si_perm {π : Nat → Nat} {S : Nat → Bool} {G : Nat → Int} {M N : Nat} (h1 : ∀ s, s < M → π s < N ∧ S (π s) = true) (h2 : ∀ s s', s < s' → s' < M → π s ≠ π s') (h3 : ∀ y, y < N → S y = true → ∃ s, s < M ∧ π s = y) : fb_si (fun s => G (π s)) M = fb_si (fun y => if S y then G y else 0) N := by
  have e1 : fb_si (fun s => G (π s)) M = fb_si (fun s => fb_si (fun y => if π s = y then G y else 0) N) M := fb_si_cong (fun s hs => by rw [si_one, if_pos (h1 s hs).1])
  rw [e1, si_swap]
  refine fb_si_cong (fun y hy => ?_)
  cases hS : S y with
  | true =>
    obtain ⟨s0, hs0, e0⟩ := h3 y hy hS
    have e2 : fb_si (fun s => if π s = y then G y else 0) M = fb_si (fun s => if s0 = s then (fun _ => G y) s else 0) M := fb_si_cong (fun s hs => by
      by_cases q : s0 = s
      · subst q; simp [e0]
      · rw [if_neg q, if_neg]
        intro e
        rcases Nat.lt_or_gt_of_ne q with c | c
        · exact h2 s0 s c hs (e0.trans e.symm)
        · exact h2 s s0 c hs0 (e.trans e0.symm))
    rw [e2, si_one, if_pos hs0]
    simp
  | false =>
    have e2 : fb_si (fun s => if π s = y then G y else 0) M = fb_si (fun _ => 0) M := fb_si_cong (fun s hs => by
      rw [if_neg]
      intro e
      have := (h1 s hs).2
      rw [e, hS] at this
      exact absurd this (by decide))
    rw [e2, si_zero]
    simp
def exW (inn : Nat → Bool) (W s : Nat) : Nat := ixF (fun v => inn v && (grF s).testBit (fb_ct inn v)) 0 W
def sbB (inn : Nat → Bool) (W y : Nat) : Bool := decide (∀ v, v < W → y.testBit v = true → inn v = true)
theorem exW_bit {inn : Nat → Bool} {W s v : Nat} (hv : v < W) : (exW inn W s).testBit v = (inn v && (grF s).testBit (fb_ct inn v)) := by
  unfold exW
  rw [ixF_bit, Nat.mul_zero, Nat.zero_add]
  simp [hv]
theorem gr_lt {m s : Nat} (h : s < 2 ^ m) : grF s < 2 ^ m := Nat.xor_lt_two_pow h (Nat.lt_of_le_of_lt (Nat.div_le_self _ _) h)
theorem gr_ne {s s' : Nat} (h : s < s') (h' : s' < 1024) : grF s ≠ grF s' := fun e => by
  have e1 := gr_un s (by omega)
  have e2 := gr_un s' h'
  rw [e, e2] at e1
  omega
theorem p2_10 {m : Nat} (h : m ≤ 10) : 2 ^ m ≤ 1024 := Nat.pow_le_pow_right (n := 2) (by decide) h
theorem ct_lt {p : Nat → Bool} {v W : Nat} (hv : v < W) (h : p v = true) : fb_ct p v < fb_ct p W := by
  have e : fb_ct p (v + 1) = fb_ct p v + 1 := by rw [fb_ct_succ, h]; rfl
  have : fb_ct p (v + 1) ≤ fb_ct p W := fb_ct_mono _ (by omega)
  omega
theorem exW_perm {inn : Nat → Bool} {W : Nat} {G : Nat → Int} (hW : W ≤ 10) : fb_si (fun s => G (exW inn W s)) (2 ^ fb_ct inn W) = fb_si (fun y => if sbB inn W y then G y else 0) (2 ^ W) := by
  have hm : fb_ct inn W ≤ 10 := Nat.le_trans (fb_ct_le _ _) hW
  have h1024 := p2_10 hm
  refine si_perm (fun s hs => ⟨ixF_lt _ _ _, ?_⟩) (fun s s' h h' e => ?_) (fun y hy hS => ?_)
  · unfold sbB
    refine decide_eq_true (fun v hv hb => ?_)
    rw [exW_bit hv] at hb
    simp only [Bool.and_eq_true] at hb
    exact hb.1
  · refine gr_ne h (by omega) (Nat.eq_of_testBit_eq (fun k => ?_))
    by_cases hk : k < fb_ct inn W
    · obtain ⟨v, v1, v2, v3⟩ := fb_ct_kth hk
      have e2 := congrArg (fun x => x.testBit v) e
      rw [exW_bit v1, exW_bit v1, v2, v3] at e2
      simpa using e2
    · rw [bit_ge (gr_lt (m := fb_ct inn W) (by omega)) (by omega), bit_ge (gr_lt (m := fb_ct inn W) (by omega)) (by omega)]
  · have hS := of_decide_eq_true hS
    obtain ⟨s, hs, es⟩ := fb_onto (n := 2 ^ fb_ct inn W) (f := grF) (fun i hi => gr_lt hi) (fun i j h h' => gr_ne h (by omega)) (y := ixF (fun k => y.testBit (fa_first (fun v => inn v && decide (fb_ct inn v = k)) W)) 0 (fb_ct inn W)) (ixF_lt _ _ _)
    refine ⟨s, hs, (ixF_ext hy (fun v hv => ?_)).symm⟩
    rw [es, ixF_bit, Nat.mul_zero, Nat.zero_add, Nat.zero_add]
    cases hi : inn v with
    | false =>
      cases hb : y.testBit v with
      | false => rfl
      | true => rw [hS v hv hb] at hi; exact absurd hi (by decide)
    | true =>
      have hlt := ct_lt hv hi
      have e1 : fa_first (fun u => inn u && decide (fb_ct inn u = fb_ct inn v)) W = v := by
        have hle : fa_first (fun u => inn u && decide (fb_ct inn u = fb_ct inn v)) W ≤ v := by
          apply Nat.le_of_not_lt
          intro q
          have := fa_first_no _ _ _ q
          simp [hi] at this
        have hy := fa_first_yes (fun u => inn u && decide (fb_ct inn u = fb_ct inn v)) W (by omega)
        simp only [Bool.and_eq_true, decide_eq_true_eq] at hy
        exact fb_ct_kth_one hy.1 hi hy.2
      rw [e1]
      simp [hlt]
theorem exW_step {inn : Nat → Bool} {W s v u : Nat} (hs : s < 1024) (h0 : s ≠ 0) (hv : v < W) (hi : inn v = true) (ht : fb_ct inn v = tzF s) (hu : u < W) : (exW inn W s).testBit u = ((exW inn W (s - 1)).testBit u ^^ decide (u = v)) := by
  rw [exW_bit hu, exW_bit hu, (gr_step s hs h0).1, fb_bit_flip]
  cases hu2 : inn u with
  | false =>
    have : u ≠ v := fun e => by rw [e, hi] at hu2; exact absurd hu2 (by decide)
    simp [this]
  | true =>
    have : (fb_ct inn u = tzF s) ↔ u = v := by
      constructor
      · intro e; exact fb_ct_kth_one hu2 hi (e.trans ht.symm)
      · rintro rfl; exact ht
    simp [this]
theorem exW_0 (inn : Nat → Bool) (W : Nat) : exW inn W 0 = 0 := by
  apply Nat.eq_of_testBit_eq
  intro l
  unfold exW
  rw [ixF_bit]
  simp [grF]
/-! which bit a leg has -/
def stF (en : Nat → Nat) (W : Nat) (g : Nat → Bool) (y x : Nat) : Bool := if wiB en (2 * W) x then y.testBit (fa_first (fun e => decide (en e = x)) (2 * W) / 2) else g x
theorem stF_en {en : Nat → Nat} {W e y : Nat} {g : Nat → Bool} (hd : ∀ e e', e < e' → e' < 2 * W → en e ≠ en e') (he : e < 2 * W) : stF en W g y (en e) = y.testBit (e / 2) := by
  unfold stF
  rw [if_pos (wiB_iff.mpr ⟨e, he, rfl⟩)]
  have hle : fa_first (fun z => decide (en z = en e)) (2 * W) ≤ e := by
    apply Nat.le_of_not_lt
    intro q
    have := fa_first_no _ _ _ q
    simp at this
  have hy := of_decide_eq_true (fa_first_yes (fun z => decide (en z = en e)) (2 * W) (by omega))
  have : fa_first (fun z => decide (en z = en e)) (2 * W) = e := by
    rcases Nat.lt_or_ge (fa_first (fun z => decide (en z = en e)) (2 * W)) e with c | c
    · exact absurd hy (hd _ _ c he)
    · omega
  rw [this]
theorem stF_op {en : Nat → Nat} {W x y : Nat} {g : Nat → Bool} (h : wiB en (2 * W) x = false) : stF en W g y x = g x := by
  unfold stF
  rw [if_neg (by rw [h]; decide)]
theorem stF_flip {en : Nat → Nat} {W x y y' v : Nat} {g : Nat → Bool} (hd : ∀ e e', e < e' → e' < 2 * W → en e ≠ en e') (hv : v < W) (h : ∀ u, u < W → y'.testBit u = (y.testBit u ^^ decide (u = v))) : stF en W g y' x = ((stF en W g y x ^^ decide (x = en (2 * v))) ^^ decide (x = en (2 * v + 1))) := by
  cases hw : wiB en (2 * W) x with
  | false =>
    have hn := wiB_no.mp hw
    rw [stF_op hw, stF_op hw]
    have h1 : ¬ x = en (2 * v) := fun e => hn (2 * v) (by omega) e.symm
    have h2 : ¬ x = en (2 * v + 1) := fun e => hn (2 * v + 1) (by omega) e.symm
    simp [h1, h2]
  | true =>
    obtain ⟨e, he, rfl⟩ := wiB_iff.mp hw
    rw [stF_en hd he, stF_en hd he, h _ (by omega)]
    have inj : ∀ e', e' < 2 * W → (en e = en e' ↔ e = e') := fun e' he' => by
      constructor
      · intro q
        rcases Nat.lt_trichotomy e e' with c | c | c
        · exact absurd q (hd _ _ c he')
        · exact c
        · exact absurd q.symm (hd _ _ c he)
      · rintro rfl; rfl
    rw [Bool.xor_assoc]
    congr 1
    rw [show decide (en e = en (2 * v)) = decide (e = 2 * v) from decide_eq_decide.mpr (inj _ (by omega)), show decide (en e = en (2 * v + 1)) = decide (e = 2 * v + 1) from decide_eq_decide.mpr (inj _ (by omega))]
    by_cases c1 : e = 2 * v
    · subst c1
      simp [show 2 * v / 2 = v by omega]
    · by_cases c2 : e = 2 * v + 1
      · subst c2
        simp [show (2 * v + 1) / 2 = v by omega]
      · simp [c1, c2, show ¬ e / 2 = v by omega]
