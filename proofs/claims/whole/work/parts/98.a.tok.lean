/-! tokens -/
def ub (x : Int32) : Nat := x.toBitVec.toNat % 256
def byR (x : Int32) : Prop := -128 ≤ x.toInt ∧ x.toInt < 128
theorem by_and (x : Int32) : x &&& (255 : Int32) = nI (ub x) := pk_and x 8 rfl
theorem ub_lt (x : Int32) : ub x < 256 := Nat.mod_lt _ (by decide)
theorem by_cs {x : Int32} (h : byR x) : (0 ≤ x.toInt ∧ x.toInt = (ub x : Int) ∧ x = nI (ub x) ∧ ub x < 128) ∨ (x.toInt < 0 ∧ 128 ≤ ub x) := by
  obtain ⟨h1, h2⟩ := h
  have e : x.toInt = x.toBitVec.toInt := rfl
  have hl := x.toBitVec.isLt
  rw [BitVec.toInt_eq_toNat_cond] at e
  unfold ub
  by_cases c : 2 * x.toBitVec.toNat < 2 ^ 32
  · rw [if_pos c] at e
    left
    have e2 : x.toBitVec.toNat % 256 = x.toBitVec.toNat := Nat.mod_eq_of_lt (by omega)
    rw [e2]
    refine ⟨by omega, by omega, Int32.toInt_inj.mp ?_, by omega⟩
    rw [nI_toInt (by omega)]; omega
  · rw [if_neg c] at e
    right
    omega
theorem by_eq {x : Int32} {c : Nat} (h : byR x) (hc : c < 128) : x = nI c ↔ ub x = c := by
  rcases by_cs h with ⟨a, b, d, e⟩ | ⟨a, b⟩
  · constructor
    · intro q
      rw [q] at b
      rw [nI_toInt (by omega)] at b
      rw [q]
      omega
    · intro q; rw [d, q]
  · constructor
    · intro q
      rw [q, nI_toInt (by omega)] at a
      omega
    · intro q; omega
theorem by_lo {x : Int32} {c : Nat} (h : byR x) (hc : c ≤ 128) (q : x < nI c) : ub x < c ∨ 128 ≤ ub x := by
  rw [fa_lt, nI_toInt (by omega)] at q
  rcases by_cs h with ⟨a, b, d, e⟩ | ⟨a, b⟩
  · omega
  · exact Or.inr b
theorem by_hi {x : Int32} {c : Nat} (h : byR x) (hc : c < 128) (q : nI c < x) : c < ub x := by
  rw [fa_lt, nI_toInt (by omega)] at q
  rcases by_cs h with ⟨a, b, d, e⟩ | ⟨a, b⟩
  · omega
  · omega
theorem by_in {x : Int32} {c d : Nat} (h : byR x) (hc : c ≤ 128) (hd : d < 128) (q : ¬ x < nI c) (q2 : ¬ nI d < x) : c ≤ ub x ∧ ub x ≤ d ∧ x = nI (ub x) := by
  rw [fa_lt, nI_toInt (by omega)] at q q2
  rcases by_cs h with ⟨a, b, e, f⟩ | ⟨a, b⟩
  · exact ⟨by omega, by omega, e⟩
  · omega
def inU (lo hi u : Nat) : Bool := decide (lo ≤ u) && decide (u ≤ hi)
theorem inU_iff {lo hi u : Nat} : inU lo hi u = true ↔ lo ≤ u ∧ u ≤ hi := by simp [inU]
theorem inU_no {lo hi u : Nat} : inU lo hi u = false ↔ u < lo ∨ hi < u := by
  rw [← Bool.not_eq_true, inU_iff]; omega
def plF (U : Nat → Nat) (n a : Nat) : Nat := pvF (fun i => !(decide (U i = 32) || decide (U i = 10))) (n - a) a
def dgE (U : Nat → Nat) (n p : Nat) : Nat := pvF (fun i => !inU 48 57 (U i)) (n - p) p
def ltE (U : Nat → Nat) (n p : Nat) : Nat := pvF (fun i => !inU 97 122 (U i)) (n - p) p
def nvF (U : Nat → Nat) (p : Nat) : Nat → Nat
  | 0 => 0
  | k + 1 => 10 * nvF U p k + (U (p + k) - 48)
def wvF (U : Nat → Nat) (p : Nat) : Nat → Nat
  | 0 => 0
  | k + 1 => 2 ^ 5 * wvF U p k + (U (p + k) - 96)
def tkK (U : Nat → Nat) (n a : Nat) : Nat :=
  if n ≤ plF U n a then 3 else if U (plF U n a) = 59 then 2 else if inU 48 57 (U (plF U n a)) then (if dgE U n (plF U n a) - plF U n a ≤ 2 then 1 else 4) else if inU 97 122 (U (plF U n a)) then (if ltE U n (plF U n a) - plF U n a ≤ 6 then 0 else 4) else 4
def tkE (U : Nat → Nat) (n a : Nat) : Nat :=
  if n ≤ plF U n a then plF U n a else if U (plF U n a) = 59 then plF U n a + 1 else if inU 48 57 (U (plF U n a)) then dgE U n (plF U n a) else ltE U n (plF U n a)
def tkV (U : Nat → Nat) (n a : Nat) : Nat :=
  if inU 48 57 (U (plF U n a)) then nvF U (plF U n a) (dgE U n (plF U n a) - plF U n a) else wvF U (plF U n a) (ltE U n (plF U n a) - plF U n a)
theorem plF_le {U : Nat → Nat} {n a : Nat} (h : a ≤ n) : a ≤ plF U n a ∧ plF U n a ≤ n := by
  have := pvF_le (z := fun i => !(decide (U i = 32) || decide (U i = 10))) (n - a) a
  unfold plF
  omega
theorem dgE_le {U : Nat → Nat} {n a : Nat} (h : a ≤ n) : a ≤ dgE U n a ∧ dgE U n a ≤ n := by
  have := pvF_le (z := fun i => !inU 48 57 (U i)) (n - a) a
  unfold dgE
  omega
theorem ltE_le {U : Nat → Nat} {n a : Nat} (h : a ≤ n) : a ≤ ltE U n a ∧ ltE U n a ≤ n := by
  have := pvF_le (z := fun i => !inU 97 122 (U i)) (n - a) a
  unfold ltE
  omega
theorem dgE_lt {U : Nat → Nat} {n p : Nat} (h : p < n) (hd : inU 48 57 (U p) = true) : p < dgE U n p := by
  unfold dgE
  obtain ⟨m, hm⟩ : ∃ m, n - p = m + 1 := ⟨n - p - 1, by omega⟩
  rw [hm, pvF, if_neg (by rw [hd]; decide)]
  have := pvF_le (z := fun i => !inU 48 57 (U i)) m (p + 1)
  omega
theorem ltE_lt {U : Nat → Nat} {n p : Nat} (h : p < n) (hd : inU 97 122 (U p) = true) : p < ltE U n p := by
  unfold ltE
  obtain ⟨m, hm⟩ : ∃ m, n - p = m + 1 := ⟨n - p - 1, by omega⟩
  rw [hm, pvF, if_neg (by rw [hd]; decide)]
  have := pvF_le (z := fun i => !inU 97 122 (U i)) m (p + 1)
  omega
theorem tkK_le {U : Nat → Nat} {n a : Nat} : tkK U n a ≤ 4 := by
  unfold tkK
  (repeat' split) <;> omega
theorem tkE_le {U : Nat → Nat} {n a : Nat} (h : a ≤ n) : a ≤ tkE U n a ∧ tkE U n a ≤ n := by
  have h1 := plF_le (U := U) h
  have h2 := dgE_le (U := U) h1.2
  have h3 := ltE_le (U := U) h1.2
  unfold tkE
  (repeat' split) <;> omega
/-- a word, a number, a ; goes on -/
theorem tkE_gt {U : Nat → Nat} {n a : Nat} (h : a ≤ n) (hk : tkK U n a < 3) : a < tkE U n a := by
  have h1 := plF_le (U := U) h
  unfold tkK at hk
  unfold tkE
  by_cases c : n ≤ plF U n a
  · rw [if_pos c] at hk; omega
  · rw [if_neg c] at hk ⊢
    by_cases c2 : U (plF U n a) = 59
    · rw [if_pos c2]; omega
    · rw [if_neg c2] at hk ⊢
      by_cases c3 : inU 48 57 (U (plF U n a)) = true
      · rw [if_pos c3]
        have := dgE_lt (U := U) (n := n) (by omega) c3
        omega
      · rw [if_neg c3] at hk ⊢
        by_cases c4 : inU 97 122 (U (plF U n a)) = true
        · have := ltE_lt (U := U) (n := n) (by omega) c4
          omega
        · rw [if_neg c4] at hk; omega
theorem wv_lt {U : Nat → Nat} (hU : ∀ i, U i < 256) {p : Nat} : ∀ k, (∀ i, i < k → inU 97 122 (U (p + i)) = true) → wvF U p k < 2 ^ (5 * k)
  | 0, _ => by simp [wvF]
  | k + 1, h => by
    have ih := wv_lt hU k (fun i hi => h i (by omega))
    have := inU_iff.mp (h k (by omega))
    rw [wvF, show 5 * (k + 1) = 5 * k + 5 by omega, Nat.pow_add]
    have e : 2 ^ (5 * k) * 2 ^ 5 = 32 * 2 ^ (5 * k) := by rw [Nat.mul_comm]
    omega
theorem nv_lt {U : Nat → Nat} {p : Nat} : ∀ k, (∀ i, i < k → inU 48 57 (U (p + i)) = true) → nvF U p k < 10 ^ k
  | 0, _ => by simp [nvF]
  | k + 1, h => by
    have ih := nv_lt k (fun i hi => h i (by omega))
    have := inU_iff.mp (h k (by omega))
    rw [nvF, Nat.pow_succ]
    omega
theorem pvF_all {z : Nat → Bool} : ∀ m r i, r ≤ i → i < pvF z m r → z i = false
  | 0, r, i, h1, h2 => by rw [pvF] at h2; omega
  | m + 1, r, i, h1, h2 => by
    rw [pvF] at h2
    by_cases c : z r = true
    · rw [if_pos c] at h2; omega
    · rw [if_neg c] at h2
      by_cases e : i = r
      · rw [e]; simpa using c
      · exact pvF_all m (r + 1) i (by omega) h2
theorem tkV_word {U : Nat → Nat} (hU : ∀ i, U i < 256) {n a : Nat} (h : a ≤ n) (hk : tkK U n a = 0) : tkV U n a < 2 ^ 30 := by
  have h1 := plF_le (U := U) h
  unfold tkK at hk
  unfold tkV
  by_cases c : n ≤ plF U n a
  · rw [if_pos c] at hk; omega
  · rw [if_neg c] at hk
    by_cases c2 : U (plF U n a) = 59
    · rw [if_pos c2] at hk; omega
    · rw [if_neg c2] at hk
      by_cases c3 : inU 48 57 (U (plF U n a)) = true
      · rw [if_pos c3] at hk
        split at hk <;> omega
      · rw [if_neg c3] at hk ⊢
        have hl : ltE U n (plF U n a) - plF U n a ≤ 6 := by
          split at hk
          · split at hk
            · assumption
            · omega
          · omega
        have := wv_lt (U := U) hU (p := plF U n a) (ltE U n (plF U n a) - plF U n a) (fun i hi => by
          have := pvF_all (z := fun i => !inU 97 122 (U i)) (n - plF U n a) (plF U n a) (plF U n a + i) (by omega) (by unfold ltE at hi; omega)
          simpa using this)
        have h2 : 2 ^ (5 * (ltE U n (plF U n a) - plF U n a)) ≤ 2 ^ 30 := Nat.pow_le_pow_right (by decide) (by omega)
        omega
theorem tkV_num {U : Nat → Nat} {n a : Nat} (h : a ≤ n) (hk : tkK U n a = 1) : tkV U n a < 100 := by
  have h1 := plF_le (U := U) h
  unfold tkK at hk
  unfold tkV
  by_cases c : n ≤ plF U n a
  · rw [if_pos c] at hk; omega
  · rw [if_neg c] at hk
    by_cases c2 : U (plF U n a) = 59
    · rw [if_pos c2] at hk; omega
    · rw [if_neg c2] at hk
      by_cases c3 : inU 48 57 (U (plF U n a)) = true
      · rw [if_pos c3] at hk ⊢
        have hl : dgE U n (plF U n a) - plF U n a ≤ 2 := by
          split at hk
          · assumption
          · omega
        have := nv_lt (U := U) (p := plF U n a) (dgE U n (plF U n a) - plF U n a) (fun i hi => by
          have := pvF_all (z := fun i => !inU 48 57 (U i)) (n - plF U n a) (plF U n a) (plF U n a + i) (by omega) (by unfold dgE at hi; omega)
          simpa using this)
        have h2 : 10 ^ (dgE U n (plF U n a) - plF U n a) ≤ 10 ^ 2 := Nat.pow_le_pow_right (by decide) (by omega)
        omega
      · rw [if_neg c3] at hk
        split at hk
        · split at hk <;> omega
        · omega
/-! the class takes a token -/
def TX (tp : Nat → Int32) (n : Nat) (σ : St) : Prop := n ≤ 700 ∧ (∀ i, i < n → byR (tp i)) ∧ (∀ i, i < n → σ.1 1 i = tp i) ∧ σ.1 285 3 = nI n
def TokX (U : Nat → Nat) (n b : Nat) (σ : St) : Prop := σ.1 285 4 = nI (tkK U n b) ∧ σ.1 285 5 = nI (plF U n b) ∧ (tkK U n b ≤ 1 → σ.1 285 6 = nI (tkV U n b)) ∧ (tkK U n b < 4 → σ.1 285 2 = nI (tkE U n b))
def FA (σ s : St) : Prop := (∀ o, o ≠ 285 → s.1 o = σ.1 o) ∧ ∀ j, j ≠ 2 → j ≠ 4 → j ≠ 5 → j ≠ 6 → s.1 285 j = σ.1 285 j
theorem FA.rf (σ : St) : FA σ σ := ⟨fun _ _ => rfl, fun _ _ _ _ _ => rfl⟩
theorem FA.tr {a b c : St} (h : FA a b) (h2 : FA b c) : FA a c := ⟨fun o ho => by rw [h2.1 o ho, h.1 o ho], fun j h3 h4 h5 h6 => by rw [h2.2 j h3 h4 h5 h6, h.2 j h3 h4 h5 h6]⟩
theorem FA.u {σ : St} {j : Nat} {x : Int32} (h : j = 2 ∨ j = 4 ∨ j = 5 ∨ j = 6) : FA σ (u1 σ 285 j x) := ⟨fun o ho => u1_n ho, fun i h2 h4 h5 h6 => by rw [u1_s, pk_un (by omega)]⟩
theorem TX.fa {tp : Nat → Int32} {n : Nat} {σ s : St} (h : TX tp n σ) (f : FA σ s) : TX tp n s := ⟨h.1, h.2.1, fun i hi => by rw [f.1 1 (by decide)]; exact h.2.2.1 i hi, by rw [f.2 3 (by decide) (by decide) (by decide) (by decide)]; exact h.2.2.2⟩
section TC
variable {tp : Nat → Int32} {n : Nat} {U : Nat → Nat}
theorem c_digits {p q0 : Nat} {s0 : St} {post : St → Prop} (hU : U = fun i => ub (tp i)) (h0 : TX tp n s0) (hq0 : q0 = p) (hp : p < n) (h2 : s0.1 285 2 = nI p) (h5 : s0.1 285 5 = nI p) (h6 : s0.1 285 6 = 0) (k : ∀ s, FA s0 s → s.1 285 4 = nI (if dgE U n p - p ≤ 2 then 1 else 4) → s.1 285 5 = nI p → s.1 285 2 = nI (dgE U n p) → (dgE U n p - p ≤ 2 → s.1 285 6 = nI (nvF U p (dgE U n p - p))) → post s) : wX6_takeDigits 285 1 s0 post := by
  have hn := h0.1
  unfold wX6_takeDigits
  have fin : ∀ s, FA s0 s → s.1 285 5 = nI p → s.1 285 2 = nI (dgE U n p) → (dgE U n p - p ≤ 2 → s.1 285 6 = nI (nvF U p (dgE U n p - p))) → wX6_takeDigits_67 post 285 s := by
    intro s f g5 g2 g6
    have hd := dgE_le (U := U) (show p ≤ n by omega)
    unfold wX6_takeDigits_67 wX6_takeDigits_86
    rw [g2, g5, pk_sub hd.1, show (2 : Int32) = nI 2 from rfl, nI_ltI (by decide) (by omega)]
    have mk : ∀ x : Nat, x = (if dgE U n p - p ≤ 2 then 1 else 4) → post (u1 s 285 4 (nI x)) := fun x hx => by
      refine k _ (f.tr (FA.u (by decide))) (by rw [u1_s, pk_us, hx]) (by rw [u1_s, pk_un (by decide)]; exact g5) (by rw [u1_s, pk_un (by decide)]; exact g2) (fun c => by rw [u1_s, pk_un (by decide)]; exact g6 c)
    refine ⟨fun q => ?_, fun q => ?_⟩
    · rintro _ rfl
      exact mk 4 (by rw [if_neg (by omega)])
    · rintro _ rfl
      exact mk 1 (by rw [if_pos (by omega)])
  have hm : ∀ m q s, q + m = n → p ≤ q → FA s0 s → s.1 285 5 = nI p → s.1 285 2 = nI q → (q - p ≤ 2 → s.1 285 6 = nI (nvF U p (q - p))) → dgE U n p = pvF (fun i => !inU 48 57 (U i)) m q → wX6_takeDigits_0 post (m + 1) 285 1 s := by
    intro m
    induction m with
    | zero =>
      intro q s e hpq f g5 g2 g6 hf
      have hs := h0.fa f
      rw [pvF] at hf
      unfold wX6_takeDigits_0
      rw [hs.2.2.2, g2]
      exact ⟨fun _ => fin s f g5 (by rw [g2, hf]) (fun c => by rw [hf] at c ⊢; exact g6 c), fun c => absurd (nI_le (by omega) (by omega)) c⟩
    | succ m ih =>
      intro q s e hpq f g5 g2 g6 hf
      have hs := h0.fa f
      have hb := hs.2.1 q (by omega)
      have hUq : U q = ub (tp q) := by rw [hU]
      rw [pvF] at hf
      have stop : inU 48 57 (U q) = false → wX6_takeDigits_67 post 285 s := fun c => by
        rw [c] at hf
        rw [if_pos (by decide)] at hf
        exact fin s f g5 (by rw [g2, hf]) (fun c => by rw [hf] at c ⊢; exact g6 c)
      unfold wX6_takeDigits_0
      rw [hs.2.2.2, g2]
      refine ⟨fun c => absurd c (nI_ge (by omega) (by omega)), fun _ => ?_⟩
      rintro _ rfl
      rw [nI_clamp (by omega), hs.2.2.1 q (by omega)]
      refine ⟨vp_in_nI (by omega) (by decide), fun c => stop ?_, fun c => ?_⟩
      · rw [hUq]
        have := by_lo (c := 48) hb (by omega) c
        exact inU_no.mpr (by omega)
      · rintro _ rfl
        rw [nI_clamp (by omega), hs.2.2.1 q (by omega)]
        refine ⟨vp_in_nI (by omega) (by decide), fun d => stop ?_, fun d => ?_⟩
        · rw [hUq]
          have := by_hi (c := 57) hb (by omega) d
          exact inU_no.mpr (by omega)
        · obtain ⟨b1, b2, b3⟩ := by_in (c := 48) (d := 57) hb (by omega) (by omega) c d
          have hin : inU 48 57 (U q) = true := by rw [hU]; exact inU_iff.mpr ⟨b1, b2⟩
          rw [hin, if_neg (by decide)] at hf
          rintro _ rfl
          refine ⟨vp_in_nI (by omega) (by decide), ?_⟩
          rintro _ rfl
          rw [nI_clamp (by omega), hs.2.2.1 q (by omega)]
          rw [u1_s, pk_un (by decide), g2, nI_1]
          rintro _ rfl
          refine ih (q + 1) _ (by omega) (by omega) (f.tr ((FA.u (by decide)).tr (FA.u (by decide)))) (by rw [u1_s, pk_un (by decide), u1_s, pk_un (by decide)]; exact g5) (by rw [u1_s, pk_us]) (fun c2 => ?_) hf
          rw [u1_s, pk_un (by decide), u1_s, pk_us, g6 (by omega), b3, show (10 : Int32) = nI 10 from rfl, pk_mul, nI_add, show (48 : Int32) = nI 48 from rfl, pk_sub (by omega), show q + 1 - p = (q - p) + 1 by omega, nvF, show p + (q - p) = q by omega, hU]
          congr 1
          dsimp only
          omega
  exact ⟨n - p + 1, hm (n - p) p s0 (by omega) (Nat.le_refl _) (FA.rf s0) h5 h2 (fun _ => by rw [h6, Nat.sub_self]; rfl) rfl⟩
theorem c_letters {p : Nat} {s0 : St} {post : St → Prop} (hU : U = fun i => ub (tp i)) (h0 : TX tp n s0) (hp : p < n) (h2 : s0.1 285 2 = nI p) (h5 : s0.1 285 5 = nI p) (h6 : s0.1 285 6 = 0) (k : ∀ s, FA s0 s → s.1 285 4 = nI (if inU 97 122 (U p) then (if ltE U n p - p ≤ 6 then 0 else 4) else 4) → s.1 285 5 = nI p → s.1 285 2 = nI (ltE U n p) → (ltE U n p - p ≤ 6 → s.1 285 6 = nI (wvF U p (ltE U n p - p))) → post s) : wX6_takeLetters 285 1 s0 post := by
  have hn := h0.1
  have hU2 : ∀ i, U i < 256 := fun i => by rw [hU]; exact ub_lt _
  unfold wX6_takeLetters
  have hle := ltE_le (U := U) (show p ≤ n by omega)
  have fin : ∀ s, FA s0 s → s.1 285 5 = nI p → s.1 285 2 = nI (ltE U n p) → (ltE U n p - p ≤ 6 → s.1 285 6 = nI (wvF U p (ltE U n p - p))) → wX6_takeLetters_68 post 285 s := by
    intro s f g5 g2 g6
    unfold wX6_takeLetters_68 wX6_takeLetters_98 wX6_takeLetters_99
    rw [g2, g5, pk_sub hle.1, show (6 : Int32) = nI 6 from rfl, nI_ltI (by decide) (by omega), nI_leI (by omega) (by omega)]
    have mk : ∀ x : Nat, x = (if inU 97 122 (U p) then (if ltE U n p - p ≤ 6 then 0 else 4) else 4) → post (u1 s 285 4 (nI x)) := fun x hx => by
      refine k _ (f.tr (FA.u (by decide))) (by rw [u1_s, pk_us, hx]) (by rw [u1_s, pk_un (by decide)]; exact g5) (by rw [u1_s, pk_un (by decide)]; exact g2) (fun c => by rw [u1_s, pk_un (by decide)]; exact g6 c)
    refine ⟨fun q => ?_, fun q => ⟨fun q2 => ?_, fun q2 => ?_⟩⟩
    · rintro _ rfl
      refine mk 4 ?_
      cases hi : inU 97 122 (U p) with
      | false => simp
      | true =>
        have := ltE_lt (U := U) hp hi
        omega
    · rintro _ rfl
      refine mk 4 ?_
      rw [if_neg (show ¬ ltE U n p - p ≤ 6 by omega)]
      split <;> rfl
    · rintro _ rfl
      refine mk 0 ?_
      rw [if_pos (show ltE U n p - p ≤ 6 by omega)]
      cases hi : inU 97 122 (U p) with
      | true => simp
      | false =>
        exfalso
        have e : ltE U n p = p := by
          unfold ltE
          obtain ⟨m, hm⟩ : ∃ m, n - p = m + 1 := ⟨n - p - 1, by omega⟩
          rw [hm, pvF, if_pos (by rw [hi]; decide)]
        omega
  have hm : ∀ m q s, q + m = n → p ≤ q → FA s0 s → s.1 285 5 = nI p → s.1 285 2 = nI q → (q - p ≤ 6 → s.1 285 6 = nI (wvF U p (q - p)) ∧ wvF U p (q - p) < 2 ^ (5 * (q - p))) → ltE U n p = pvF (fun i => !inU 97 122 (U i)) m q → wX6_takeLetters_0 post (m + 1) 285 1 s := by
    intro m
    induction m with
    | zero =>
      intro q s e hpq f g5 g2 g6 hf
      have hs := h0.fa f
      rw [pvF] at hf
      unfold wX6_takeLetters_0
      rw [hs.2.2.2, g2]
      exact ⟨fun _ => fin s f g5 (by rw [g2, hf]) (fun c => by rw [hf] at c ⊢; exact (g6 c).1), fun c => absurd (nI_le (by omega) (by omega)) c⟩
    | succ m ih =>
      intro q s e hpq f g5 g2 g6 hf
      have hs := h0.fa f
      have hb := hs.2.1 q (by omega)
      have hUq : U q = ub (tp q) := by rw [hU]
      rw [pvF] at hf
      have stop : inU 97 122 (U q) = false → wX6_takeLetters_68 post 285 s := fun c => by
        rw [c] at hf
        rw [if_pos (by decide)] at hf
        exact fin s f g5 (by rw [g2, hf]) (fun c => by rw [hf] at c ⊢; exact (g6 c).1)
      unfold wX6_takeLetters_0
      rw [hs.2.2.2, g2]
      refine ⟨fun c => absurd c (nI_ge (by omega) (by omega)), fun _ => ?_⟩
      rintro _ rfl
      rw [nI_clamp (by omega), hs.2.2.1 q (by omega)]
      refine ⟨vp_in_nI (by omega) (by decide), fun c => stop ?_, fun c => ?_⟩
      · rw [hUq]
        have := by_lo (c := 97) hb (by omega) c
        exact inU_no.mpr (by omega)
      · rintro _ rfl
        rw [nI_clamp (by omega), hs.2.2.1 q (by omega)]
        refine ⟨vp_in_nI (by omega) (by decide), fun d => stop ?_, fun d => ?_⟩
        · rw [hUq]
          have := by_hi (c := 122) hb (by omega) d
          exact inU_no.mpr (by omega)
        · obtain ⟨b1, b2, b3⟩ := by_in (c := 97) (d := 122) hb (by omega) (by omega) c d
          have hin : inU 97 122 (U q) = true := by rw [hU]; exact inU_iff.mpr ⟨b1, b2⟩
          rw [hin, if_neg (by decide)] at hf
          rintro _ rfl
          refine ⟨vp_in_nI (by omega) (by decide), ?_⟩
          rintro _ rfl
          rw [nI_clamp (by omega), hs.2.2.1 q (by omega)]
          rw [u1_s, pk_un (by decide), g2, nI_1]
          rintro _ rfl
          refine ih (q + 1) _ (by omega) (by omega) (f.tr ((FA.u (by decide)).tr (FA.u (by decide)))) (by rw [u1_s, pk_un (by decide), u1_s, pk_un (by decide)]; exact g5) (by rw [u1_s, pk_us]) (fun c2 => ?_) hf
          obtain ⟨g61, g62⟩ := g6 (by omega)
          have h25 : 2 ^ (5 * (q - p)) ≤ 2 ^ 25 := Nat.pow_le_pow_right (by decide) (by omega)
          rw [u1_s, pk_un (by decide), u1_s, pk_us, g61, b3, show q + 1 - p = (q - p) + 1 by omega, wvF, show p + (q - p) = q by omega, hUq]
          refine ⟨?_, ?_⟩
          · rw [show (97 : Int32) = nI 97 from rfl, pk_sub b1, nI_1, show (5 : Int32) &&& 31 = (5 : Int32) from by decide, pk_shlN 5 5 (by decide) (by omega), Nat.mul_comm _ (2 ^ 5), show ub (tp q) - 97 + 1 = ub (tp q) - 96 by omega, fa_or_sum _ (show ub (tp q) - 96 < 2 ^ 5 by omega)]
          · rw [show 5 * (q - p + 1) = 5 * (q - p) + 5 by omega, Nat.pow_add]
            have e2 : 2 ^ (5 * (q - p)) * 2 ^ 5 = 32 * 2 ^ (5 * (q - p)) := by rw [Nat.mul_comm]
            omega
  exact ⟨n - p + 1, hm (n - p) p s0 (by omega) (Nat.le_refl _) (FA.rf s0) h5 h2 (fun _ => ⟨by rw [h6, Nat.sub_self]; rfl, by rw [Nat.sub_self]; show 0 < 2 ^ (5 * 0); decide⟩) rfl⟩
theorem c_advance {a : Nat} {s0 : St} {post : St → Prop} (hU : U = fun i => ub (tp i)) (h0 : TX tp n s0) (ha : a ≤ n) (h2 : s0.1 285 2 = nI a) (k : ∀ s, FA s0 s → TokX U n a s → post s) : wX6_advance 285 1 s0 post := by
  have hn := h0.1
  unfold wX6_advance
  have hpl := plF_le (U := U) ha
  have fin : ∀ s, FA s0 s → s.1 285 2 = nI (plF U n a) → wX6_advance_46 post 285 1 s := by
    intro s f g2
    unfold wX6_advance_46
    rintro _ rfl _ rfl
    have F : FA s0 (u1 (u1 s 285 5 (s.1 285 2)) 285 6 0) := f.tr ((FA.u (by decide)).tr (FA.u (by decide)))
    have hs := h0.fa F
    have e2 : (u1 (u1 s 285 5 (s.1 285 2)) 285 6 0).1 285 2 = nI (plF U n a) := by rw [u1_s, pk_un (by decide), u1_s, pk_un (by decide)]; exact g2
    have e5 : (u1 (u1 s 285 5 (s.1 285 2)) 285 6 0).1 285 5 = nI (plF U n a) := by rw [u1_s, pk_un (by decide), u1_s, pk_us]; exact g2
    have e6 : (u1 (u1 s 285 5 (s.1 285 2)) 285 6 0).1 285 6 = 0 := by rw [u1_s, pk_us]
    generalize u1 (u1 s 285 5 (s.1 285 2)) 285 6 0 = s1 at *
    rw [e2, hs.2.2.2, nI_ltI (by omega) (by omega)]
    refine ⟨fun q => ?_, fun q => ?_⟩
    · have hb := hs.2.1 (plF U n a) q
      have hnp : ¬ n ≤ plF U n a := by omega
      have hUp : U (plF U n a) = ub (tp (plF U n a)) := by rw [hU]
      rintro _ rfl
      rw [nI_clamp (by omega), hs.2.2.1 _ q, show (59 : Int32) = nI 59 from rfl, by_eq hb (by omega), ← hUp]
      refine ⟨vp_in_nI (by omega) (by decide), fun q2 => ?_, fun q2 => ?_⟩
      · have L : inU 48 57 (U (plF U n a)) = false → wX6_advance_137 post 285 1 s1 := fun c => by
          unfold wX6_advance_137
          refine c_letters hU hs q e2 e5 e6 (fun s2 f2 r1 r2 r3 r4 => k s2 (F.tr f2) ⟨?_, r2, fun h1 => ?_, fun h1 => ?_⟩)
          · rw [r1]
            unfold tkK
            rw [if_neg hnp, if_neg q2, c]
            simp
          · unfold tkK at h1
            rw [if_neg hnp, if_neg q2, c] at h1
            simp only [Bool.false_eq_true, if_false] at h1
            have hl : ltE U n (plF U n a) - plF U n a ≤ 6 := by
              split at h1
              · split at h1
                · assumption
                · omega
              · omega
            rw [r4 hl]
            unfold tkV
            rw [c]; simp
          · rw [r3]
            unfold tkE
            rw [if_neg hnp, if_neg q2, c]
            simp
        rintro _ rfl
        rw [nI_clamp (by omega), hs.2.2.1 _ q]
        refine ⟨vp_in_nI (by omega) (by decide), fun q3 => L ?_, fun q3 => ?_⟩
        · rw [hUp]
          have := by_lo (c := 48) hb (by omega) q3
          exact inU_no.mpr (by omega)
        · rintro _ rfl
          rw [nI_clamp (by omega), hs.2.2.1 _ q]
          refine ⟨vp_in_nI (by omega) (by decide), fun q4 => L ?_, fun q4 => ?_⟩
          · rw [hUp]
            have := by_hi (c := 57) hb (by omega) q4
            exact inU_no.mpr (by omega)
          · obtain ⟨b1, b2, b3⟩ := by_in (c := 48) (d := 57) hb (by omega) (by omega) q3 q4
            have c : inU 48 57 (U (plF U n a)) = true := by rw [hUp]; exact inU_iff.mpr ⟨b1, b2⟩
            refine c_digits hU hs rfl q e2 e5 e6 (fun s2 f2 r1 r2 r3 r4 => k s2 (F.tr f2) ⟨?_, r2, fun h1 => ?_, fun h1 => ?_⟩)
            · rw [r1]
              unfold tkK
              rw [if_neg hnp, if_neg q2, c]
              simp
            · unfold tkK at h1
              rw [if_neg hnp, if_neg q2, c] at h1
              simp only [if_true] at h1
              have hl : dgE U n (plF U n a) - plF U n a ≤ 2 := by
                split at h1
                · assumption
                · omega
              rw [r4 hl]
              unfold tkV
              rw [c]; simp
            · rw [r3]
              unfold tkE
              rw [if_neg hnp, if_neg q2, c]
              simp
      · rintro _ rfl
        rw [u1_s, pk_un (by decide), e2, nI_1]
        rintro _ rfl
        have e4 : tkK U n a = 2 := by unfold tkK; rw [if_neg hnp, if_pos q2]
        refine k _ (F.tr ((FA.u (by decide)).tr (FA.u (by decide)))) ⟨by rw [u1_s, pk_un (by decide), u1_s, pk_us, e4]; rfl, by rw [u1_s, pk_un (by decide), u1_s, pk_un (by decide)]; exact e5, fun h1 => by omega, fun _ => ?_⟩
        rw [u1_s, pk_us]
        unfold tkE
        rw [if_neg hnp, if_pos q2]
    · rintro _ rfl
      have e4 : tkK U n a = 3 := by unfold tkK; rw [if_pos (by omega)]
      refine k _ (F.tr (FA.u (by decide))) ⟨by rw [u1_s, pk_us, e4]; rfl, by rw [u1_s, pk_un (by decide)]; exact e5, fun h1 => by omega, fun _ => ?_⟩
      rw [u1_s, pk_un (by decide), e2]
      unfold tkE
      rw [if_pos (by omega)]
  have hm : ∀ m q s, q + m = n → FA s0 s → s.1 285 2 = nI q → plF U n a = pvF (fun i => !(decide (U i = 32) || decide (U i = 10))) m q → wX6_advance_0 post (m + 1) 285 1 s := by
    intro m
    induction m with
    | zero =>
      intro q s e f g2 hf
      have hs := h0.fa f
      rw [pvF] at hf
      unfold wX6_advance_0
      rw [hs.2.2.2, g2]
      exact ⟨fun _ => fin s f (by rw [g2, hf]), fun c => absurd (nI_le (by omega) (by omega)) c⟩
    | succ m ih =>
      intro q s e f g2 hf
      have hs := h0.fa f
      have hb := hs.2.1 q (by omega)
      have hUq : U q = ub (tp q) := by rw [hU]
      rw [pvF] at hf
      have next : (decide (U q = 32) || decide (U q = 10)) = true → wX6_advance_33 post (wX6_advance_0 post (m + 1)) 285 1 s := fun c => by
        rw [c, if_neg (by decide)] at hf
        unfold wX6_advance_33
        rw [g2, nI_1]
        rintro _ rfl
        exact ih (q + 1) _ (by omega) (f.tr (FA.u (by decide))) (by rw [u1_s, pk_us]) hf
      unfold wX6_advance_0
      rw [hs.2.2.2, g2]
      refine ⟨fun c => absurd c (nI_ge (by omega) (by omega)), fun _ => ?_⟩
      rintro _ rfl
      rw [nI_clamp (by omega), hs.2.2.1 q (by omega), show (32 : Int32) = nI 32 from rfl, by_eq hb (by omega), ← hUq]
      refine ⟨vp_in_nI (by omega) (by decide), fun c => next (by simp [c]), fun c => ?_⟩
      rintro _ rfl
      rw [nI_clamp (by omega), hs.2.2.1 q (by omega), show (10 : Int32) = nI 10 from rfl, by_eq hb (by omega), ← hUq]
      refine ⟨vp_in_nI (by omega) (by decide), fun d => ?_, fun d => next (by simp [d])⟩
      rw [if_pos (by simp [c, d])] at hf
      exact fin s f (by rw [g2, hf])
  exact ⟨n - a + 1, hm (n - a) a s0 (by omega) (FA.rf s0) h2 rfl⟩
end TC
