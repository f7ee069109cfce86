/-! seek -/
theorem cg_add {P a b c d : Int} (h1 : a % P = b % P) (h2 : c % P = d % P) : (a + c) % P = (b + d) % P := by rw [Int.add_emod, h1, h2, ← Int.add_emod]
theorem cg_mul {P a b c d : Int} (h1 : a % P = b % P) (h2 : c % P = d % P) : (a * c) % P = (b * d) % P := by rw [Int.mul_emod, h1, h2, ← Int.mul_emod]
theorem cg_md {P : Nat} {x : Int32} (h0 : 0 < P) (hP : P < 2 ^ 31) : (md x P).toInt % (P : Int) = x.toInt % (P : Int) := by
  rw [md_toInt h0 hP, Int.emod_emod]
theorem lin_toInt {P : Nat} {a u b v : Int32} (hP : P ≤ 97) (ha : Sm P a) (hu : Sm P u) (hb : Sm P b) (hv : Sm P v) : (a * u + b * v).toInt = a.toInt * u.toInt + b.toInt * v.toInt := by
  obtain ⟨e1, e2, e3⟩ := mul_nn hP ha hu
  obtain ⟨f1, f2, f3⟩ := mul_nn hP hb hv
  rw [fb_addI (by omega) (by omega), e1, f1]
theorem bit_sub : ∀ i, i < 16 → ∀ l, l < 4 → i.testBit l = true → 2 ^ l ≤ i ∧ (i - 2 ^ l).testBit l = false := by decide +kernel
theorem bit_add : ∀ i, i < 16 → ∀ l, l < 4 → i.testBit l = false → (i + 2 ^ l).testBit l = true := by decide +kernel
def chW (leg : Nat) (a b c d : Int32) (p : Nat) (v : Nat → Int32) (i : Nat) : Int32 := if i.testBit leg then md (c * v (i - 2 ^ leg) + d * v i) p else md (a * v i + b * v (i + 2 ^ leg)) p
theorem chF_val {n leg p : Nat} {a b c d : Int32} {v : Nat → Int32} (h4 : n ≤ 4) (hl : leg < n) : ∀ m, m ≤ 2 ^ n → ∀ i, i < 2 ^ n → chF leg a b c d p v m i = (if (if i.testBit leg then i - 2 ^ leg else i) < m then chW leg a b c d p v i else v i) := by
  intro m
  induction m with
  | zero => intro _ i _; simp [chF]
  | succ m ih =>
    intro hm i hi
    have h16 := p2le h4
    have ih := ih (by omega)
    have p1 := Nat.two_pow_pos leg
    rw [chF, chS]
    by_cases qm : m.testBit leg = true
    · rw [if_pos qm, ih i hi]
      by_cases qi : i.testBit leg = true
      · simp only [qi, if_true]
        have := (bit_sub i (by omega) leg (by omega) qi).2
        have hne : i - 2 ^ leg ≠ m := fun e => by rw [e, qm] at this; exact absurd this (by decide)
        by_cases c1 : i - 2 ^ leg < m
        · rw [if_pos c1, if_pos (by omega)]
        · rw [if_neg c1, if_neg (by omega)]
      · simp only [qi]
        have hne : i ≠ m := fun e => qi (by rw [e]; exact qm)
        by_cases c1 : i < m
        · simp [c1, show i < m + 1 by omega]
        · simp [c1, show ¬ i < m + 1 by omega]
    · rw [if_neg qm]
      have qm' : m.testBit leg = false := by simpa using qm
      have hlt := add_lt n h4 m (by omega) leg hl qm'
      have qa := bit_add m (by omega) leg (by omega) qm'
      have em : chF leg a b c d p v m m = v m := by rw [ih m (by omega)]; simp [qm']
      have ea : chF leg a b c d p v m (m + 2 ^ leg) = v (m + 2 ^ leg) := by rw [ih _ hlt]; simp [qa]
      rw [em, ea]
      by_cases e1 : i = m + 2 ^ leg
      · subst e1
        rw [pk_us]
        unfold chW
        simp [qa]
      · rw [pk_un e1]
        by_cases e2 : i = m
        · subst e2
          rw [pk_us]
          unfold chW
          simp [qm']
        · rw [pk_un e2, ih i hi]
          by_cases qi : i.testBit leg = true
          · have := bit_sub i (by omega) leg (by omega) qi
            have hne : i - 2 ^ leg ≠ m := fun e => e1 (by omega)
            simp only [qi, if_true]
            by_cases c1 : i - 2 ^ leg < m
            · rw [if_pos c1, if_pos (by omega)]
            · rw [if_neg c1, if_neg (by omega)]
          · simp only [qi]
            by_cases c1 : i < m
            · simp [c1, show i < m + 1 by omega]
            · simp [c1, show ¬ i < m + 1 by omega]
theorem chF_all {n leg p : Nat} {a b c d : Int32} {v : Nat → Int32} (h4 : n ≤ 4) (hl : leg < n) {i : Nat} (hi : i < 2 ^ n) : chF leg a b c d p v (2 ^ n) i = chW leg a b c d p v i := by
  rw [chF_val h4 hl _ (Nat.le_refl _) i hi, if_pos]
  split
  · exact Nat.lt_of_le_of_lt (Nat.sub_le _ _) hi
  · exact hi
def sW (t : Nat) (X Y : Int) (k : Nat) : Int := if t = 0 then 1 else if k % 2 = 0 then X else Y
theorem chA_Sm {n P : Nat} {a b c d : Int32} {v : Nat → Int32} (h0 : 0 < P) (hP : P < 2 ^ 31) (h : ∀ j, j < 2 ^ n → Sm P (v j)) : ∀ l, ∀ j, j < 2 ^ n → Sm P (chA n a b c d P v l j)
  | 0, j, hj => h j hj
  | l + 1, j, hj => by
    rw [chA]
    exact chF_Sm h0 hP (chA_Sm h0 hP h l) _ (Nat.le_refl _) j hj
theorem bit_mod : ∀ i, i < 16 → ∀ l, l < 4 → 0 < l → i % 2 ^ (l + 1) < 2 → i.testBit l = false ∧ i % 2 ^ l = i % 2 ^ (l + 1) ∧ (i + 2 ^ l) % 2 ^ l = i % 2 ^ (l + 1) := by decide +kernel
theorem chA_sum {n P : Nat} {X Y : Int32} {v : Nat → Int32} (h4 : n ≤ 4) (h2 : 2 ≤ P) (h97 : P ≤ 97) (hX : Sm P X) (hY : Sm P Y) (hv : ∀ j, j < 2 ^ n → Sm P (v j)) : ∀ l, l + 1 ≤ n → ∀ t, t < 2 → ∀ i, i < 2 ^ n → i % 2 ^ (l + 1) = t → (chA n 1 1 X Y P v (l + 1) i).toInt % (P : Int) = fb_si (fun k => sW t X.toInt Y.toInt k * (v (i - t + k)).toInt) (2 ^ (l + 1)) % (P : Int) := by
  intro l
  have h16 := p2le h4
  have s1 : Sm P (1 : Int32) := Sm_nI (k := 1) (by omega) (by omega)
  induction l with
  | zero =>
    intro hl t ht i hi e
    rw [chA, chF_all h4 (by omega) hi]
    unfold chW
    rw [chA]
    have e2 : fb_si (fun k => sW t X.toInt Y.toInt k * (v (i - t + k)).toInt) (2 ^ (0 + 1)) = sW t X.toInt Y.toInt 0 * (v (i - t)).toInt + sW t X.toInt Y.toInt 1 * (v (i - t + 1)).toInt := by
      show (0 + _) + _ = _
      rw [Int.zero_add]; rfl
    rw [e2]
    have hb : i.testBit 0 = decide (i % 2 = 1) := Nat.testBit_zero i
    have e : i % 2 = t := e
    rw [hb]
    by_cases q : t = 0
    · subst q
      rw [e]
      have hlt : i + 1 < 2 ^ n := by
        have := add_lt n h4 i hi 0 (by omega) (by rw [hb, e]; rfl)
        exact this
      simp only [show (0 : Nat) = 1 ↔ False by decide, decide_false, Bool.false_eq_true, if_false]
      rw [cg_md (by omega) (by omega), show i + 2 ^ 0 = i + 1 from rfl, lin_toInt h97 s1 (hv i hi) s1 (hv _ hlt)]
      rfl
    · have q : t = 1 := by omega
      subst q
      rw [e]
      simp only [decide_true, if_true]
      rw [cg_md (by omega) (by omega), show i - 2 ^ 0 = i - 1 from rfl, lin_toInt h97 hX (hv _ (by omega)) hY (hv i hi), show i - 1 + 1 = i by omega]
      rfl
  | succ l ih =>
    intro hl t ht i hi e
    obtain ⟨b1, b2, b3⟩ := bit_mod i (by omega) (l + 1) (by omega) (by omega) (by rw [e]; exact ht)
    rw [e] at b2 b3
    have hlt := add_lt n h4 i hi (l + 1) (by omega) b1
    rw [chA, chF_all h4 (by omega) hi]
    unfold chW
    rw [b1]
    simp only [Bool.false_eq_true, if_false]
    rw [cg_md (by omega) (by omega), lin_toInt h97 s1 (chA_Sm (by omega) (by omega) hv _ i hi) s1 (chA_Sm (by omega) (by omega) hv _ _ hlt), show (1 : Int32).toInt = 1 from rfl, Int.one_mul, Int.one_mul, show 2 ^ (l + 1 + 1) = 2 ^ (l + 1) + 2 ^ (l + 1) by rw [Nat.pow_succ (n := 2) (m := l + 1)]; omega, fb_si_split]
    refine cg_add (ih (by omega) t ht i hi b2) ?_
    rw [ih (by omega) t ht _ hlt b3]
    congr 1
    refine fb_si_cong (fun k hk => ?_)
    have hle : t ≤ i := by
      have := Nat.mod_le i (2 ^ (l + 1 + 1))
      omega
    have e3 : i - t + (2 ^ (l + 1) + k) = i + 2 ^ (l + 1) - t + k := by omega
    have e4 : (2 ^ (l + 1) + k) % 2 = k % 2 := by
      rw [Nat.pow_succ]; omega
    unfold sW
    rw [e3, e4]
theorem evF_t {v : Nat → Int32} {i : Nat} (hv : v i ≠ 0) (hb : bc i % 2 = 0) : ∀ {m : Nat}, i < m → evF v m = true
  | 0, h => by omega
  | m + 1, h => by
    rw [evF]
    by_cases e : i = m
    · subst e; simp [hv, hb]
    · rw [evF_t hv hb (show i < m by omega)]; rfl
theorem odF_t {v : Nat → Int32} {i : Nat} (hv : v i ≠ 0) (hb : bc i % 2 = 1) : ∀ {m : Nat}, i < m → odF v m = true
  | 0, h => by omega
  | m + 1, h => by
    rw [odF]
    by_cases e : i = m
    · subst e; simp [hv, hb]
    · rw [odF_t hv hb (show i < m by omega)]; rfl
theorem made_no {n P : Nat} {u : Nat → Int32} (hn : 1 ≤ n) (h0 : u 0 ≠ 0) (h1 : u 1 ≠ 0) : madeF n u P = false := by
  have h2 : 2 ^ 1 ≤ 2 ^ n := Nat.pow_le_pow_right (by decide) hn
  have e1 := evF_t (i := 0) h0 rfl (m := 2 ^ n) (by omega)
  have e2 := odF_t (i := 1) h1 rfl (m := 2 ^ n) (by omega)
  unfold madeF parF
  rw [e1, e2]
  rfl
/-- by which x, y is spared rightly -/
theorem seek_skip {n P : Nat} {X Y lo hi : Int32} {v : Nat → Int32} (h1 : 1 ≤ n) (h4 : n ≤ 4) (h2 : 2 ≤ P) (h97 : P ≤ 97) (hX : Sm P X) (hY : Sm P Y) (hv : ∀ j, j < 2 ^ n → Sm P (v j)) (el : lo.toInt = fb_si (fun k => if k % 2 = 0 then (v k).toInt else 0) (2 ^ n)) (eh : hi.toInt = fb_si (fun k => if k % 2 = 1 then (v k).toInt else 0) (2 ^ n)) (q1 : md (lo + hi) P ≠ 0) (q2 : md (X * md lo P + Y * md hi P) P ≠ 0) : madeF n (chA n 1 1 X Y P v n) P = false := by
  have p2 : 2 ^ 1 ≤ 2 ^ n := Nat.pow_le_pow_right (by decide) h1
  have h16 := p2le h4
  obtain ⟨l, hl⟩ : ∃ l, n = l + 1 := ⟨n - 1, by omega⟩
  have nz : ∀ {x y : Int32}, x ≠ 0 → Sm P x → x.toInt % (P : Int) = y.toInt % (P : Int) → y ≠ 0 := by
    intro x y hx hs e hy
    rw [hy, Int.emod_eq_of_lt hs.1 hs.2] at e
    exact hx (Int32.toInt_inj.mp (by rw [e]; simp))
  have b : ∀ c : Nat, 0 ≤ fb_si (fun k => if k % 2 = c then (v k).toInt else 0) (2 ^ n) ∧ fb_si (fun k => if k % 2 = c then (v k).toInt else 0) (2 ^ n) ≤ 16 * 97 := by
    intro c
    have hb : ∀ m, m ≤ 2 ^ n → 0 ≤ fb_si (fun k => if k % 2 = c then (v k).toInt else 0) m ∧ fb_si (fun k => if k % 2 = c then (v k).toInt else 0) m ≤ m * 97 := by
      intro m
      induction m with
      | zero => intro _; exact ⟨Int.le_refl _, Int.le_refl _⟩
      | succ m ih =>
        intro hm
        obtain ⟨i1, i2⟩ := ih (by omega)
        rw [fb_si_succ]
        obtain ⟨s1, s2⟩ := hv m (by omega)
        split <;> omega
    have := hb _ (Nat.le_refl _)
    omega
  have hbl := b 0
  have hbh := b 1
  have hs := fb_si_add (fun k => if k % 2 = 0 then (v k).toInt else 0) (fun k => if k % 2 = 1 then (v k).toInt else 0) (2 ^ n)
  refine made_no h1 (nz q1 (md_Sm (by omega) (by omega)) ?_) (nz q2 (md_Sm (by omega) (by omega)) ?_)
  · have := chA_sum (X := X) (Y := Y) h4 h2 h97 hX hY hv l (by omega) 0 (by omega) 0 (by omega) (Nat.zero_mod _)
    rw [← hl] at this
    rw [this, cg_md (by omega) (by omega), fb_addI (by omega) (by omega), el, eh, ← hs]
    congr 1
    refine fb_si_cong (fun k hk => ?_)
    unfold sW
    simp only [if_true, Nat.zero_sub, Nat.zero_add, Int.one_mul]
    by_cases e : k % 2 = 0
    · simp [e]
    · simp [show k % 2 = 1 by omega]
  · have := chA_sum (X := X) (Y := Y) h4 h2 h97 hX hY hv l (by omega) 1 (by omega) 1 (by omega) (by rw [← hl]; exact Nat.mod_eq_of_lt (by omega))
    rw [← hl] at this
    rw [this, cg_md (by omega) (by omega), lin_toInt h97 hX (md_Sm (by omega) (by omega)) hY (md_Sm (by omega) (by omega))]
    have e5 : (X.toInt * (md lo P).toInt + Y.toInt * (md hi P).toInt) % (P : Int) = (X.toInt * lo.toInt + Y.toInt * hi.toInt) % (P : Int) := cg_add (cg_mul rfl (cg_md (by omega) (by omega))) (cg_mul rfl (cg_md (by omega) (by omega)))
    rw [e5, el, eh, ← fb_si_mul, ← fb_si_mul, ← fb_si_add]
    congr 1
    refine fb_si_cong (fun k hk => ?_)
    unfold sW
    simp only [show (1 : Nat) = 0 ↔ False by decide, if_false, Nat.sub_self, Nat.zero_add]
    by_cases e : k % 2 = 0
    · simp [e]
    · simp [show k % 2 = 1 by omega]
theorem c_sumLeg {v0 n P c : Nat} {v : Nat → Int32} {σ : St} {post : Int32 → St → Prop} (hn : σ.1 v0 0 = nI n) (h4 : n ≤ 4) (hP : P ≤ 97) (hv : ∀ i, i < 2 ^ n → σ.1 (v0 + 1) i = v i) (hs : ∀ i, i < 2 ^ n → Sm P (v i)) (hc : c < 2) (k : ∀ r : Int32, r.toInt = fb_si (fun k => if k % 2 = c then (v k).toInt else 0) (2 ^ n) → post r σ) : wX7_sumWhereLegIs v0 0 (nI c) σ post := by
  have h16 := p2le h4
  unfold wX7_sumWhereLegIs
  have e0 : ∀ i, i < 16 → ∀ c, c < 2 → ((nI i >>> ((0 : Int32) &&& 31)) &&& (1 : Int32) = nI c ↔ i % 2 = c) := by decide +kernel
  refine loop_0 (fun j i (r : Int32) => wX7_sumWhereLegIs_5 post j v0 0 (nI c) r (nI i) σ) (fun i r => r.toInt = fb_si (fun k => if k % 2 = c then (v k).toInt else 0) i ∧ 0 ≤ r.toInt ∧ r.toInt ≤ i * 97) (2 ^ n) 0 ⟨rfl, Int.le_refl _, Int.le_refl _⟩ ?_ ?_
  · rintro j r ⟨i1, i2, i3⟩
    unfold wX7_sumWhereLegIs_5
    exact s_size hn h4 ⟨fun _ => k r i1, fun q => absurd (nI_le (Nat.le_refl _) (by omega)) q⟩
  · rintro j i r hi ⟨i1, i2, i3⟩ ih
    unfold wX7_sumWhereLegIs_5
    refine s_size hn h4 ⟨fun q => absurd q (nI_ge hi (by omega)), fun _ => ?_⟩
    rw [e0 i (by omega) c hc, nI_1]
    obtain ⟨s1, s2⟩ := hs i hi
    refine ⟨fun q => ?_, fun q => ⟨vp_in_nI (by omega) (by decide), ?_⟩⟩
    · rintro _ rfl
      refine ih r ⟨?_, i2, by omega⟩
      rw [fb_si_succ, i1, if_neg q, Int.add_zero]
    · rw [nI_clamp (by omega), hv i hi]
      rintro _ rfl _ rfl
      refine ih _ ⟨?_, ?_, ?_⟩
      · rw [fb_addI (by omega) (by omega), fb_si_succ, i1, if_pos q]
      · rw [fb_addI (by omega) (by omega)]; omega
      · rw [fb_addI (by omega) (by omega)]; omega
def seekQ (n : Nat) (v : Nat → Int32) (P : Nat) : Nat → Bool := fun q => !decide (q / P = q % P) && madeF n (chA n 1 1 (nI (q / P)) (nI (q % P)) P v n) P
theorem seekQ_at {n P x y : Nat} {v : Nat → Int32} (hy : y < P) : seekQ n v P (P * x + y) = (!decide (x = y) && madeF n (chA n 1 1 (nI x) (nI y) P v n) P) := by
  have e1 : (P * x + y) / P = x := by rw [Nat.mul_add_div (by omega), Nat.div_eq_of_lt hy, Nat.add_zero]
  have e2 : (P * x + y) % P = y := by rw [Nat.mul_add_mod, Nat.mod_eq_of_lt hy]
  unfold seekQ
  rw [e1, e2]
section SK
variable {t P tn bn nn : Nat} {lg tof : Nat → Nat} {tv bv : Nat → Nat → Int32} {L L' : Nat} {tp tp' : Nat → Int32} {nw nw' : NetT} {sz old sz' old' : Nat} {ac ac' : Nat → NetT} {kb kb' : Nat → Bool} {kn kn' : Nat → NetT} {σ τ σ' τ' : St} {nl : Nat → Nat} {w : NetT} {N j : Nat}
theorem c_sought39 {lo hi t0 : Int32} {post : Int32 → St → Prop} (hV : TabV P tn bn lg tv bv) (hT : TabX t P tn bn lg tv bv σ) (hj : j < tn) (hsk : t0 ≠ 0 → ∀ x y, x < P → y < P → md (nI x * md lo P + nI y * md hi P) P ≠ 0 → madeF (lg j) (chA (lg j) 1 1 (nI x) (nI y) P (tv j) (lg j)) P = false) (k : ∀ s, (∀ o, o ≠ 315 → o ≠ 316 → o ≠ 317 → s.1 o = σ.1 o) → post (seekF (lg j) (tv j) P) s) : wX10_soughtBase_39 post 0 (t + 1 + 21 + 2 * j) (nI P) lo hi t0 σ := by
  have h97 := hV.1.2.1
  have h3 := hV.1.1
  have h8 := hV.t8
  have ht : t = 2 ∨ t = 45 := hT.1
  unfold wX10_soughtBase_39
  simp only [Nat.zero_add]
  rintro _ rfl _ rfl
  have hO : ∀ m x (s : St), x + m = P → ((∀ o, o ≠ 315 → o ≠ 316 → o ≠ 317 → s.1 o = σ.1 o) ∧ s.1 317 0 = 1 ∧ s.1 317 1 = 1) → seekF (lg j) (tv j) P = findI (seekQ (lg j) (tv j) P) nI (-2) (P * x) (P * m) → wX10_soughtBase_60 post (m + 1) 0 (t + 1 + 21 + 2 * j) (nI P) lo hi t0 (nI x) s := by
    intro m
    induction m with
    | zero =>
      rintro x s e ⟨g1, g2, g3⟩ hf
      unfold wX10_soughtBase_60
      refine ⟨fun _ => ?_, fun q => absurd (nI_le (by omega) (by omega)) q⟩
      have k := k s g1
      rw [hf] at k
      exact k
    | succ m ih =>
      rintro x s e hg hf
      unfold wX10_soughtBase_60
      refine ⟨fun q => absurd q (nI_ge (by omega) (by omega)), fun _ => ?_⟩
      have hI : ∀ n y (s : St), y + n = P → ((∀ o, o ≠ 315 → o ≠ 316 → o ≠ 317 → s.1 o = σ.1 o) ∧ s.1 317 0 = 1 ∧ s.1 317 1 = 1) → seekF (lg j) (tv j) P = findI (seekQ (lg j) (tv j) P) nI (-2) (P * x + y) (P * m + n) → wX10_soughtBase_69 post (wX10_soughtBase_60 post (m + 1)) (n + 1) 0 (t + 1 + 21 + 2 * j) (nI P) lo hi t0 (nI x) (nI y) s := by
        intro n
        induction n with
        | zero =>
          rintro y s e2 hg hf
          unfold wX10_soughtBase_69
          refine ⟨fun _ => ?_, fun q => absurd (nI_le (by omega) (by omega)) q⟩
          rintro _ rfl
          rw [nI_1]
          refine ih (x + 1) s (by omega) hg ?_
          rw [hf, show y = P by omega]
          rfl
        | succ n ih2 =>
          rintro y s e2 ⟨g1, g2, g3⟩ hf
          have hy : y < P := by omega
          have hx : x < P := by omega
          have hQ := seekQ_at (n := lg j) (v := tv j) (x := x) hy
          have hT2 : TabX t P tn bn lg tv bv s := hT.fr h8 hV.b5 (fun o ho => g1 o (by omega) (by omega) (by omega))
          have next : ∀ s : St, ((∀ o, o ≠ 315 → o ≠ 316 → o ≠ 317 → s.1 o = σ.1 o) ∧ s.1 317 0 = 1 ∧ s.1 317 1 = 1) → seekQ (lg j) (tv j) P (P * x + y) = false → wX10_soughtBase_69 post (wX10_soughtBase_60 post (m + 1)) (n + 1) 0 (t + 1 + 21 + 2 * j) (nI P) lo hi t0 (nI x) (nI (y + 1)) s := fun s hs hq => by
            refine ih2 (y + 1) s (by omega) hs ?_
            rw [hf, ← Nat.add_assoc, findI, if_neg (by rw [hq]; decide)]
            rfl
          have tryIt : ¬ x = y → wX10_soughtBase_115 post (wX10_soughtBase_60 post (m + 1)) (wX10_soughtBase_69 post (wX10_soughtBase_60 post (m + 1)) (n + 1)) 0 (t + 1 + 21 + 2 * j) (nI P) lo hi t0 (nI x) (nI y) s := by
            intro hxy
            unfold wX10_soughtBase_115
            simp only [Nat.zero_add]
            rintro _ rfl _ rfl
            have f : ∀ o, o ≠ 317 → (u1 (u1 s 317 2 (nI x)) 317 3 (nI y)).1 o = s.1 o := fun o ho => by rw [u1_n ho, u1_n ho]
            have hT3 : TabX t P tn bn lg tv bv (u1 (u1 s 317 2 (nI x)) 317 3 (nI y)) := hT2.fr h8 hV.b5 (fun o ho => f o (by omega))
            refine c_madeBy hV hT3 (by omega) (hT3.leg hj) (hV.l4 hj) (hT3.val hj) (by omega) (a := 1) (b := 1) (c := nI x) (d := nI y) (by rw [u1_s, pk_un (by decide), u1_s, pk_un (by decide)]; exact g2) (by rw [u1_s, pk_un (by decide), u1_s, pk_un (by decide)]; exact g3) (by rw [u1_s, pk_un (by decide), u1_s, pk_us]) (by rw [u1_s, pk_us]) (fun s' s1 => ⟨fun q => ?_, fun q => ?_⟩)
            · rintro _ rfl
              rw [nI_1]
              refine next s' ⟨fun o h1 h2 h3 => by rw [s1 o h1 h2, f o h3, g1 o h1 h2 h3], ?_, ?_⟩ (by rw [hQ, q]; simp)
              · rw [s1 317 (by decide) (by decide), u1_s, pk_un (by decide), u1_s, pk_un (by decide)]; exact g2
              · rw [s1 317 (by decide) (by decide), u1_s, pk_un (by decide), u1_s, pk_un (by decide)]; exact g3
            · have k := k s' (fun o h1 h2 h3 => by rw [s1 o h1 h2, f o h3, g1 o h1 h2 h3])
              rw [hf, ← Nat.add_assoc, findI, if_pos (by rw [hQ, q]; simp [hxy])] at k
              rw [pk_mul, nI_add]
              exact k
          unfold wX10_soughtBase_69
          refine ⟨fun q => absurd q (nI_ge (by omega) (by omega)), fun _ => ?_⟩
          rw [nI_eq (by omega) (by omega)]
          refine ⟨fun q => ?_, fun q => ⟨fun _ => tryIt q, fun q2 => c_mod hV.p0 hV.p31 (c_mod hV.p0 hV.p31 (c_mod hV.p0 hV.p31 ⟨fun _ => tryIt q, fun q3 => ?_⟩))⟩⟩
          · rintro _ rfl
            rw [nI_1]
            exact next s ⟨g1, g2, g3⟩ (by rw [hQ]; simp [q])
          · rintro _ rfl
            rw [nI_1]
            refine next s ⟨g1, g2, g3⟩ ?_
            rw [hQ, hsk q2 x y hx hy q3]
            simp
      exact ⟨P + 1, hI P 0 s (by omega) hg (by rw [hf]; rfl)⟩
  refine ⟨P + 1, hO P 0 _ (by omega) ⟨fun o h1 h2 h3 => by rw [u1_n h3, u1_n h3], by rw [u1_s, pk_un (by decide), u1_s, pk_us], by rw [u1_s, pk_us]⟩ ?_⟩
  rw [Nat.mul_zero]
  rfl
theorem c_sought {post : Int32 → St → Prop} (hV : TabV P tn bn lg tv bv) (hT : TabX t P tn bn lg tv bv σ) (hj : j < tn) (k : ∀ s, (∀ o, o ≠ 315 → o ≠ 316 → o ≠ 317 → s.1 o = σ.1 o) → post (seekF (lg j) (tv j) P) s) : wX10_soughtBase 0 (t + 1 + 21 + 2 * j) σ post := by
  have h97 := hV.1.2.1
  have h3 := hV.1.1
  obtain ⟨l1, l4, sm⟩ := hV.2.2.2.1 j hj
  unfold wX10_soughtBase
  rintro _ rfl
  rw [hT.p]
  refine ⟨kX_t hT.1, ?_⟩
  rw [hT.pr]
  rintro _ rfl
  refine c_sumLeg (c := 0) (hT.leg hj) l4 h97 (hT.val hj) sm (by decide) (fun lo el => c_sumLeg (c := 1) (hT.leg hj) l4 h97 (hT.val hj) sm (by decide) (fun hi eh => c_mod hV.p0 hV.p31 ⟨fun q => c_sought39 hV hT hj (fun e => absurd rfl e) k, fun q => c_sought39 hV hT hj (fun _ x y hx hy q2 => ?_) k⟩))
  exact seek_skip l1 l4 (by omega) h97 (Sm_nI hx (by omega)) (Sm_nI hy (by omega)) sm el eh q q2
def seekA (P tn : Nat) (lg : Nat → Nat) (tv : Nat → Nat → Int32) (a : Int32) : Int32 := if ixB a tn then seekF (lg a.toNatClampNeg) (tv a.toNatClampNeg) P else -1
theorem RX.sought (hV : RV P tn bn nn lg tof tv bv L tp nw sz old ac kb kn) (h : RX t P tn bn nn lg tof tv bv L tp nw sz old ac kb kn σ) (hj : j < tn) : RX t P tn bn nn lg tof tv bv L tp nw sz old ac kb kn (u1 σ (t + 2) j (seekF (lg j) (tv j) P)) := by
  obtain ⟨⟨v1, v2, v3, v4, v5⟩, ⟨v6, v7⟩, v8, v9, v10, v11⟩ := hV
  obtain ⟨⟨c0, c1, c2, c3, c4, c5, c6, c7⟩, h2, ⟨h3, h4⟩, h5, ⟨h6, h7, h8⟩, h9, h10⟩ := h
  have hF : ∀ o, o ≠ t + 2 → (u1 σ (t + 2) j (seekF (lg j) (tv j) P)).1 o = σ.1 o := fun o ho => u1_n ho
  refine ⟨⟨c0, by rw [hF 0 (by omega)]; exact c1, by rw [hF 0 (by omega)]; exact c2, by rw [hF t (by omega)]; exact c3, by rw [hF t (by omega)]; exact c4, by rw [hF t (by omega)]; exact c5, fun j hj => ⟨by rw [hF _ (by omega)]; exact (c6 j hj).1, fun i hi => by rw [hF _ (by omega)]; exact (c6 j hj).2 i hi⟩, fun j hj k hk => by rw [hF _ (by omega)]; exact c7 j hj k hk⟩, fun y hy => ?_, ⟨by rw [hF _ (by omega)]; exact h3, fun i hi => by rw [hF _ (by omega)]; exact h4 i hi⟩, h5.fr v6 (fun o h1 h2 => hF o (by omega)), ⟨by rw [hF _ (by omega)]; exact h6, by rw [hF _ (by omega)]; exact h7, fun k hk => (h8 k hk).fr v6 (fun o h1 h2 => hF o (by omega))⟩, fun k hk => ⟨by rw [hF _ (by omega)]; exact (h9 k hk).1, fun hb => ((h9 k hk).2 hb).fr v6 (fun o h1 h2 => hF o (by omega))⟩, fun k hk => by rw [hF _ (by omega)]; exact h10 k hk⟩
  rw [u1_s]
  by_cases e : y = j
  · subst e; rw [pk_us]; exact Or.inr rfl
  · rw [pk_un e]; exact h2 y hy
theorem C_seek {a : Int32} {post : Int32 → St → Prop} (hV : RV P tn bn nn lg tof tv bv L tp nw sz old ac kb kn) (hX : RX t P tn bn nn lg tof tv bv L tp nw sz old ac kb kn σ) (k : ∀ u, RX t P tn bn nn lg tof tv bv L tp nw sz old ac kb kn u → post (seekA P tn lg tv a) u) : wX10_seek 0 a σ post := by
  unfold wX10_seek
  unfold seekA at k
  refine c_isTable hX.1 hV.1.t8 ⟨fun q => ?_, fun q => ?_⟩
  · rw [if_pos q] at k
    refine c_tab hV.1 hX.1 q (fun j hj e1 e2 h4 i1 i2 => ?_)
    have ht : t = 2 ∨ t = 45 := hX.1.1
    rw [e2] at k
    rintro _ rfl
    rw [hX.1.p, e2]
    refine ⟨kX_t ht, i1, fun q2 => ?_, fun q2 => ?_⟩
    · unfold wX10_seek_44
      rintro _ rfl
      rw [hX.1.p, e2]
      refine ⟨kX_t ht, i1, ?_⟩
      rcases hX.2.1 j hj with h | h
      · exact absurd h q2
      · rw [h]; exact k σ hX
    · rintro _ rfl
      refine ⟨kX_t ht, ?_⟩
      rintro _ rfl
      refine ⟨kX_t ht, i1, c_sought hV.1 hX.1 hj (fun s f => ⟨i1, ?_⟩)⟩
      rintro _ rfl
      have hs := hX.fr (σ' := s) hV (fun o ho => f o (by omega) (by omega) (by omega))
      have hs2 := hs.sought hV hj
      unfold wX10_seek_44
      rintro _ rfl
      rw [hs2.1.p, e2, u1_s, pk_us]
      exact ⟨kX_t ht, i1, k _ hs2⟩
  · rw [if_neg (by rw [q]; decide)] at k; exact k σ hX
theorem M_seek {a : Int32} {post : Int32 → St → Prop} (hV : RV P tn bn nn lg tof tv bv L tp nw sz old ac kb kn) (hM : RM P tn bn nn lg tof tv bv L tp nw sz ac kb kn τ) (k : ∀ v, FM τ v → post (seekA P tn lg tv a) v) : wX11_seek 0 a τ post := by
  have hF : FM τ (u1 τ 0 0 0) := FM.u0 (by decide)
  have h97 := hV.1.1.2.1
  unfold wX11_seek
  unfold seekA at k
  rintro _ rfl
  refine m_isTable (hM.fr hF).1 hV.1.t8 ⟨fun q => ?_, fun q => ?_⟩
  · rw [if_pos q] at k
    refine m_tab hV.1 q (fun j hj e1 e2 h4 i2 => ?_)
    subst e1
    rw [e2] at k
    have hO : ∀ m x (s : St), x + m = P → FM τ s → seekF (lg j) (tv j) P = findI (seekQ (lg j) (tv j) P) nI (-2) (P * x) (P * m) → wX11_seek_17 post (m + 1) 0 (nI j) (nI x) s := by
      intro m
      induction m with
      | zero =>
        rintro x s e hs hf
        unfold wX11_seek_17 wX11_p
        rw [show s.1 (0 + 2) (0 : Int32).toNatClampNeg = nI P from (hM.fr hs).1.1]
        refine ⟨fun _ => ?_, fun q => absurd (nI_le (by omega) (by omega)) q⟩
        have k := k s hs
        rw [hf] at k
        exact k
      | succ m ih =>
        rintro x s e hs hf
        unfold wX11_seek_17 wX11_p
        rw [show s.1 (0 + 2) (0 : Int32).toNatClampNeg = nI P from (hM.fr hs).1.1]
        refine ⟨fun q => absurd q (nI_ge (by omega) (by omega)), fun _ => ?_⟩
        have hI : ∀ n y (s : St), y + n = P → FM τ s → seekF (lg j) (tv j) P = findI (seekQ (lg j) (tv j) P) nI (-2) (P * x + y) (P * m + n) → wX11_seek_27 post (wX11_seek_17 post (m + 1)) (n + 1) 0 (nI j) (nI x) (nI y) s := by
          intro n
          induction n with
          | zero =>
            rintro y s e2 hs hf
            unfold wX11_seek_27 wX11_p
            rw [show s.1 (0 + 2) (0 : Int32).toNatClampNeg = nI P from (hM.fr hs).1.1]
            refine ⟨fun _ => ?_, fun q => absurd (nI_le (by omega) (by omega)) q⟩
            rintro _ rfl
            rw [nI_1]
            refine ih (x + 1) s (by omega) hs ?_
            rw [hf, show y = P by omega]
            rfl
          | succ n ih2 =>
            rintro y s e2 hs hf
            have hy : y < P := by omega
            have hQ := seekQ_at (n := lg j) (v := tv j) (x := x) hy
            have next : ∀ s : St, FM τ s → seekQ (lg j) (tv j) P (P * x + y) = false → wX11_seek_27 post (wX11_seek_17 post (m + 1)) (n + 1) 0 (nI j) (nI x) (nI (y + 1)) s := fun s hs hq => by
              refine ih2 (y + 1) s (by omega) hs ?_
              rw [hf, ← Nat.add_assoc, findI, if_neg (by rw [hq]; decide)]
              rfl
            unfold wX11_seek_27 wX11_p
            rw [show s.1 (0 + 2) (0 : Int32).toNatClampNeg = nI P from (hM.fr hs).1.1]
            refine ⟨fun q => absurd q (nI_ge (by omega) (by omega)), fun _ => ?_⟩
            rw [nI_eq (by omega) (by omega)]
            refine ⟨fun q => m_based hV.1 (hM.fr hs) hj (fun s' g1 g2 g3 g4 => m_isMade g2 h4 g4 hV.1.p0 hV.1.p31 ?_), fun q => ?_⟩
            · rw [madeF_cg g3, show s'.1 (0 + 2) (0 : Int32).toNatClampNeg = nI P from (hM.fr (hs.tr g1)).1.1]
              refine ⟨fun q2 => ?_, fun q2 => ?_⟩
              · rintro _ rfl
                rw [nI_1]
                exact next s' (hs.tr g1) (by rw [hQ, q2]; simp)
              · have k := k s' (hs.tr g1)
                rw [hf, ← Nat.add_assoc, findI, if_pos (by rw [hQ, q2]; simp [q])] at k
                show post (nI P * nI x + nI y) s'
                rw [pk_mul, nI_add]
                exact k
            · rintro _ rfl
              rw [nI_1]
              exact next s hs (by rw [hQ]; simp [q])
        exact ⟨P + 1, hI P 0 s (by omega) hs (by rw [hf]; rfl)⟩
    refine ⟨P + 1, hO P 0 _ (by omega) hF ?_⟩
    rw [Nat.mul_zero]
    rfl
  · rw [if_neg (by rw [q]; decide)] at k; exact k _ hF
theorem S_seek (hR : Rel σ τ) (a : Int32) : wX10_seek 0 a σ (fun r u => wX11_seek 0 a τ (fun r2 v => r = r2 ∧ Rel u v)) := by
  obtain ⟨t, P, tn, bn, nn, lg, tof, tv, bv, L, tp, nw, sz, old, ac, kb, kn, hV, hX, hM⟩ := id hR
  exact C_seek hV hX (fun u hu => M_seek hV hM (fun v hv => ⟨rfl, t, P, tn, bn, nn, lg, tof, tv, bv, L, tp, nw, sz, old, ac, kb, kn, hV, hu, hM.fr hv⟩))
end SK
