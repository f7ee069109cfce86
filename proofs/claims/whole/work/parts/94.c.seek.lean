/-! seek -/
theorem cg_add {P a b c d : Int} (h1 : a % P = b % P) (h2 : c % P = d % P) : (a + c) % P = (b + d) % P := by rw [Int.add_emod, h1, h2, ← Int.add_emod]
theorem cg_mul {P a b c d : Int} (h1 : a % P = b % P) (h2 : c % P = d % P) : (a * c) % P = (b * d) % P := by rw [Int.mul_emod, h1, h2, ← Int.mul_emod]
theorem cg_md {P : Nat} {x : Int32} (h0 : 0 < P) (hP : P < 2 ^ 31) : (md x P).toInt % (P : Int) = x.toInt % (P : Int) := by
  rw [md_toInt h0 hP, Int.emod_emod]
theorem lin_toInt {P : Nat} {a u b v : Int32} (hP : P ≤ 97) (ha : Sm P a) (hu : Sm P u) (hb : Sm P b) (hv : Sm P v) : (a * u + b * v).toInt = a.toInt * u.toInt + b.toInt * v.toInt := by
  obtain ⟨e1, e2, e3⟩ := mul_nn hP ha hu
  obtain ⟨f1, f2, f3⟩ := mul_nn hP hb hv
  rw [fb_addI (by omega) (by omega), e1, f1]
theorem bit_sub : ∀ i, i < 16 → ∀ l, l < 4 → i.testBit l = true → 2 ^ l ≤ i ∧ (i - 2 ^ l).testBit l = false := by decide +kernel
theorem bit_add : ∀ i, i < 16 → ∀ l, l < 4 → i.testBit l = false → (i + 2 ^ l).testBit l = true := by decide +kernel
def chW (leg : Nat) (a b c d : Int32) (p : Nat) (v : Nat → Int32) (i : Nat) : Int32 := if i.testBit leg then md (c * v (i - 2 ^ leg) + d * v i) p else md (a * v i + b * v (i + 2 ^ leg)) p
theorem chF_val {n leg p : Nat} {a b c d : Int32} {v : Nat → Int32} (h4 : n ≤ 4) (hl : leg < n) : ∀ m, m ≤ 2 ^ n → ∀ i, i < 2 ^ n → chF leg a b c d p v m i = (if (if i.testBit leg then i - 2 ^ leg else i) < m then chW leg a b c d p v i else v i) := by
  intro m
  induction m with
  | zero => intro _ i _; simp [chF]
  | succ m ih =>
    intro hm i hi
    have h16 := p2le h4
    have ih := ih (by omega)
    have p1 := Nat.two_pow_pos leg
    rw [chF, chS]
    by_cases qm : m.testBit leg = true
    · rw [if_pos qm, ih i hi]
      by_cases qi : i.testBit leg = true
      · simp only [qi, if_true]
        have := (bit_sub i (by omega) leg (by omega) qi).2
        have hne : i - 2 ^ leg ≠ m := fun e => by rw [e, qm] at this; exact absurd this (by decide)
        by_cases c1 : i - 2 ^ leg < m
        · rw [if_pos c1, if_pos (by omega)]
        · rw [if_neg c1, if_neg (by omega)]
      · simp only [qi]
        have hne : i ≠ m := fun e => qi (by rw [e]; exact qm)
        by_cases c1 : i < m
        · simp [c1, show i < m + 1 by omega]
        · simp [c1, show ¬ i < m + 1 by omega]
    · rw [if_neg qm]
      have qm' : m.testBit leg = false := by simpa using qm
      have hlt := add_lt n h4 m (by omega) leg hl qm'
      have qa := bit_add m (by omega) leg (by omega) qm'
      have em : chF leg a b c d p v m m = v m := by rw [ih m (by omega)]; simp [qm']
      have ea : chF leg a b c d p v m (m + 2 ^ leg) = v (m + 2 ^ leg) := by rw [ih _ hlt]; simp [qa]
      rw [em, ea]
      by_cases e1 : i = m + 2 ^ leg
      · subst e1
        rw [pk_us]
        unfold chW
        simp [qa]
      · rw [pk_un e1]
        by_cases e2 : i = m
        · subst e2
          rw [pk_us]
          unfold chW
          simp [qm']
        · rw [pk_un e2, ih i hi]
          by_cases qi : i.testBit leg = true
          · have := bit_sub i (by omega) leg (by omega) qi
            have hne : i - 2 ^ leg ≠ m := fun e => e1 (by omega)
            simp only [qi, if_true]
            by_cases c1 : i - 2 ^ leg < m
            · rw [if_pos c1, if_pos (by omega)]
            · rw [if_neg c1, if_neg (by omega)]
          · simp only [qi]
            by_cases c1 : i < m
            · simp [c1, show i < m + 1 by omega]
            · simp [c1, show ¬ i < m + 1 by omega]
theorem chF_all {n leg p : Nat} {a b c d : Int32} {v : Nat → Int32} (h4 : n ≤ 4) (hl : leg < n) {i : Nat} (hi : i < 2 ^ n) : chF leg a b c d p v (2 ^ n) i = chW leg a b c d p v i := by
  rw [chF_val h4 hl _ (Nat.le_refl _) i hi, if_pos]
  split
  · exact Nat.lt_of_le_of_lt (Nat.sub_le _ _) hi
  · exact hi
theorem chA_Sm {n P : Nat} {a b c d : Int32} {v : Nat → Int32} (h0 : 0 < P) (hP : P < 2 ^ 31) (h : ∀ j, j < 2 ^ n → Sm P (v j)) : ∀ l, ∀ j, j < 2 ^ n → Sm P (chA n a b c d P v l j)
  | 0, j, hj => h j hj
  | l + 1, j, hj => by
    rw [chA]
    exact chF_Sm h0 hP (chA_Sm h0 hP h l) _ (Nat.le_refl _) j hj
theorem cg_sub {P a b c d : Int} (h1 : a % P = b % P) (h2 : c % P = d % P) : (a - c) % P = (b - d) % P := by rw [Int.sub_emod, h1, h2, ← Int.sub_emod]
theorem bit_lo : ∀ l, l < 4 → ∀ i, i < 16 → i.testBit l = false → bc (i % 2 ^ (l + 1)) = bc (i % 2 ^ l) ∧ bc ((i + 2 ^ l) % 2 ^ l) = bc (i % 2 ^ l) := by decide +kernel
theorem bit_hi : ∀ l, l < 4 → ∀ i, i < 16 → i.testBit l = true → bc (i % 2 ^ (l + 1)) = bc (i % 2 ^ l) + 1 ∧ bc ((i - 2 ^ l) % 2 ^ l) = bc (i % 2 ^ l) := by decide +kernel
/-- a row C times as great: each value C times as great for each bit set -/
theorem chA_scale {n P : Nat} {X Y X' Y' : Int32} {C : Int} {v : Nat → Int32} (h4 : n ≤ 4) (h2 : 2 ≤ P) (h97 : P ≤ 97) (hX : Sm P X) (hY : Sm P Y) (hX' : Sm P X') (hY' : Sm P Y') (eX : X'.toInt % (P : Int) = (C * X.toInt) % (P : Int)) (eY : Y'.toInt % (P : Int) = (C * Y.toInt) % (P : Int)) (hv : ∀ j, j < 2 ^ n → Sm P (v j)) : ∀ l, l ≤ n → ∀ i, i < 2 ^ n → (chA n 1 1 X' Y' P v l i).toInt % (P : Int) = (C ^ bc (i % 2 ^ l) * (chA n 1 1 X Y P v l i).toInt) % (P : Int) := by
  intro l
  have h16 := p2le h4
  have s1 : Sm P (1 : Int32) := Sm_nI (k := 1) (by omega) (by omega)
  induction l with
  | zero =>
    intro _ i _
    rw [chA, chA, Nat.pow_zero, Nat.mod_one]
    show _ = (C ^ 0 * _) % _
    rw [Int.pow_zero, Int.one_mul]
  | succ l ih =>
    intro hl i hi
    have ih := ih (by omega)
    have S := chA_Sm (n := n) (P := P) (a := 1) (b := 1) (c := X) (d := Y) (v := v) (by omega) (by omega) hv l
    have S' := chA_Sm (n := n) (P := P) (a := 1) (b := 1) (c := X') (d := Y') (v := v) (by omega) (by omega) hv l
    rw [chA, chA, chF_all h4 (by omega) hi, chF_all h4 (by omega) hi]
    unfold chW
    by_cases q : i.testBit l = true
    · obtain ⟨b1, b2⟩ := bit_hi l (by omega) i (by omega) q
      have hlt : i - 2 ^ l < 2 ^ n := Nat.lt_of_le_of_lt (Nat.sub_le _ _) hi
      rw [if_pos q, if_pos q, cg_md (by omega) (by omega), lin_toInt h97 hX' (S' _ hlt) hY' (S' i hi), b1, cg_add (cg_mul eX (ih _ hlt)) (cg_mul eY (ih i hi)), b2]
      refine Eq.trans ?_ (cg_mul rfl (cg_md (by omega) (by omega))).symm
      rw [lin_toInt h97 hX (S _ hlt) hY (S i hi), Int.pow_succ, Int.mul_add]
      congr 2 <;> ac_rfl
    · have q' : i.testBit l = false := by simpa using q
      obtain ⟨b1, b2⟩ := bit_lo l (by omega) i (by omega) q'
      have hlt := add_lt n h4 i hi l (by omega) q'
      rw [if_neg q, if_neg q, cg_md (by omega) (by omega), lin_toInt h97 s1 (S' i hi) s1 (S' _ hlt), b1, show (1 : Int32).toInt = 1 from rfl, Int.one_mul, Int.one_mul, cg_add (ih i hi) (ih _ hlt), b2]
      refine Eq.trans ?_ (cg_mul rfl (cg_md (by omega) (by omega))).symm
      rw [lin_toInt h97 s1 (S i hi) s1 (S _ hlt), show (1 : Int32).toInt = 1 from rfl, Int.one_mul, Int.one_mul, Int.mul_add]
theorem evF_sub {u w : Nat → Int32} : ∀ m, (∀ i, i < m → u i = 0 → w i = 0) → evF w m = true → evF u m = true
  | 0, _, h => h
  | m + 1, hz, h => by
    rw [evF] at h ⊢
    simp only [Bool.or_eq_true, Bool.and_eq_true, decide_eq_true_eq] at h ⊢
    rcases h with h | ⟨h1, h2⟩
    · exact Or.inl (evF_sub m (fun i hi => hz i (by omega)) h)
    · exact Or.inr ⟨fun e => h1 (hz m (by omega) e), h2⟩
theorem odF_sub {u w : Nat → Int32} : ∀ m, (∀ i, i < m → u i = 0 → w i = 0) → odF w m = true → odF u m = true
  | 0, _, h => h
  | m + 1, hz, h => by
    rw [odF] at h ⊢
    simp only [Bool.or_eq_true, Bool.and_eq_true, decide_eq_true_eq] at h ⊢
    rcases h with h | ⟨h1, h2⟩
    · exact Or.inl (odF_sub m (fun i hi => hz i (by omega)) h)
    · exact Or.inr ⟨fun e => h1 (hz m (by omega) e), h2⟩
theorem par_sub {n : Nat} {u w : Nat → Int32} (hz : ∀ i, i < 2 ^ n → u i = 0 → w i = 0) (h : parF n u ≠ 3) : parF n w ≠ 3 := by
  intro e
  apply h
  have e1 := evF_sub (2 ^ n) hz
  have e2 := odF_sub (2 ^ n) hz
  unfold parF at e ⊢
  cases q1 : evF w (2 ^ n) <;> cases q2 : odF w (2 ^ n) <;> rw [q1, q2] at e
  · exact absurd e (by decide)
  · exact absurd e (by decide)
  · exact absurd e (by decide)
  · rw [e1 q1, e2 q2]; rfl
theorem md_z {P : Nat} {x : Int32} (h0 : 0 < P) (hP : P < 2 ^ 31) : md x P = 0 ↔ x.toInt % (P : Int) = 0 := by
  rw [← Int32.toInt_inj, md_toInt h0 hP]
  exact Iff.rfl
theorem four_toInt {P : Nat} {a b c d e f g h : Int32} (hP : P ≤ 97) (ha : Sm P a) (hb : Sm P b) (hc : Sm P c) (hd : Sm P d) (he : Sm P e) (hf : Sm P f) (hg : Sm P g) (hh : Sm P h) : (a * b - c * d + e * f - g * h).toInt = a.toInt * b.toInt - c.toInt * d.toInt + e.toInt * f.toInt - g.toInt * h.toInt := by
  obtain ⟨p1, p2, p3⟩ := mul_nn hP ha hb
  obtain ⟨q1, q2, q3⟩ := mul_nn hP hc hd
  obtain ⟨r1, r2, r3⟩ := mul_nn hP he hf
  obtain ⟨t1, t2, t3⟩ := mul_nn hP hg hh
  have e1 := fb_subI (x := a * b) (y := c * d) (by omega) (by omega)
  have e2 := fb_addI (x := a * b - c * d) (y := e * f) (by omega) (by omega)
  rw [fb_subI (by omega) (by omega), e2, e1, p1, q1, r1, t1]
theorem four_scale {P : Nat} {u w : Nat → Int32} {C : Int} (h2 : 2 ≤ P) (h97 : P ≤ 97) (su : ∀ j, j < 16 → Sm P (u j)) (sw : ∀ j, j < 16 → Sm P (w j)) (E : ∀ i, i < 16 → (w i).toInt % (P : Int) = (C ^ bc i * (u i).toInt) % (P : Int)) {a b c d e f g h : Nat} (ha : a < 16) (hb : b < 16) (hc : c < 16) (hd : d < 16) (he : e < 16) (hf : f < 16) (hg : g < 16) (hh : h < 16) (ab : bc a + bc b = 4) (cd : bc c + bc d = 4) (ef : bc e + bc f = 4) (gh : bc g + bc h = 4) (z : md (u a * u b - u c * u d + u e * u f - u g * u h) P = 0) : md (w a * w b - w c * w d + w e * w f - w g * w h) P = 0 := by
  rw [md_z (by omega) (by omega)] at z ⊢
  rw [four_toInt h97 (su a ha) (su b hb) (su c hc) (su d hd) (su e he) (su f hf) (su g hg) (su h hh)] at z
  rw [four_toInt h97 (sw a ha) (sw b hb) (sw c hc) (sw d hd) (sw e he) (sw f hf) (sw g hg) (sw h hh)]
  have pr : ∀ i j, i < 16 → j < 16 → bc i + bc j = 4 → ((w i).toInt * (w j).toInt) % (P : Int) = (C ^ 4 * ((u i).toInt * (u j).toInt)) % (P : Int) := by
    intro i j hi hj ij
    rw [cg_mul (E i hi) (E j hj), ← ij, Int.pow_add]
    congr 1
    ac_rfl
  rw [cg_sub (cg_add (cg_sub (pr a b ha hb ab) (pr c d hc hd cd)) (pr e f he hf ef)) (pr g h hg hh gh), ← Int.mul_sub, ← Int.mul_add, ← Int.mul_sub, Int.mul_emod, z, Int.mul_zero, Int.zero_emod]
theorem made_scale {n P : Nat} {X Y X' Y' : Int32} {C : Int} {v : Nat → Int32} (h4 : n ≤ 4) (h2 : 2 ≤ P) (h97 : P ≤ 97) (hX : Sm P X) (hY : Sm P Y) (hX' : Sm P X') (hY' : Sm P Y') (eX : X'.toInt % (P : Int) = (C * X.toInt) % (P : Int)) (eY : Y'.toInt % (P : Int) = (C * Y.toInt) % (P : Int)) (hv : ∀ j, j < 2 ^ n → Sm P (v j)) (h : madeF n (chA n 1 1 X Y P v n) P = true) : madeF n (chA n 1 1 X' Y' P v n) P = true := by
  have S := chA_Sm (n := n) (P := P) (a := 1) (b := 1) (c := X) (d := Y) (v := v) (by omega) (by omega) hv n
  have S' := chA_Sm (n := n) (P := P) (a := 1) (b := 1) (c := X') (d := Y') (v := v) (by omega) (by omega) hv n
  have E := chA_scale h4 h2 h97 hX hY hX' hY' eX eY hv n (Nat.le_refl n)
  unfold madeF at h ⊢
  simp only [Bool.and_eq_true, Bool.or_eq_true, decide_eq_true_eq] at h ⊢
  obtain ⟨h1, h3⟩ := h
  refine ⟨par_sub (fun i hi z => ?_) h1, ?_⟩
  · have e := E i hi
    rw [z, show (0 : Int32).toInt = 0 from rfl, Int.mul_zero, Int.zero_emod, Int.emod_eq_of_lt (S' i hi).1 (S' i hi).2] at e
    exact Int32.toInt_inj.mp e
  · by_cases q : n = 4
    · subst q
      refine Or.inr ?_
      rcases h3 with h3 | ⟨h3, h5⟩
      · exact absurd rfl h3
      · have E' : ∀ i, i < 16 → (chA 4 1 1 X' Y' P v 4 i).toInt % (P : Int) = (C ^ bc i * (chA 4 1 1 X Y P v 4 i).toInt) % (P : Int) := fun i hi => by
          have := E i hi
          rw [show i % 2 ^ 4 = i from Nat.mod_eq_of_lt hi] at this
          exact this
        have z1 : md (chA 4 1 1 X Y P v 4 0 * chA 4 1 1 X Y P v 4 15 - chA 4 1 1 X Y P v 4 3 * chA 4 1 1 X Y P v 4 12 + chA 4 1 1 X Y P v 4 5 * chA 4 1 1 X Y P v 4 10 - chA 4 1 1 X Y P v 4 6 * chA 4 1 1 X Y P v 4 9) P = 0 := h3
        have z2 : md (chA 4 1 1 X Y P v 4 1 * chA 4 1 1 X Y P v 4 14 - chA 4 1 1 X Y P v 4 2 * chA 4 1 1 X Y P v 4 13 + chA 4 1 1 X Y P v 4 4 * chA 4 1 1 X Y P v 4 11 - chA 4 1 1 X Y P v 4 8 * chA 4 1 1 X Y P v 4 7) P = 0 := h5
        exact ⟨four_scale h2 h97 S S' E' (by decide) (by decide) (by decide) (by decide) (by decide) (by decide) (by decide) (by decide) (by decide) (by decide) (by decide) (by decide) z1, four_scale h2 h97 S S' E' (by decide) (by decide) (by decide) (by decide) (by decide) (by decide) (by decide) (by decide) (by decide) (by decide) (by decide) (by decide) z2⟩
    · exact Or.inl q
/-- the same with numbers -/
theorem made_by {n P x y x' y' c : Nat} {v : Nat → Int32} (h4 : n ≤ 4) (h2 : 2 ≤ P) (h97 : P ≤ 97) (hx : x < P) (hy : y < P) (hx' : x' < P) (hy' : y' < P) (ex : c * x % P = x') (ey : c * y % P = y') (hv : ∀ j, j < 2 ^ n → Sm P (v j)) (h : madeF n (chA n 1 1 (nI x) (nI y) P v n) P = true) : madeF n (chA n 1 1 (nI x') (nI y') P v n) P = true := by
  have e : ∀ a b : Nat, a < P → b < P → c * a % P = b → (nI b).toInt % (P : Int) = ((c : Int) * (nI a).toInt) % (P : Int) := by
    intro a b ha hb e
    rw [nI_toInt (by omega), nI_toInt (by omega), ← e]
    simp
  exact made_scale (C := (c : Int)) h4 h2 h97 (Sm_nI hx (by omega)) (Sm_nI hy (by omega)) (Sm_nI hx' (by omega)) (Sm_nI hy' (by omega)) (e x x' hx hx' ex) (e y y' hy hy' ey) hv h
theorem findI_skip {Q : Nat → Bool} {r : Nat → Int32} {d : Int32} : ∀ {m a k : Nat}, (∀ i, i < m → Q (a + i) = false) → findI Q r d a (m + k) = findI Q r d (a + m) k
  | 0, a, k, _ => by rw [Nat.zero_add, Nat.add_zero]
  | m + 1, a, k, h => by
    have h0 : Q a = false := h 0 (by omega)
    rw [show m + 1 + k = (m + k) + 1 by omega, findI, h0]
    rw [if_neg (by decide), findI_skip (fun i hi => by rw [show a + 1 + i = a + (i + 1) by omega]; exact h (i + 1) (by omega)), show a + 1 + m = a + (m + 1) by omega]
theorem findI_two {Q Q1 : Nat → Bool} {r r1 : Nat → Int32} {d : Int32} {a k : Nat} : ∀ m y, (∀ i, i < m → Q (a + (y + i)) = Q1 (y + i) ∧ r (a + (y + i)) = r1 (y + i)) → ((∀ i, i < m → Q1 (y + i) = false) → findI Q r d (a + (y + m)) k = d) → findI Q r d (a + y) (m + k) = findI Q1 r1 d y m
  | 0, y, _, h => by
    have := h (fun i hi => absurd hi (Nat.not_lt_zero i))
    rw [Nat.zero_add]
    exact this
  | m + 1, y, e, h => by
    have e0 := e 0 (by omega)
    rw [show m + 1 + k = (m + k) + 1 by omega, findI, findI]
    have e1 : Q (a + y) = Q1 y := e0.1
    have e2 : r (a + y) = r1 y := e0.2
    rw [e1, e2]
    by_cases q : Q1 y = true
    · rw [if_pos q, if_pos q]
    · rw [if_neg q, if_neg q, show a + y + 1 = a + (y + 1) by omega]
      refine findI_two m (y + 1) (fun i hi => by rw [show y + 1 + i = y + (i + 1) by omega]; exact e (i + 1) (by omega)) (fun hn => ?_)
      rw [show a + (y + 1 + m) = a + (y + (m + 1)) by omega]
      refine h (fun i hi => ?_)
      match i, hi with
      | 0, _ => simpa using q
      | i + 1, hi => rw [show y + (i + 1) = y + 1 + i by omega]; exact hn i (by omega)
def seekM (n : Nat) (v : Nat → Int32) (P x y : Nat) : Bool := madeF n (chA n 1 1 (nI x) (nI y) P v n) P
/-- what the class looks through: (0, 1), then (1, y) -/
def seekC (n : Nat) (v : Nat → Int32) (P : Nat) : Int32 := if seekM n v P 0 1 then 1 else findI (fun y => !decide (y = 1) && seekM n v P 1 y) (fun y => nI (P + y)) (-2) 0 P
def seekQ (n : Nat) (v : Nat → Int32) (P : Nat) : Nat → Bool := fun q => !decide (q / P = q % P) && madeF n (chA n 1 1 (nI (q / P)) (nI (q % P)) P v n) P
theorem seekQ_at {n P x y : Nat} {v : Nat → Int32} (hy : y < P) : seekQ n v P (P * x + y) = (!decide (x = y) && madeF n (chA n 1 1 (nI x) (nI y) P v n) P) := by
  have e1 : (P * x + y) / P = x := by rw [Nat.mul_add_div (by omega), Nat.div_eq_of_lt hy, Nat.add_zero]
  have e2 : (P * x + y) % P = y := by rw [Nat.mul_add_mod, Nat.mod_eq_of_lt hy]
  unfold seekQ
  rw [e1, e2]
theorem seek_eq {n P : Nat} {v : Nat → Int32} (h4 : n ≤ 4) (h3 : 3 ≤ P) (h97 : P ≤ 97) (inv : ∀ x, 0 < x → x < P → ∃ y, 0 < y ∧ y < P ∧ x * y % P = 1) (hv : ∀ j, j < 2 ^ n → Sm P (v j)) : seekF n v P = seekC n v P := by
  show findI (seekQ n v P) nI (-2) 0 (P * P) = _
  unfold seekC
  have at_ : ∀ x y, y < P → seekQ n v P (P * x + y) = (!decide (x = y) && seekM n v P x y) := fun x y hy => seekQ_at hy
  by_cases q : seekM n v P 0 1 = true
  · rw [if_pos q]
    obtain ⟨k, hk⟩ : ∃ k, P * P = k + 1 + 1 := ⟨P * P - 2, by have := Nat.mul_le_mul h3 h3; omega⟩
    have e0 : seekQ n v P 0 = false := by have := at_ 0 0 (by omega); rw [Nat.mul_zero, Nat.zero_add] at this; rw [this]; rfl
    have e1 : seekQ n v P (0 + 1) = true := by have := at_ 0 1 (by omega); rw [Nat.mul_zero] at this; rw [this, q]; rfl
    rw [hk, findI, findI, e0, e1]
    rfl
  · rw [if_neg q]
    obtain ⟨m, rfl⟩ : ∃ m, P = m + 2 := ⟨P - 2, by omega⟩
    have e : (m + 2) * (m + 2) = (m + 2) + ((m + 2) + (m + 2) * m) := by rw [Nat.mul_add (m + 2) m 2]; omega
    rw [e, findI_skip (fun i hi => ?_)]
    · have h := findI_two (Q := seekQ n v (m + 2)) (Q1 := fun y => !decide (y = 1) && seekM n v (m + 2) 1 y) (r := nI) (r1 := fun y => nI (m + 2 + y)) (d := -2) (a := m + 2) (k := (m + 2) * m) (m + 2) 0 (fun i hi => ?_) (fun hn => ?_)
      · rw [Nat.add_zero] at h
        rw [Nat.zero_add]
        exact h
      · rw [Nat.zero_add]
        refine ⟨?_, rfl⟩
        have := at_ 1 i hi
        rw [Nat.mul_one] at this
        rw [this]
        by_cases c : i = 1
        · subst c; rfl
        · have c' : ¬ 1 = i := fun d => c d.symm
          simp [c, c']
      · rw [Nat.zero_add]
        have h := findI_skip (Q := seekQ n v (m + 2)) (r := nI) (d := -2) (m := (m + 2) * m) (a := m + 2 + (m + 2)) (k := 0) (fun i hi => ?_)
        · exact h.trans rfl
        · have x2 : (m + 2 + (m + 2) + i) / (m + 2) = i / (m + 2) + 2 := by
            rw [show m + 2 + (m + 2) + i = i + (m + 2) + (m + 2) by omega, Nat.add_div_right _ (by omega), Nat.add_div_right _ (by omega)]
          have xl : i / (m + 2) < m := Nat.div_lt_of_lt_mul hi
          have yl : (m + 2 + (m + 2) + i) % (m + 2) < m + 2 := Nat.mod_lt _ (by omega)
          have ed := Nat.div_add_mod (m + 2 + (m + 2) + i) (m + 2)
          rw [x2] at ed
          generalize (m + 2 + (m + 2) + i) % (m + 2) = y at yl ed
          generalize hx : i / (m + 2) + 2 = x at ed
          have hxP : x < m + 2 := by omega
          have hx2 : 2 ≤ x := by rw [← hx]; exact Nat.le_add_left 2 _
          rw [← ed, at_ x y yl]
          cases hM : seekM n v (m + 2) x y with
          | false => simp
          | true =>
            obtain ⟨c, c1, c2, c3⟩ := inv x (Nat.lt_of_lt_of_le (by decide) hx2) hxP
            rw [Nat.mul_comm] at c3
            have hM2 : seekM n v (m + 2) 1 (c * y % (m + 2)) = true := made_by h4 (by omega) h97 hxP yl (by omega) (Nat.mod_lt _ (by omega)) c3 rfl hv hM
            have hn1 := hn (c * y % (m + 2)) (Nat.mod_lt _ (by omega))
            rw [Nat.zero_add, hM2] at hn1
            have y1 : c * y % (m + 2) = 1 := by simpa using hn1
            have exy : x = y := by
              have a1 : (x * (c * y)) % (m + 2) = x := by rw [Nat.mul_mod, y1, Nat.mul_one, Nat.mod_mod, Nat.mod_eq_of_lt hxP]
              have a2 : (y * (c * x)) % (m + 2) = y := by rw [Nat.mul_mod, c3, Nat.mul_one, Nat.mod_mod, Nat.mod_eq_of_lt yl]
              have a3 : x * (c * y) = y * (c * x) := by ac_rfl
              rw [a3] at a1
              exact a1.symm.trans a2
            simp [exy]
    · rw [Nat.zero_add]
      have := at_ 0 i hi
      rw [Nat.mul_zero, Nat.zero_add] at this
      rw [this]
      cases hM : seekM n v (m + 2) 0 i with
      | false => simp
      | true =>
        by_cases i0 : i = 0
        · subst i0; rfl
        · obtain ⟨c, c1, c2, c3⟩ := inv i (by omega) hi
          rw [Nat.mul_comm] at c3
          exact absurd (made_by h4 (by omega) h97 (by omega) hi (by omega) (by omega) (by rw [Nat.mul_zero, Nat.zero_mod]) c3 hv hM) q
section SK
variable {t P tn bn nn : Nat} {lg tof : Nat → Nat} {tv bv : Nat → Nat → Int32} {L L' : Nat} {tp tp' : Nat → Int32} {nw nw' : NetT} {sz old sz' old' : Nat} {ac ac' : Nat → NetT} {kb kb' : Nat → Bool} {kn kn' : Nat → NetT} {σ τ σ' τ' : St} {nl : Nat → Nat} {w : NetT} {N j : Nat}
theorem c_row {X Y : Int32} {post : Bool → St → Prop} (hV : TabV P tn bn lg tv bv) (hT : TabX t P tn bn lg tv bv σ) (hj : j < tn) (k : ∀ s : St, (∀ o, o ≠ 313 → o ≠ 314 → o ≠ 315 → s.1 o = σ.1 o) → post (madeF (lg j) (chA (lg j) 1 1 X Y P (tv j) (lg j)) P) s) : wX10_isMadeByRow 0 (t + 1 + 20 + 2 * j) X Y σ post := by
  have h8 := hV.t8
  have ht : t = 2 ∨ t = 44 := hT.1
  unfold wX10_isMadeByRow
  simp only [Nat.zero_add]
  rintro _ rfl _ rfl _ rfl _ rfl
  have f : ∀ o, o ≠ 315 → (u1 (u1 (u1 (u1 σ 315 0 1) 315 1 1) 315 2 X) 315 3 Y).1 o = σ.1 o := fun o ho => by rw [u1_n ho, u1_n ho, u1_n ho, u1_n ho]
  have hT3 : TabX t P tn bn lg tv bv (u1 (u1 (u1 (u1 σ 315 0 1) 315 1 1) 315 2 X) 315 3 Y) := hT.fr h8 hV.b5 (fun o ho => f o (by omega))
  exact c_madeBy hV hT3 (by omega) (hT3.leg hj) (hV.l4 hj) (hT3.val hj) (by omega) (a := 1) (b := 1) (c := X) (d := Y) (by rw [u1_s, pk_un (by decide), u1_s, pk_un (by decide), u1_s, pk_un (by decide), u1_s, pk_us]) (by rw [u1_s, pk_un (by decide), u1_s, pk_un (by decide), u1_s, pk_us]) (by rw [u1_s, pk_un (by decide), u1_s, pk_us]) (by rw [u1_s, pk_us]) (fun s' s1 => k s' (fun o h1 h2 h3 => by rw [s1 o h1 h2, f o h3]))
def seekA (P tn : Nat) (lg : Nat → Nat) (tv : Nat → Nat → Int32) (a : Int32) : Int32 := if ixB a tn then seekF (lg a.toNatClampNeg) (tv a.toNatClampNeg) P else -1
theorem C_seek {a : Int32} {post : Int32 → St → Prop} (hV : RV P tn bn nn lg tof tv bv L tp nw sz old ac kb kn) (hX : RX t P tn bn nn lg tof tv bv L tp nw sz old ac kb kn σ) (k : ∀ u, RX t P tn bn nn lg tof tv bv L tp nw sz old ac kb kn u → post (seekA P tn lg tv a) u) : wX10_seek 0 a σ post := by
  unfold wX10_seek
  unfold seekA at k
  refine c_isTable hX.1 hV.1.t8 ⟨fun q => ?_, fun q => ?_⟩
  · rw [if_pos q] at k
    refine c_tab hV.1 hX.1 q (fun j hj e1 e2 h4 i1 i2 => ?_)
    have ht : t = 2 ∨ t = 44 := hX.1.1
    have h97 := hV.1.1.2.1
    have h3 := hV.1.1.1
    rw [e2, seek_eq h4 h3 h97 hV.1.1.2.2 (hV.1.2.2.2.1 j hj).2.2] at k
    rintro _ rfl
    rw [hX.1.p, e2]
    have loop : ∀ m y (s : St), y + m = P → RX t P tn bn nn lg tof tv bv L tp nw sz old ac kb kn s → seekC (lg j) (tv j) P = findI (fun y => !decide (y = 1) && seekM (lg j) (tv j) P 1 y) (fun y => nI (P + y)) (-2) y m → wX10_seek_34 post (m + 1) 0 (t + 1 + 20 + 2 * j) (nI y) s := by
      intro m
      induction m with
      | zero =>
        rintro y s e hs hf
        unfold wX10_seek_34
        rintro _ rfl
        rw [hs.1.p, hs.1.pr]
        refine ⟨kX_t ht, fun _ => ?_, fun q => absurd (nI_le (by omega) (by omega)) q⟩
        have k := k s hs
        rw [hf] at k
        exact k
      | succ m ih =>
        rintro y s e hs hf
        unfold wX10_seek_34
        rintro _ rfl
        rw [hs.1.p, hs.1.pr]
        have y1 : nI y = (1 : Int32) ↔ y = 1 := nI_eq (a := y) (b := 1) (by omega) (by omega)
        refine ⟨kX_t ht, fun q => absurd q (nI_ge (by omega) (by omega)), fun _ => ⟨fun q => ?_, fun q => c_row hV.1 hs.1 hj (fun s' f => ⟨fun q2 => ?_, fun q2 => ?_⟩)⟩⟩
        · rintro _ rfl
          rw [nI_1]
          refine ih (y + 1) s (by omega) hs ?_
          rw [hf, findI, if_neg (by simp [y1.mp q])]
        · rintro _ rfl
          rw [nI_1]
          refine ih (y + 1) s' (by omega) (hs.fr hV (fun o ho => f o (by omega) (by omega) (by omega))) ?_
          have q2 : seekM (lg j) (tv j) P 1 y = false := q2
          rw [hf, findI, if_neg (by simp [q2])]
        · rintro _ rfl
          have hs' := hs.fr (σ' := s') hV (fun o ho => f o (by omega) (by omega) (by omega))
          rw [hs'.1.p, hs'.1.pr, nI_add]
          have q2 : seekM (lg j) (tv j) P 1 y = true := q2
          have q1 : ¬ y = 1 := fun d => q (y1.mpr d)
          have k := k s' hs'
          rw [hf, findI, if_pos (by simp [q1, q2])] at k
          exact ⟨kX_t ht, k⟩
    refine ⟨kX_t ht, i1, c_row hV.1 hX.1 hj (fun s f => ⟨fun q2 => ?_, fun q2 => ?_⟩)⟩
    · have hs := hX.fr (σ' := s) hV (fun o ho => f o (by omega) (by omega) (by omega))
      have q2 : seekM (lg j) (tv j) P 0 1 = false := q2
      refine ⟨P + 1, loop P 0 s (by omega) hs ?_⟩
      unfold seekC
      rw [if_neg (by rw [q2]; decide)]
    · have hs := hX.fr (σ' := s) hV (fun o ho => f o (by omega) (by omega) (by omega))
      have q2 : seekM (lg j) (tv j) P 0 1 = true := q2
      have k := k s hs
      unfold seekC at k
      rw [if_pos q2] at k
      exact k
  · rw [if_neg (by rw [q]; decide)] at k; exact k σ hX
theorem M_seek {a : Int32} {post : Int32 → St → Prop} (hV : RV P tn bn nn lg tof tv bv L tp nw sz old ac kb kn) (hM : RM P tn bn nn lg tof tv bv L tp nw sz ac kb kn τ) (k : ∀ v, FM τ v → post (seekA P tn lg tv a) v) : wX11_seek 0 a τ post := by
  have hF : FM τ (u1 τ 0 0 0) := FM.u0 (by decide)
  have h97 := hV.1.1.2.1
  unfold wX11_seek
  unfold seekA at k
  rintro _ rfl
  refine m_isTable (hM.fr hF).1 hV.1.t8 ⟨fun q => ?_, fun q => ?_⟩
  · rw [if_pos q] at k
    refine m_tab hV.1 q (fun j hj e1 e2 h4 i2 => ?_)
    subst e1
    rw [e2] at k
    have hO : ∀ m x (s : St), x + m = P → FM τ s → seekF (lg j) (tv j) P = findI (seekQ (lg j) (tv j) P) nI (-2) (P * x) (P * m) → wX11_seek_17 post (m + 1) 0 (nI j) (nI x) s := by
      intro m
      induction m with
      | zero =>
        rintro x s e hs hf
        unfold wX11_seek_17 wX11_p
        rw [show s.1 (0 + 2) (0 : Int32).toNatClampNeg = nI P from (hM.fr hs).1.1]
        refine ⟨fun _ => ?_, fun q => absurd (nI_le (by omega) (by omega)) q⟩
        have k := k s hs
        rw [hf] at k
        exact k
      | succ m ih =>
        rintro x s e hs hf
        unfold wX11_seek_17 wX11_p
        rw [show s.1 (0 + 2) (0 : Int32).toNatClampNeg = nI P from (hM.fr hs).1.1]
        refine ⟨fun q => absurd q (nI_ge (by omega) (by omega)), fun _ => ?_⟩
        have hI : ∀ n y (s : St), y + n = P → FM τ s → seekF (lg j) (tv j) P = findI (seekQ (lg j) (tv j) P) nI (-2) (P * x + y) (P * m + n) → wX11_seek_27 post (wX11_seek_17 post (m + 1)) (n + 1) 0 (nI j) (nI x) (nI y) s := by
          intro n
          induction n with
          | zero =>
            rintro y s e2 hs hf
            unfold wX11_seek_27 wX11_p
            rw [show s.1 (0 + 2) (0 : Int32).toNatClampNeg = nI P from (hM.fr hs).1.1]
            refine ⟨fun _ => ?_, fun q => absurd (nI_le (by omega) (by omega)) q⟩
            rintro _ rfl
            rw [nI_1]
            refine ih (x + 1) s (by omega) hs ?_
            rw [hf, show y = P by omega]
            rfl
          | succ n ih2 =>
            rintro y s e2 hs hf
            have hy : y < P := by omega
            have hQ := seekQ_at (n := lg j) (v := tv j) (x := x) hy
            have next : ∀ s : St, FM τ s → seekQ (lg j) (tv j) P (P * x + y) = false → wX11_seek_27 post (wX11_seek_17 post (m + 1)) (n + 1) 0 (nI j) (nI x) (nI (y + 1)) s := fun s hs hq => by
              refine ih2 (y + 1) s (by omega) hs ?_
              rw [hf, ← Nat.add_assoc, findI, if_neg (by rw [hq]; decide)]
              rfl
            unfold wX11_seek_27 wX11_p
            rw [show s.1 (0 + 2) (0 : Int32).toNatClampNeg = nI P from (hM.fr hs).1.1]
            refine ⟨fun q => absurd q (nI_ge (by omega) (by omega)), fun _ => ?_⟩
            rw [nI_eq (by omega) (by omega)]
            refine ⟨fun q => m_based hV.1 (hM.fr hs) hj (fun s' g1 g2 g3 g4 => m_isMade g2 h4 g4 hV.1.p0 hV.1.p31 ?_), fun q => ?_⟩
            · rw [madeF_cg g3, show s'.1 (0 + 2) (0 : Int32).toNatClampNeg = nI P from (hM.fr (hs.tr g1)).1.1]
              refine ⟨fun q2 => ?_, fun q2 => ?_⟩
              · rintro _ rfl
                rw [nI_1]
                exact next s' (hs.tr g1) (by rw [hQ, q2]; simp)
              · have k := k s' (hs.tr g1)
                rw [hf, ← Nat.add_assoc, findI, if_pos (by rw [hQ, q2]; simp [q])] at k
                show post (nI P * nI x + nI y) s'
                rw [pk_mul, nI_add]
                exact k
            · rintro _ rfl
              rw [nI_1]
              exact next s hs (by rw [hQ]; simp [q])
        exact ⟨P + 1, hI P 0 s (by omega) hs (by rw [hf]; rfl)⟩
    refine ⟨P + 1, hO P 0 _ (by omega) hF ?_⟩
    rw [Nat.mul_zero]
    rfl
  · rw [if_neg (by rw [q]; decide)] at k; exact k _ hF
theorem S_seek (hR : Rel σ τ) (a : Int32) : wX10_seek 0 a σ (fun r u => wX11_seek 0 a τ (fun r2 v => r = r2 ∧ Rel u v)) := by
  obtain ⟨t, P, tn, bn, nn, lg, tof, tv, bv, L, tp, nw, sz, old, ac, kb, kn, hV, hX, hM⟩ := id hR
  exact C_seek hV hX (fun u hu => M_seek hV hM (fun v hv => ⟨rfl, t, P, tn, bn, nn, lg, tof, tv, bv, L, tp, nw, sz, old, ac, kb, kn, hV, hu, hM.fr hv⟩))
end SK
