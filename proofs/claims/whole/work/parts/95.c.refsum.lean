/-! the reference goes through the settings -/
def mtB (st : Nat → Int32) (n k : Nat) : Nat → Bool
  | 0 => true
  | l + 1 => mtB st n k l && (decide (st (4 * n + l) = 2) || decide (st (4 * n + l) = nI (k.testBit l).toNat))
def vsF (st : Nat → Int32) (n m : Nat) (v : Nat → Int32) : Nat → Int32
  | 0 => 0
  | k + 1 => vsF st n m v k + (if mtB st n k m then v k else 0)
theorem vsF_toInt {st : Nat → Int32} {n m P : Nat} {v : Nat → Int32} (h4 : m ≤ 4) (h97 : P ≤ 97) (hs : ∀ i, i < 2 ^ m → Sm P (v i)) : ∀ k, k ≤ 2 ^ m → (vsF st n m v k).toInt = fb_si (fun k => if mtB st n k m then (v k).toInt else 0) k ∧ 0 ≤ (vsF st n m v k).toInt ∧ (vsF st n m v k).toInt ≤ k * 97 := by
  have h16 := p2le h4
  intro k
  induction k with
  | zero => intro _; exact ⟨rfl, Int.le_refl _, Int.le_refl _⟩
  | succ k ih =>
    intro hk
    obtain ⟨i1, i2, i3⟩ := ih (by omega)
    obtain ⟨s1, s2⟩ := hs k (by omega)
    rw [vsF, fb_si_succ]
    by_cases c : mtB st n k m = true
    · rw [if_pos c, if_pos c, fb_addI (by omega) (by omega), i1]
      rw [i1] at i2 i3
      exact ⟨rfl, by omega, by omega⟩
    · rw [if_neg c, if_neg c, Int32.add_zero, Int.add_zero]
      exact ⟨i1, i2, by omega⟩
theorem mtB_iff {st : Nat → Int32} {n k : Nat} : ∀ {m : Nat}, mtB st n k m = true ↔ ∀ l, l < m → st (4 * n + l) = 2 ∨ st (4 * n + l) = nI (k.testBit l).toNat
  | 0 => by simp [mtB]
  | m + 1 => by
    rw [mtB, Bool.and_eq_true, mtB_iff]
    simp only [Bool.or_eq_true, decide_eq_true_eq]
    constructor
    · rintro ⟨h1, h2⟩ l hl
      by_cases e : l = m
      · subst e; exact h2
      · exact h1 l (by omega)
    · intro h
      exact ⟨fun l hl => h l (by omega), h m (by omega)⟩
theorem b2_ne (b : Bool) : nI b.toNat ≠ (2 : Int32) := by cases b <;> decide
theorem b2_inj (b c : Bool) : nI b.toNat = nI c.toNat ↔ b = c := by cases b <;> cases c <;> decide
/-- all legs set: one value -/
theorem vs_one {st : Nat → Int32} {n m P : Nat} {v : Nat → Int32} {f : Nat → Bool} (h4 : m ≤ 4) (h97 : P ≤ 97) (hs : ∀ i, i < 2 ^ m → Sm P (v i)) (hst : ∀ l, l < m → st (4 * n + l) = nI (f (4 * n + l)).toNat) : md (vsF st n m v (2 ^ m)) P = v (ixF f n m) := by
  have h16 := p2le h4
  have hx := ixF_lt f n m
  have e1 := (vsF_toInt (st := st) (n := n) h4 h97 hs _ (Nat.le_refl _)).1
  have e2 : fb_si (fun k => if mtB st n k m then (v k).toInt else 0) (2 ^ m) = fb_si (fun k => if ixF f n m = k then (fun k => (v k).toInt) k else 0) (2 ^ m) := fb_si_cong (fun k hk => by
    have : mtB st n k m = true ↔ ixF f n m = k := by
      rw [mtB_iff]
      constructor
      · intro h
        refine (ixF_ext hk (fun l hl => ?_)).symm
        rcases h l hl with c | c
        · rw [hst l hl] at c; exact absurd c (b2_ne _)
        · rw [hst l hl] at c
          exact ((b2_inj _ _).mp c).symm
      · rintro rfl l hl
        refine Or.inr ?_
        rw [hst l hl, ixF_bit]
        simp [hl]
    by_cases c : ixF f n m = k
    · rw [if_pos c, if_pos (this.mpr c)]
    · rw [if_neg c, if_neg (fun q => c (this.mp q))])
  rw [e2, si_one, if_pos hx] at e1
  have e3 : vsF st n m v (2 ^ m) = v (ixF f n m) := Int32.toInt_inj.mp e1
  rw [e3]
  exact md_same (hs _ hx)
section RS
variable {t P tn bn nn : Nat} {lg tof : Nat → Nat} {tv bv : Nat → Nat → Int32} {L L' : Nat} {tp tp' : Nat → Int32} {nw nw' : NetT} {sz old sz' old' : Nat} {ac ac' : Nat → NetT} {kb kb' : Nat → Bool} {kn kn' : Nat → NetT} {σ τ σ' τ' : St} {nl : Nat → Nat} {w : NetT} {N j : Nat}
theorem m_valueOf {n : Nat} {post : Int32 → St → Prop} (hV : RV P tn bn nn lg tof tv bv L tp nw sz old ac kb kn) (hM : RM P tn bn nn lg tof tv bv L tp nw sz ac kb kn τ) (hn : n < nn) (k : post (md (vsF (τ.1 23) n (lg (tof n)) (nw.2.2 n) (2 ^ lg (tof n))) P) τ) : wX11_valueOf 0 (nI n) τ post := by
  have hn6 := hV.2.1.1
  have h4 : lg (tof n) ≤ 4 := hV.hl n hn
  have h16 := p2le h4
  have h97 := hV.1.1.2.1
  have hsm := hV.2.2.2.1.2.2.2 n hn
  unfold wX11_valueOf
  refine loop_0 (fun x i (_ : Unit) => wX11_valueOf_4 post x 0 (nI n) (vsF (τ.1 23) n (lg (tof n)) (nw.2.2 n) i) (nI i) τ) (fun _ _ => True) (2 ^ lg (tof n)) () trivial ?_ ?_
  · rintro x _ _
    unfold wX11_valueOf_4 wX11_p
    refine m_legsAt hV.2.1 hV.1 hM.2.1 hM.1 hn ?_
    rw [sh1 _ (by omega), show τ.1 (0 + 2) (0 : Int32).toNatClampNeg = nI P from hM.1.1]
    refine ⟨fun _ => ⟨nI_ne0 hV.1.p0 hV.1.p31, ?_⟩, fun q => absurd (nI_le (Nat.le_refl _) (by omega)) q⟩
    rw [rem_md hV.1.p0 hV.1.p31 (vsF_toInt h4 h97 hsm _ (Nat.le_refl _)).2.1]
    exact k
  · rintro x i _ hi _ ih
    have ih := ih () trivial
    rw [vsF] at ih
    unfold wX11_valueOf_4
    refine m_legsAt hV.2.1 hV.1 hM.2.1 hM.1 hn ?_
    rw [sh1 _ (by omega)]
    refine ⟨fun q => absurd q (nI_ge hi (by omega)), fun _ => ?_⟩
    refine loop_0 (fun y l (_ : Unit) => wX11_valueOf_21 post (wX11_valueOf_4 post x) y 0 (nI n) (vsF (τ.1 23) n (lg (tof n)) (nw.2.2 n) i) (nI i) (b2i (mtB (τ.1 23) n i l)) (nI l) τ) (fun _ _ => True) (lg (tof n)) () trivial ?_ ?_
    · rintro y _ _
      unfold wX11_valueOf_21 wX11_valueOf_103
      refine m_legsAt hV.2.1 hV.1 hM.2.1 hM.1 hn ?_
      rw [nI_1, b2i_0]
      refine ⟨fun _ => ⟨fun q => ?_, fun q => ?_⟩, fun q => absurd (nI_le (Nat.le_refl _) (by omega)) q⟩
      · rintro _ rfl _ rfl
        rw [if_neg (by rw [q]; decide)] at ih
        exact ih
      · rw [show (16 : Int32) = nI 16 from rfl, pk_mul, nI_add]
        rintro _ rfl
        refine ⟨vp_in_nI (by omega) (by decide), ?_⟩
        rw [nI_clamp (by omega), show τ.1 (0 + 16) (16 * n + i) = nw.2.2 n i from hM.2.2.2.1.2.2 n hn i hi]
        rintro _ rfl _ rfl
        rw [if_pos (by simpa using q)] at ih
        exact ih
    · rintro y l _ hl _ ih2
      have ih2 := ih2 () trivial
      rw [mtB] at ih2
      unfold wX11_valueOf_21 wX11_valueOf_68 wX11_valueOf_73
      refine m_legsAt hV.2.1 hV.1 hM.2.1 hM.1 hn ⟨fun q => absurd q (nI_ge hl (by omega)), fun _ => ?_⟩
      simp only [Nat.zero_add]
      rw [show (4 : Int32) = nI 4 from rfl, pk_mul, nI_add, nI_1, sr_bit (by omega) (by omega)]
      rintro _ rfl
      refine ⟨vp_in_nI (by omega) (by decide), ?_⟩
      rw [nI_clamp (by omega)]
      have a1 : ∀ b : Bool, b2i b &&& 1 = b2i b := by decide
      have a0 : ∀ b : Bool, b2i b &&& 0 = b2i false := by decide
      refine ⟨fun q => ?_, fun q => ?_⟩
      · rintro _ rfl _ rfl
        rw [a1]
        rw [q] at ih2
        simp only [decide_true, Bool.true_or, Bool.and_true] at ih2
        exact ih2
      · rintro _ rfl
        rw [nI_clamp (by omega)]
        refine ⟨vp_in_nI (by omega) (by decide), fun q2 => ?_, fun q2 => ?_⟩
        · rintro _ rfl _ rfl
          rw [a0]
          simp only [q, q2, decide_false, Bool.or_false, Bool.and_false] at ih2
          exact ih2
        · rintro _ rfl _ rfl
          rw [a1]
          simp only [q2, decide_true, Bool.or_true, Bool.and_true] at ih2
          exact ih2
def vlM (P : Nat) (nl : Nat → Nat) (w : NetT) (st : Nat → Int32) (n : Nat) : Int32 := md (vsF st n (nl n) (w.2.2 n) (2 ^ nl n)) P
theorem m_product {some : Nat} {post : Int32 → St → Prop} (hV : RV P tn bn nn lg tof tv bv L tp nw sz old ac kb kn) (hM : RM P tn bn nn lg tof tv bv L tp nw sz ac kb kn τ) (hs : some < 2 ^ 31) (k : post (prF P some (vlM P (fun n => lg (tof n)) nw (τ.1 23)) nn) τ) : wX11_product 0 (nI some) τ post := by
  have hn6 := hV.2.1.1
  have h97 := hV.1.1.2.1
  have h3 := hV.1.1.1
  unfold wX11_product
  refine loop_0 (fun x i (_ : Unit) => wX11_product_4 post x 0 (nI some) (prF P some (vlM P (fun n => lg (tof n)) nw (τ.1 23)) i) (nI i) τ) (fun _ _ => True) nn () trivial ?_ ?_
  · rintro x _ _
    unfold wX11_product_4
    rw [show τ.1 (0 + 5) (0 : Int32).toNatClampNeg = nI nn from hM.2.1.1]
    exact ⟨fun _ => k, fun q => absurd (nI_le (Nat.le_refl _) (by omega)) q⟩
  · rintro x i _ hi _ ih
    have ih := ih () trivial
    rw [prF] at ih
    unfold wX11_product_4 wX11_product_39 wX11_p
    rw [show τ.1 (0 + 5) (0 : Int32).toNatClampNeg = nI nn from hM.2.1.1, sr_b1 hs (by omega), nI_1]
    refine ⟨fun q => absurd q (nI_ge hi (by omega)), fun _ => ⟨fun q => ?_, fun q => m_valueOf hV hM hi ?_⟩⟩
    · rintro _ rfl
      rw [if_neg q] at ih
      exact ih
    · rw [show τ.1 (0 + 2) (0 : Int32).toNatClampNeg = nI P from hM.1.1]
      refine ⟨nI_ne0 hV.1.p0 hV.1.p31, ?_⟩
      rintro _ rfl
      rw [if_pos q] at ih
      rw [rem_md hV.1.p0 hV.1.p31 (mul_nn h97 (prF_Sm (by omega) (by omega) i) (md_Sm hV.1.p0 hV.1.p31)).2.1]
      exact ih
def StM (w : NetT) (y : Nat) (st : Nat → Int32) : Prop := ∀ e, e < 2 * w.1 → st (w.2.1 e) = nI (y.testBit (e / 2)).toNat
theorem m_setsWires {y : Nat} {post : St → Prop} (hV : RV P tn bn nn lg tof tv bv L tp nw sz old ac kb kn) (hM : RM P tn bn nn lg tof tv bv L tp nw sz ac kb kn τ) (hy : y < 2 ^ 31) (k : ∀ s, (∀ o, o ≠ 23 → s.1 o = τ.1 o) → StM nw y (s.1 23) → (∀ x, wiB nw.2.1 (2 * nw.1) x = false → s.1 23 x = τ.1 23 x) → post s) : wX11_setsWires 0 (nI y) τ post := by
  have hn6 := hV.2.1.1
  have hw := hV.2.2.2.1.1
  have hd := hV.2.2.2.1.2.2.1
  unfold wX11_setsWires
  refine loop_0 (fun x i (s : St) => wX11_setsWires_2 post x 0 (nI y) (nI i) s) (fun i s => (∀ o, o ≠ 23 → s.1 o = τ.1 o) ∧ (∀ e, e < 2 * i → s.1 23 (nw.2.1 e) = nI (y.testBit (e / 2)).toNat) ∧ (∀ x, (∀ e, e < 2 * i → nw.2.1 e ≠ x) → s.1 23 x = τ.1 23 x)) nw.1 τ ⟨fun _ _ => rfl, fun e he => by omega, fun _ _ => rfl⟩ ?_ ?_
  · rintro x s ⟨i1, i2, i3⟩
    unfold wX11_setsWires_2
    rw [show s.1 (0 + 16) (116 : Int32).toNatClampNeg = nI nw.1 from by rw [i1 _ (by decide)]; exact hM.2.2.2.1.1]
    exact ⟨fun _ => k s i1 i2 (fun x hx => i3 x (wiB_no.mp hx)), fun q => absurd (nI_le (Nat.le_refl _) (by omega)) q⟩
  · rintro x i s hi ⟨i1, i2, i3⟩ ih
    have l1 := hV.2.2.2.1.lt hn6 (e := 2 * i) (by omega)
    have l2 := hV.2.2.2.1.lt hn6 (e := 2 * i + 1) (by omega)
    unfold wX11_setsWires_2
    rw [show s.1 (0 + 16) (116 : Int32).toNatClampNeg = nI nw.1 from by rw [i1 _ (by decide)]; exact hM.2.2.2.1.1]
    refine ⟨fun q => absurd q (nI_ge hi (by omega)), fun _ => ?_⟩
    rw [show (96 : Int32) = nI 96 from rfl, show (2 : Int32) = nI 2 from rfl, pk_mul, nI_add, nI_1, sr_bit hy (by omega)]
    rintro _ rfl
    refine ⟨vp_in_nI (by omega) (by decide), ?_⟩
    rw [nI_clamp (by omega), show s.1 (0 + 16) (96 + 2 * i) = nI (nw.2.1 (2 * i)) from by rw [i1 _ (by decide)]; exact hM.2.2.2.1.2.1 _ (by omega)]
    refine ⟨vp_in_nI (by omega) (by decide), ?_⟩
    rintro _ rfl _ rfl
    refine ⟨vp_in_nI (by omega) (by decide), ?_⟩
    rw [nI_clamp (by omega), nI_clamp (by omega), u1_n (o' := 0 + 16) (by decide), show s.1 (0 + 16) (96 + 2 * i + 1) = nI (nw.2.1 (2 * i + 1)) from by rw [i1 _ (by decide), Nat.add_assoc]; exact hM.2.2.2.1.2.1 _ (by omega)]
    refine ⟨vp_in_nI (by omega) (by decide), ?_⟩
    rintro _ rfl _ rfl
    rw [nI_clamp (by omega), nI_1]
    simp only [Nat.zero_add]
    refine ih _ ⟨fun o ho => by rw [u1_n ho, u1_n ho, i1 o ho], fun e he => ?_, fun x hx => ?_⟩
    · rw [u1_s, u1_s]
      by_cases c1 : e = 2 * i + 1
      · rw [c1, pk_us, show (2 * i + 1) / 2 = i by omega]
      · rw [pk_un (hd e (2 * i + 1) (by omega) (by omega))]
        by_cases c2 : e = 2 * i
        · rw [c2, pk_us, show 2 * i / 2 = i by omega]
        · rw [pk_un (hd e (2 * i) (by omega) (by omega))]
          exact i2 e (by omega)
    · rw [u1_s, u1_s, pk_un (fun e => hx (2 * i + 1) (by omega) e.symm), pk_un (fun e => hx (2 * i) (by omega) e.symm)]
      exact i3 x (fun e he => hx e (by omega))
theorem all_nI {n : Nat} (h : n ≤ 6) : nI (2 ^ n) - (1 : Int32) = nI (2 ^ n - 1) := pk_sub (a := 2 ^ n) (b := 1) (Nat.two_pow_pos n)
theorem FM.r23 (h : ∀ o, o ≠ 23 → τ'.1 o = τ.1 o) : FM τ τ' := ⟨fun j _ => by rw [h 0 (by decide)], fun o h1 h2 => h o (by omega)⟩
/-- what holds of the set of legs ahead of the settings: open ones as told -/
def OpM (nn : Nat) (nl : Nat → Nat) (w : NetT) (o : Nat → Int32) (st : Nat → Int32) : Prop := ∀ x, x / 4 < nn → x % 4 < nl (x / 4) → wiB w.2.1 (2 * w.1) x = false → st x = o x
theorem m_summed {o : Nat → Int32} {V : Nat → Nat → Int32} {c : Int32} {post : Int32 → St → Prop} (hV : RV P tn bn nn lg tof tv bv L tp nw sz old ac kb kn) (hM : RM P tn bn nn lg tof tv bv L tp nw sz ac kb kn τ) (ho : OpM nn (fun n => lg (tof n)) nw o (τ.1 23)) (hval : ∀ y, y < 2 ^ nw.1 → ∀ st, StM nw y st → OpM nn (fun n => lg (tof n)) nw o st → ∀ n, n < nn → vlM P (fun n => lg (tof n)) nw st n = V y n) (k : ∀ s r, FM τ s → (c = 0 → Sm P r ∧ r.toInt = fb_si (fun y => (prF P (2 ^ nn - 1) (V y) nn).toInt) (2 ^ nw.1) % (P : Int)) → (c ≠ 0 → r.toInt = fb_si (fun y => if prF P (2 ^ nn - 1) (V y) nn = 0 then 0 else 1) (2 ^ nw.1)) → post r s) : wX11_summed 0 c τ post := by
  have hn6 := hV.2.1.1
  have h97 := hV.1.1.2.1
  have h3 := hV.1.1.1
  have hw := hV.2.2.2.1.1
  have h1024 := p2_10 hw
  have hall : 2 ^ nn - 1 < 2 ^ 31 := by
    have : 2 ^ nn ≤ 2 ^ 6 := Nat.pow_le_pow_right (by decide) hn6
    omega
  unfold wX11_summed
  refine loop_0 (fun x i (q : Int32 × St) => wX11_summed_4 post x 0 c q.1 (nI i) q.2) (fun i q => FM τ q.2 ∧ OpM nn (fun n => lg (tof n)) nw o (q.2.1 23) ∧ (c = 0 → Sm P q.1 ∧ q.1.toInt = fb_si (fun y => (prF P (2 ^ nn - 1) (V y) nn).toInt) i % (P : Int)) ∧ (c ≠ 0 → q.1.toInt = fb_si (fun y => if prF P (2 ^ nn - 1) (V y) nn = 0 then 0 else 1) i ∧ 0 ≤ q.1.toInt ∧ q.1.toInt ≤ i)) (2 ^ nw.1) (0, τ) ⟨FM.rf τ, ho, fun _ => ⟨Sm_nI (k := 0) (by omega) (by omega), by show (0 : Int) = 0 % _; rw [Int.zero_emod]⟩, fun _ => ⟨rfl, Int.le_refl _, Int.le_refl _⟩⟩ ?_ ?_
  · rintro x ⟨r, s⟩ ⟨i1, i2, i3, i4⟩
    unfold wX11_summed_4
    rw [show s.1 (0 + 16) (116 : Int32).toNatClampNeg = nI nw.1 from (hM.fr i1).2.2.2.1.1, sh1 _ (by omega)]
    exact ⟨fun _ => k s r i1 i3 (fun h => (i4 h).1), fun q => absurd (nI_le (Nat.le_refl _) (by omega)) q⟩
  · rintro x i ⟨r, s⟩ hi ⟨i1, i2, i3, i4⟩ ih
    have i1 : FM τ s := i1
    have i2 : OpM nn (fun n => lg (tof n)) nw o (s.1 23) := i2
    have i3 : c = 0 → Sm P r ∧ r.toInt = fb_si (fun y => (prF P (2 ^ nn - 1) (V y) nn).toInt) i % (P : Int) := i3
    have i4 : c ≠ 0 → r.toInt = fb_si (fun y => if prF P (2 ^ nn - 1) (V y) nn = 0 then 0 else 1) i ∧ 0 ≤ r.toInt ∧ r.toInt ≤ i := i4
    show wX11_summed_4 post (x + 1) 0 c r (nI i) s
    unfold wX11_summed_4
    rw [show s.1 (0 + 16) (116 : Int32).toNatClampNeg = nI nw.1 from (hM.fr i1).2.2.2.1.1, sh1 _ (by omega)]
    refine ⟨fun q => absurd q (nI_ge hi (by omega)), fun _ => m_setsWires hV (hM.fr i1) (by omega) (fun s1 f1 g1 g2 => ?_)⟩
    have hM1 := (hM.fr i1).fr (FM.r23 f1)
    have hop : OpM nn (fun n => lg (tof n)) nw o (s1.1 23) := fun z z1 z2 z3 => by rw [g2 z z3]; exact i2 z z1 z2 z3
    unfold wX11_allNodes
    rw [show s1.1 (0 + 5) (0 : Int32).toNatClampNeg = nI nn from hM1.2.1.1, sh1 _ (by omega), all_nI hn6]
    refine m_product hV hM1 hall ?_
    rw [prF_cg (fun n hn _ => hval i hi _ g1 hop n hn)]
    have sp : Sm P (prF P (2 ^ nn - 1) (V i) nn) := prF_Sm (by omega) (by omega) nn
    have F := i1.tr (FM.r23 f1)
    unfold wX11_p wX11_summed_60 wX11_summed_47 wX11_summed_60
    rw [show s1.1 (0 + 2) (0 : Int32).toNatClampNeg = nI P from hM1.1.1, nI_1]
    refine ⟨fun hc => ⟨nI_ne0 hV.1.p0 hV.1.p31, ?_⟩, fun hc => ⟨fun q => ?_, fun q => ?_⟩⟩
    · obtain ⟨⟨a1, a2⟩, a3⟩ := i3 hc
      obtain ⟨b1, b2⟩ := sp
      have e1 : (r + prF P (2 ^ nn - 1) (V i) nn).toInt = r.toInt + (prF P (2 ^ nn - 1) (V i) nn).toInt := fb_addI (by omega) (by omega)
      rw [rem_md hV.1.p0 hV.1.p31 (by omega)]
      rintro _ rfl
      refine ih (md (r + prF P (2 ^ nn - 1) (V i) nn) P, s1) ⟨F, hop, fun _ => ⟨md_Sm hV.1.p0 hV.1.p31, ?_⟩, fun h => absurd hc h⟩
      show (md (r + prF P (2 ^ nn - 1) (V i) nn) P).toInt = _
      rw [md_toInt hV.1.p0 hV.1.p31, e1, fb_si_succ]
      exact cg_add (by rw [a3, Int.emod_emod]) rfl
    · rintro _ rfl
      obtain ⟨a1, a2, a3⟩ := i4 hc
      have e1 : (r + 1).toInt = r.toInt + 1 := fb_addI (x := r) (y := 1) (by show _ ≤ _ + (1 : Int); omega) (by show _ + (1 : Int) < _; omega)
      refine ih (r + 1, s1) ⟨F, hop, fun h => absurd h hc, fun _ => ⟨?_, ?_, ?_⟩⟩
      · show (r + 1).toInt = _
        rw [e1, fb_si_succ, a1, if_neg q]
      · show 0 ≤ (r + 1).toInt
        omega
      · show (r + 1).toInt ≤ _
        omega
    · rintro _ rfl
      obtain ⟨a1, a2, a3⟩ := i4 hc
      refine ih (r + 0, s1) ⟨F, hop, fun h => absurd h hc, fun _ => ⟨?_, ?_, ?_⟩⟩
      · show (r + 0).toInt = _
        rw [Int32.add_zero, fb_si_succ, a1, if_pos q, Int.add_zero]
      · show 0 ≤ (r + 0).toInt
        rw [Int32.add_zero]; exact a2
      · show (r + 0).toInt ≤ _
        rw [Int32.add_zero]
        omega
end RS
