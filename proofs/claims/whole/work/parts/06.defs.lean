def wJ6_bitCount_0f7a4 (v0 : Int32) (σ : St) (post : Int32 → St → Prop) : Prop :=
  ∀ x1 : Int32, x1 = (v0 - (((v0.toUInt32 >>> ((1 : Int32).toUInt32 &&& Int32.toUInt32 31)).toInt32) &&& (1431655765 : Int32))) →
  ∀ x2 : Int32, x2 = ((x1 &&& (858993459 : Int32)) + (((x1.toUInt32 >>> ((2 : Int32).toUInt32 &&& Int32.toUInt32 31)).toInt32) &&& (858993459 : Int32))) →
  ∀ x3 : Int32, x3 = ((x2 + ((x2.toUInt32 >>> ((4 : Int32).toUInt32 &&& Int32.toUInt32 31)).toInt32)) &&& (252645135 : Int32)) →
  ∀ x4 : Int32, x4 = (x3 + ((x3.toUInt32 >>> ((8 : Int32).toUInt32 &&& Int32.toUInt32 31)).toInt32)) →
  ∀ x5 : Int32, x5 = (x4 + ((x4.toUInt32 >>> ((16 : Int32).toUInt32 &&& Int32.toUInt32 31)).toInt32)) →
  post (x5 &&& (63 : Int32)) σ

def wJ6_numberOfTrailingZeros_0f7a4_74 (post : Int32 → St → Prop) (v0 : Int32) (v1 : Int32) (σ : St) : Prop :=
  post (v1 + ((v0.toUInt32 >>> ((1 : Int32).toUInt32 &&& Int32.toUInt32 31)).toInt32)) σ
def wJ6_numberOfTrailingZeros_0f7a4_62 (post : Int32 → St → Prop) (v0 : Int32) (v1 : Int32) (σ : St) : Prop :=
  (v0 ≤ (4 : Int32) →
    wJ6_numberOfTrailingZeros_0f7a4_74 post v0 v1 σ
  ) ∧ (¬ v0 ≤ (4 : Int32) →
    ∀ x1 : Int32, x1 = v1 + (2 : Int32) →
    ∀ x2 : Int32, x2 = ((v0.toUInt32 >>> ((2 : Int32).toUInt32 &&& Int32.toUInt32 31)).toInt32) →
    wJ6_numberOfTrailingZeros_0f7a4_74 post x2 x1 σ)
def wJ6_numberOfTrailingZeros_0f7a4_49 (post : Int32 → St → Prop) (v0 : Int32) (v1 : Int32) (σ : St) : Prop :=
  (v0 ≤ (16 : Int32) →
    wJ6_numberOfTrailingZeros_0f7a4_62 post v0 v1 σ
  ) ∧ (¬ v0 ≤ (16 : Int32) →
    ∀ x1 : Int32, x1 = v1 + (4 : Int32) →
    ∀ x2 : Int32, x2 = ((v0.toUInt32 >>> ((4 : Int32).toUInt32 &&& Int32.toUInt32 31)).toInt32) →
    wJ6_numberOfTrailingZeros_0f7a4_62 post x2 x1 σ)
def wJ6_numberOfTrailingZeros_0f7a4_34 (post : Int32 → St → Prop) (v0 : Int32) (v1 : Int32) (σ : St) : Prop :=
  (v0 ≤ (256 : Int32) →
    wJ6_numberOfTrailingZeros_0f7a4_49 post v0 v1 σ
  ) ∧ (¬ v0 ≤ (256 : Int32) →
    ∀ x1 : Int32, x1 = v1 + (8 : Int32) →
    ∀ x2 : Int32, x2 = ((v0.toUInt32 >>> ((8 : Int32).toUInt32 &&& Int32.toUInt32 31)).toInt32) →
    wJ6_numberOfTrailingZeros_0f7a4_49 post x2 x1 σ)
def wJ6_numberOfTrailingZeros_0f7a4 (v0 : Int32) (σ : St) (post : Int32 → St → Prop) : Prop :=
  ∀ x1 : Int32, x1 = ((v0 ^^^ (-1 : Int32)) &&& (v0 - (1 : Int32))) →
  (0 < x1 →
    (x1 ≤ (65536 : Int32) →
      wJ6_numberOfTrailingZeros_0f7a4_34 post x1 (1 : Int32) σ
    ) ∧ (¬ x1 ≤ (65536 : Int32) →
      ∀ x2 : Int32, x2 = (1 : Int32) + (16 : Int32) →
      ∀ x3 : Int32, x3 = ((x1.toUInt32 >>> ((16 : Int32).toUInt32 &&& Int32.toUInt32 31)).toInt32) →
      wJ6_numberOfTrailingZeros_0f7a4_34 post x3 x2 σ)
  ) ∧ (¬ 0 < x1 →
    post (x1 &&& (32 : Int32)) σ)

def wJ9_floorMod_7cf53 (v0 : Int32) (v1 : Int32) (σ : St) (post : Int32 → St → Prop) : Prop :=
  (¬ v1 = 0) ∧
  ∀ x1 : Int32, x1 = (v0 - v0 / v1 * v1) →
  (0 ≤ (v0 ^^^ v1) →
    post x1 σ
  ) ∧ (¬ 0 ≤ (v0 ^^^ v1) →
    (x1 = 0 →
      post x1 σ
    ) ∧ (¬ x1 = 0 →
      post (x1 + v1) σ))

def wX10_mod (v0 : Int32) (v1 : Int32) (σ : St) (post : Int32 → St → Prop) : Prop :=
  (v1 ≤ 0 →
    post (0 : Int32) σ
  ) ∧ (¬ v1 ≤ 0 →
    wJ9_floorMod_7cf53 v0 v1 σ (fun r1 s1 =>
      post r1 s1))

def wX7_size (v0 : Nat) (σ : St) (post : Int32 → St → Prop) : Prop :=
  post ((1 : Int32) <<< ((σ.1 v0 0) &&& 31)) σ

def wX7_hasIndex (v0 : Nat) (v1 : Int32) (σ : St) (post : Bool → St → Prop) : Prop :=
  (v1 < 0 →
    post false σ
  ) ∧ (¬ v1 < 0 →
    wX7_size v0 σ (fun r1 s1 =>
      (r1 ≤ v1 →
        post false s1
      ) ∧ (¬ r1 ≤ v1 →
        post true s1)))

def wX7_copyFrom (v0 : Nat) (v1 : Nat) (σ : St) (post : St → Prop) : Prop :=
  ∀ s1 : St, s1 = u1 σ v0 0 (σ.1 v1 0) →
  ∀ s2 : St, s2 = r1 s1 (v0 + 1) (va_cpy (s1.1 (v1 + 1)) (s1.1 (v0 + 1)) (0 : Int32).toNatClampNeg (0 : Int32).toNatClampNeg (16 : Int32).toNatClampNeg) →
  post s2

def wX7_parityKind_68 (post : Int32 → St → Prop) (R6 : Nat → Int32 → Int32 → Int32 → St → Prop) (v0 : Nat) (v1 : Int32) (v3 : Int32) (t0 : Int32) (σ : St) : Prop :=
  ∀ x1 : Int32, x1 = v3 + (1 : Int32) →
  R6 v0 v1 t0 x1 σ
def wX7_parityKind_63 (post : Int32 → St → Prop) (R6 : Nat → Int32 → Int32 → Int32 → St → Prop) (v0 : Nat) (v1 : Int32) (v3 : Int32) (σ : St) : Prop :=
  wX7_parityKind_68 post R6 v0 v1 v3 (1 : Int32) σ
def wX7_parityKind_53 (post : Int32 → St → Prop) (R6 : Nat → Int32 → Int32 → Int32 → St → Prop) (v0 : Nat) (v2 : Int32) (v3 : Int32) (v4 : Int32) (t0 : Int32) (σ : St) : Prop :=
  (¬ v2 = 0 →
    wX7_parityKind_63 post R6 v0 t0 v3 σ
  ) ∧ (v2 = 0 →
    (¬ v4 = 0 →
      wX7_parityKind_68 post R6 v0 t0 v3 (0 : Int32) σ
    ) ∧ (v4 = 0 →
      wX7_parityKind_63 post R6 v0 t0 v3 σ))
def wX7_parityKind_48 (post : Int32 → St → Prop) (R6 : Nat → Int32 → Int32 → Int32 → St → Prop) (v0 : Nat) (v2 : Int32) (v3 : Int32) (v4 : Int32) (σ : St) : Prop :=
  wX7_parityKind_53 post R6 v0 v2 v3 v4 (1 : Int32) σ
def wX7_parityKind_37 (post : Int32 → St → Prop) (R6 : Nat → Int32 → Int32 → Int32 → St → Prop) (v0 : Nat) (v1 : Int32) (v2 : Int32) (v3 : Int32) (t0 : Int32) (σ : St) : Prop :=
  (¬ v1 = 0 →
    wX7_parityKind_48 post R6 v0 v2 v3 t0 σ
  ) ∧ (v1 = 0 →
    (t0 = 0 →
      wX7_parityKind_53 post R6 v0 v2 v3 t0 (0 : Int32) σ
    ) ∧ (¬ t0 = 0 →
      wX7_parityKind_48 post R6 v0 v2 v3 t0 σ))
def wX7_parityKind_6 (post : Int32 → St → Prop) : Nat → Nat → Int32 → Int32 → Int32 → St → Prop
  | 0 => fun _ _ _ _ _ => False
  | n + 1 => fun v0 v1 v2 v3 σ =>
    wX7_size v0 σ (fun r1 s1 =>
      (r1 ≤ v3 →
        (v1 = 0 →
          (v2 = 0 →
            post (2 : Int32) s1
          ) ∧ (¬ v2 = 0 →
            post (1 : Int32) s1)
        ) ∧ (¬ v1 = 0 →
          (v2 = 0 →
            post (0 : Int32) s1
          ) ∧ (¬ v2 = 0 →
            post (3 : Int32) s1))
      ) ∧ (¬ r1 ≤ v3 →
        vp_in v3 16 ∧
        ((s1.1 (v0 + 1) v3.toNatClampNeg) = 0 →
          ∀ x1 : Int32, x1 = v3 + (1 : Int32) →
          wX7_parityKind_6 post n v0 v1 v2 x1 s1
        ) ∧ (¬ (s1.1 (v0 + 1) v3.toNatClampNeg) = 0 →
          wJ6_bitCount_0f7a4 v3 s1 (fun r2 s2 =>
            (¬ (r2 - r2 / (2 : Int32) * (2 : Int32)) = 0 →
              wX7_parityKind_37 post (wX7_parityKind_6 post n) v0 v1 v2 v3 (0 : Int32) s2
            ) ∧ ((r2 - r2 / (2 : Int32) * (2 : Int32)) = 0 →
              wX7_parityKind_37 post (wX7_parityKind_6 post n) v0 v1 v2 v3 (1 : Int32) s2)))))
def wX7_parityKind (v0 : Nat) (σ : St) (post : Int32 → St → Prop) : Prop :=
  ∃ j, wX7_parityKind_6 post j v0 (0 : Int32) (0 : Int32) (0 : Int32) σ

def wX7_rule (v0 : Nat) (v1 : Int32) (v2 : Int32) (σ : St) (post : Int32 → St → Prop) : Prop :=
  (v1 = 0 →
    wX10_mod (((((σ.1 (v0 + 1) (0 : Int32).toNatClampNeg) * (σ.1 (v0 + 1) (15 : Int32).toNatClampNeg)) - ((σ.1 (v0 + 1) (3 : Int32).toNatClampNeg) * (σ.1 (v0 + 1) (12 : Int32).toNatClampNeg))) + ((σ.1 (v0 + 1) (5 : Int32).toNatClampNeg) * (σ.1 (v0 + 1) (10 : Int32).toNatClampNeg))) - ((σ.1 (v0 + 1) (6 : Int32).toNatClampNeg) * (σ.1 (v0 + 1) (9 : Int32).toNatClampNeg))) v2 σ (fun r1 s1 =>
      post r1 s1)
  ) ∧ (¬ v1 = 0 →
    wX10_mod (((((σ.1 (v0 + 1) (1 : Int32).toNatClampNeg) * (σ.1 (v0 + 1) (14 : Int32).toNatClampNeg)) - ((σ.1 (v0 + 1) (2 : Int32).toNatClampNeg) * (σ.1 (v0 + 1) (13 : Int32).toNatClampNeg))) + ((σ.1 (v0 + 1) (4 : Int32).toNatClampNeg) * (σ.1 (v0 + 1) (11 : Int32).toNatClampNeg))) - ((σ.1 (v0 + 1) (8 : Int32).toNatClampNeg) * (σ.1 (v0 + 1) (7 : Int32).toNatClampNeg))) v2 σ (fun r2 s2 =>
      post r2 s2))

def wX7_isMade (v0 : Nat) (v1 : Int32) (σ : St) (post : Bool → St → Prop) : Prop :=
  wX7_parityKind v0 σ (fun r1 s1 =>
    (¬ r1 = (3 : Int32) →
      (¬ (s1.1 v0 0) = (4 : Int32) →
        post true s1
      ) ∧ ((s1.1 v0 0) = (4 : Int32) →
        wX7_rule v0 (0 : Int32) v1 s1 (fun r2 s2 =>
          (¬ r2 = 0 →
            post false s2
          ) ∧ (r2 = 0 →
            wX7_rule v0 (1 : Int32) v1 s2 (fun r3 s3 =>
              (¬ r3 = 0 →
                post false s3
              ) ∧ (r3 = 0 →
                post true s3)))))
    ) ∧ (r1 = (3 : Int32) →
      post false s1))

def wX7_dependsOnBitCount_2 (post : Bool → St → Prop) : Nat → Nat → Int32 → St → Prop
  | 0 => fun _ _ _ => False
  | n + 1 => fun v0 v1 σ =>
    wX7_size v0 σ (fun r1 s1 =>
      (r1 ≤ v1 →
        post true s1
      ) ∧ (¬ r1 ≤ v1 →
        wJ6_bitCount_0f7a4 v1 s1 (fun r2 s2 =>
          ∀ x1 : Int32, x1 = (((1 : Int32) <<< (r2 &&& 31)) - (1 : Int32)) →
          vp_in v1 16 ∧
          vp_in x1 16 ∧
          ((s2.1 (v0 + 1) v1.toNatClampNeg) = (s2.1 (v0 + 1) x1.toNatClampNeg) →
            ∀ x2 : Int32, x2 = v1 + (1 : Int32) →
            wX7_dependsOnBitCount_2 post n v0 x2 s2
          ) ∧ (¬ (s2.1 (v0 + 1) v1.toNatClampNeg) = (s2.1 (v0 + 1) x1.toNatClampNeg) →
            post false s2))))
def wX7_dependsOnBitCount (v0 : Nat) (σ : St) (post : Bool → St → Prop) : Prop :=
  ∃ j, wX7_dependsOnBitCount_2 post j v0 (0 : Int32) σ

def wX7_isTimes_3 (post : Bool → St → Prop) : Nat → Nat → Int32 → Nat → Int32 → Int32 → St → Prop
  | 0 => fun _ _ _ _ _ _ => False
  | n + 1 => fun v0 v1 v2 v3 v4 σ =>
    wX7_size v0 σ (fun r1 s1 =>
      (r1 ≤ v4 →
        post true s1
      ) ∧ (¬ r1 ≤ v4 →
        vp_in v4 16 ∧
        vp_in v4 16 ∧
        wX10_mod (v1 * (s1.1 (v2 + 1) v4.toNatClampNeg)) v3 s1 (fun r2 s2 =>
          ((s1.1 (v0 + 1) v4.toNatClampNeg) = r2 →
            ∀ x1 : Int32, x1 = v4 + (1 : Int32) →
            wX7_isTimes_3 post n v0 v1 v2 v3 x1 s2
          ) ∧ (¬ (s1.1 (v0 + 1) v4.toNatClampNeg) = r2 →
            post false s2))))
def wX7_isTimes (v0 : Nat) (v1 : Int32) (v2 : Nat) (v3 : Int32) (σ : St) (post : Bool → St → Prop) : Prop :=
  ∃ j, wX7_isTimes_3 post j v0 v1 v2 v3 (0 : Int32) σ

def wX7_factorOver_15 (post : Int32 → St → Prop) : Nat → Nat → Nat → Int32 → Int32 → St → Prop
  | 0 => fun _ _ _ _ _ => False
  | n + 1 => fun v0 v1 v2 v3 σ =>
    (v2 ≤ v3 →
      post (0 : Int32) σ
    ) ∧ (¬ v2 ≤ v3 →
      wX7_isTimes v0 v3 v1 v2 σ (fun r1 s1 =>
        (r1 = false →
          ∀ x1 : Int32, x1 = v3 + (1 : Int32) →
          wX7_factorOver_15 post n v0 v1 v2 x1 s1
        ) ∧ (r1 = true →
          post v3 s1)))
def wX7_factorOver (v0 : Nat) (v1 : Nat) (v2 : Int32) (σ : St) (post : Int32 → St → Prop) : Prop :=
  ((σ.1 v0 0) = (σ.1 v1 0) →
    ∃ j, wX7_factorOver_15 post j v0 v1 v2 (1 : Int32) σ
  ) ∧ (¬ (σ.1 v0 0) = (σ.1 v1 0) →
    post (0 : Int32) σ)

def wX7_changeLeg_8 (post : St → Prop) : Nat → Nat → Nat → Int32 → Int32 → Int32 → St → Prop
  | 0 => fun _ _ _ _ _ _ => False
  | n + 1 => fun v0 v2 v3 v4 v5 σ =>
    wX7_size v0 σ (fun r1 s1 =>
      (r1 ≤ v5 →
        post s1
      ) ∧ (¬ r1 ≤ v5 →
        (¬ (v5 &&& v4) = 0 →
          ∀ x1 : Int32, x1 = v5 + (1 : Int32) →
          wX7_changeLeg_8 post n v0 v2 v3 v4 x1 s1
        ) ∧ ((v5 &&& v4) = 0 →
          ((16 : Int32) ≤ (v5 ||| v4) →
            ∀ x2 : Int32, x2 = v5 + (1 : Int32) →
            wX7_changeLeg_8 post n v0 v2 v3 v4 x2 s1
          ) ∧ (¬ (16 : Int32) ≤ (v5 ||| v4) →
            vp_in v5 16 ∧
            ∀ x3 : Int32, x3 = (s1.1 (v0 + 1) v5.toNatClampNeg) →
            ∀ x4 : Int32, x4 = (v5 ||| v4) →
            vp_in x4 16 ∧
            ∀ x5 : Int32, x5 = (s1.1 (v0 + 1) x4.toNatClampNeg) →
            wX10_mod (((s1.1 v2 0) * x3) + ((s1.1 v2 1) * x5)) v3 s1 (fun r2 s2 =>
              vp_in v5 16 ∧
              ∀ s3 : St, s3 = u1 s2 (v0 + 1) v5.toNatClampNeg r2 →
              wX10_mod (((s3.1 v2 2) * x3) + ((s3.1 v2 3) * x5)) v3 s3 (fun r3 s4 =>
                vp_in (v5 ||| v4) 16 ∧
                ∀ s5 : St, s5 = u1 s4 (v0 + 1) (v5 ||| v4).toNatClampNeg r3 →
                ∀ x6 : Int32, x6 = v5 + (1 : Int32) →
                wX7_changeLeg_8 post n v0 v2 v3 v4 x6 s5))))))
def wX7_changeLeg (v0 : Nat) (v1 : Int32) (v2 : Nat) (v3 : Int32) (σ : St) (post : St → Prop) : Prop :=
  ∀ x1 : Int32, x1 = ((1 : Int32) <<< (v1 &&& 31)) →
  ∃ j, wX7_changeLeg_8 post j v0 v2 v3 x1 (0 : Int32) σ

def wX7_changeAllLegs_2 (post : St → Prop) : Nat → Nat → Nat → Int32 → Int32 → St → Prop
  | 0 => fun _ _ _ _ _ => False
  | n + 1 => fun v0 v1 v2 v3 σ =>
    ((σ.1 v0 0) ≤ v3 →
      post σ
    ) ∧ (¬ (σ.1 v0 0) ≤ v3 →
      wX7_changeLeg v0 v3 v1 v2 σ (fun s1 =>
        ∀ x1 : Int32, x1 = v3 + (1 : Int32) →
        wX7_changeAllLegs_2 post n v0 v1 v2 x1 s1))
def wX7_changeAllLegs (v0 : Nat) (v1 : Nat) (v2 : Int32) (σ : St) (post : St → Prop) : Prop :=
  ∃ j, wX7_changeAllLegs_2 post j v0 v1 v2 (0 : Int32) σ

def wX7_multiply_2 (post : St → Prop) : Nat → Nat → Int32 → Int32 → Int32 → St → Prop
  | 0 => fun _ _ _ _ _ => False
  | n + 1 => fun v0 v1 v2 v3 σ =>
    wX7_size v0 σ (fun r1 s1 =>
      (r1 ≤ v3 →
        post s1
      ) ∧ (¬ r1 ≤ v3 →
        vp_in v3 16 ∧
        wX10_mod (v1 * (s1.1 (v0 + 1) v3.toNatClampNeg)) v2 s1 (fun r2 s2 =>
          vp_in v3 16 ∧
          ∀ s3 : St, s3 = u1 s2 (v0 + 1) v3.toNatClampNeg r2 →
          ∀ x1 : Int32, x1 = v3 + (1 : Int32) →
          wX7_multiply_2 post n v0 v1 v2 x1 s3)))
def wX7_multiply (v0 : Nat) (v1 : Int32) (v2 : Int32) (σ : St) (post : St → Prop) : Prop :=
  ∃ j, wX7_multiply_2 post j v0 v1 v2 (0 : Int32) σ

def wX7_exchangeLegs_11 (post : St → Prop) : Nat → Nat → Int32 → Int32 → Int32 → St → Prop
  | 0 => fun _ _ _ _ _ => False
  | n + 1 => fun v0 v1 v3 v4 σ =>
    wX7_size v0 σ (fun r1 s1 =>
      (r1 ≤ v4 →
        post s1
      ) ∧ (¬ r1 ≤ v4 →
        (¬ (v4 &&& v3) = ((1 : Int32) <<< (v1 &&& 31)) →
          ∀ x1 : Int32, x1 = v4 + (1 : Int32) →
          wX7_exchangeLegs_11 post n v0 v1 v3 x1 s1
        ) ∧ ((v4 &&& v3) = ((1 : Int32) <<< (v1 &&& 31)) →
          ((16 : Int32) ≤ (v4 ^^^ v3) →
            ∀ x2 : Int32, x2 = v4 + (1 : Int32) →
            wX7_exchangeLegs_11 post n v0 v1 v3 x2 s1
          ) ∧ (¬ (16 : Int32) ≤ (v4 ^^^ v3) →
            vp_in v4 16 ∧
            ∀ x3 : Int32, x3 = (s1.1 (v0 + 1) v4.toNatClampNeg) →
            ∀ x4 : Int32, x4 = (v4 ^^^ v3) →
            vp_in x4 16 ∧
            vp_in v4 16 ∧
            ∀ s2 : St, s2 = u1 s1 (v0 + 1) v4.toNatClampNeg (s1.1 (v0 + 1) x4.toNatClampNeg) →
            vp_in (v4 ^^^ v3) 16 ∧
            ∀ s3 : St, s3 = u1 s2 (v0 + 1) (v4 ^^^ v3).toNatClampNeg x3 →
            ∀ x5 : Int32, x5 = v4 + (1 : Int32) →
            wX7_exchangeLegs_11 post n v0 v1 v3 x5 s3))))
def wX7_exchangeLegs (v0 : Nat) (v1 : Int32) (v2 : Int32) (σ : St) (post : St → Prop) : Prop :=
  ∀ x1 : Int32, x1 = (((1 : Int32) <<< (v1 &&& 31)) ||| ((1 : Int32) <<< (v2 &&& 31))) →
  ∃ j, wX7_exchangeLegs_11 post j v0 v1 x1 (0 : Int32) σ

def wX7_foldLeg_7 (post : St → Prop) : Nat → Nat → Int32 → Int32 → Int32 → St → Prop
  | 0 => fun _ _ _ _ _ => False
  | n + 1 => fun v0 v2 v3 v4 σ =>
    wX7_size v0 σ (fun r1 s1 =>
      (r1 ≤ v4 →
        post s1
      ) ∧ (¬ r1 ≤ v4 →
        (¬ (v4 &&& v3) = 0 →
          ∀ x1 : Int32, x1 = v4 + (1 : Int32) →
          wX7_foldLeg_7 post n v0 v2 v3 x1 s1
        ) ∧ ((v4 &&& v3) = 0 →
          ((16 : Int32) ≤ (v4 ||| v3) →
            ∀ x2 : Int32, x2 = v4 + (1 : Int32) →
            wX7_foldLeg_7 post n v0 v2 v3 x2 s1
          ) ∧ (¬ (16 : Int32) ≤ (v4 ||| v3) →
            vp_in v4 16 ∧
            ∀ x3 : Int32, x3 = (v4 ||| v3) →
            vp_in x3 16 ∧
            wX10_mod ((s1.1 (v0 + 1) v4.toNatClampNeg) + (s1.1 (v0 + 1) x3.toNatClampNeg)) v2 s1 (fun r2 s2 =>
              vp_in v4 16 ∧
              ∀ s3 : St, s3 = u1 s2 (v0 + 1) v4.toNatClampNeg r2 →
              ∀ x4 : Int32, x4 = v4 + (1 : Int32) →
              wX7_foldLeg_7 post n v0 v2 v3 x4 s3)))))
def wX7_foldLeg (v0 : Nat) (v1 : Int32) (v2 : Int32) (σ : St) (post : St → Prop) : Prop :=
  ∀ x1 : Int32, x1 = ((1 : Int32) <<< (v1 &&& 31)) →
  ∃ j, wX7_foldLeg_7 post j v0 v2 x1 (0 : Int32) σ

def wX1_determinant (v0 : Nat) (v1 : Int32) (σ : St) (post : Int32 → St → Prop) : Prop :=
  wX10_mod (((σ.1 v0 0) * (σ.1 v0 3)) - ((σ.1 v0 1) * (σ.1 v0 2))) v1 σ (fun r1 s1 =>
    post r1 s1)

def wX1_inverse_2 (post : Int32 → St → Prop) : Nat → Int32 → Int32 → Int32 → St → Prop
  | 0 => fun _ _ _ _ => False
  | n + 1 => fun v0 v1 v2 σ =>
    (v1 ≤ v2 →
      post (0 : Int32) σ
    ) ∧ (¬ v1 ≤ v2 →
      wX10_mod (v0 * v2) v1 σ (fun r1 s1 =>
        (¬ r1 = (1 : Int32) →
          ∀ x1 : Int32, x1 = v2 + (1 : Int32) →
          wX1_inverse_2 post n v0 v1 x1 s1
        ) ∧ (r1 = (1 : Int32) →
          post v2 s1)))
def wX1_inverse (v0 : Int32) (v1 : Int32) (σ : St) (post : Int32 → St → Prop) : Prop :=
  ∃ j, wX1_inverse_2 post j v0 v1 (1 : Int32) σ

def wX1_setInverseTurnedOver (v0 : Nat) (v1 : Nat) (v2 : Int32) (σ : St) (post : St → Prop) : Prop :=
  wX1_determinant v1 v2 σ (fun r1 s1 =>
    wX1_inverse r1 v2 s1 (fun r2 s2 =>
      wX10_mod ((s2.1 v1 3) * r2) v2 s2 (fun r3 s3 =>
        ∀ s4 : St, s4 = u1 s3 v0 0 r3 →
        wX10_mod ((-(s4.1 v1 2)) * r2) v2 s4 (fun r4 s5 =>
          ∀ s6 : St, s6 = u1 s5 v0 1 r4 →
          wX10_mod ((-(s6.1 v1 1)) * r2) v2 s6 (fun r5 s7 =>
            ∀ s8 : St, s8 = u1 s7 v0 2 r5 →
            wX10_mod ((s8.1 v1 0) * r2) v2 s8 (fun r6 s9 =>
              ∀ s10 : St, s10 = u1 s9 v0 3 r6 →
              post s10))))))

def wX4_copyFrom_18 (post : St → Prop) : Nat → Nat → Nat → Int32 → St → Prop
  | 0 => fun _ _ _ _ => False
  | n + 1 => fun v0 v1 v2 σ =>
    ((σ.1 v0 0) ≤ v2 →
      ∀ s1 : St, s1 = r1 σ (v0 + 2) (va_cpy (σ.1 (v1 + 2)) (σ.1 (v0 + 2)) (0 : Int32).toNatClampNeg (0 : Int32).toNatClampNeg (20 : Int32).toNatClampNeg) →
      post s1
    ) ∧ (¬ (σ.1 v0 0) ≤ v2 →
      vp_in v2 6 ∧
      vp_in v2 6 ∧
      wX7_copyFrom ((v0 + 1) + 2 + 2 * v2.toNatClampNeg) ((v1 + 1) + 2 + 2 * v2.toNatClampNeg) σ (fun s2 =>
        ∀ x1 : Int32, x1 = v2 + (1 : Int32) →
        wX4_copyFrom_18 post n v0 v1 x1 s2))
def wX4_copyFrom (v0 : Nat) (v1 : Nat) (σ : St) (post : St → Prop) : Prop :=
  ∀ s1 : St, s1 = u1 σ v0 0 (σ.1 v1 0) →
  ∀ s2 : St, s2 = u1 s1 v0 1 (s1.1 v1 1) →
  ∃ j, wX4_copyFrom_18 post j v0 v1 (0 : Int32) s2

def wX4_hasNode (v0 : Nat) (v1 : Int32) (σ : St) (post : Bool → St → Prop) : Prop :=
  (v1 < 0 →
    post false σ
  ) ∧ (¬ v1 < 0 →
    ((σ.1 v0 0) ≤ v1 →
      post false σ
    ) ∧ (¬ (σ.1 v0 0) ≤ v1 →
      post true σ))

def wX4_hasLeg (v0 : Nat) (v1 : Int32) (v2 : Int32) (σ : St) (post : Bool → St → Prop) : Prop :=
  wX4_hasNode v0 v1 σ (fun r1 s1 =>
    (r1 = false →
      post false s1
    ) ∧ (r1 = true →
      (v2 < 0 →
        post false s1
      ) ∧ (¬ v2 < 0 →
        vp_in v1 6 ∧
        ((s1.1 ((v0 + 1) + 2 + 2 * v1.toNatClampNeg) 0) ≤ v2 →
          post false s1
        ) ∧ (¬ (s1.1 ((v0 + 1) + 2 + 2 * v1.toNatClampNeg) 0) ≤ v2 →
          post true s1))))

def wX4_hasWire (v0 : Nat) (v1 : Int32) (σ : St) (post : Bool → St → Prop) : Prop :=
  (v1 < 0 →
    post false σ
  ) ∧ (¬ v1 < 0 →
    ((σ.1 v0 1) ≤ v1 →
      post false σ
    ) ∧ (¬ (σ.1 v0 1) ≤ v1 →
      post true σ))

def wX4_hasWireAt_2 (post : Bool → St → Prop) : Nat → Nat → Int32 → Int32 → St → Prop
  | 0 => fun _ _ _ _ => False
  | n + 1 => fun v0 v1 v2 σ =>
    (((2 : Int32) * (σ.1 v0 1)) ≤ v2 →
      post false σ
    ) ∧ (¬ ((2 : Int32) * (σ.1 v0 1)) ≤ v2 →
      vp_in v2 20 ∧
      (¬ (σ.1 (v0 + 2) v2.toNatClampNeg) = v1 →
        ∀ x1 : Int32, x1 = v2 + (1 : Int32) →
        wX4_hasWireAt_2 post n v0 v1 x1 σ
      ) ∧ ((σ.1 (v0 + 2) v2.toNatClampNeg) = v1 →
        post true σ))
def wX4_hasWireAt (v0 : Nat) (v1 : Int32) (σ : St) (post : Bool → St → Prop) : Prop :=
  ∃ j, wX4_hasWireAt_2 post j v0 v1 (0 : Int32) σ

def wX4_allNodes (v0 : Nat) (σ : St) (post : Int32 → St → Prop) : Prop :=
  post (((1 : Int32) <<< ((σ.1 v0 0) &&& 31)) - (1 : Int32)) σ

def wX4_openCount_4 (post : Int32 → St → Prop) : Nat → Nat → Int32 → Int32 → St → Prop
  | 0 => fun _ _ _ _ => False
  | n + 1 => fun v0 v1 v2 σ =>
    ((σ.1 v0 0) ≤ v2 →
      post (v1 - ((2 : Int32) * (σ.1 v0 1))) σ
    ) ∧ (¬ (σ.1 v0 0) ≤ v2 →
      vp_in v2 6 ∧
      ∀ x1 : Int32, x1 = (v1 + (σ.1 ((v0 + 1) + 2 + 2 * v2.toNatClampNeg) 0)) →
      ∀ x2 : Int32, x2 = v2 + (1 : Int32) →
      wX4_openCount_4 post n v0 x1 x2 σ)
def wX4_openCount (v0 : Nat) (σ : St) (post : Int32 → St → Prop) : Prop :=
  ∃ j, wX4_openCount_4 post j v0 (0 : Int32) (0 : Int32) σ

def wX4_isOpen (v0 : Nat) (v1 : Int32) (σ : St) (post : Bool → St → Prop) : Prop :=
  wX4_hasLeg v0 (v1 / (4 : Int32)) (v1 - v1 / (4 : Int32) * (4 : Int32)) σ (fun r1 s1 =>
    (r1 = false →
      post false s1
    ) ∧ (r1 = true →
      wX4_hasWireAt v0 v1 s1 (fun r2 s2 =>
        (r2 = true →
          post false s2
        ) ∧ (r2 = false →
          post true s2))))

def wX4_openLeg_4 (post : Int32 → St → Prop) : Nat → Nat → Int32 → Int32 → Int32 → St → Prop
  | 0 => fun _ _ _ _ _ => False
  | n + 1 => fun v0 v1 v2 v3 σ =>
    (((4 : Int32) * (σ.1 v0 0)) ≤ v3 →
      post (-1 : Int32) σ
    ) ∧ (¬ ((4 : Int32) * (σ.1 v0 0)) ≤ v3 →
      wX4_isOpen v0 v3 σ (fun r1 s1 =>
        (r1 = false →
          ∀ x1 : Int32, x1 = v3 + (1 : Int32) →
          wX4_openLeg_4 post n v0 v1 v2 x1 s1
        ) ∧ (r1 = true →
          (¬ v2 = v1 →
            ∀ x2 : Int32, x2 = v2 + (1 : Int32) →
            ∀ x3 : Int32, x3 = v3 + (1 : Int32) →
            wX4_openLeg_4 post n v0 v1 x2 x3 s1
          ) ∧ (v2 = v1 →
            post v3 s1))))
def wX4_openLeg (v0 : Nat) (v1 : Int32) (σ : St) (post : Int32 → St → Prop) : Prop :=
  ∃ j, wX4_openLeg_4 post j v0 v1 (0 : Int32) (0 : Int32) σ

def wX4_isBetween (v0 : Nat) (v1 : Int32) (v2 : Int32) (σ : St) (post : Bool → St → Prop) : Prop :=
  ∀ x1 : Int32, x1 = ((2 : Int32) * v1) →
  vp_in x1 20 ∧
  ∀ x2 : Int32, x2 = ((σ.1 (v0 + 2) x1.toNatClampNeg) / (4 : Int32)) →
  ∀ x3 : Int32, x3 = (((2 : Int32) * v1) + (1 : Int32)) →
  vp_in x3 20 ∧
  ∀ x4 : Int32, x4 = ((σ.1 (v0 + 2) x3.toNatClampNeg) / (4 : Int32)) →
  (¬ ((v2 >>> (x2 &&& 31)) &&& (1 : Int32)) = (1 : Int32) →
    post false σ
  ) ∧ (((v2 >>> (x2 &&& 31)) &&& (1 : Int32)) = (1 : Int32) →
    (¬ ((v2 >>> (x4 &&& 31)) &&& (1 : Int32)) = (1 : Int32) →
      post false σ
    ) ∧ (((v2 >>> (x4 &&& 31)) &&& (1 : Int32)) = (1 : Int32) →
      post true σ))

def wX4_addNode (v0 : Nat) (v1 : Nat) (σ : St) (post : St → Prop) : Prop :=
  ((6 : Int32) ≤ (σ.1 v0 0) →
    post σ
  ) ∧ (¬ (6 : Int32) ≤ (σ.1 v0 0) →
    ∀ x1 : Int32, x1 = (σ.1 v0 0) →
    vp_in x1 6 ∧
    wX7_copyFrom ((v0 + 1) + 2 + 2 * x1.toNatClampNeg) v1 σ (fun s1 =>
      ∀ s2 : St, s2 = u1 s1 v0 0 ((s1.1 v0 0) + (1 : Int32)) →
      post s2))

def wX4_addWire (v0 : Nat) (v1 : Int32) (v2 : Int32) (σ : St) (post : St → Prop) : Prop :=
  ((10 : Int32) ≤ (σ.1 v0 1) →
    post σ
  ) ∧ (¬ (10 : Int32) ≤ (σ.1 v0 1) →
    vp_in ((2 : Int32) * (σ.1 v0 1)) 20 ∧
    ∀ s1 : St, s1 = u1 σ (v0 + 2) ((2 : Int32) * (σ.1 v0 1)).toNatClampNeg v1 →
    vp_in (((2 : Int32) * (s1.1 v0 1)) + (1 : Int32)) 20 ∧
    ∀ s2 : St, s2 = u1 s1 (v0 + 2) (((2 : Int32) * (s1.1 v0 1)) + (1 : Int32)).toNatClampNeg v2 →
    ∀ s3 : St, s3 = u1 s2 v0 1 ((s2.1 v0 1) + (1 : Int32)) →
    post s3)

def wX4_removeWire_4 (post : St → Prop) : Nat → Nat → Int32 → St → Prop
  | 0 => fun _ _ _ => False
  | n + 1 => fun v0 v2 σ =>
    (((2 : Int32) * ((σ.1 v0 1) - (1 : Int32))) ≤ v2 →
      ∀ s1 : St, s1 = u1 σ v0 1 ((σ.1 v0 1) - (1 : Int32)) →
      post s1
    ) ∧ (¬ ((2 : Int32) * ((σ.1 v0 1) - (1 : Int32))) ≤ v2 →
      ∀ x1 : Int32, x1 = (v2 + (2 : Int32)) →
      vp_in x1 20 ∧
      vp_in v2 20 ∧
      ∀ s2 : St, s2 = u1 σ (v0 + 2) v2.toNatClampNeg (σ.1 (v0 + 2) x1.toNatClampNeg) →
      ∀ x2 : Int32, x2 = v2 + (1 : Int32) →
      wX4_removeWire_4 post n v0 x2 s2)
def wX4_removeWire (v0 : Nat) (v1 : Int32) (σ : St) (post : St → Prop) : Prop :=
  ∀ x1 : Int32, x1 = ((2 : Int32) * v1) →
  ∃ j, wX4_removeWire_4 post j v0 x1 σ

def wX2_begin (v0 : Nat) (v1 : Int32) (σ : St) (post : St → Prop) : Prop :=
  ∀ s1 : St, s1 = u1 σ v0 0 v1 →
  ∀ s2 : St, s2 = u1 s1 v0 1 (0 : Int32) →
  post s2

def wX2_hasEdge_11 (post : Bool → St → Prop) : Nat → Nat → Int32 → Int32 → St → Prop
  | 0 => fun _ _ _ _ => False
  | n + 1 => fun v0 v3 v4 σ =>
    ((σ.1 v0 1) ≤ v4 →
      post false σ
    ) ∧ (¬ (σ.1 v0 1) ≤ v4 →
      vp_in v4 12 ∧
      (¬ (σ.1 (v0 + 1) v4.toNatClampNeg) = v3 →
        ∀ x1 : Int32, x1 = v4 + (1 : Int32) →
        wX2_hasEdge_11 post n v0 v3 x1 σ
      ) ∧ ((σ.1 (v0 + 1) v4.toNatClampNeg) = v3 →
        post true σ))
def wX2_hasEdge (v0 : Nat) (v1 : Int32) (v2 : Int32) (σ : St) (post : Bool → St → Prop) : Prop :=
  ∀ x1 : Int32, x1 = (((1 : Int32) <<< (v1 &&& 31)) ||| ((1 : Int32) <<< (v2 &&& 31))) →
  ∃ j, wX2_hasEdge_11 post j v0 x1 (0 : Int32) σ

def wX2_addEdge (v0 : Nat) (v1 : Int32) (v2 : Int32) (v3 : Int32) (σ : St) (post : St → Prop) : Prop :=
  ((12 : Int32) ≤ (σ.1 v0 1) →
    post σ
  ) ∧ (¬ (12 : Int32) ≤ (σ.1 v0 1) →
    vp_in (σ.1 v0 1) 12 ∧
    ∀ s1 : St, s1 = u1 σ (v0 + 1) (σ.1 v0 1).toNatClampNeg (((1 : Int32) <<< (v1 &&& 31)) ||| ((1 : Int32) <<< (v2 &&& 31))) →
    vp_in (s1.1 v0 1) 12 ∧
    ∀ s2 : St, s2 = u1 s1 (v0 + 2) (s1.1 v0 1).toNatClampNeg v3 →
    ∀ s3 : St, s3 = u1 s2 v0 1 ((s2.1 v0 1) + (1 : Int32)) →
    post s3)

def wX2_matchingsOf_11 (post : Int32 → St → Prop) : Nat → Nat → Int32 → Int32 → Int32 → Int32 → Int32 → St → Prop
  | 0 => fun _ _ _ _ _ _ _ => False
  | n + 1 => fun v0 v1 v2 v3 v4 v5 σ =>
    ((σ.1 v0 1) ≤ v5 →
      wX10_mod v4 v2 σ (fun r1 s1 =>
        post r1 s1)
    ) ∧ (¬ (σ.1 v0 1) ≤ v5 →
      vp_in v5 12 ∧
      ∀ x1 : Int32, x1 = (σ.1 (v0 + 1) v5.toNatClampNeg) →
      ((x1 &&& v3) = 0 →
        ∀ x2 : Int32, x2 = v5 + (1 : Int32) →
        wX2_matchingsOf_11 post n v0 v1 v2 v3 v4 x2 σ
      ) ∧ (¬ (x1 &&& v3) = 0 →
        (¬ (x1 &&& v1) = x1 →
          ∀ x3 : Int32, x3 = v5 + (1 : Int32) →
          wX2_matchingsOf_11 post n v0 v1 v2 v3 v4 x3 σ
        ) ∧ ((x1 &&& v1) = x1 →
          vp_in v5 12 ∧
          ∀ x4 : Int32, x4 = (v1 ^^^ x1) →
          vp_in x4 256 ∧
          ∀ x5 : Int32, x5 = (v4 + ((σ.1 (v0 + 2) v5.toNatClampNeg) * (σ.1 (v0 + 3) x4.toNatClampNeg))) →
          ∀ x6 : Int32, x6 = v5 + (1 : Int32) →
          wX2_matchingsOf_11 post n v0 v1 v2 v3 x5 x6 σ)))
def wX2_matchingsOf (v0 : Nat) (v1 : Int32) (v2 : Int32) (σ : St) (post : Int32 → St → Prop) : Prop :=
  ∀ x1 : Int32, x1 = (v1 &&& (-v1)) →
  ∃ j, wX2_matchingsOf_11 post j v0 v1 v2 x1 (0 : Int32) (0 : Int32) σ

def wX2_fill_48 (post : St → Prop) : Nat → Nat → Nat → Int32 → Int32 → St → Prop
  | 0 => fun _ _ _ _ _ => False
  | n + 1 => fun v0 v1 v3 v4 σ =>
    wX7_size v1 σ (fun r1 s1 =>
      (r1 ≤ v4 →
        post s1
      ) ∧ (¬ r1 ≤ v4 →
        ∀ x1 : Int32, x1 = (v3 &&& (v4 ^^^ (-1 : Int32))) →
        vp_in x1 256 ∧
        vp_in v4 16 ∧
        ∀ s2 : St, s2 = u1 s1 (v1 + 1) v4.toNatClampNeg (s1.1 (v0 + 3) x1.toNatClampNeg) →
        ∀ x2 : Int32, x2 = v4 + (1 : Int32) →
        wX2_fill_48 post n v0 v1 v3 x2 s2))
def wX2_fill_19 (post : St → Prop) : Nat → Nat → Nat → Int32 → Int32 → Int32 → St → Prop
  | 0 => fun _ _ _ _ _ _ => False
  | n + 1 => fun v0 v1 v2 v3 v4 σ =>
    (v3 < v4 →
      ∃ j, wX2_fill_48 post j v0 v1 v3 (0 : Int32) σ
    ) ∧ (¬ v3 < v4 →
      wX2_matchingsOf v0 v4 v2 σ (fun r1 s1 =>
        vp_in v4 256 ∧
        ∀ s2 : St, s2 = u1 s1 (v0 + 3) v4.toNatClampNeg r1 →
        ∀ x1 : Int32, x1 = v4 + (1 : Int32) →
        wX2_fill_19 post n v0 v1 v2 v3 x1 s2))
def wX2_fill (v0 : Nat) (v1 : Nat) (v2 : Int32) (σ : St) (post : St → Prop) : Prop :=
  ∀ x1 : Int32, x1 = (((1 : Int32) <<< ((σ.1 v0 0) &&& 31)) - (1 : Int32)) →
  ∀ s1 : St, s1 = u1 σ (v0 + 3) (0 : Int32).toNatClampNeg (1 : Int32) →
  ∃ j, wX2_fill_19 post j v0 v1 v2 x1 (1 : Int32) s1

def wX3_spread_7 (post : Int32 → St → Prop) : Nat → Int32 → Int32 → Int32 → Int32 → Int32 → St → Prop
  | 0 => fun _ _ _ _ _ _ => False
  | n + 1 => fun v0 v1 v2 v3 v4 σ =>
    ((4 : Int32) ≤ v4 →
      post v2 σ
    ) ∧ (¬ (4 : Int32) ≤ v4 →
      (¬ ((v1 >>> (v4 &&& 31)) &&& (1 : Int32)) = (1 : Int32) →
        ∀ x1 : Int32, x1 = v4 + (1 : Int32) →
        wX3_spread_7 post n v0 v1 v2 v3 x1 σ
      ) ∧ (((v1 >>> (v4 &&& 31)) &&& (1 : Int32)) = (1 : Int32) →
        ∀ x2 : Int32, x2 = (v2 ||| (((v0 >>> (v3 &&& 31)) &&& (1 : Int32)) <<< (v4 &&& 31))) →
        ∀ x3 : Int32, x3 = v3 + (1 : Int32) →
        ∀ x4 : Int32, x4 = v4 + (1 : Int32) →
        wX3_spread_7 post n v0 v1 x2 x3 x4 σ))
def wX3_spread (v0 : Int32) (v1 : Int32) (σ : St) (post : Int32 → St → Prop) : Prop :=
  ∃ j, wX3_spread_7 post j v0 v1 (0 : Int32) (0 : Int32) (0 : Int32) σ

def wX3_fill_46 (post : St → Prop) (R34 : Nat → Nat → Int32 → Int32 → Int32 → St → Prop) : Nat → Nat → Nat → Int32 → Int32 → Int32 → Int32 → St → Prop
  | 0 => fun _ _ _ _ _ _ _ => False
  | n + 1 => fun v0 v1 v2 v3 v4 v5 σ =>
    ((σ.1 v0 1) ≤ v5 →
      ∀ x1 : Int32, x1 = v4 + (1 : Int32) →
      R34 v0 v1 v2 v3 x1 σ
    ) ∧ (¬ (σ.1 v0 1) ≤ v5 →
      wX3_spread v4 v2 σ (fun r1 s1 =>
        wX3_spread v5 v3 s1 (fun r2 s2 =>
          ∀ x2 : Int32, x2 = (r1 ||| r2) →
          vp_in x2 16 ∧
          vp_in ((v4 * (s2.1 v0 1)) + v5) 16 ∧
          ∀ s3 : St, s3 = u1 s2 (v0 + 1) ((v4 * (s2.1 v0 1)) + v5).toNatClampNeg (s2.1 (v1 + 1) x2.toNatClampNeg) →
          ∀ x3 : Int32, x3 = v5 + (1 : Int32) →
          wX3_fill_46 post R34 n v0 v1 v2 v3 v4 x3 s3)))
def wX3_fill_34 (post : St → Prop) : Nat → Nat → Nat → Int32 → Int32 → Int32 → St → Prop
  | 0 => fun _ _ _ _ _ _ => False
  | n + 1 => fun v0 v1 v2 v3 v4 σ =>
    ((σ.1 v0 0) ≤ v4 →
      post σ
    ) ∧ (¬ (σ.1 v0 0) ≤ v4 →
      ∃ j, wX3_fill_46 post (wX3_fill_34 post n) j v0 v1 v2 v3 v4 (0 : Int32) σ)
def wX3_fill (v0 : Nat) (v1 : Nat) (v2 : Int32) (σ : St) (post : St → Prop) : Prop :=
  wX7_size v1 σ (fun r1 s1 =>
    ∀ x1 : Int32, x1 = ((r1 - (1 : Int32)) &&& (v2 ^^^ (-1 : Int32))) →
    wJ6_bitCount_0f7a4 v2 s1 (fun r2 s2 =>
      ∀ s3 : St, s3 = u1 s2 v0 0 ((1 : Int32) <<< (r2 &&& 31)) →
      wJ6_bitCount_0f7a4 x1 s3 (fun r3 s4 =>
        ∀ s5 : St, s5 = u1 s4 v0 1 ((1 : Int32) <<< (r3 &&& 31)) →
        ∃ j, wX3_fill_34 post j v0 v1 v2 x1 (0 : Int32) s5)))

def wX3_rowWithout0_2 (post : Int32 → St → Prop) : Nat → Nat → Int32 → Int32 → St → Prop
  | 0 => fun _ _ _ _ => False
  | n + 1 => fun v0 v2 v3 σ =>
    ((σ.1 v0 0) ≤ v3 →
      post (-1 : Int32) σ
    ) ∧ (¬ (σ.1 v0 0) ≤ v3 →
      ∀ x1 : Int32, x1 = ((v3 * (σ.1 v0 1)) + v2) →
      vp_in x1 16 ∧
      ((σ.1 (v0 + 1) x1.toNatClampNeg) = 0 →
        ∀ x2 : Int32, x2 = v3 + (1 : Int32) →
        wX3_rowWithout0_2 post n v0 v2 x2 σ
      ) ∧ (¬ (σ.1 (v0 + 1) x1.toNatClampNeg) = 0 →
        post v3 σ))
def wX3_rowWithout0 (v0 : Nat) (v1 : Int32) (v2 : Int32) (σ : St) (post : Int32 → St → Prop) : Prop :=
  ∃ j, wX3_rowWithout0_2 post j v0 v2 v1 σ

def wX3_exchangeRows_2 (post : St → Prop) : Nat → Nat → Int32 → Int32 → Int32 → St → Prop
  | 0 => fun _ _ _ _ _ => False
  | n + 1 => fun v0 v1 v2 v3 σ =>
    ((σ.1 v0 1) ≤ v3 →
      post σ
    ) ∧ (¬ (σ.1 v0 1) ≤ v3 →
      ∀ x1 : Int32, x1 = ((v1 * (σ.1 v0 1)) + v3) →
      vp_in x1 16 ∧
      ∀ x2 : Int32, x2 = (σ.1 (v0 + 1) x1.toNatClampNeg) →
      ∀ x3 : Int32, x3 = ((v2 * (σ.1 v0 1)) + v3) →
      vp_in x3 16 ∧
      vp_in ((v1 * (σ.1 v0 1)) + v3) 16 ∧
      ∀ s1 : St, s1 = u1 σ (v0 + 1) ((v1 * (σ.1 v0 1)) + v3).toNatClampNeg (σ.1 (v0 + 1) x3.toNatClampNeg) →
      vp_in ((v2 * (s1.1 v0 1)) + v3) 16 ∧
      ∀ s2 : St, s2 = u1 s1 (v0 + 1) ((v2 * (s1.1 v0 1)) + v3).toNatClampNeg x2 →
      ∀ x4 : Int32, x4 = v3 + (1 : Int32) →
      wX3_exchangeRows_2 post n v0 v1 v2 x4 s2)
def wX3_exchangeRows (v0 : Nat) (v1 : Int32) (v2 : Int32) (σ : St) (post : St → Prop) : Prop :=
  ∃ j, wX3_exchangeRows_2 post j v0 v1 v2 (0 : Int32) σ

def wX3_clearBelow_48 (post : St → Prop) (R20 : Nat → Int32 → Int32 → Int32 → Int32 → Int32 → St → Prop) : Nat → Nat → Int32 → Int32 → Int32 → Int32 → Int32 → Int32 → Int32 → St → Prop
  | 0 => fun _ _ _ _ _ _ _ _ _ => False
  | n + 1 => fun v0 v1 v2 v3 v4 v5 v6 v7 σ =>
    ((σ.1 v0 1) ≤ v7 →
      ∀ x1 : Int32, x1 = v5 + (1 : Int32) →
      R20 v0 v1 v2 v3 v4 x1 σ
    ) ∧ (¬ (σ.1 v0 1) ≤ v7 →
      ∀ x2 : Int32, x2 = ((v5 * (σ.1 v0 1)) + v7) →
      vp_in x2 16 ∧
      ∀ x3 : Int32, x3 = ((v1 * (σ.1 v0 1)) + v7) →
      vp_in x3 16 ∧
      ∀ x4 : Int32, x4 = (((σ.1 (v0 + 1) x2.toNatClampNeg) * v4) - ((σ.1 (v0 + 1) x3.toNatClampNeg) * v6)) →
      wX10_mod x4 v3 σ (fun r1 s1 =>
        vp_in ((v5 * (σ.1 v0 1)) + v7) 16 ∧
        ∀ s2 : St, s2 = u1 s1 (v0 + 1) ((v5 * (σ.1 v0 1)) + v7).toNatClampNeg r1 →
        ∀ x5 : Int32, x5 = v7 + (1 : Int32) →
        wX3_clearBelow_48 post R20 n v0 v1 v2 v3 v4 v5 v6 x5 s2))
def wX3_clearBelow_20 (post : St → Prop) : Nat → Nat → Int32 → Int32 → Int32 → Int32 → Int32 → St → Prop
  | 0 => fun _ _ _ _ _ _ _ => False
  | n + 1 => fun v0 v1 v2 v3 v4 v5 σ =>
    ((σ.1 v0 0) ≤ v5 →
      post σ
    ) ∧ (¬ (σ.1 v0 0) ≤ v5 →
      ∀ x1 : Int32, x1 = ((v5 * (σ.1 v0 1)) + v2) →
      vp_in x1 16 ∧
      ∀ x2 : Int32, x2 = (σ.1 (v0 + 1) x1.toNatClampNeg) →
      ∃ j, wX3_clearBelow_48 post (wX3_clearBelow_20 post n) j v0 v1 v2 v3 v4 v5 x2 (0 : Int32) σ)
def wX3_clearBelow (v0 : Nat) (v1 : Int32) (v2 : Int32) (v3 : Int32) (σ : St) (post : St → Prop) : Prop :=
  ∀ x1 : Int32, x1 = ((v1 * (σ.1 v0 1)) + v2) →
  vp_in x1 16 ∧
  ∀ x2 : Int32, x2 = (σ.1 (v0 + 1) x1.toNatClampNeg) →
  ∀ x3 : Int32, x3 = (v1 + (1 : Int32)) →
  ∃ j, wX3_clearBelow_20 post j v0 v1 v2 v3 x2 x3 σ

def wX3_rankModulo_4 (post : Int32 → St → Prop) : Nat → Nat → Int32 → Int32 → Int32 → St → Prop
  | 0 => fun _ _ _ _ _ => False
  | n + 1 => fun v0 v1 v2 v3 σ =>
    ((σ.1 v0 1) ≤ v3 →
      post v2 σ
    ) ∧ (¬ (σ.1 v0 1) ≤ v3 →
      ((σ.1 v0 0) ≤ v2 →
        post v2 σ
      ) ∧ (¬ (σ.1 v0 0) ≤ v2 →
        wX3_rowWithout0 v0 v2 v3 σ (fun r1 s1 =>
          (r1 = (-1 : Int32) →
            ∀ x1 : Int32, x1 = v3 + (1 : Int32) →
            wX3_rankModulo_4 post n v0 v1 v2 x1 s1
          ) ∧ (¬ r1 = (-1 : Int32) →
            wX3_exchangeRows v0 v2 r1 s1 (fun s2 =>
              wX3_clearBelow v0 v2 v3 v1 s2 (fun s3 =>
                ∀ x2 : Int32, x2 = v2 + (1 : Int32) →
                ∀ x3 : Int32, x3 = v3 + (1 : Int32) →
                wX3_rankModulo_4 post n v0 v1 x2 x3 s3))))))
def wX3_rankModulo (v0 : Nat) (v1 : Int32) (σ : St) (post : Int32 → St → Prop) : Prop :=
  ∃ j, wX3_rankModulo_4 post j v0 v1 (0 : Int32) (0 : Int32) σ

def wX0_forget (v0 : Nat) (σ : St) (post : St → Prop) : Prop :=
  ∀ s1 : St, s1 = u1 σ v0 0 (0 : Int32) →
  post s1

def wX0_remember_32 (post : St → Prop) (v0 : Nat) (v1 : Nat) (σ : St) : Prop :=
  ∀ x1 : Int32, x1 = (((σ.1 v0 1) + (σ.1 v0 0)) - ((σ.1 v0 1) + (σ.1 v0 0)) / (12 : Int32) * (12 : Int32)) →
  vp_in x1 12 ∧
  wX4_copyFrom ((v0 + 1) + 1 + 15 * x1.toNatClampNeg) v1 σ (fun s1 =>
    ∀ s2 : St, s2 = u1 s1 v0 0 ((s1.1 v0 0) + (1 : Int32)) →
    post s2)
def wX0_remember (v0 : Nat) (v1 : Nat) (σ : St) (post : St → Prop) : Prop :=
  (¬ (σ.1 v0 0) = (12 : Int32) →
    wX0_remember_32 post v0 v1 σ
  ) ∧ ((σ.1 v0 0) = (12 : Int32) →
    ∀ s1 : St, s1 = u1 σ v0 1 (((σ.1 v0 1) + (1 : Int32)) - ((σ.1 v0 1) + (1 : Int32)) / (12 : Int32) * (12 : Int32)) →
    ∀ s2 : St, s2 = u1 s1 v0 0 ((s1.1 v0 0) - (1 : Int32)) →
    wX0_remember_32 post v0 v1 s2)

def wX0_restore (v0 : Nat) (v1 : Nat) (σ : St) (post : St → Prop) : Prop :=
  ((σ.1 v0 0) ≤ 0 →
    post σ
  ) ∧ (¬ (σ.1 v0 0) ≤ 0 →
    ∀ s1 : St, s1 = u1 σ v0 0 ((σ.1 v0 0) - (1 : Int32)) →
    ∀ x1 : Int32, x1 = (((s1.1 v0 1) + (s1.1 v0 0)) - ((s1.1 v0 1) + (s1.1 v0 0)) / (12 : Int32) * (12 : Int32)) →
    vp_in x1 12 ∧
    wX4_copyFrom v1 ((v0 + 1) + 1 + 15 * x1.toNatClampNeg) s1 (fun s2 =>
      post s2))

def wX9_clear (v0 : Nat) (σ : St) (post : St → Prop) : Prop :=
  ∀ s1 : St, s1 = u1 σ v0 0 (7 : Int32) →
  ∀ s2 : St, s2 = u1 s1 v0 1 (0 : Int32) →
  ∀ s3 : St, s3 = u1 s2 v0 3 (0 : Int32) →
  ∀ s4 : St, s4 = u1 s3 v0 6 (0 : Int32) →
  ∀ s5 : St, s5 = u1 s4 (v0 + 3) 0 (0 : Int32) →
  ∀ s6 : St, s6 = u1 s5 (v0 + 3) 1 (0 : Int32) →
  post s6

def wX9_addName (v0 : Nat) (v1 : Int32) (v2 : Int32) (v3 : Int32) (σ : St) (post : St → Prop) : Prop :=
  ((19 : Int32) ≤ (σ.1 v0 6) →
    post σ
  ) ∧ (¬ (19 : Int32) ≤ (σ.1 v0 6) →
    vp_in (σ.1 v0 6) 19 ∧
    ∀ s1 : St, s1 = u1 σ (v0 + 18) (σ.1 v0 6).toNatClampNeg v1 →
    vp_in (s1.1 v0 6) 19 ∧
    ∀ s2 : St, s2 = u1 s1 (v0 + 19) (s1.1 v0 6).toNatClampNeg v2 →
    vp_in (s2.1 v0 6) 19 ∧
    ∀ s3 : St, s3 = u1 s2 (v0 + 20) (s2.1 v0 6).toNatClampNeg v3 →
    ∀ s4 : St, s4 = u1 s3 v0 6 ((s3.1 v0 6) + (1 : Int32)) →
    post s4)

def wX9_hasName_2 (post : Bool → St → Prop) : Nat → Nat → Int32 → Int32 → St → Prop
  | 0 => fun _ _ _ _ => False
  | n + 1 => fun v0 v1 v2 σ =>
    ((σ.1 v0 6) ≤ v2 →
      post false σ
    ) ∧ (¬ (σ.1 v0 6) ≤ v2 →
      vp_in v2 19 ∧
      (¬ (σ.1 (v0 + 18) v2.toNatClampNeg) = v1 →
        ∀ x1 : Int32, x1 = v2 + (1 : Int32) →
        wX9_hasName_2 post n v0 v1 x1 σ
      ) ∧ ((σ.1 (v0 + 18) v2.toNatClampNeg) = v1 →
        post true σ))
def wX9_hasName (v0 : Nat) (v1 : Int32) (σ : St) (post : Bool → St → Prop) : Prop :=
  ∃ j, wX9_hasName_2 post j v0 v1 (0 : Int32) σ

def wX9_numberOf_2 (post : Int32 → St → Prop) : Nat → Nat → Int32 → Int32 → Int32 → St → Prop
  | 0 => fun _ _ _ _ _ => False
  | n + 1 => fun v0 v1 v2 v3 σ =>
    ((σ.1 v0 6) ≤ v3 →
      post (-1 : Int32) σ
    ) ∧ (¬ (σ.1 v0 6) ≤ v3 →
      vp_in v3 19 ∧
      (¬ (σ.1 (v0 + 18) v3.toNatClampNeg) = v1 →
        ∀ x1 : Int32, x1 = v3 + (1 : Int32) →
        wX9_numberOf_2 post n v0 v1 v2 x1 σ
      ) ∧ ((σ.1 (v0 + 18) v3.toNatClampNeg) = v1 →
        vp_in v3 19 ∧
        (¬ (σ.1 (v0 + 19) v3.toNatClampNeg) = v2 →
          ∀ x2 : Int32, x2 = v3 + (1 : Int32) →
          wX9_numberOf_2 post n v0 v1 v2 x2 σ
        ) ∧ ((σ.1 (v0 + 19) v3.toNatClampNeg) = v2 →
          vp_in v3 19 ∧
          post (σ.1 (v0 + 20) v3.toNatClampNeg) σ)))
def wX9_numberOf (v0 : Nat) (v1 : Int32) (v2 : Int32) (σ : St) (post : Int32 → St → Prop) : Prop :=
  ∃ j, wX9_numberOf_2 post j v0 v1 v2 (0 : Int32) σ

def wX5_legsOut_68 (post : Int32 → St → Prop) (R45 : Nat → Int32 → Int32 → Int32 → St → Prop) (v0 : Nat) (v1 : Int32) (v3 : Int32) (t0 : Int32) (t1 : Int32) (σ : St) : Prop :=
  ∀ x1 : Int32, x1 = (t0 - t1) →
  ∀ x2 : Int32, x2 = v3 + (1 : Int32) →
  R45 v0 v1 x1 x2 σ
def wX5_legsOut_45 (post : Int32 → St → Prop) : Nat → Nat → Int32 → Int32 → Int32 → St → Prop
  | 0 => fun _ _ _ _ _ => False
  | n + 1 => fun v0 v1 v2 v3 σ =>
    ((σ.1 v0 1) ≤ v3 →
      post v2 σ
    ) ∧ (¬ (σ.1 v0 1) ≤ v3 →
      wX4_isBetween v0 v3 v1 σ (fun r1 s1 =>
        (r1 = false →
          wX5_legsOut_68 post (wX5_legsOut_45 post n) v0 v1 v3 v2 (0 : Int32) s1
        ) ∧ (r1 = true →
          wX5_legsOut_68 post (wX5_legsOut_45 post n) v0 v1 v3 v2 (2 : Int32) s1)))
def wX5_legsOut_35 (post : Int32 → St → Prop) (R4 : Nat → Int32 → Int32 → Int32 → St → Prop) (v0 : Nat) (v1 : Int32) (v3 : Int32) (t0 : Int32) (t1 : Int32) (σ : St) : Prop :=
  ∀ x1 : Int32, x1 = (t0 + t1) →
  ∀ x2 : Int32, x2 = v3 + (1 : Int32) →
  R4 v0 v1 x1 x2 σ
def wX5_legsOut_4 (post : Int32 → St → Prop) : Nat → Nat → Int32 → Int32 → Int32 → St → Prop
  | 0 => fun _ _ _ _ _ => False
  | n + 1 => fun v0 v1 v2 v3 σ =>
    ((σ.1 v0 0) ≤ v3 →
      ∃ j, wX5_legsOut_45 post j v0 v1 v2 (0 : Int32) σ
    ) ∧ (¬ (σ.1 v0 0) ≤ v3 →
      (¬ ((v1 >>> (v3 &&& 31)) &&& (1 : Int32)) = (1 : Int32) →
        wX5_legsOut_35 post (wX5_legsOut_4 post n) v0 v1 v3 v2 (0 : Int32) σ
      ) ∧ (((v1 >>> (v3 &&& 31)) &&& (1 : Int32)) = (1 : Int32) →
        vp_in v3 6 ∧
        wX5_legsOut_35 post (wX5_legsOut_4 post n) v0 v1 v3 v2 (σ.1 ((v0 + 1) + 2 + 2 * v3.toNatClampNeg) 0) σ))
def wX5_legsOut (v0 : Nat) (v1 : Int32) (σ : St) (post : Int32 → St → Prop) : Prop :=
  ∃ j, wX5_legsOut_4 post j v0 v1 (0 : Int32) (0 : Int32) σ

def wX5_leastBehind_16 (post : Int32 → St → Prop) : Nat → Nat → Nat → Int32 → Int32 → Int32 → St → Prop
  | 0 => fun _ _ _ _ _ _ => False
  | n + 1 => fun v0 v1 v2 v3 v4 σ =>
    ((σ.1 v1 0) ≤ v4 →
      post v3 σ
    ) ∧ (¬ (σ.1 v1 0) ≤ v4 →
      (¬ ((v2 >>> (v4 &&& 31)) &&& (1 : Int32)) = 0 →
        ∀ x1 : Int32, x1 = v4 + (1 : Int32) →
        wX5_leastBehind_16 post n v0 v1 v2 v3 x1 σ
      ) ∧ (((v2 >>> (v4 &&& 31)) &&& (1 : Int32)) = 0 →
        ∀ x2 : Int32, x2 = (v2 ||| ((1 : Int32) <<< (v4 &&& 31))) →
        vp_in x2 64 ∧
        ∀ x3 : Int32, x3 = (if (σ.1 (v0 + 1) x2.toNatClampNeg) < v3 then (σ.1 (v0 + 1) x2.toNatClampNeg) else v3) →
        ∀ x4 : Int32, x4 = v4 + (1 : Int32) →
        wX5_leastBehind_16 post n v0 v1 v2 x3 x4 σ))
def wX5_leastBehind (v0 : Nat) (v1 : Nat) (v2 : Int32) (σ : St) (post : Int32 → St → Prop) : Prop :=
  wX4_allNodes v1 σ (fun r1 s1 =>
    (¬ v2 = r1 →
      ∃ j, wX5_leastBehind_16 post j v0 v1 v2 (24 : Int32) (0 : Int32) s1
    ) ∧ (v2 = r1 →
      post (0 : Int32) s1))

def wX5_weigh_5 (post : St → Prop) : Nat → Nat → Nat → Int32 → St → Prop
  | 0 => fun _ _ _ _ => False
  | n + 1 => fun v0 v1 v2 σ =>
    (v2 < 0 →
      post σ
    ) ∧ (¬ v2 < 0 →
      wX5_legsOut v1 v2 σ (fun r1 s1 =>
        wX5_leastBehind v0 v1 v2 s1 (fun r2 s2 =>
          vp_in v2 64 ∧
          ∀ s3 : St, s3 = u1 s2 (v0 + 1) v2.toNatClampNeg (if r1 < r2 then r2 else r1) →
          ∀ x1 : Int32, x1 = v2 + (-1 : Int32) →
          wX5_weigh_5 post n v0 v1 x1 s3)))
def wX5_weigh (v0 : Nat) (v1 : Nat) (σ : St) (post : St → Prop) : Prop :=
  wX4_allNodes v1 σ (fun r1 s1 =>
    ∃ j, wX5_weigh_5 post j v0 v1 r1 s1)

def wX5_leastWidth (v0 : Nat) (σ : St) (post : Int32 → St → Prop) : Prop :=
  post (σ.1 (v0 + 1) (0 : Int32).toNatClampNeg) σ

def wX5_lowestGoodNode_2 (post : Int32 → St → Prop) : Nat → Nat → Nat → Int32 → Int32 → St → Prop
  | 0 => fun _ _ _ _ _ => False
  | n + 1 => fun v0 v1 v2 v3 σ =>
    ((σ.1 v1 0) ≤ v3 →
      post (-1 : Int32) σ
    ) ∧ (¬ (σ.1 v1 0) ≤ v3 →
      (¬ ((v2 >>> (v3 &&& 31)) &&& (1 : Int32)) = 0 →
        ∀ x1 : Int32, x1 = v3 + (1 : Int32) →
        wX5_lowestGoodNode_2 post n v0 v1 v2 x1 σ
      ) ∧ (((v2 >>> (v3 &&& 31)) &&& (1 : Int32)) = 0 →
        ∀ x2 : Int32, x2 = (v2 ||| ((1 : Int32) <<< (v3 &&& 31))) →
        vp_in x2 64 ∧
        ((σ.1 (v0 + 1) (0 : Int32).toNatClampNeg) < (σ.1 (v0 + 1) x2.toNatClampNeg) →
          ∀ x3 : Int32, x3 = v3 + (1 : Int32) →
          wX5_lowestGoodNode_2 post n v0 v1 v2 x3 σ
        ) ∧ (¬ (σ.1 (v0 + 1) (0 : Int32).toNatClampNeg) < (σ.1 (v0 + 1) x2.toNatClampNeg) →
          post v3 σ)))
def wX5_lowestGoodNode (v0 : Nat) (v1 : Nat) (v2 : Int32) (σ : St) (post : Int32 → St → Prop) : Prop :=
  ∃ j, wX5_lowestGoodNode_2 post j v0 v1 v2 (0 : Int32) σ

def wX5_bestNode_46 (post : Int32 → St → Prop) (R8 : Nat → Nat → Int32 → Int32 → Int32 → Int32 → St → Prop) (v0 : Nat) (v1 : Nat) (v2 : Int32) (v4 : Int32) (v5 : Int32) (t0 : Int32) (t1 : Int32) (σ : St) : Prop :=
  ∀ x1 : Int32, x1 = (t0 ||| t1) →
  ∀ x2 : Int32, x2 = v5 + (1 : Int32) →
  R8 v0 v1 v2 x1 v4 x2 σ
def wX5_bestNode_8 (post : Int32 → St → Prop) : Nat → Nat → Nat → Int32 → Int32 → Int32 → Int32 → St → Prop
  | 0 => fun _ _ _ _ _ _ _ => False
  | n + 1 => fun v0 v1 v2 v3 v4 v5 σ =>
    (v2 < v5 →
      post v4 σ
    ) ∧ (¬ v2 < v5 →
      ((σ.1 v1 0) ≤ v5 →
        post v4 σ
      ) ∧ (¬ (σ.1 v1 0) ≤ v5 →
        wX5_lowestGoodNode v0 v1 v3 σ (fun r1 s1 =>
          (¬ r1 = (-1 : Int32) →
            wX5_bestNode_46 post (wX5_bestNode_8 post n) v0 v1 v2 r1 v5 v3 ((1 : Int32) <<< (r1 &&& 31)) s1
          ) ∧ (r1 = (-1 : Int32) →
            wX5_bestNode_46 post (wX5_bestNode_8 post n) v0 v1 v2 r1 v5 v3 (0 : Int32) s1))))
def wX5_bestNode (v0 : Nat) (v1 : Nat) (v2 : Int32) (σ : St) (post : Int32 → St → Prop) : Prop :=
  ∃ j, wX5_bestNode_8 post j v0 v1 v2 (0 : Int32) (-1 : Int32) (0 : Int32) σ

def wX8_setOpenLegs_25 (post : St → Prop) (R5 : Nat → Nat → Int32 → Int32 → St → Prop) : Nat → Nat → Nat → Int32 → Int32 → Int32 → St → Prop
  | 0 => fun _ _ _ _ _ _ => False
  | n + 1 => fun v0 v1 v3 v4 v5 σ =>
    vp_in v4 6 ∧
    ((σ.1 ((v1 + 1) + 2 + 2 * v4.toNatClampNeg) 0) ≤ v5 →
      ∀ x1 : Int32, x1 = v4 + (1 : Int32) →
      R5 v0 v1 v3 x1 σ
    ) ∧ (¬ (σ.1 ((v1 + 1) + 2 + 2 * v4.toNatClampNeg) 0) ≤ v5 →
      wX4_hasWireAt v1 (((4 : Int32) * v4) + v5) σ (fun r1 s1 =>
        (r1 = true →
          ∀ x2 : Int32, x2 = v5 + (1 : Int32) →
          wX8_setOpenLegs_25 post R5 n v0 v1 v3 v4 x2 s1
        ) ∧ (r1 = false →
          vp_in v4 6 ∧
          vp_in v4 6 ∧
          ∀ s2 : St, s2 = u1 s1 (v0 + 1) v4.toNatClampNeg ((s1.1 (v0 + 1) v4.toNatClampNeg) ||| ((v3 &&& (1 : Int32)) <<< (v5 &&& 31))) →
          ∀ x3 : Int32, x3 = (v3 >>> ((1 : Int32) &&& 31)) →
          ∀ x4 : Int32, x4 = v5 + (1 : Int32) →
          wX8_setOpenLegs_25 post R5 n v0 v1 x3 v4 x4 s2)))
def wX8_setOpenLegs_5 (post : St → Prop) : Nat → Nat → Nat → Int32 → Int32 → St → Prop
  | 0 => fun _ _ _ _ _ => False
  | n + 1 => fun v0 v1 v3 v4 σ =>
    ((σ.1 v1 0) ≤ v4 →
      post σ
    ) ∧ (¬ (σ.1 v1 0) ≤ v4 →
      vp_in v4 6 ∧
      ∀ s1 : St, s1 = u1 σ (v0 + 1) v4.toNatClampNeg (0 : Int32) →
      ∃ j, wX8_setOpenLegs_25 post (wX8_setOpenLegs_5 post n) j v0 v1 v3 v4 (0 : Int32) s1)
def wX8_setOpenLegs (v0 : Nat) (v1 : Nat) (v2 : Int32) (σ : St) (post : St → Prop) : Prop :=
  ∃ j, wX8_setOpenLegs_5 post j v0 v1 v2 (0 : Int32) σ

def wX8_chooseWires_7 (post : St → Prop) : Nat → Nat → Nat → Int32 → Int32 → St → Prop
  | 0 => fun _ _ _ _ _ => False
  | n + 1 => fun v0 v1 v2 v3 σ =>
    ((σ.1 v1 1) ≤ v3 →
      post σ
    ) ∧ (¬ (σ.1 v1 1) ≤ v3 →
      wX4_isBetween v1 v3 v2 σ (fun r1 s1 =>
        (r1 = false →
          ∀ x1 : Int32, x1 = v3 + (1 : Int32) →
          wX8_chooseWires_7 post n v0 v1 v2 x1 s1
        ) ∧ (r1 = true →
          vp_in (s1.1 v0 3) 10 ∧
          ∀ s2 : St, s2 = u1 s1 (v0 + 2) (s1.1 v0 3).toNatClampNeg v3 →
          ∀ s3 : St, s3 = u1 s2 v0 3 ((s2.1 v0 3) + (1 : Int32)) →
          ∀ x2 : Int32, x2 = v3 + (1 : Int32) →
          wX8_chooseWires_7 post n v0 v1 v2 x2 s3)))
def wX8_chooseWires (v0 : Nat) (v1 : Nat) (v2 : Int32) (σ : St) (post : St → Prop) : Prop :=
  ∀ s1 : St, s1 = u1 σ v0 3 (0 : Int32) →
  ∃ j, wX8_chooseWires_7 post j v0 v1 v2 (0 : Int32) s1

def wX8_turnLeg (v0 : Nat) (v1 : Int32) (σ : St) (post : St → Prop) : Prop :=
  ∀ x1 : Int32, x1 = (v1 / (4 : Int32)) →
  vp_in x1 6 ∧
  vp_in x1 6 ∧
  ∀ s1 : St, s1 = u1 σ (v0 + 1) x1.toNatClampNeg ((σ.1 (v0 + 1) x1.toNatClampNeg) ^^^ ((1 : Int32) <<< ((v1 - v1 / (4 : Int32) * (4 : Int32)) &&& 31))) →
  post s1

def wX8_turnWire (v0 : Nat) (v1 : Nat) (v2 : Int32) (σ : St) (post : St → Prop) : Prop :=
  (v2 < 0 →
    post σ
  ) ∧ (¬ v2 < 0 →
    ((σ.1 v0 3) ≤ v2 →
      post σ
    ) ∧ (¬ (σ.1 v0 3) ≤ v2 →
      vp_in v2 10 ∧
      ∀ x1 : Int32, x1 = ((2 : Int32) * (σ.1 (v0 + 2) v2.toNatClampNeg)) →
      vp_in x1 20 ∧
      wX8_turnLeg v0 (σ.1 (v1 + 2) x1.toNatClampNeg) σ (fun s1 =>
        vp_in v2 10 ∧
        ∀ x2 : Int32, x2 = (((2 : Int32) * (s1.1 (v0 + 2) v2.toNatClampNeg)) + (1 : Int32)) →
        vp_in x2 20 ∧
        wX8_turnLeg v0 (s1.1 (v1 + 2) x2.toNatClampNeg) s1 (fun s2 =>
          post s2))))

def wX8_productHere_6 (post : Int32 → St → Prop) : Nat → Nat → Nat → Int32 → Int32 → Int32 → Int32 → St → Prop
  | 0 => fun _ _ _ _ _ _ _ => False
  | n + 1 => fun v0 v1 v2 v3 v4 v5 σ =>
    ((σ.1 v1 0) ≤ v5 →
      post v4 σ
    ) ∧ (¬ (σ.1 v1 0) ≤ v5 →
      (v4 = 0 →
        post v4 σ
      ) ∧ (¬ v4 = 0 →
        (¬ ((v2 >>> (v5 &&& 31)) &&& (1 : Int32)) = (1 : Int32) →
          ∀ x1 : Int32, x1 = v5 + (1 : Int32) →
          wX8_productHere_6 post n v0 v1 v2 v3 v4 x1 σ
        ) ∧ (((v2 >>> (v5 &&& 31)) &&& (1 : Int32)) = (1 : Int32) →
          vp_in v5 6 ∧
          vp_in v5 6 ∧
          ∀ x2 : Int32, x2 = (σ.1 (v0 + 1) v5.toNatClampNeg) →
          vp_in x2 16 ∧
          wX10_mod (v4 * (σ.1 (((v1 + 1) + 2 + 2 * v5.toNatClampNeg) + 1) x2.toNatClampNeg)) v3 σ (fun r1 s1 =>
            ∀ x3 : Int32, x3 = v5 + (1 : Int32) →
            wX8_productHere_6 post n v0 v1 v2 v3 r1 x3 s1))))
def wX8_productHere (v0 : Nat) (v1 : Nat) (v2 : Int32) (v3 : Int32) (σ : St) (post : Int32 → St → Prop) : Prop :=
  ∃ j, wX8_productHere_6 post j v0 v1 v2 v3 (1 : Int32) (0 : Int32) σ

def wX8_goThroughSettings_84 (post : St → Prop) (R19 : Nat → Nat → Int32 → Int32 → Int32 → St → Prop) (v0 : Nat) (v1 : Nat) (v2 : Int32) (v3 : Int32) (v4 : Int32) (t0 : Nat) (t1 : Int32) (t2 : Int32) (σ : St) : Prop :=
  ∀ s1 : St, s1 = u1 σ t0 1 (t1 + t2) →
  ∀ x1 : Int32, x1 = v4 + (1 : Int32) →
  R19 v0 v1 v2 v3 x1 s1
def wX8_goThroughSettings_45 (post : St → Prop) (R19 : Nat → Nat → Int32 → Int32 → Int32 → St → Prop) (v0 : Nat) (v1 : Nat) (v2 : Int32) (v3 : Int32) (v4 : Int32) (σ : St) : Prop :=
  wX8_productHere v0 v1 v2 v3 σ (fun r1 s1 =>
    wX10_mod ((s1.1 v0 0) + r1) v3 s1 (fun r2 s2 =>
      ∀ s3 : St, s3 = u1 s2 v0 0 r2 →
      (¬ r1 = 0 →
        wX8_goThroughSettings_84 post R19 v0 v1 v2 v3 v4 v0 (s3.1 v0 1) (1 : Int32) s3
      ) ∧ (r1 = 0 →
        wX8_goThroughSettings_84 post R19 v0 v1 v2 v3 v4 v0 (s3.1 v0 1) (0 : Int32) s3)))
def wX8_goThroughSettings_19 (post : St → Prop) : Nat → Nat → Nat → Int32 → Int32 → Int32 → St → Prop
  | 0 => fun _ _ _ _ _ _ => False
  | n + 1 => fun v0 v1 v2 v3 v4 σ =>
    (((1 : Int32) <<< ((σ.1 v0 3) &&& 31)) ≤ v4 →
      post σ
    ) ∧ (¬ ((1 : Int32) <<< ((σ.1 v0 3) &&& 31)) ≤ v4 →
      (v4 ≤ 0 →
        wX8_goThroughSettings_45 post (wX8_goThroughSettings_19 post n) v0 v1 v2 v3 v4 σ
      ) ∧ (¬ v4 ≤ 0 →
        wJ6_numberOfTrailingZeros_0f7a4 v4 σ (fun r1 s1 =>
          wX8_turnWire v0 v1 r1 s1 (fun s2 =>
            wX8_goThroughSettings_45 post (wX8_goThroughSettings_19 post n) v0 v1 v2 v3 v4 s2))))
def wX8_goThroughSettings (v0 : Nat) (v1 : Nat) (v2 : Int32) (v3 : Int32) (σ : St) (post : St → Prop) : Prop :=
  wX8_chooseWires v0 v1 v2 σ (fun s1 =>
    ∀ s2 : St, s2 = u1 s1 v0 0 (0 : Int32) →
    ∀ s3 : St, s3 = u1 s2 v0 1 (0 : Int32) →
    ∃ j, wX8_goThroughSettings_19 post j v0 v1 v2 v3 (0 : Int32) s3)

def wX8_goThrough (v0 : Nat) (v1 : Nat) (v2 : Int32) (v3 : Int32) (σ : St) (post : St → Prop) : Prop :=
  wX8_setOpenLegs v0 v1 v2 σ (fun s1 =>
    wX4_allNodes v1 s1 (fun r1 s2 =>
      wX8_goThroughSettings v0 v1 r1 v3 s2 (fun s3 =>
        post s3)))

def wX8_goThroughSome_3 (post : St → Prop) : Nat → Nat → Nat → Int32 → Int32 → Int32 → St → Prop
  | 0 => fun _ _ _ _ _ _ => False
  | n + 1 => fun v0 v1 v2 v3 v4 σ =>
    ((6 : Int32) ≤ v4 →
      wX8_goThroughSettings v0 v1 v2 v3 σ (fun s1 =>
        post s1)
    ) ∧ (¬ (6 : Int32) ≤ v4 →
      vp_in v4 6 ∧
      ∀ s2 : St, s2 = u1 σ (v0 + 1) v4.toNatClampNeg (0 : Int32) →
      ∀ x1 : Int32, x1 = v4 + (1 : Int32) →
      wX8_goThroughSome_3 post n v0 v1 v2 v3 x1 s2)
def wX8_goThroughSome (v0 : Nat) (v1 : Nat) (v2 : Int32) (v3 : Int32) (σ : St) (post : St → Prop) : Prop :=
  ∃ j, wX8_goThroughSome_3 post j v0 v1 v2 v3 (0 : Int32) σ

def wX8_goThroughAll_10 (post : St → Prop) : Nat → Nat → Nat → Int32 → Int32 → St → Prop
  | 0 => fun _ _ _ _ _ => False
  | n + 1 => fun v0 v1 v2 v3 σ =>
    (((4 : Int32) * (σ.1 v1 0)) ≤ v3 →
      wX4_allNodes (v0 + 3) σ (fun r1 s1 =>
        wX8_goThroughSome v0 (v0 + 3) r1 v2 s1 (fun s2 =>
          post s2))
    ) ∧ (¬ ((4 : Int32) * (σ.1 v1 0)) ≤ v3 →
      wX4_isOpen v1 v3 σ (fun r2 s3 =>
        (r2 = false →
          ∀ x1 : Int32, x1 = v3 + (1 : Int32) →
          wX8_goThroughAll_10 post n v0 v1 v2 x1 s3
        ) ∧ (r2 = true →
          ∀ x2 : Int32, x2 = (v3 / (4 : Int32)) →
          vp_in x2 6 ∧
          wX7_foldLeg (((v0 + 3) + 1) + 2 + 2 * x2.toNatClampNeg) (v3 - v3 / (4 : Int32) * (4 : Int32)) v2 s3 (fun s4 =>
            ∀ x3 : Int32, x3 = v3 + (1 : Int32) →
            wX8_goThroughAll_10 post n v0 v1 v2 x3 s4))))
def wX8_goThroughAll (v0 : Nat) (v1 : Nat) (v2 : Int32) (σ : St) (post : St → Prop) : Prop :=
  wX4_copyFrom (v0 + 3) v1 σ (fun s1 =>
    ∃ j, wX8_goThroughAll_10 post j v0 v1 v2 (0 : Int32) s1)

def wX6_takeDigits_86 (post : St → Prop) (t0 : Nat) (t1 : Int32) (σ : St) : Prop :=
  ∀ s1 : St, s1 = u1 σ t0 4 t1 →
  post s1
def wX6_takeDigits_67 (post : St → Prop) (v0 : Nat) (σ : St) : Prop :=
  ((2 : Int32) < ((σ.1 v0 2) - (σ.1 v0 5)) →
    wX6_takeDigits_86 post v0 (4 : Int32) σ
  ) ∧ (¬ (2 : Int32) < ((σ.1 v0 2) - (σ.1 v0 5)) →
    wX6_takeDigits_86 post v0 (1 : Int32) σ)
def wX6_takeDigits_0 (post : St → Prop) : Nat → Nat → Nat → St → Prop
  | 0 => fun _ _ _ => False
  | n + 1 => fun v0 v1 σ =>
    ((σ.1 v0 3) ≤ (σ.1 v0 2) →
      wX6_takeDigits_67 post v0 σ
    ) ∧ (¬ (σ.1 v0 3) ≤ (σ.1 v0 2) →
      ∀ x1 : Int32, x1 = (σ.1 v0 2) →
      vp_in x1 700 ∧
      ((σ.1 v1 x1.toNatClampNeg) < (48 : Int32) →
        wX6_takeDigits_67 post v0 σ
      ) ∧ (¬ (σ.1 v1 x1.toNatClampNeg) < (48 : Int32) →
        ∀ x2 : Int32, x2 = (σ.1 v0 2) →
        vp_in x2 700 ∧
        ((57 : Int32) < (σ.1 v1 x2.toNatClampNeg) →
          wX6_takeDigits_67 post v0 σ
        ) ∧ (¬ (57 : Int32) < (σ.1 v1 x2.toNatClampNeg) →
          ∀ x3 : Int32, x3 = (σ.1 v0 2) →
          vp_in x3 700 ∧
          ∀ s1 : St, s1 = u1 σ v0 6 ((((10 : Int32) * (σ.1 v0 6)) + (σ.1 v1 x3.toNatClampNeg)) - (48 : Int32)) →
          ∀ s2 : St, s2 = u1 s1 v0 2 ((s1.1 v0 2) + (1 : Int32)) →
          wX6_takeDigits_0 post n v0 v1 s2)))
def wX6_takeDigits (v0 : Nat) (v1 : Nat) (σ : St) (post : St → Prop) : Prop :=
  ∃ j, wX6_takeDigits_0 post j v0 v1 σ

def wX6_takeLetters_99 (post : St → Prop) (t0 : Nat) (t1 : Int32) (σ : St) : Prop :=
  ∀ s1 : St, s1 = u1 σ t0 4 t1 →
  post s1
def wX6_takeLetters_98 (post : St → Prop) (t0 : Nat) (σ : St) : Prop :=
  wX6_takeLetters_99 post t0 (4 : Int32) σ
def wX6_takeLetters_68 (post : St → Prop) (v0 : Nat) (σ : St) : Prop :=
  ((σ.1 v0 2) ≤ (σ.1 v0 5) →
    wX6_takeLetters_98 post v0 σ
  ) ∧ (¬ (σ.1 v0 2) ≤ (σ.1 v0 5) →
    ((6 : Int32) < ((σ.1 v0 2) - (σ.1 v0 5)) →
      wX6_takeLetters_98 post v0 σ
    ) ∧ (¬ (6 : Int32) < ((σ.1 v0 2) - (σ.1 v0 5)) →
      wX6_takeLetters_99 post v0 (0 : Int32) σ))
def wX6_takeLetters_0 (post : St → Prop) : Nat → Nat → Nat → St → Prop
  | 0 => fun _ _ _ => False
  | n + 1 => fun v0 v1 σ =>
    ((σ.1 v0 3) ≤ (σ.1 v0 2) →
      wX6_takeLetters_68 post v0 σ
    ) ∧ (¬ (σ.1 v0 3) ≤ (σ.1 v0 2) →
      ∀ x1 : Int32, x1 = (σ.1 v0 2) →
      vp_in x1 700 ∧
      ((σ.1 v1 x1.toNatClampNeg) < (97 : Int32) →
        wX6_takeLetters_68 post v0 σ
      ) ∧ (¬ (σ.1 v1 x1.toNatClampNeg) < (97 : Int32) →
        ∀ x2 : Int32, x2 = (σ.1 v0 2) →
        vp_in x2 700 ∧
        ((122 : Int32) < (σ.1 v1 x2.toNatClampNeg) →
          wX6_takeLetters_68 post v0 σ
        ) ∧ (¬ (122 : Int32) < (σ.1 v1 x2.toNatClampNeg) →
          ∀ x3 : Int32, x3 = (σ.1 v0 2) →
          vp_in x3 700 ∧
          ∀ s1 : St, s1 = u1 σ v0 6 (((σ.1 v0 6) <<< ((5 : Int32) &&& 31)) ||| (((σ.1 v1 x3.toNatClampNeg) - (97 : Int32)) + (1 : Int32))) →
          ∀ s2 : St, s2 = u1 s1 v0 2 ((s1.1 v0 2) + (1 : Int32)) →
          wX6_takeLetters_0 post n v0 v1 s2)))
def wX6_takeLetters (v0 : Nat) (v1 : Nat) (σ : St) (post : St → Prop) : Prop :=
  ∃ j, wX6_takeLetters_0 post j v0 v1 σ

def wX6_advance_137 (post : St → Prop) (v0 : Nat) (v1 : Nat) (σ : St) : Prop :=
  wX6_takeLetters v0 v1 σ (fun s1 =>
    post s1)
def wX6_advance_46 (post : St → Prop) (v0 : Nat) (v1 : Nat) (σ : St) : Prop :=
  ∀ s1 : St, s1 = u1 σ v0 5 (σ.1 v0 2) →
  ∀ s2 : St, s2 = u1 s1 v0 6 (0 : Int32) →
  ((s2.1 v0 2) < (s2.1 v0 3) →
    ∀ x1 : Int32, x1 = (s2.1 v0 2) →
    vp_in x1 700 ∧
    (¬ (s2.1 v1 x1.toNatClampNeg) = (59 : Int32) →
      ∀ x2 : Int32, x2 = (s2.1 v0 2) →
      vp_in x2 700 ∧
      ((s2.1 v1 x2.toNatClampNeg) < (48 : Int32) →
        wX6_advance_137 post v0 v1 s2
      ) ∧ (¬ (s2.1 v1 x2.toNatClampNeg) < (48 : Int32) →
        ∀ x3 : Int32, x3 = (s2.1 v0 2) →
        vp_in x3 700 ∧
        ((57 : Int32) < (s2.1 v1 x3.toNatClampNeg) →
          wX6_advance_137 post v0 v1 s2
        ) ∧ (¬ (57 : Int32) < (s2.1 v1 x3.toNatClampNeg) →
          wX6_takeDigits v0 v1 s2 (fun s3 =>
            post s3)))
    ) ∧ ((s2.1 v1 x1.toNatClampNeg) = (59 : Int32) →
      ∀ s4 : St, s4 = u1 s2 v0 4 (2 : Int32) →
      ∀ s5 : St, s5 = u1 s4 v0 2 ((s4.1 v0 2) + (1 : Int32)) →
      post s5)
  ) ∧ (¬ (s2.1 v0 2) < (s2.1 v0 3) →
    ∀ s6 : St, s6 = u1 s2 v0 4 (3 : Int32) →
    post s6)
def wX6_advance_33 (post : St → Prop) (R0 : Nat → Nat → St → Prop) (v0 : Nat) (v1 : Nat) (σ : St) : Prop :=
  ∀ s1 : St, s1 = u1 σ v0 2 ((σ.1 v0 2) + (1 : Int32)) →
  R0 v0 v1 s1
def wX6_advance_0 (post : St → Prop) : Nat → Nat → Nat → St → Prop
  | 0 => fun _ _ _ => False
  | n + 1 => fun v0 v1 σ =>
    ((σ.1 v0 3) ≤ (σ.1 v0 2) →
      wX6_advance_46 post v0 v1 σ
    ) ∧ (¬ (σ.1 v0 3) ≤ (σ.1 v0 2) →
      ∀ x1 : Int32, x1 = (σ.1 v0 2) →
      vp_in x1 700 ∧
      ((σ.1 v1 x1.toNatClampNeg) = (32 : Int32) →
        wX6_advance_33 post (wX6_advance_0 post n) v0 v1 σ
      ) ∧ (¬ (σ.1 v1 x1.toNatClampNeg) = (32 : Int32) →
        ∀ x2 : Int32, x2 = (σ.1 v0 2) →
        vp_in x2 700 ∧
        (¬ (σ.1 v1 x2.toNatClampNeg) = (10 : Int32) →
          wX6_advance_46 post v0 v1 σ
        ) ∧ ((σ.1 v1 x2.toNatClampNeg) = (10 : Int32) →
          wX6_advance_33 post (wX6_advance_0 post n) v0 v1 σ)))
def wX6_advance (v0 : Nat) (v1 : Nat) (σ : St) (post : St → Prop) : Prop :=
  ∃ j, wX6_advance_0 post j v0 v1 σ

def wX6_keyword_9 (post : Int32 → St → Prop) : Nat → Nat → Int32 → St → Prop
  | 0 => fun _ _ _ => False
  | n + 1 => fun v0 v1 σ =>
    ((nI 6) ≤ v1 →
      post (-1 : Int32) σ
    ) ∧ (¬ (nI 6) ≤ v1 →
      vp_in v1 6 ∧
      (¬ (σ.1 (v0 + 5) v1.toNatClampNeg) = (σ.1 v0 6) →
        ∀ x1 : Int32, x1 = v1 + (1 : Int32) →
        wX6_keyword_9 post n v0 x1 σ
      ) ∧ ((σ.1 (v0 + 5) v1.toNatClampNeg) = (σ.1 v0 6) →
        post v1 σ))
def wX6_keyword (v0 : Nat) (σ : St) (post : Int32 → St → Prop) : Prop :=
  (¬ (σ.1 v0 4) = 0 →
    post (-1 : Int32) σ
  ) ∧ ((σ.1 v0 4) = 0 →
    ∃ j, wX6_keyword_9 post j v0 (0 : Int32) σ)

def wX6_fail (v0 : Nat) (v1 : Int32) (σ : St) (post : Bool → St → Prop) : Prop :=
  ∀ s1 : St, s1 = u1 σ v0 7 ((-2 : Int32) - (((8 : Int32) * (σ.1 v0 5)) + v1)) →
  post false s1

def wX6_isNumber_30 (post : Bool → St → Prop) (v0 : Nat) (σ : St) : Prop :=
  wX6_fail v0 (4 : Int32) σ (fun r1 s1 =>
    (r1 = false →
      post false s1
    ) ∧ (r1 = true →
      post true s1))
def wX6_isNumber (v0 : Nat) (v1 : Int32) (v2 : Int32) (σ : St) (post : Bool → St → Prop) : Prop :=
  ((σ.1 v0 4) = (1 : Int32) →
    ((σ.1 v0 6) < v1 →
      wX6_isNumber_30 post v0 σ
    ) ∧ (¬ (σ.1 v0 6) < v1 →
      ((σ.1 v0 6) ≤ v2 →
        post true σ
      ) ∧ (¬ (σ.1 v0 6) ≤ v2 →
        wX6_isNumber_30 post v0 σ))
  ) ∧ (¬ (σ.1 v0 4) = (1 : Int32) →
    wX6_fail v0 (1 : Int32) σ (fun r1 s1 =>
      post r1 s1))

def wX6_takeNumber (v0 : Nat) (v1 : Nat) (v2 : Int32) (v3 : Int32) (σ : St) (post : Bool → St → Prop) : Prop :=
  wX6_advance v0 v1 σ (fun s1 =>
    wX6_isNumber v0 v2 v3 s1 (fun r1 s2 =>
      post r1 s2))

def wX6_isPrime_2 (post : Bool → St → Prop) : Nat → Int32 → Int32 → St → Prop
  | 0 => fun _ _ _ => False
  | n + 1 => fun v0 v1 σ =>
    (v0 ≤ v1 →
      (v0 ≤ (1 : Int32) →
        post false σ
      ) ∧ (¬ v0 ≤ (1 : Int32) →
        post true σ)
    ) ∧ (¬ v0 ≤ v1 →
      (¬ v1 = 0) ∧
      (¬ (v0 - v0 / v1 * v1) = 0 →
        ∀ x1 : Int32, x1 = v1 + (1 : Int32) →
        wX6_isPrime_2 post n v0 x1 σ
      ) ∧ ((v0 - v0 / v1 * v1) = 0 →
        post false σ))
def wX6_isPrime (v0 : Int32) (σ : St) (post : Bool → St → Prop) : Prop :=
  ∃ j, wX6_isPrime_2 post j v0 (2 : Int32) σ

def wX6_takeEnd (v0 : Nat) (v1 : Nat) (σ : St) (post : Bool → St → Prop) : Prop :=
  wX6_advance v0 v1 σ (fun s1 =>
    ((s1.1 v0 4) = (2 : Int32) →
      post true s1
    ) ∧ (¬ (s1.1 v0 4) = (2 : Int32) →
      wX6_fail v0 (1 : Int32) s1 (fun r1 s2 =>
        (r1 = false →
          post false s2
        ) ∧ (r1 = true →
          post true s2))))

def wX6_readField (v0 : Nat) (v1 : Nat) (v2 : Nat) (σ : St) (post : Bool → St → Prop) : Prop :=
  wX6_takeNumber v0 v1 (3 : Int32) (97 : Int32) σ (fun r1 s1 =>
    (r1 = true →
      wX6_isPrime (s1.1 v0 6) s1 (fun r2 s2 =>
        (r2 = true →
          ∀ s3 : St, s3 = u1 s2 v2 0 (s2.1 v0 6) →
          wX6_takeEnd v0 v1 s3 (fun r3 s4 =>
            post r3 s4)
        ) ∧ (r2 = false →
          wX6_fail v0 (4 : Int32) s2 (fun r4 s5 =>
            post r4 s5)))
    ) ∧ (r1 = false →
      post false s1))

def wX6_takeNewName_20 (post : Bool → St → Prop) (v0 : Nat) (σ : St) : Prop :=
  wX6_fail v0 (1 : Int32) σ (fun r1 s1 =>
    post r1 s1)
def wX6_takeNewName (v0 : Nat) (v1 : Nat) (v2 : Nat) (σ : St) (post : Bool → St → Prop) : Prop :=
  wX6_advance v0 v1 σ (fun s1 =>
    (¬ (s1.1 v0 4) = 0 →
      wX6_takeNewName_20 post v0 s1
    ) ∧ ((s1.1 v0 4) = 0 →
      wX6_keyword v0 s1 (fun r1 s2 =>
        (r1 = (-1 : Int32) →
          wX9_hasName v2 (s2.1 v0 6) s2 (fun r2 s3 =>
            (r2 = false →
              post true s3
            ) ∧ (r2 = true →
              wX6_fail v0 (2 : Int32) s3 (fun r3 s4 =>
                (r3 = false →
                  post false s4
                ) ∧ (r3 = true →
                  post true s4))))
        ) ∧ (¬ r1 = (-1 : Int32) →
          wX6_takeNewName_20 post v0 s2))))

def wX6_readTable_72 (post : Bool → St → Prop) : Nat → Nat → Nat → Nat → Nat → Int32 → St → Prop
  | 0 => fun _ _ _ _ _ _ => False
  | n + 1 => fun v0 v1 v2 v3 v4 σ =>
    wX7_size v3 σ (fun r1 s1 =>
      (r1 ≤ v4 →
        ∀ s2 : St, s2 = u1 s1 v2 1 ((s1.1 v2 1) + (1 : Int32)) →
        wX6_takeEnd v0 v1 s2 (fun r2 s3 =>
          post r2 s3)
      ) ∧ (¬ r1 ≤ v4 →
        wX6_takeNumber v0 v1 (0 : Int32) ((s1.1 v2 0) - (1 : Int32)) s1 (fun r3 s4 =>
          (r3 = true →
            vp_in v4 16 ∧
            ∀ s5 : St, s5 = u1 s4 (v3 + 1) v4.toNatClampNeg (s4.1 v0 6) →
            ∀ x1 : Int32, x1 = v4 + (1 : Int32) →
            wX6_readTable_72 post n v0 v1 v2 v3 x1 s5
          ) ∧ (r3 = false →
            post false s4))))
def wX6_readTable (v0 : Nat) (v1 : Nat) (v2 : Nat) (σ : St) (post : Bool → St → Prop) : Prop :=
  ((σ.1 v2 1) < (8 : Int32) →
    wX6_takeNewName v0 v1 v2 σ (fun r1 s1 =>
      (r1 = true →
        wX9_addName v2 (s1.1 v0 6) (1 : Int32) (s1.1 v2 1) s1 (fun s2 =>
          wX6_takeNumber v0 v1 (1 : Int32) (4 : Int32) s2 (fun r2 s3 =>
            (r2 = true →
              ∀ x1 : Int32, x1 = (s3.1 v2 1) →
              vp_in x1 8 ∧
              ∀ s4 : St, s4 = u1 s3 ((v2 + 1) + 20 + 2 * x1.toNatClampNeg) 0 (s3.1 v0 6) →
              ∃ j, wX6_readTable_72 post j v0 v1 v2 ((v2 + 1) + 20 + 2 * x1.toNatClampNeg) (0 : Int32) s4
            ) ∧ (r2 = false →
              post false s3)))
      ) ∧ (r1 = false →
        post false s1))
  ) ∧ (¬ (σ.1 v2 1) < (8 : Int32) →
    wX6_fail v0 (5 : Int32) σ (fun r3 s5 =>
      post r3 s5))

def wX6_readEdge (v0 : Nat) (v1 : Nat) (v2 : Int32) (σ : St) (post : Bool → St → Prop) : Prop :=
  wX6_isNumber v0 (0 : Int32) ((σ.1 (v0 + 1) 0) - (1 : Int32)) σ (fun r1 s1 =>
    (r1 = true →
      ((s1.1 (v0 + 1) 1) < (12 : Int32) →
        ∀ x1 : Int32, x1 = (s1.1 v0 6) →
        wX6_takeNumber v0 v1 (0 : Int32) ((s1.1 (v0 + 1) 0) - (1 : Int32)) s1 (fun r2 s2 =>
          (r2 = true →
            ∀ x2 : Int32, x2 = (s2.1 v0 6) →
            wX2_hasEdge (v0 + 1) x1 x2 s2 (fun r3 s3 =>
              (r3 = false →
                (¬ x1 = x2 →
                  wX6_takeNumber v0 v1 (1 : Int32) (v2 - (1 : Int32)) s3 (fun r4 s4 =>
                    (r4 = true →
                      wX2_addEdge (v0 + 1) x1 x2 (s4.1 v0 6) s4 (fun s5 =>
                        post true s5)
                    ) ∧ (r4 = false →
                      post false s4))
                ) ∧ (x1 = x2 →
                  wX6_fail v0 (4 : Int32) s3 (fun r5 s6 =>
                    post r5 s6))
              ) ∧ (r3 = true →
                wX6_fail v0 (2 : Int32) s3 (fun r6 s7 =>
                  post r6 s7)))
          ) ∧ (r2 = false →
            post false s2))
      ) ∧ (¬ (s1.1 (v0 + 1) 1) < (12 : Int32) →
        wX6_fail v0 (5 : Int32) s1 (fun r7 s8 =>
          post r7 s8))
    ) ∧ (r1 = false →
      post false s1))

def wX6_readGate_148 (post : Bool → St → Prop) (v0 : Nat) (v2 : Nat) (v3 : Nat) (σ : St) : Prop :=
  wX2_fill (v0 + 1) v3 (σ.1 v2 0) σ (fun s1 =>
    ∀ s2 : St, s2 = u1 s1 v2 1 ((s1.1 v2 1) + (1 : Int32)) →
    post true s2)
def wX6_readGate_108 (post : Bool → St → Prop) : Nat → Nat → Nat → Nat → Nat → Int32 → St → Prop
  | 0 => fun _ _ _ _ _ _ => False
  | n + 1 => fun v0 v1 v2 v3 v4 σ =>
    ((12 : Int32) < v4 →
      wX6_readGate_148 post v0 v2 v3 σ
    ) ∧ (¬ (12 : Int32) < v4 →
      ((σ.1 v0 4) = (2 : Int32) →
        wX6_readGate_148 post v0 v2 v3 σ
      ) ∧ (¬ (σ.1 v0 4) = (2 : Int32) →
        wX6_readEdge v0 v1 (σ.1 v2 0) σ (fun r1 s1 =>
          (r1 = true →
            wX6_advance v0 v1 s1 (fun s2 =>
              ∀ x1 : Int32, x1 = v4 + (1 : Int32) →
              wX6_readGate_108 post n v0 v1 v2 v3 x1 s2)
          ) ∧ (r1 = false →
            post false s1))))
def wX6_readGate (v0 : Nat) (v1 : Nat) (v2 : Nat) (σ : St) (post : Bool → St → Prop) : Prop :=
  ((σ.1 v2 1) < (8 : Int32) →
    wX6_takeNewName v0 v1 v2 σ (fun r1 s1 =>
      (r1 = true →
        wX9_addName v2 (s1.1 v0 6) (1 : Int32) (s1.1 v2 1) s1 (fun s2 =>
          wX6_takeNumber v0 v1 (1 : Int32) (8 : Int32) s2 (fun r2 s3 =>
            (r2 = true →
              wX2_begin (v0 + 1) (s3.1 v0 6) s3 (fun s4 =>
                wX6_takeNumber v0 v1 (1 : Int32) (if (4 : Int32) < (s4.1 v0 6) then (4 : Int32) else (s4.1 v0 6)) s4 (fun r3 s5 =>
                  (r3 = true →
                    ∀ x1 : Int32, x1 = (s5.1 v2 1) →
                    vp_in x1 8 ∧
                    ∀ s6 : St, s6 = u1 s5 ((v2 + 1) + 20 + 2 * x1.toNatClampNeg) 0 (s5.1 v0 6) →
                    wX6_advance v0 v1 s6 (fun s7 =>
                      ∃ j, wX6_readGate_108 post j v0 v1 v2 ((v2 + 1) + 20 + 2 * x1.toNatClampNeg) (0 : Int32) s7)
                  ) ∧ (r3 = false →
                    post false s5)))
            ) ∧ (r2 = false →
              post false s3)))
      ) ∧ (r1 = false →
        post false s1))
  ) ∧ (¬ (σ.1 v2 1) < (8 : Int32) →
    wX6_fail v0 (5 : Int32) σ (fun r4 s8 =>
      post r4 s8))

def wX6_readBase (v0 : Nat) (v1 : Nat) (v2 : Nat) (σ : St) (post : Bool → St → Prop) : Prop :=
  ((σ.1 v2 3) < (5 : Int32) →
    wX6_takeNewName v0 v1 v2 σ (fun r1 s1 =>
      (r1 = true →
        wX9_addName v2 (s1.1 v0 6) (3 : Int32) (s1.1 v2 3) s1 (fun s2 =>
          ∀ x1 : Int32, x1 = (s2.1 v2 3) →
          vp_in x1 5 ∧
          wX6_takeNumber v0 v1 (0 : Int32) ((s2.1 v2 0) - (1 : Int32)) s2 (fun r2 s3 =>
            (r2 = true →
              ∀ s4 : St, s4 = u1 s3 ((v2 + 2) + 35 + 1 * x1.toNatClampNeg) 0 (s3.1 v0 6) →
              wX6_takeNumber v0 v1 (0 : Int32) ((s4.1 v2 0) - (1 : Int32)) s4 (fun r3 s5 =>
                (r3 = true →
                  ∀ s6 : St, s6 = u1 s5 ((v2 + 2) + 35 + 1 * x1.toNatClampNeg) 1 (s5.1 v0 6) →
                  wX6_takeNumber v0 v1 (0 : Int32) ((s6.1 v2 0) - (1 : Int32)) s6 (fun r4 s7 =>
                    (r4 = true →
                      ∀ s8 : St, s8 = u1 s7 ((v2 + 2) + 35 + 1 * x1.toNatClampNeg) 2 (s7.1 v0 6) →
                      wX6_takeNumber v0 v1 (0 : Int32) ((s8.1 v2 0) - (1 : Int32)) s8 (fun r5 s9 =>
                        (r5 = true →
                          ∀ s10 : St, s10 = u1 s9 ((v2 + 2) + 35 + 1 * x1.toNatClampNeg) 3 (s9.1 v0 6) →
                          wX1_determinant ((v2 + 2) + 35 + 1 * x1.toNatClampNeg) (s10.1 v2 0) s10 (fun r6 s11 =>
                            (¬ r6 = 0 →
                              ∀ s12 : St, s12 = u1 s11 v2 3 ((s11.1 v2 3) + (1 : Int32)) →
                              wX6_takeEnd v0 v1 s12 (fun r7 s13 =>
                                post r7 s13)
                            ) ∧ (r6 = 0 →
                              wX6_fail v0 (4 : Int32) s11 (fun r8 s14 =>
                                post r8 s14)))
                        ) ∧ (r5 = false →
                          post false s9))
                    ) ∧ (r4 = false →
                      post false s7))
                ) ∧ (r3 = false →
                  post false s5))
            ) ∧ (r2 = false →
              post false s3)))
      ) ∧ (r1 = false →
        post false s1))
  ) ∧ (¬ (σ.1 v2 3) < (5 : Int32) →
    wX6_fail v0 (5 : Int32) σ (fun r9 s15 =>
      post r9 s15))

def wX6_takeKnownName_20 (post : Bool → St → Prop) (v0 : Nat) (σ : St) : Prop :=
  wX6_fail v0 (1 : Int32) σ (fun r1 s1 =>
    post r1 s1)
def wX6_takeKnownName (v0 : Nat) (v1 : Nat) (v2 : Nat) (v3 : Int32) (σ : St) (post : Bool → St → Prop) : Prop :=
  wX6_advance v0 v1 σ (fun s1 =>
    (¬ (s1.1 v0 4) = 0 →
      wX6_takeKnownName_20 post v0 s1
    ) ∧ ((s1.1 v0 4) = 0 →
      wX6_keyword v0 s1 (fun r1 s2 =>
        (r1 = (-1 : Int32) →
          wX9_numberOf v2 (s2.1 v0 6) v3 s2 (fun r2 s3 =>
            ∀ s4 : St, s4 = u1 s3 v0 6 r2 →
            (¬ (s4.1 v0 6) = (-1 : Int32) →
              post true s4
            ) ∧ ((s4.1 v0 6) = (-1 : Int32) →
              wX6_fail v0 (3 : Int32) s4 (fun r3 s5 =>
                (r3 = false →
                  post false s5
                ) ∧ (r3 = true →
                  post true s5))))
        ) ∧ (¬ r1 = (-1 : Int32) →
          wX6_takeKnownName_20 post v0 s2))))

def wX6_readNode (v0 : Nat) (v1 : Nat) (v2 : Nat) (σ : St) (post : Bool → St → Prop) : Prop :=
  ((σ.1 (v2 + 3) 0) < (6 : Int32) →
    wX6_takeNewName v0 v1 v2 σ (fun r1 s1 =>
      (r1 = true →
        wX9_addName v2 (s1.1 v0 6) (4 : Int32) (s1.1 (v2 + 3) 0) s1 (fun s2 =>
          wX6_takeKnownName v0 v1 v2 (1 : Int32) s2 (fun r2 s3 =>
            (r2 = true →
              ∀ x1 : Int32, x1 = (s3.1 v0 6) →
              vp_in x1 8 ∧
              wX4_addNode (v2 + 3) ((v2 + 1) + 20 + 2 * x1.toNatClampNeg) s3 (fun s4 =>
                wX6_takeEnd v0 v1 s4 (fun r3 s5 =>
                  post r3 s5))
            ) ∧ (r2 = false →
              post false s3)))
      ) ∧ (r1 = false →
        post false s1))
  ) ∧ (¬ (σ.1 (v2 + 3) 0) < (6 : Int32) →
    wX6_fail v0 (5 : Int32) σ (fun r4 s6 =>
      post r4 s6))

def wX6_takeLeg_79 (post : Bool → St → Prop) (v0 : Nat) (σ : St) : Prop :=
  wX6_fail v0 (2 : Int32) σ (fun r1 s1 =>
    post r1 s1)
def wX6_takeLeg (v0 : Nat) (v1 : Nat) (v2 : Nat) (v3 : Int32) (σ : St) (post : Bool → St → Prop) : Prop :=
  wX6_takeKnownName v0 v1 v2 (4 : Int32) σ (fun r1 s1 =>
    (r1 = true →
      ∀ x1 : Int32, x1 = (s1.1 v0 6) →
      vp_in x1 6 ∧
      wX6_takeNumber v0 v1 (0 : Int32) ((s1.1 (((v2 + 3) + 1) + 2 + 2 * x1.toNatClampNeg) 0) - (1 : Int32)) s1 (fun r2 s2 =>
        (r2 = true →
          ∀ s3 : St, s3 = u1 s2 v0 6 ((s2.1 v0 6) + ((4 : Int32) * x1)) →
          ((s3.1 v0 6) = v3 →
            wX6_takeLeg_79 post v0 s3
          ) ∧ (¬ (s3.1 v0 6) = v3 →
            wX4_hasWireAt (v2 + 3) (s3.1 v0 6) s3 (fun r3 s4 =>
              (r3 = false →
                post true s4
              ) ∧ (r3 = true →
                wX6_takeLeg_79 post v0 s4)))
        ) ∧ (r2 = false →
          post false s2))
    ) ∧ (r1 = false →
      post false s1))

def wX6_readWire (v0 : Nat) (v1 : Nat) (v2 : Nat) (σ : St) (post : Bool → St → Prop) : Prop :=
  ((σ.1 (v2 + 3) 1) < (10 : Int32) →
    wX6_takeLeg v0 v1 v2 (-1 : Int32) σ (fun r1 s1 =>
      (r1 = true →
        ∀ x1 : Int32, x1 = (s1.1 v0 6) →
        wX6_takeLeg v0 v1 v2 x1 s1 (fun r2 s2 =>
          (r2 = true →
            wX4_addWire (v2 + 3) x1 (s2.1 v0 6) s2 (fun s3 =>
              wX6_takeEnd v0 v1 s3 (fun r3 s4 =>
                post r3 s4))
          ) ∧ (r2 = false →
            post false s2))
      ) ∧ (r1 = false →
        post false s1))
  ) ∧ (¬ (σ.1 (v2 + 3) 1) < (10 : Int32) →
    wX6_fail v0 (5 : Int32) σ (fun r4 s5 =>
      post r4 s5))

def wX6_read_182 (post : Int32 → St → Prop) (R64 : Nat → Nat → Nat → Int32 → Int32 → St → Prop) (v0 : Nat) (v1 : Nat) (v3 : Nat) (v4 : Int32) (v5 : Int32) (v6 : Int32) (σ : St) : Prop :=
  (¬ v6 = 0 →
    ∀ x1 : Int32, x1 = v4 + (1 : Int32) →
    wX6_advance v0 v1 σ (fun s1 =>
      ∀ x2 : Int32, x2 = v5 + (1 : Int32) →
      R64 v0 v1 v3 x1 x2 s1)
  ) ∧ (v6 = 0 →
    post (σ.1 v0 7) σ)
def wX6_read_64 (post : Int32 → St → Prop) : Nat → Nat → Nat → Nat → Int32 → Int32 → St → Prop
  | 0 => fun _ _ _ _ _ _ => False
  | n + 1 => fun v0 v1 v3 v4 v5 σ =>
    ((700 : Int32) < v5 →
      post v4 σ
    ) ∧ (¬ (700 : Int32) < v5 →
      ((σ.1 v0 4) = (3 : Int32) →
        post v4 σ
      ) ∧ (¬ (σ.1 v0 4) = (3 : Int32) →
        wX6_keyword v0 σ (fun r1 s1 =>
          (r1 = (1 : Int32) →
            wX6_readTable v0 v1 v3 s1 (fun r2 s2 =>
              wX6_read_182 post (wX6_read_64 post n) v0 v1 v3 v4 v5 (b2i r2) s2)
          ) ∧ (¬ r1 = (1 : Int32) →
          (r1 = (2 : Int32) →
            wX6_readGate v0 v1 v3 s1 (fun r3 s3 =>
              wX6_read_182 post (wX6_read_64 post n) v0 v1 v3 v4 v5 (b2i r3) s3)
          ) ∧ (¬ r1 = (2 : Int32) →
          (r1 = (3 : Int32) →
            wX6_readBase v0 v1 v3 s1 (fun r4 s4 =>
              wX6_read_182 post (wX6_read_64 post n) v0 v1 v3 v4 v5 (b2i r4) s4)
          ) ∧ (¬ r1 = (3 : Int32) →
          (r1 = (4 : Int32) →
            wX6_readNode v0 v1 v3 s1 (fun r5 s5 =>
              wX6_read_182 post (wX6_read_64 post n) v0 v1 v3 v4 v5 (b2i r5) s5)
          ) ∧ (¬ r1 = (4 : Int32) →
          (r1 = (5 : Int32) →
            wX6_readWire v0 v1 v3 s1 (fun r6 s6 =>
              wX6_read_182 post (wX6_read_64 post n) v0 v1 v3 v4 v5 (b2i r6) s6)
          ) ∧ (¬ r1 = (5 : Int32) →
            wX6_fail v0 (1 : Int32) s1 (fun r7 s7 =>
              wX6_read_182 post (wX6_read_64 post n) v0 v1 v3 v4 v5 (b2i r7) s7)))))))))
def wX6_read_61 (post : Int32 → St → Prop) (v0 : Nat) (v1 : Nat) (v3 : Nat) (v4 : Int32) (σ : St) : Prop :=
  ∃ j, wX6_read_64 post j v0 v1 v3 v4 (0 : Int32) σ
def wX6_read (v0 : Nat) (v1 : Nat) (v2 : Int32) (v3 : Nat) (σ : St) (post : Int32 → St → Prop) : Prop :=
  ∀ s1 : St, s1 = u1 σ v0 2 (0 : Int32) →
  ∀ s2 : St, s2 = u1 s1 v0 3 (if (nI 700) < v2 then (nI 700) else v2) →
  ∀ s3 : St, s3 = u1 s2 v0 7 (0 : Int32) →
  wX9_clear v3 s3 (fun s4 =>
    wX6_advance v0 v1 s4 (fun s5 =>
      wX6_keyword v0 s5 (fun r1 s6 =>
        (¬ r1 = 0 →
          wX6_read_61 post v0 v1 v3 (0 : Int32) s6
        ) ∧ (r1 = 0 →
          wX6_readField v0 v1 v3 s6 (fun r2 s7 =>
            (r2 = true →
              ∀ x1 : Int32, x1 = (0 : Int32) + (1 : Int32) →
              wX6_advance v0 v1 s7 (fun s8 =>
                wX6_read_61 post v0 v1 v3 x1 s8)
            ) ∧ (r2 = false →
              post (s7.1 v0 7) s7))))))

def wX10_layOnTape_3 (post : St → Prop) : Nat → Nat → Int32 → Int32 → St → Prop
  | 0 => fun _ _ _ _ => False
  | n + 1 => fun v0 v1 v2 σ =>
    (v2 < 0 →
      post σ
    ) ∧ (¬ v2 < 0 →
      ((700 : Int32) ≤ (σ.1 v0 1) →
        ∀ x1 : Int32, x1 = v2 + (-8 : Int32) →
        wX10_layOnTape_3 post n v0 v1 x1 σ
      ) ∧ (¬ (700 : Int32) ≤ (σ.1 v0 1) →
        vp_in (σ.1 v0 1) 700 ∧
        ∀ s1 : St, s1 = u1 σ (v0 + 1) (σ.1 v0 1).toNatClampNeg (vp_nar .byte (((v1.toUInt32 >>> (v2.toUInt32 &&& Int32.toUInt32 31)).toInt32).toInt8.toInt32)) →
        ∀ s2 : St, s2 = u1 s1 v0 1 ((s1.1 v0 1) + (1 : Int32)) →
        ∀ x2 : Int32, x2 = v2 + (-8 : Int32) →
        wX10_layOnTape_3 post n v0 v1 x2 s2))
def wX10_layOnTape (v0 : Nat) (v1 : Int32) (σ : St) (post : St → Prop) : Prop :=
  ∃ j, wX10_layOnTape_3 post j v0 v1 (24 : Int32) σ

def wX10_feed (v0 : Nat) (v1 : Int32) (v2 : Int32) (v3 : Int32) (v4 : Int32) (v5 : Int32) (σ : St) (post : Int32 → St → Prop) : Prop :=
  ((σ.1 v0 1) ≤ (680 : Int32) →
    wX10_layOnTape v0 v1 σ (fun s1 =>
      wX10_layOnTape v0 v2 s1 (fun s2 =>
        wX10_layOnTape v0 v3 s2 (fun s3 =>
          wX10_layOnTape v0 v4 s3 (fun s4 =>
            wX10_layOnTape v0 v5 s4 (fun s5 =>
              post (s5.1 v0 1) s5)))))
  ) ∧ (¬ (σ.1 v0 1) ≤ (680 : Int32) →
    post (-1 : Int32) σ)

def wX10_net_84 (post : Int32 → St → Prop) : Nat → Nat → Int32 → Int32 → St → Prop
  | 0 => fun _ _ _ _ => False
  | n + 1 => fun v0 v2 v4 σ =>
    ((2 : Int32) ≤ v4 →
      post v2 σ
    ) ∧ (¬ (2 : Int32) ≤ v4 →
      vp_in v4 2 ∧
      ∀ s1 : St, s1 = u1 σ (v0 + 284) v4.toNatClampNeg (vp_nar .boolean (0 : Int32)) →
      ∀ x1 : Int32, x1 = v4 + (1 : Int32) →
      wX10_net_84 post n v0 v2 x1 s1)
def wX10_net (v0 : Nat) (v1 : Int32) (σ : St) (post : Int32 → St → Prop) : Prop :=
  (v1 < 0 →
    post (-1 : Int32) σ
  ) ∧ (¬ v1 < 0 →
    (v1 ≤ (σ.1 v0 1) →
      ∀ s1 : St, s1 = u1 σ v0 1 (0 : Int32) →
      ∀ p1 : Nat, p1 = (s1.1 v0 3).toNatClampNeg → kX[p1]? = some 9 ∧
      wX6_read (v0 + 285) (v0 + 1) v1 p1 s1 (fun r1 s2 =>
        (0 ≤ r1 →
          ∀ p2 : Nat, p2 = (s2.1 v0 3).toNatClampNeg → kX[p2]? = some 9 ∧
          ∀ p3 : Nat, p3 = (s2.1 v0 2).toNatClampNeg → kX[p3]? = some 9 ∧
          ∀ s3 : St, s3 = u1 s2 v0 3 (nI p3) →
          ∀ s4 : St, s4 = u1 s3 v0 2 (nI p2) →
          ∀ p4 : Nat, p4 = (s4.1 v0 2).toNatClampNeg → kX[p4]? = some 9 ∧
          wX4_copyFrom (v0 + 86) (p4 + 3) s4 (fun s5 =>
            wX0_forget (v0 + 101) s5 (fun s6 =>
              ∃ j, wX10_net_84 post j v0 r1 (0 : Int32) s6))
        ) ∧ (¬ 0 ≤ r1 →
          post r1 s2))
    ) ∧ (¬ v1 ≤ (σ.1 v0 1) →
      post (-1 : Int32) σ))

def wX10_isTable (v0 : Nat) (v1 : Int32) (σ : St) (post : Bool → St → Prop) : Prop :=
  (v1 < 0 →
    post false σ
  ) ∧ (¬ v1 < 0 →
    ∀ p1 : Nat, p1 = (σ.1 v0 2).toNatClampNeg → kX[p1]? = some 9 ∧
    ((σ.1 p1 1) ≤ v1 →
      post false σ
    ) ∧ (¬ (σ.1 p1 1) ≤ v1 →
      post true σ))

def wX10_valueOrLegs (v0 : Nat) (v1 : Int32) (σ : St) (post : Int32 → St → Prop) : Prop :=
  (¬ v1 = (-1 : Int32) →
    wX7_hasIndex v0 v1 σ (fun r1 s1 =>
      (r1 = false →
        post (-2 : Int32) s1
      ) ∧ (r1 = true →
        vp_in v1 16 ∧
        post (s1.1 (v0 + 1) v1.toNatClampNeg) s1))
  ) ∧ (v1 = (-1 : Int32) →
    post (σ.1 v0 0) σ)

def wX10_table (v0 : Nat) (v1 : Int32) (v2 : Int32) (σ : St) (post : Int32 → St → Prop) : Prop :=
  wX10_isTable v0 v1 σ (fun r1 s1 =>
    (r1 = true →
      ∀ p1 : Nat, p1 = (s1.1 v0 2).toNatClampNeg → kX[p1]? = some 9 ∧
      vp_in v1 8 ∧
      wX10_valueOrLegs ((p1 + 1) + 20 + 2 * v1.toNatClampNeg) v2 s1 (fun r2 s2 =>
        post r2 s2)
    ) ∧ (r1 = false →
      post (-2 : Int32) s1))

def wX10_parity (v0 : Nat) (v1 : Int32) (σ : St) (post : Int32 → St → Prop) : Prop :=
  wX10_isTable v0 v1 σ (fun r1 s1 =>
    (r1 = false →
      post (-1 : Int32) s1
    ) ∧ (r1 = true →
      ∀ p1 : Nat, p1 = (s1.1 v0 2).toNatClampNeg → kX[p1]? = some 9 ∧
      vp_in v1 8 ∧
      wX7_parityKind ((p1 + 1) + 20 + 2 * v1.toNatClampNeg) s1 (fun r2 s2 =>
        post r2 s2)))

def wX10_identity (v0 : Nat) (v1 : Int32) (v2 : Int32) (σ : St) (post : Int32 → St → Prop) : Prop :=
  wX10_isTable v0 v1 σ (fun r1 s1 =>
    (r1 = true →
      ∀ p1 : Nat, p1 = (s1.1 v0 2).toNatClampNeg → kX[p1]? = some 9 ∧
      vp_in v1 8 ∧
      (¬ (s1.1 ((p1 + 1) + 20 + 2 * v1.toNatClampNeg) 0) = (4 : Int32) →
        post (-2 : Int32) s1
      ) ∧ ((s1.1 ((p1 + 1) + 20 + 2 * v1.toNatClampNeg) 0) = (4 : Int32) →
        ∀ p2 : Nat, p2 = (s1.1 v0 2).toNatClampNeg → kX[p2]? = some 9 ∧
        wX7_rule ((p1 + 1) + 20 + 2 * v1.toNatClampNeg) v2 (s1.1 p2 0) s1 (fun r2 s2 =>
          post r2 s2))
    ) ∧ (r1 = false →
      post (-1 : Int32) s1))

def wX10_made (v0 : Nat) (v1 : Int32) (σ : St) (post : Int32 → St → Prop) : Prop :=
  wX10_isTable v0 v1 σ (fun r1 s1 =>
    (r1 = true →
      ∀ p1 : Nat, p1 = (s1.1 v0 2).toNatClampNeg → kX[p1]? = some 9 ∧
      vp_in v1 8 ∧
      ∀ p2 : Nat, p2 = (s1.1 v0 2).toNatClampNeg → kX[p2]? = some 9 ∧
      wX7_isMade ((p1 + 1) + 20 + 2 * v1.toNatClampNeg) (s1.1 p2 0) s1 (fun r2 s2 =>
        (r2 = false →
          post (0 : Int32) s2
        ) ∧ (r2 = true →
          post (1 : Int32) s2))
    ) ∧ (r1 = false →
      post (-1 : Int32) s1))

def wX10_plain (v0 : Nat) (v1 : Int32) (σ : St) (post : Int32 → St → Prop) : Prop :=
  wX10_isTable v0 v1 σ (fun r1 s1 =>
    (r1 = true →
      ∀ p1 : Nat, p1 = (s1.1 v0 2).toNatClampNeg → kX[p1]? = some 9 ∧
      vp_in v1 8 ∧
      wX7_dependsOnBitCount ((p1 + 1) + 20 + 2 * v1.toNatClampNeg) s1 (fun r2 s2 =>
        (r2 = false →
          post (0 : Int32) s2
        ) ∧ (r2 = true →
          post (1 : Int32) s2))
    ) ∧ (r1 = false →
      post (-1 : Int32) s1))

def wX10_like (v0 : Nat) (v1 : Int32) (v2 : Int32) (σ : St) (post : Int32 → St → Prop) : Prop :=
  wX10_isTable v0 v1 σ (fun r1 s1 =>
    (r1 = false →
      post (-1 : Int32) s1
    ) ∧ (r1 = true →
      wX10_isTable v0 v2 s1 (fun r2 s2 =>
        (r2 = true →
          ∀ p1 : Nat, p1 = (s2.1 v0 2).toNatClampNeg → kX[p1]? = some 9 ∧
          vp_in v1 8 ∧
          ∀ p2 : Nat, p2 = (s2.1 v0 2).toNatClampNeg → kX[p2]? = some 9 ∧
          vp_in v2 8 ∧
          ∀ p3 : Nat, p3 = (s2.1 v0 2).toNatClampNeg → kX[p3]? = some 9 ∧
          wX7_factorOver ((p1 + 1) + 20 + 2 * v1.toNatClampNeg) ((p2 + 1) + 20 + 2 * v2.toNatClampNeg) (s2.1 p3 0) s2 (fun r3 s3 =>
            post r3 s3)
        ) ∧ (r2 = false →
          post (-1 : Int32) s2))))

def wX10_rank (v0 : Nat) (v1 : Int32) (v2 : Int32) (σ : St) (post : Int32 → St → Prop) : Prop :=
  wX10_isTable v0 v1 σ (fun r1 s1 =>
    (r1 = false →
      post (-1 : Int32) s1
    ) ∧ (r1 = true →
      ∀ p1 : Nat, p1 = (s1.1 v0 2).toNatClampNeg → kX[p1]? = some 9 ∧
      vp_in v1 8 ∧
      wX7_hasIndex ((p1 + 1) + 20 + 2 * v1.toNatClampNeg) v2 s1 (fun r2 s2 =>
        (r2 = true →
          ∀ p2 : Nat, p2 = (s2.1 v0 2).toNatClampNeg → kX[p2]? = some 9 ∧
          vp_in v1 8 ∧
          wX3_fill (v0 + 311) ((p2 + 1) + 20 + 2 * v1.toNatClampNeg) v2 s2 (fun s3 =>
            ∀ p3 : Nat, p3 = (s3.1 v0 2).toNatClampNeg → kX[p3]? = some 9 ∧
            wX3_rankModulo (v0 + 311) (s3.1 p3 0) s3 (fun r3 s4 =>
              post r3 s4))
        ) ∧ (r2 = false →
          post (-1 : Int32) s2))))

def wX10_isBase (v0 : Nat) (v1 : Int32) (σ : St) (post : Bool → St → Prop) : Prop :=
  (v1 < 0 →
    post false σ
  ) ∧ (¬ v1 < 0 →
    ∀ p1 : Nat, p1 = (σ.1 v0 2).toNatClampNeg → kX[p1]? = some 9 ∧
    ((σ.1 p1 3) ≤ v1 →
      post false σ
    ) ∧ (¬ (σ.1 p1 3) ≤ v1 →
      post true σ))

def wX10_based (v0 : Nat) (v1 : Int32) (v2 : Int32) (v3 : Int32) (σ : St) (post : Int32 → St → Prop) : Prop :=
  wX10_isTable v0 v1 σ (fun r1 s1 =>
    (r1 = false →
      post (-1 : Int32) s1
    ) ∧ (r1 = true →
      wX10_isBase v0 v2 s1 (fun r2 s2 =>
        (r2 = false →
          post (-1 : Int32) s2
        ) ∧ (r2 = true →
          ∀ p1 : Nat, p1 = (s2.1 v0 2).toNatClampNeg → kX[p1]? = some 9 ∧
          vp_in v1 8 ∧
          wX7_hasIndex ((p1 + 1) + 20 + 2 * v1.toNatClampNeg) v3 s2 (fun r3 s3 =>
            (r3 = true →
              ∀ p2 : Nat, p2 = (s3.1 v0 2).toNatClampNeg → kX[p2]? = some 9 ∧
              vp_in v1 8 ∧
              wX7_copyFrom (v0 + 313) ((p2 + 1) + 20 + 2 * v1.toNatClampNeg) s3 (fun s4 =>
                ∀ p3 : Nat, p3 = (s4.1 v0 2).toNatClampNeg → kX[p3]? = some 9 ∧
                vp_in v2 5 ∧
                ∀ p4 : Nat, p4 = (s4.1 v0 2).toNatClampNeg → kX[p4]? = some 9 ∧
                wX7_changeAllLegs (v0 + 313) ((p3 + 2) + 35 + 1 * v2.toNatClampNeg) (s4.1 p4 0) s4 (fun s5 =>
                  vp_in v3 16 ∧
                  post (s5.1 ((v0 + 313) + 1) v3.toNatClampNeg) s5))
            ) ∧ (r3 = false →
              post (-1 : Int32) s3))))))

def wX10_isMadeBy (v0 : Nat) (v1 : Nat) (v2 : Nat) (σ : St) (post : Bool → St → Prop) : Prop :=
  wX7_copyFrom (v0 + 313) v1 σ (fun s1 =>
    ∀ p1 : Nat, p1 = (s1.1 v0 2).toNatClampNeg → kX[p1]? = some 9 ∧
    wX7_changeAllLegs (v0 + 313) v2 (s1.1 p1 0) s1 (fun s2 =>
      ∀ p2 : Nat, p2 = (s2.1 v0 2).toNatClampNeg → kX[p2]? = some 9 ∧
      wX7_isMade (v0 + 313) (s2.1 p2 0) s2 (fun r1 s3 =>
        post r1 s3)))

def wX10_fits (v0 : Nat) (v1 : Int32) (v2 : Int32) (σ : St) (post : Int32 → St → Prop) : Prop :=
  wX10_isTable v0 v1 σ (fun r1 s1 =>
    (r1 = false →
      post (-1 : Int32) s1
    ) ∧ (r1 = true →
      wX10_isBase v0 v2 s1 (fun r2 s2 =>
        (r2 = true →
          ∀ p1 : Nat, p1 = (s2.1 v0 2).toNatClampNeg → kX[p1]? = some 9 ∧
          vp_in v1 8 ∧
          ∀ p2 : Nat, p2 = (s2.1 v0 2).toNatClampNeg → kX[p2]? = some 9 ∧
          vp_in v2 5 ∧
          wX10_isMadeBy v0 ((p1 + 1) + 20 + 2 * v1.toNatClampNeg) ((p2 + 2) + 35 + 1 * v2.toNatClampNeg) s2 (fun r3 s3 =>
            (r3 = false →
              post (0 : Int32) s3
            ) ∧ (r3 = true →
              post (1 : Int32) s3))
        ) ∧ (r2 = false →
          post (-1 : Int32) s2))))

def wX10_first_12 (post : Int32 → St → Prop) : Nat → Nat → Int32 → Int32 → St → Prop
  | 0 => fun _ _ _ _ => False
  | n + 1 => fun v0 v1 v2 σ =>
    ∀ p1 : Nat, p1 = (σ.1 v0 2).toNatClampNeg → kX[p1]? = some 9 ∧
    ((σ.1 p1 3) ≤ v2 →
      post (-2 : Int32) σ
    ) ∧ (¬ (σ.1 p1 3) ≤ v2 →
      ∀ p2 : Nat, p2 = (σ.1 v0 2).toNatClampNeg → kX[p2]? = some 9 ∧
      vp_in v1 8 ∧
      ∀ p3 : Nat, p3 = (σ.1 v0 2).toNatClampNeg → kX[p3]? = some 9 ∧
      vp_in v2 5 ∧
      wX10_isMadeBy v0 ((p2 + 1) + 20 + 2 * v1.toNatClampNeg) ((p3 + 2) + 35 + 1 * v2.toNatClampNeg) σ (fun r1 s1 =>
        (r1 = false →
          ∀ x1 : Int32, x1 = v2 + (1 : Int32) →
          wX10_first_12 post n v0 v1 x1 s1
        ) ∧ (r1 = true →
          post v2 s1)))
def wX10_first (v0 : Nat) (v1 : Int32) (σ : St) (post : Int32 → St → Prop) : Prop :=
  wX10_isTable v0 v1 σ (fun r1 s1 =>
    (r1 = true →
      ∃ j, wX10_first_12 post j v0 v1 (0 : Int32) s1
    ) ∧ (r1 = false →
      post (-1 : Int32) s1))

def wX10_isMadeByRow (v0 : Nat) (v1 : Nat) (v2 : Int32) (v3 : Int32) (σ : St) (post : Bool → St → Prop) : Prop :=
  ∀ s1 : St, s1 = u1 σ (v0 + 315) 0 (1 : Int32) →
  ∀ s2 : St, s2 = u1 s1 (v0 + 315) 1 (1 : Int32) →
  ∀ s3 : St, s3 = u1 s2 (v0 + 315) 2 v2 →
  ∀ s4 : St, s4 = u1 s3 (v0 + 315) 3 v3 →
  wX10_isMadeBy v0 v1 (v0 + 315) s4 (fun r1 s5 =>
    post r1 s5)

def wX10_seek_34 (post : Int32 → St → Prop) : Nat → Nat → Nat → Int32 → St → Prop
  | 0 => fun _ _ _ _ => False
  | n + 1 => fun v0 v2 v3 σ =>
    ∀ p1 : Nat, p1 = (σ.1 v0 2).toNatClampNeg → kX[p1]? = some 9 ∧
    ((σ.1 p1 0) ≤ v3 →
      post (-2 : Int32) σ
    ) ∧ (¬ (σ.1 p1 0) ≤ v3 →
      (v3 = (1 : Int32) →
        ∀ x1 : Int32, x1 = v3 + (1 : Int32) →
        wX10_seek_34 post n v0 v2 x1 σ
      ) ∧ (¬ v3 = (1 : Int32) →
        wX10_isMadeByRow v0 v2 (1 : Int32) v3 σ (fun r1 s1 =>
          (r1 = false →
            ∀ x2 : Int32, x2 = v3 + (1 : Int32) →
            wX10_seek_34 post n v0 v2 x2 s1
          ) ∧ (r1 = true →
            ∀ p2 : Nat, p2 = (s1.1 v0 2).toNatClampNeg → kX[p2]? = some 9 ∧
            post ((s1.1 p2 0) + v3) s1))))
def wX10_seek (v0 : Nat) (v1 : Int32) (σ : St) (post : Int32 → St → Prop) : Prop :=
  wX10_isTable v0 v1 σ (fun r1 s1 =>
    (r1 = true →
      ∀ p1 : Nat, p1 = (s1.1 v0 2).toNatClampNeg → kX[p1]? = some 9 ∧
      vp_in v1 8 ∧
      wX10_isMadeByRow v0 ((p1 + 1) + 20 + 2 * v1.toNatClampNeg) (0 : Int32) (1 : Int32) s1 (fun r2 s2 =>
        (r2 = false →
          ∃ j, wX10_seek_34 post j v0 ((p1 + 1) + 20 + 2 * v1.toNatClampNeg) (0 : Int32) s2
        ) ∧ (r2 = true →
          post (1 : Int32) s2))
    ) ∧ (r1 = false →
      post (-1 : Int32) s1))

def wX10_node (v0 : Nat) (v1 : Int32) (v2 : Int32) (σ : St) (post : Int32 → St → Prop) : Prop :=
  wX4_hasNode (v0 + 86) v1 σ (fun r1 s1 =>
    (r1 = true →
      vp_in v1 6 ∧
      wX10_valueOrLegs (((v0 + 86) + 1) + 2 + 2 * v1.toNatClampNeg) v2 s1 (fun r2 s2 =>
        post r2 s2)
    ) ∧ (r1 = false →
      post (-2 : Int32) s1))

def wX10_open (v0 : Nat) (v1 : Int32) (σ : St) (post : Int32 → St → Prop) : Prop :=
  (¬ v1 = (-1 : Int32) →
    wX4_openLeg (v0 + 86) v1 σ (fun r1 s1 =>
      (¬ r1 = (-1 : Int32) →
        post (((10 : Int32) * (r1 / (4 : Int32))) + (r1 - r1 / (4 : Int32) * (4 : Int32))) s1
      ) ∧ (r1 = (-1 : Int32) →
        post (-2 : Int32) s1))
  ) ∧ (v1 = (-1 : Int32) →
    wX4_openCount (v0 + 86) σ (fun r2 s2 =>
      post r2 s2))

def wX10_isOpenIndex (v0 : Nat) (v1 : Int32) (σ : St) (post : Bool → St → Prop) : Prop :=
  (v1 < 0 →
    post false σ
  ) ∧ (¬ v1 < 0 →
    wX4_openCount (v0 + 86) σ (fun r1 s1 =>
      (((1 : Int32) <<< (r1 &&& 31)) ≤ v1 →
        post false s1
      ) ∧ (¬ ((1 : Int32) <<< (r1 &&& 31)) ≤ v1 →
        post true s1)))

def wX10_sum (v0 : Nat) (v1 : Int32) (σ : St) (post : Int32 → St → Prop) : Prop :=
  wX10_isOpenIndex v0 v1 σ (fun r1 s1 =>
    (r1 = true →
      ∀ p1 : Nat, p1 = (s1.1 v0 2).toNatClampNeg → kX[p1]? = some 9 ∧
      wX8_goThrough (v0 + 291) (v0 + 86) v1 (s1.1 p1 0) s1 (fun s2 =>
        post (s2.1 (v0 + 291) 0) s2)
    ) ∧ (r1 = false →
      post (-1 : Int32) s1))

def wX10_total (v0 : Nat) (σ : St) (post : Int32 → St → Prop) : Prop :=
  ∀ p1 : Nat, p1 = (σ.1 v0 2).toNatClampNeg → kX[p1]? = some 9 ∧
  wX8_goThroughAll (v0 + 291) (v0 + 86) (σ.1 p1 0) σ (fun s1 =>
    post (s1.1 (v0 + 291) 0) s1)

def wX10_ways (v0 : Nat) (v1 : Int32) (σ : St) (post : Int32 → St → Prop) : Prop :=
  wX10_isOpenIndex v0 v1 σ (fun r1 s1 =>
    (r1 = true →
      ∀ p1 : Nat, p1 = (s1.1 v0 2).toNatClampNeg → kX[p1]? = some 9 ∧
      wX8_goThrough (v0 + 291) (v0 + 86) v1 (s1.1 p1 0) s1 (fun s2 =>
        post (s2.1 (v0 + 291) 1) s2)
    ) ∧ (r1 = false →
      post (-1 : Int32) s1))

def wX10_within (v0 : Nat) (v1 : Int32) (σ : St) (post : Int32 → St → Prop) : Prop :=
  (v1 < 0 →
    post (-1 : Int32) σ
  ) ∧ (¬ v1 < 0 →
    wX4_allNodes (v0 + 86) σ (fun r1 s1 =>
      (v1 ≤ r1 →
        ∀ p1 : Nat, p1 = (s1.1 v0 2).toNatClampNeg → kX[p1]? = some 9 ∧
        wX8_goThroughSome (v0 + 291) (v0 + 86) v1 (s1.1 p1 0) s1 (fun s2 =>
          post (s2.1 (v0 + 291) 0) s2)
      ) ∧ (¬ v1 ≤ r1 →
        post (-1 : Int32) s1)))

def wX10_width (v0 : Nat) (v1 : Int32) (σ : St) (post : Int32 → St → Prop) : Prop :=
  (v1 < 0 →
    post (-1 : Int32) σ
  ) ∧ (¬ v1 < 0 →
    (v1 ≤ (σ.1 (v0 + 86) 0) →
      wX5_weigh (v0 + 309) (v0 + 86) σ (fun s1 =>
        (¬ v1 = 0 →
          wX5_bestNode (v0 + 309) (v0 + 86) (v1 - (1 : Int32)) s1 (fun r1 s2 =>
            post r1 s2)
        ) ∧ (v1 = 0 →
          wX5_leastWidth (v0 + 309) s1 (fun r2 s3 =>
            post r2 s3)))
    ) ∧ (¬ v1 ≤ (σ.1 (v0 + 86) 0) →
      post (-1 : Int32) σ))

def wX10_changeLegOfNet (v0 : Nat) (v1 : Int32) (v2 : Nat) (σ : St) (post : St → Prop) : Prop :=
  ∀ x1 : Int32, x1 = (v1 / (4 : Int32)) →
  vp_in x1 6 ∧
  ∀ p1 : Nat, p1 = (σ.1 v0 2).toNatClampNeg → kX[p1]? = some 9 ∧
  wX7_changeLeg (((v0 + 86) + 1) + 2 + 2 * x1.toNatClampNeg) (v1 - v1 / (4 : Int32) * (4 : Int32)) v2 (σ.1 p1 0) σ (fun s1 =>
    post s1)

def wX10_change (v0 : Nat) (v1 : Int32) (v2 : Int32) (σ : St) (post : Bool → St → Prop) : Prop :=
  wX4_hasWire (v0 + 86) v1 σ (fun r1 s1 =>
    (r1 = false →
      post false s1
    ) ∧ (r1 = true →
      wX10_isBase v0 v2 s1 (fun r2 s2 =>
        (r2 = true →
          wX0_remember (v0 + 101) (v0 + 86) s2 (fun s3 =>
            ∀ p1 : Nat, p1 = (s3.1 v0 2).toNatClampNeg → kX[p1]? = some 9 ∧
            vp_in v2 5 ∧
            ∀ x1 : Int32, x1 = ((2 : Int32) * v1) →
            vp_in x1 20 ∧
            wX10_changeLegOfNet v0 (s3.1 ((v0 + 86) + 2) x1.toNatClampNeg) ((p1 + 2) + 35 + 1 * v2.toNatClampNeg) s3 (fun s4 =>
              ∀ p2 : Nat, p2 = (s4.1 v0 2).toNatClampNeg → kX[p2]? = some 9 ∧
              wX1_setInverseTurnedOver (v0 + 315) ((p1 + 2) + 35 + 1 * v2.toNatClampNeg) (s4.1 p2 0) s4 (fun s5 =>
                ∀ x2 : Int32, x2 = (((2 : Int32) * v1) + (1 : Int32)) →
                vp_in x2 20 ∧
                wX10_changeLegOfNet v0 (s5.1 ((v0 + 86) + 2) x2.toNatClampNeg) (v0 + 315) s5 (fun s6 =>
                  post true s6))))
        ) ∧ (r2 = false →
          post false s2))))

def wX10_plug (v0 : Nat) (v1 : Int32) (v2 : Int32) (σ : St) (post : Bool → St → Prop) : Prop :=
  wX4_hasNode (v0 + 86) v1 σ (fun r1 s1 =>
    (r1 = false →
      post false s1
    ) ∧ (r1 = true →
      wX10_isTable v0 v2 s1 (fun r2 s2 =>
        (r2 = true →
          vp_in v1 6 ∧
          ∀ p1 : Nat, p1 = (s2.1 v0 2).toNatClampNeg → kX[p1]? = some 9 ∧
          vp_in v2 8 ∧
          ((s2.1 (((v0 + 86) + 1) + 2 + 2 * v1.toNatClampNeg) 0) = (s2.1 ((p1 + 1) + 20 + 2 * v2.toNatClampNeg) 0) →
            wX0_remember (v0 + 101) (v0 + 86) s2 (fun s3 =>
              vp_in v1 6 ∧
              ∀ p2 : Nat, p2 = (s3.1 v0 2).toNatClampNeg → kX[p2]? = some 9 ∧
              vp_in v2 8 ∧
              wX7_copyFrom (((v0 + 86) + 1) + 2 + 2 * v1.toNatClampNeg) ((p2 + 1) + 20 + 2 * v2.toNatClampNeg) s3 (fun s4 =>
                post true s4))
          ) ∧ (¬ (s2.1 (((v0 + 86) + 1) + 2 + 2 * v1.toNatClampNeg) 0) = (s2.1 ((p1 + 1) + 20 + 2 * v2.toNatClampNeg) 0) →
            post false s2)
        ) ∧ (r2 = false →
          post false s2))))

def wX10_scale (v0 : Nat) (v1 : Int32) (v2 : Int32) (σ : St) (post : Bool → St → Prop) : Prop :=
  wX4_hasNode (v0 + 86) v1 σ (fun r1 s1 =>
    (r1 = false →
      post false s1
    ) ∧ (r1 = true →
      (v2 < (1 : Int32) →
        post false s1
      ) ∧ (¬ v2 < (1 : Int32) →
        ∀ p1 : Nat, p1 = (s1.1 v0 2).toNatClampNeg → kX[p1]? = some 9 ∧
        (v2 < (s1.1 p1 0) →
          wX0_remember (v0 + 101) (v0 + 86) s1 (fun s2 =>
            vp_in v1 6 ∧
            ∀ p2 : Nat, p2 = (s2.1 v0 2).toNatClampNeg → kX[p2]? = some 9 ∧
            wX7_multiply (((v0 + 86) + 1) + 2 + 2 * v1.toNatClampNeg) v2 (s2.1 p2 0) s2 (fun s3 =>
              post true s3))
        ) ∧ (¬ v2 < (s1.1 p1 0) →
          post false s1))))

def wX10_swap (v0 : Nat) (v1 : Int32) (v2 : Int32) (v3 : Int32) (σ : St) (post : Bool → St → Prop) : Prop :=
  wX4_hasLeg (v0 + 86) v1 v2 σ (fun r1 s1 =>
    (r1 = false →
      post false s1
    ) ∧ (r1 = true →
      wX4_hasLeg (v0 + 86) v1 v3 s1 (fun r2 s2 =>
        (r2 = false →
          post false s2
        ) ∧ (r2 = true →
          (¬ v2 = v3 →
            wX0_remember (v0 + 101) (v0 + 86) s2 (fun s3 =>
              vp_in v1 6 ∧
              wX7_exchangeLegs (((v0 + 86) + 1) + 2 + 2 * v1.toNatClampNeg) v2 v3 s3 (fun s4 =>
                post true s4))
          ) ∧ (v2 = v3 →
            post false s2)))))

def wX10_join (v0 : Nat) (v1 : Int32) (v2 : Int32) (v3 : Int32) (v4 : Int32) (σ : St) (post : Int32 → St → Prop) : Prop :=
  wX4_hasLeg (v0 + 86) v1 v2 σ (fun r1 s1 =>
    (r1 = false →
      post (-1 : Int32) s1
    ) ∧ (r1 = true →
      wX4_hasLeg (v0 + 86) v3 v4 s1 (fun r2 s2 =>
        (r2 = true →
          ∀ x1 : Int32, x1 = (((4 : Int32) * v1) + v2) →
          ∀ x2 : Int32, x2 = (((4 : Int32) * v3) + v4) →
          (x1 = x2 →
            post (-1 : Int32) s2
          ) ∧ (¬ x1 = x2 →
            wX4_hasWireAt (v0 + 86) x1 s2 (fun r3 s3 =>
              (r3 = true →
                post (-1 : Int32) s3
              ) ∧ (r3 = false →
                wX4_hasWireAt (v0 + 86) x2 s3 (fun r4 s4 =>
                  (r4 = true →
                    post (-1 : Int32) s4
                  ) ∧ (r4 = false →
                    ((s4.1 (v0 + 86) 1) < (10 : Int32) →
                      wX0_remember (v0 + 101) (v0 + 86) s4 (fun s5 =>
                        wX4_addWire (v0 + 86) x1 x2 s5 (fun s6 =>
                          post ((s6.1 (v0 + 86) 1) - (1 : Int32)) s6))
                    ) ∧ (¬ (s4.1 (v0 + 86) 1) < (10 : Int32) →
                      post (-1 : Int32) s4))))))
        ) ∧ (r2 = false →
          post (-1 : Int32) s2))))

def wX10_cut (v0 : Nat) (v1 : Int32) (σ : St) (post : Int32 → St → Prop) : Prop :=
  wX4_hasWire (v0 + 86) v1 σ (fun r1 s1 =>
    (r1 = true →
      wX0_remember (v0 + 101) (v0 + 86) s1 (fun s2 =>
        wX4_removeWire (v0 + 86) v1 s2 (fun s3 =>
          post (s3.1 (v0 + 86) 1) s3))
    ) ∧ (r1 = false →
      post (-1 : Int32) s1))

def wX10_undo (v0 : Nat) (σ : St) (post : Int32 → St → Prop) : Prop :=
  (¬ (σ.1 (v0 + 101) 0) = 0 →
    wX0_restore (v0 + 101) (v0 + 86) σ (fun s1 =>
      post (s1.1 (v0 + 101) 0) s1)
  ) ∧ ((σ.1 (v0 + 101) 0) = 0 →
    post (-1 : Int32) σ)

def wX10_keep (v0 : Nat) (v1 : Int32) (v2 : Int32) (σ : St) (post : Bool → St → Prop) : Prop :=
  (v1 < 0 →
    post false σ
  ) ∧ (¬ v1 < 0 →
    (v1 < (2 : Int32) →
      (¬ v2 = 0 →
        vp_in v1 2 ∧
        (¬ (σ.1 (v0 + 284) v1.toNatClampNeg) = 0 →
          vp_in v1 2 ∧
          wX4_copyFrom (v0 + 86) ((v0 + 283) + 33 + 15 * v1.toNatClampNeg) σ (fun s1 =>
            wX0_forget (v0 + 101) s1 (fun s2 =>
              post true s2))
        ) ∧ ((σ.1 (v0 + 284) v1.toNatClampNeg) = 0 →
          post false σ)
      ) ∧ (v2 = 0 →
        vp_in v1 2 ∧
        wX4_copyFrom ((v0 + 283) + 33 + 15 * v1.toNatClampNeg) (v0 + 86) σ (fun s3 =>
          vp_in v1 2 ∧
          ∀ s4 : St, s4 = u1 s3 (v0 + 284) v1.toNatClampNeg (vp_nar .boolean (1 : Int32)) →
          post true s4))
    ) ∧ (¬ v1 < (2 : Int32) →
      post false σ))

def wX10_count (v0 : Nat) (v1 : Int32) (σ : St) (post : Int32 → St → Prop) : Prop :=
  (v1 = (0 : Int32) →
    ∀ p1 : Nat, p1 = (σ.1 v0 2).toNatClampNeg → kX[p1]? = some 9 ∧
    post (σ.1 p1 0) σ
  ) ∧ (¬ v1 = (0 : Int32) →
  (v1 = (1 : Int32) →
    ∀ p2 : Nat, p2 = (σ.1 v0 2).toNatClampNeg → kX[p2]? = some 9 ∧
    post (σ.1 p2 1) σ
  ) ∧ (¬ v1 = (1 : Int32) →
  (v1 = (2 : Int32) →
    ∀ p3 : Nat, p3 = (σ.1 v0 2).toNatClampNeg → kX[p3]? = some 9 ∧
    post (σ.1 p3 3) σ
  ) ∧ (¬ v1 = (2 : Int32) →
  (v1 = (3 : Int32) →
    post (σ.1 (v0 + 86) 0) σ
  ) ∧ (¬ v1 = (3 : Int32) →
  (v1 = (4 : Int32) →
    post (σ.1 (v0 + 86) 1) σ
  ) ∧ (¬ v1 = (4 : Int32) →
  (v1 = (5 : Int32) →
    wX4_openCount (v0 + 86) σ (fun r1 s1 =>
      post r1 s1)
  ) ∧ (¬ v1 = (5 : Int32) →
  (v1 = (6 : Int32) →
    post (σ.1 (v0 + 101) 0) σ
  ) ∧ (¬ v1 = (6 : Int32) →
  (v1 = (7 : Int32) →
    post (σ.1 v0 1) σ
  ) ∧ (¬ v1 = (7 : Int32) →
    post (-1 : Int32) σ))))))))
