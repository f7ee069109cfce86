def spl (k : Nat) : Int64 := [6591876, 21006725, 231045, 67173, 474245, 763461].getD k 0
def wX11_is (v0 k : Nat) (σ : St) (post : Bool → St → Prop) : Prop := post (decide (σ.1 v0 6 = 1 ∧ σ.2 v0 8 = spl k)) σ
def wX11_thrown (v0 : Nat) (σ : St) (post : Int32 → St → Prop) : Prop :=
  post (σ.1 v0 0) σ

def wX11_within (v0 : Int64) (v2 : Int64) (v4 : Int64) (σ : St) (post : Bool → St → Prop) : Prop :=
  ((lg_cmp v0 v2) < 0 →
    post false σ
  ) ∧ (¬ (lg_cmp v0 v2) < 0 →
    (0 < (lg_cmp v0 v4) →
      post false σ
    ) ∧ (¬ 0 < (lg_cmp v0 v4) →
      post true σ))

def wX11_puts_3 (post : St → Prop) : Nat → Nat → Int32 → Int32 → St → Prop
  | 0 => fun _ _ _ _ => False
  | n + 1 => fun v0 v1 v2 σ =>
    (v2 < 0 →
      post σ
    ) ∧ (¬ v2 < 0 →
      vp_in (σ.1 v0 2) 700 ∧
      ∀ s1 : St, s1 = u1 σ (v0 + 1) (σ.1 v0 2).toNatClampNeg (vp_nar .byte ((v1 >>> (v2 &&& 31)).toInt8.toInt32)) →
      ∀ s2 : St, s2 = u1 s1 v0 2 ((s1.1 v0 2) + (1 : Int32)) →
      ∀ x1 : Int32, x1 = v2 + (-8 : Int32) →
      wX11_puts_3 post n v0 v1 x1 s2)
def wX11_puts (v0 : Nat) (v1 : Int32) (σ : St) (post : St → Prop) : Prop :=
  ∃ j, wX11_puts_3 post j v0 v1 (24 : Int32) σ

def wX11_feed (v0 : Nat) (v1 : Int32) (v2 : Int32) (v3 : Int32) (v4 : Int32) (v5 : Int32) (σ : St) (post : Int32 → St → Prop) : Prop :=
  ∀ s1 : St, s1 = u1 σ v0 0 (0 : Int32) →
  (((s1.1 v0 2) + (20 : Int32)) ≤ (700 : Int32) →
    wX11_puts v0 v1 s1 (fun s2 =>
      wX11_puts v0 v2 s2 (fun s3 =>
        wX11_puts v0 v3 s3 (fun s4 =>
          wX11_puts v0 v4 s4 (fun s5 =>
            wX11_puts v0 v5 s5 (fun s6 =>
              post (s6.1 v0 2) s6)))))
  ) ∧ (¬ ((s1.1 v0 2) + (20 : Int32)) ≤ (700 : Int32) →
    post (-1 : Int32) s1)

def wX11_see (v0 : Nat) (v1 : Int32) (σ : St) (post : Int32 → St → Prop) : Prop :=
  ((σ.1 v0 3) ≤ v1 →
    post (-1 : Int32) σ
  ) ∧ (¬ (σ.1 v0 3) ≤ v1 →
    vp_in v1 700 ∧
    post ((σ.1 (v0 + 1) v1.toNatClampNeg) &&& (255 : Int32)) σ)

def wX11_steps_361 (post : St → Prop) (t0 : Nat) (t1 : Int32) (σ : St) : Prop :=
  ∀ s1 : St, s1 = u1 σ t0 6 t1 →
  post s1
def wX11_steps_326 (post : St → Prop) (R265 : Nat → St → Prop) (v0 : Nat) (t0 : Nat) (t1 : Int32) (σ : St) : Prop :=
  ∀ s1 : St, s1 = u1 σ t0 7 t1 →
  ∀ s2 : St, s2 = u1 s1 v0 5 ((s1.1 v0 5) + (1 : Int32)) →
  R265 v0 s2
def wX11_steps_265 (post : St → Prop) : Nat → Nat → St → Prop
  | 0 => fun _ _ => False
  | n + 1 => fun v0 σ =>
    wX11_see v0 (σ.1 v0 5) σ (fun r1 s1 =>
      wX11_within (r1.toInt64) (48 : Int64) (57 : Int64) s1 (fun r2 s2 =>
        (r2 = false →
          ((3 : Int32) ≤ ((s2.1 v0 5) - (s2.1 v0 4)) →
            wX11_steps_361 post v0 (4 : Int32) s2
          ) ∧ (¬ (3 : Int32) ≤ ((s2.1 v0 5) - (s2.1 v0 4)) →
            wX11_steps_361 post v0 (2 : Int32) s2)
        ) ∧ (r2 = true →
          ((2 : Int32) ≤ ((s2.1 v0 5) - (s2.1 v0 4)) →
            wX11_steps_326 post (wX11_steps_265 post n) v0 v0 (s2.1 v0 7) s2
          ) ∧ (¬ (2 : Int32) ≤ ((s2.1 v0 5) - (s2.1 v0 4)) →
            wX11_see v0 (s2.1 v0 5) s2 (fun r3 s3 =>
              wX11_steps_326 post (wX11_steps_265 post n) v0 v0 ((((10 : Int32) * (s2.1 v0 7)) + r3) - (48 : Int32)) s3)))))
def wX11_steps_237 (post : St → Prop) (t0 : Nat) (t1 : Int32) (σ : St) : Prop :=
  ∀ s1 : St, s1 = u1 σ t0 6 t1 →
  post s1
def wX11_steps_201 (post : St → Prop) (R138 : Nat → St → Prop) (v0 : Nat) (t0 : Nat) (t1 : Int64) (σ : St) : Prop :=
  ∀ s1 : St, s1 = u2 σ t0 8 t1 →
  ∀ s2 : St, s2 = u1 s1 v0 5 ((s1.1 v0 5) + (1 : Int32)) →
  R138 v0 s2
def wX11_steps_138 (post : St → Prop) : Nat → Nat → St → Prop
  | 0 => fun _ _ => False
  | n + 1 => fun v0 σ =>
    wX11_see v0 (σ.1 v0 5) σ (fun r1 s1 =>
      wX11_within (r1.toInt64) (97 : Int64) (122 : Int64) s1 (fun r2 s2 =>
        (r2 = false →
          ((7 : Int32) ≤ ((s2.1 v0 5) - (s2.1 v0 4)) →
            wX11_steps_237 post v0 (4 : Int32) s2
          ) ∧ (¬ (7 : Int32) ≤ ((s2.1 v0 5) - (s2.1 v0 4)) →
            wX11_steps_237 post v0 (1 : Int32) s2)
        ) ∧ (r2 = true →
          ((6 : Int32) ≤ ((s2.1 v0 5) - (s2.1 v0 4)) →
            wX11_steps_201 post (wX11_steps_138 post n) v0 v0 (s2.2 v0 8) s2
          ) ∧ (¬ (6 : Int32) ≤ ((s2.1 v0 5) - (s2.1 v0 4)) →
            wX11_see v0 (s2.1 v0 5) s2 (fun r3 s3 =>
              wX11_steps_201 post (wX11_steps_138 post n) v0 v0 (((s2.2 v0 8) <<< ((5 : Int32).toInt64 &&& 63)) ||| ((r3.toInt64) - (96 : Int64))) s3)))))
def wX11_steps_34 (post : St → Prop) (R8 : Nat → St → Prop) (v0 : Nat) (σ : St) : Prop :=
  ∀ s1 : St, s1 = u1 σ v0 4 ((σ.1 v0 4) + (1 : Int32)) →
  R8 v0 s1
def wX11_steps_8 (post : St → Prop) : Nat → Nat → St → Prop
  | 0 => fun _ _ => False
  | n + 1 => fun v0 σ =>
    wX11_see v0 (σ.1 v0 4) σ (fun r1 s1 =>
      (r1 = (32 : Int32) →
        wX11_steps_34 post (wX11_steps_8 post n) v0 s1
      ) ∧ (¬ r1 = (32 : Int32) →
        wX11_see v0 (s1.1 v0 4) s1 (fun r2 s2 =>
          (¬ r2 = (10 : Int32) →
            wX11_see v0 (s2.1 v0 4) s2 (fun r3 s3 =>
              ∀ s4 : St, s4 = u1 s3 v0 5 ((s3.1 v0 4) + (1 : Int32)) →
              ∀ s5 : St, s5 = u1 s4 v0 6 (4 : Int32) →
              ∀ s6 : St, s6 = u1 s5 v0 7 (0 : Int32) →
              ∀ s7 : St, s7 = u2 s6 v0 8 (0 : Int64) →
              (¬ r3 = (-1 : Int32) →
                (¬ r3 = (59 : Int32) →
                  wX11_within (r3.toInt64) (97 : Int64) (122 : Int64) s7 (fun r4 s8 =>
                    (r4 = false →
                      wX11_within (r3.toInt64) (48 : Int64) (57 : Int64) s8 (fun r5 s9 =>
                        (r5 = false →
                          post s9
                        ) ∧ (r5 = true →
                          ∀ s10 : St, s10 = u1 s9 v0 5 (s9.1 v0 4) →
                          ∃ j, wX11_steps_265 post j v0 s10))
                    ) ∧ (r4 = true →
                      ∀ s11 : St, s11 = u1 s8 v0 5 (s8.1 v0 4) →
                      ∃ j, wX11_steps_138 post j v0 s11))
                ) ∧ (r3 = (59 : Int32) →
                  ∀ s12 : St, s12 = u1 s7 v0 6 (3 : Int32) →
                  post s12)
              ) ∧ (r3 = (-1 : Int32) →
                ∀ s13 : St, s13 = u1 s7 v0 5 (s7.1 v0 4) →
                ∀ s14 : St, s14 = u1 s13 v0 6 (0 : Int32) →
                post s14))
          ) ∧ (r2 = (10 : Int32) →
            wX11_steps_34 post (wX11_steps_8 post n) v0 s2))))
def wX11_steps (v0 : Nat) (σ : St) (post : St → Prop) : Prop :=
  ∀ s1 : St, s1 = u1 σ v0 4 (σ.1 v0 5) →
  ∃ j, wX11_steps_8 post j v0 s1

def wX11_must_24 (post : Bool → St → Prop) (v0 : Nat) (σ : St) : Prop :=
  (¬ (σ.1 v0 9) = 0 →
    post false σ
  ) ∧ ((σ.1 v0 9) = 0 →
    post true σ)
def wX11_must (v0 : Nat) (v1 : Int32) (v2 : Int32) (σ : St) (post : Bool → St → Prop) : Prop :=
  (¬ (σ.1 v0 9) = 0 →
    wX11_must_24 post v0 σ
  ) ∧ ((σ.1 v0 9) = 0 →
    (¬ v1 = 0 →
      wX11_must_24 post v0 σ
    ) ∧ (v1 = 0 →
      ∀ s1 : St, s1 = u1 σ v0 9 v2 →
      ∀ s2 : St, s2 = u1 s1 v0 10 (s1.1 v0 4) →
      wX11_must_24 post v0 s2))

def wX11_isName (v0 : Nat) (σ : St) (post : Bool → St → Prop) : Prop :=
  (¬ (σ.1 v0 6) = (1 : Int32) →
    post false σ
  ) ∧ ((σ.1 v0 6) = (1 : Int32) →
    wX11_is v0 0 σ (fun r1 s1 =>
      (r1 = true →
        post false s1
      ) ∧ (r1 = false →
        wX11_is v0 1 s1 (fun r2 s2 =>
          (r2 = true →
            post false s2
          ) ∧ (r2 = false →
            wX11_is v0 2 s2 (fun r3 s3 =>
              (r3 = true →
                post false s3
              ) ∧ (r3 = false →
                wX11_is v0 3 s3 (fun r4 s4 =>
                  (r4 = true →
                    post false s4
                  ) ∧ (r4 = false →
                    wX11_is v0 4 s4 (fun r5 s5 =>
                      (r5 = true →
                        post false s5
                      ) ∧ (r5 = false →
                        wX11_is v0 5 s5 (fun r6 s6 =>
                          (r6 = true →
                            post false s6
                          ) ∧ (r6 = false →
                            post true s6)))))))))))))

def wX11_takesNumber_14 (post : Bool → St → Prop) (v0 : Nat) (v1 : Int32) (v2 : Int32) (t0 : Nat) (t1 : Int32) (σ : St) : Prop :=
  wX11_must t0 t1 (1 : Int32) σ (fun r1 s1 =>
    (r1 = false →
      post false s1
    ) ∧ (r1 = true →
      wX11_within ((s1.1 v0 7).toInt64) (v1.toInt64) (v2.toInt64) s1 (fun r2 s2 =>
        wX11_must v0 (b2i r2) (4 : Int32) s2 (fun r3 s3 =>
          (r3 = true →
            ∀ s4 : St, s4 = u1 s3 v0 11 (s3.1 v0 7) →
            wX11_steps v0 s4 (fun s5 =>
              post true s5)
          ) ∧ (r3 = false →
            post false s3)))))
def wX11_takesNumber (v0 : Nat) (v1 : Int32) (v2 : Int32) (σ : St) (post : Bool → St → Prop) : Prop :=
  (¬ (σ.1 v0 6) = (2 : Int32) →
    wX11_takesNumber_14 post v0 v1 v2 v0 (0 : Int32) σ
  ) ∧ ((σ.1 v0 6) = (2 : Int32) →
    wX11_takesNumber_14 post v0 v1 v2 v0 (1 : Int32) σ)

def wX11_tableNamed_2 (post : Int32 → St → Prop) : Nat → Nat → Int32 → St → Prop
  | 0 => fun _ _ _ => False
  | n + 1 => fun v0 v1 σ =>
    ∀ x1 : Int32, x1 = (σ.1 v0 12) →
    vp_in x1 2 ∧
    ((σ.1 (v0 + 3) x1.toNatClampNeg) ≤ v1 →
      post (-1 : Int32) σ
    ) ∧ (¬ (σ.1 (v0 + 3) x1.toNatClampNeg) ≤ v1 →
      ∀ x2 : Int32, x2 = (((8 : Int32) * (σ.1 v0 12)) + v1) →
      vp_in x2 16 ∧
      (¬ (lg_cmp (σ.2 (v0 + 6) x2.toNatClampNeg) (σ.2 v0 8)) = 0 →
        ∀ x3 : Int32, x3 = v1 + (1 : Int32) →
        wX11_tableNamed_2 post n v0 x3 σ
      ) ∧ ((lg_cmp (σ.2 (v0 + 6) x2.toNatClampNeg) (σ.2 v0 8)) = 0 →
        post v1 σ))
def wX11_tableNamed (v0 : Nat) (σ : St) (post : Int32 → St → Prop) : Prop :=
  ∃ j, wX11_tableNamed_2 post j v0 (0 : Int32) σ

def wX11_baseNamed_2 (post : Int32 → St → Prop) : Nat → Nat → Int32 → St → Prop
  | 0 => fun _ _ _ => False
  | n + 1 => fun v0 v1 σ =>
    ∀ x1 : Int32, x1 = (σ.1 v0 12) →
    vp_in x1 2 ∧
    ((σ.1 (v0 + 4) x1.toNatClampNeg) ≤ v1 →
      post (-1 : Int32) σ
    ) ∧ (¬ (σ.1 (v0 + 4) x1.toNatClampNeg) ≤ v1 →
      ∀ x2 : Int32, x2 = (((5 : Int32) * (σ.1 v0 12)) + v1) →
      vp_in x2 10 ∧
      (¬ (lg_cmp (σ.2 (v0 + 7) x2.toNatClampNeg) (σ.2 v0 8)) = 0 →
        ∀ x3 : Int32, x3 = v1 + (1 : Int32) →
        wX11_baseNamed_2 post n v0 x3 σ
      ) ∧ ((lg_cmp (σ.2 (v0 + 7) x2.toNatClampNeg) (σ.2 v0 8)) = 0 →
        post v1 σ))
def wX11_baseNamed (v0 : Nat) (σ : St) (post : Int32 → St → Prop) : Prop :=
  ∃ j, wX11_baseNamed_2 post j v0 (0 : Int32) σ

def wX11_nodeNamed_2 (post : Int32 → St → Prop) : Nat → Nat → Int32 → St → Prop
  | 0 => fun _ _ _ => False
  | n + 1 => fun v0 v1 σ =>
    ∀ x1 : Int32, x1 = (σ.1 v0 12) →
    vp_in x1 2 ∧
    ((σ.1 (v0 + 5) x1.toNatClampNeg) ≤ v1 →
      post (-1 : Int32) σ
    ) ∧ (¬ (σ.1 (v0 + 5) x1.toNatClampNeg) ≤ v1 →
      ∀ x2 : Int32, x2 = (((6 : Int32) * (σ.1 v0 12)) + v1) →
      vp_in x2 12 ∧
      (¬ (lg_cmp (σ.2 (v0 + 8) x2.toNatClampNeg) (σ.2 v0 8)) = 0 →
        ∀ x3 : Int32, x3 = v1 + (1 : Int32) →
        wX11_nodeNamed_2 post n v0 x3 σ
      ) ∧ ((lg_cmp (σ.2 (v0 + 8) x2.toNatClampNeg) (σ.2 v0 8)) = 0 →
        post v1 σ))
def wX11_nodeNamed (v0 : Nat) (σ : St) (post : Int32 → St → Prop) : Prop :=
  ∃ j, wX11_nodeNamed_2 post j v0 (0 : Int32) σ

def wX11_newName_39 (post : Bool → St → Prop) (v0 : Nat) (t0 : Nat) (t1 : Int32) (σ : St) : Prop :=
  wX11_must t0 t1 (2 : Int32) σ (fun r1 s1 =>
    (r1 = true →
      ∀ s2 : St, s2 = u2 s1 v0 26 (s1.2 v0 8) →
      wX11_steps v0 s2 (fun s3 =>
        post true s3)
    ) ∧ (r1 = false →
      post false s1))
def wX11_newName_38 (post : Bool → St → Prop) (v0 : Nat) (t0 : Nat) (σ : St) : Prop :=
  wX11_newName_39 post v0 t0 (0 : Int32) σ
def wX11_newName (v0 : Nat) (σ : St) (post : Bool → St → Prop) : Prop :=
  wX11_isName v0 σ (fun r1 s1 =>
    wX11_must v0 (b2i r1) (1 : Int32) s1 (fun r2 s2 =>
      (r2 = false →
        post false s2
      ) ∧ (r2 = true →
        wX11_tableNamed v0 s2 (fun r3 s3 =>
          (0 ≤ r3 →
            wX11_newName_38 post v0 v0 s3
          ) ∧ (¬ 0 ≤ r3 →
            wX11_baseNamed v0 s3 (fun r4 s4 =>
              (0 ≤ r4 →
                wX11_newName_38 post v0 v0 s4
              ) ∧ (¬ 0 ≤ r4 →
                wX11_nodeNamed v0 s4 (fun r5 s5 =>
                  (0 ≤ r5 →
                    wX11_newName_38 post v0 v0 s5
                  ) ∧ (¬ 0 ≤ r5 →
                    wX11_newName_39 post v0 v0 (1 : Int32) s5)))))))))

def wX11_tableLine_56 (post : Bool → St → Prop) : Nat → Nat → Int32 → Int64 → Int32 → St → Prop
  | 0 => fun _ _ _ _ _ => False
  | n + 1 => fun v0 v1 v2 v4 σ =>
    vp_in v1 16 ∧
    (((1 : Int32) <<< ((σ.1 (v0 + 9) v1.toNatClampNeg) &&& 31)) ≤ v4 →
      vp_in v1 16 ∧
      ∀ s1 : St, s1 = u2 σ (v0 + 6) v1.toNatClampNeg v2 →
      ∀ x1 : Int32, x1 = (s1.1 v0 12) →
      vp_in x1 2 ∧
      vp_in x1 2 ∧
      ∀ s2 : St, s2 = u1 s1 (v0 + 3) x1.toNatClampNeg ((s1.1 (v0 + 3) x1.toNatClampNeg) + (1 : Int32)) →
      post true s2
    ) ∧ (¬ ((1 : Int32) <<< ((σ.1 (v0 + 9) v1.toNatClampNeg) &&& 31)) ≤ v4 →
      ∀ x2 : Int32, x2 = (σ.1 v0 12) →
      vp_in x2 2 ∧
      wX11_takesNumber v0 (0 : Int32) ((σ.1 (v0 + 2) x2.toNatClampNeg) - (1 : Int32)) σ (fun r1 s3 =>
        (r1 = true →
          vp_in (((16 : Int32) * v1) + v4) 256 ∧
          ∀ s4 : St, s4 = u1 s3 (v0 + 10) (((16 : Int32) * v1) + v4).toNatClampNeg (s3.1 v0 11) →
          ∀ x3 : Int32, x3 = v4 + (1 : Int32) →
          wX11_tableLine_56 post n v0 v1 v2 x3 s4
        ) ∧ (r1 = false →
          post false s3)))
def wX11_tableLine (v0 : Nat) (σ : St) (post : Bool → St → Prop) : Prop :=
  wX11_newName v0 σ (fun r1 s1 =>
    (r1 = true →
      ∀ x1 : Int32, x1 = (s1.1 v0 12) →
      vp_in x1 2 ∧
      ∀ x2 : Int32, x2 = (((8 : Int32) * (s1.1 v0 12)) + (s1.1 (v0 + 3) x1.toNatClampNeg)) →
      ∀ x3 : Int64, x3 = (s1.2 v0 26) →
      wX11_takesNumber v0 (1 : Int32) (4 : Int32) s1 (fun r2 s2 =>
        (r2 = true →
          vp_in x2 16 ∧
          ∀ s3 : St, s3 = u1 s2 (v0 + 9) x2.toNatClampNeg (s2.1 v0 11) →
          ∃ j, wX11_tableLine_56 post j v0 x2 x3 (0 : Int32) s3
        ) ∧ (r2 = false →
          post false s2))
    ) ∧ (r1 = false →
      post false s1))

def wX11_laysMatchings_43 (post : St → Prop) (R9 : Nat → Int32 → Int32 → Int32 → St → Prop) : Nat → Nat → Int32 → Int32 → Int32 → Int32 → Int32 → Int32 → St → Prop
  | 0 => fun _ _ _ _ _ _ _ _ => False
  | n + 1 => fun v0 v1 v2 v3 v4 v5 v6 σ =>
    (v1 ≤ v6 →
      (¬ v2 = 0) ∧
      vp_in v3 256 ∧
      ∀ s1 : St, s1 = u1 σ (v0 + 15) v3.toNatClampNeg (v5 - v5 / v2 * v2) →
      ∀ x1 : Int32, x1 = v3 + (1 : Int32) →
      R9 v0 v1 v2 x1 s1
    ) ∧ (¬ v1 ≤ v6 →
      (((v3 >>> (v6 &&& 31)) &&& (1 : Int32)) = 0 →
        ∀ x2 : Int32, x2 = v6 + (1 : Int32) →
        wX11_laysMatchings_43 post R9 n v0 v1 v2 v3 v4 v5 x2 σ
      ) ∧ (¬ ((v3 >>> (v6 &&& 31)) &&& (1 : Int32)) = 0 →
        ∀ x3 : Int32, x3 = (((8 : Int32) * v4) + v6) →
        vp_in x3 64 ∧
        (¬ (σ.1 (v0 + 14) x3.toNatClampNeg) = 0 →
          ∀ x4 : Int32, x4 = (((8 : Int32) * v4) + v6) →
          vp_in x4 64 ∧
          ∀ x5 : Int32, x5 = ((v3 &&& (((1 : Int32) <<< (v4 &&& 31)) ^^^ (-1 : Int32))) &&& (((1 : Int32) <<< (v6 &&& 31)) ^^^ (-1 : Int32))) →
          vp_in x5 256 ∧
          ∀ x6 : Int32, x6 = (v5 + ((σ.1 (v0 + 14) x4.toNatClampNeg) * (σ.1 (v0 + 15) x5.toNatClampNeg))) →
          ∀ x7 : Int32, x7 = v6 + (1 : Int32) →
          wX11_laysMatchings_43 post R9 n v0 v1 v2 v3 v4 x6 x7 σ
        ) ∧ ((σ.1 (v0 + 14) x3.toNatClampNeg) = 0 →
          ∀ x8 : Int32, x8 = v6 + (1 : Int32) →
          wX11_laysMatchings_43 post R9 n v0 v1 v2 v3 v4 v5 x8 σ)))
def wX11_laysMatchings_19 (post : St → Prop) (R9 : Nat → Int32 → Int32 → Int32 → St → Prop) : Nat → Nat → Int32 → Int32 → Int32 → Int32 → St → Prop
  | 0 => fun _ _ _ _ _ _ => False
  | n + 1 => fun v0 v1 v2 v3 v4 σ =>
    (¬ ((v3 >>> (v4 &&& 31)) &&& (1 : Int32)) = 0 →
      ∀ x1 : Int32, x1 = (v4 + (1 : Int32)) →
      ∃ j, wX11_laysMatchings_43 post R9 j v0 v1 v2 v3 v4 (0 : Int32) x1 σ
    ) ∧ (((v3 >>> (v4 &&& 31)) &&& (1 : Int32)) = 0 →
      ∀ x2 : Int32, x2 = v4 + (1 : Int32) →
      wX11_laysMatchings_19 post R9 n v0 v1 v2 v3 x2 σ)
def wX11_laysMatchings_9 (post : St → Prop) : Nat → Nat → Int32 → Int32 → Int32 → St → Prop
  | 0 => fun _ _ _ _ _ => False
  | n + 1 => fun v0 v1 v2 v3 σ =>
    (((1 : Int32) <<< (v1 &&& 31)) ≤ v3 →
      post σ
    ) ∧ (¬ ((1 : Int32) <<< (v1 &&& 31)) ≤ v3 →
      ∃ j, wX11_laysMatchings_19 post (wX11_laysMatchings_9 post n) j v0 v1 v2 v3 (0 : Int32) σ)
def wX11_laysMatchings (v0 : Nat) (v1 : Int32) (v2 : Int32) (σ : St) (post : St → Prop) : Prop :=
  ∀ s1 : St, s1 = u1 σ (v0 + 15) (0 : Int32).toNatClampNeg (1 : Int32) →
  ∃ j, wX11_laysMatchings_9 post j v0 v1 v2 (1 : Int32) s1

def wX11_gateLine_348 (post : Bool → St → Prop) : Nat → Nat → Int32 → Int64 → Int32 → Int32 → St → Prop
  | 0 => fun _ _ _ _ _ _ => False
  | n + 1 => fun v0 v1 v2 v4 v6 σ =>
    vp_in v1 16 ∧
    (((1 : Int32) <<< ((σ.1 (v0 + 9) v1.toNatClampNeg) &&& 31)) ≤ v6 →
      vp_in v1 16 ∧
      ∀ s1 : St, s1 = u2 σ (v0 + 6) v1.toNatClampNeg v2 →
      ∀ x1 : Int32, x1 = (s1.1 v0 12) →
      vp_in x1 2 ∧
      vp_in x1 2 ∧
      ∀ s2 : St, s2 = u1 s1 (v0 + 3) x1.toNatClampNeg ((s1.1 (v0 + 3) x1.toNatClampNeg) + (1 : Int32)) →
      post true s2
    ) ∧ (¬ ((1 : Int32) <<< ((σ.1 (v0 + 9) v1.toNatClampNeg) &&& 31)) ≤ v6 →
      ∀ x2 : Int32, x2 = ((((1 : Int32) <<< (v4 &&& 31)) - (1 : Int32)) &&& (v6 ^^^ (-1 : Int32))) →
      vp_in x2 256 ∧
      vp_in (((16 : Int32) * v1) + v6) 256 ∧
      ∀ s3 : St, s3 = u1 σ (v0 + 10) (((16 : Int32) * v1) + v6).toNatClampNeg (σ.1 (v0 + 15) x2.toNatClampNeg) →
      ∀ x3 : Int32, x3 = v6 + (1 : Int32) →
      wX11_gateLine_348 post n v0 v1 v2 v4 x3 s3)
def wX11_gateLine_256 (post : Bool → St → Prop) (R109 : Nat → Int32 → Int64 → Int32 → Int32 → St → Prop) (v0 : Nat) (v1 : Int32) (v2 : Int64) (v4 : Int32) (v5 : Int32) (v6 : Int32) (v7 : Int32) (t0 : Nat) (t1 : Int32) (σ : St) : Prop :=
  wX11_must t0 t1 (4 : Int32) σ (fun r1 s1 =>
    (r1 = true →
      wX11_steps v0 s1 (fun s2 =>
        ∀ x1 : Int32, x1 = (s2.1 v0 12) →
        vp_in x1 2 ∧
        wX11_takesNumber v0 (1 : Int32) ((s2.1 (v0 + 2) x1.toNatClampNeg) - (1 : Int32)) s2 (fun r2 s3 =>
          (r2 = true →
            vp_in (((8 : Int32) * v6) + v7) 64 ∧
            ∀ s4 : St, s4 = u1 s3 (v0 + 14) (((8 : Int32) * v6) + v7).toNatClampNeg (s3.1 v0 11) →
            vp_in (((8 : Int32) * v7) + v6) 64 ∧
            ∀ s5 : St, s5 = u1 s4 (v0 + 14) (((8 : Int32) * v7) + v6).toNatClampNeg (s4.1 v0 11) →
            ∀ x2 : Int32, x2 = v5 + (1 : Int32) →
            R109 v0 v1 v2 v4 x2 s5
          ) ∧ (r2 = false →
            post false s3)))
    ) ∧ (r1 = false →
      post false s1))
def wX11_gateLine_255 (post : Bool → St → Prop) (R109 : Nat → Int32 → Int64 → Int32 → Int32 → St → Prop) (v0 : Nat) (v1 : Int32) (v2 : Int64) (v4 : Int32) (v5 : Int32) (v6 : Int32) (v7 : Int32) (t0 : Nat) (σ : St) : Prop :=
  wX11_gateLine_256 post R109 v0 v1 v2 v4 v5 v6 v7 t0 (0 : Int32) σ
def wX11_gateLine_229 (post : Bool → St → Prop) (R109 : Nat → Int32 → Int64 → Int32 → Int32 → St → Prop) (v0 : Nat) (v1 : Int32) (v2 : Int64) (v4 : Int32) (v5 : Int32) (v6 : Int32) (v7 : Int32) (t0 : Nat) (t1 : Int32) (σ : St) : Prop :=
  wX11_must t0 t1 (2 : Int32) σ (fun r1 s1 =>
    (r1 = false →
      post false s1
    ) ∧ (r1 = true →
      (v4 ≤ v7 →
        wX11_gateLine_255 post R109 v0 v1 v2 v4 v5 v6 v7 v0 s1
      ) ∧ (¬ v4 ≤ v7 →
        (v7 = v6 →
          wX11_gateLine_255 post R109 v0 v1 v2 v4 v5 v6 v7 v0 s1
        ) ∧ (¬ v7 = v6 →
          wX11_gateLine_256 post R109 v0 v1 v2 v4 v5 v6 v7 v0 (1 : Int32) s1))))
def wX11_gateLine_224 (post : Bool → St → Prop) (R109 : Nat → Int32 → Int64 → Int32 → Int32 → St → Prop) (v0 : Nat) (v1 : Int32) (v2 : Int64) (v4 : Int32) (v5 : Int32) (v6 : Int32) (v7 : Int32) (t0 : Nat) (σ : St) : Prop :=
  wX11_gateLine_229 post R109 v0 v1 v2 v4 v5 v6 v7 t0 (1 : Int32) σ
def wX11_gateLine_185 (post : Bool → St → Prop) (R109 : Nat → Int32 → Int64 → Int32 → Int32 → St → Prop) (v0 : Nat) (v1 : Int32) (v2 : Int64) (v4 : Int32) (v5 : Int32) (v6 : Int32) (t0 : Nat) (t1 : Int32) (σ : St) : Prop :=
  wX11_must t0 t1 (1 : Int32) σ (fun r1 s1 =>
    (r1 = true →
      ∀ x1 : Int32, x1 = (s1.1 v0 7) →
      (v4 ≤ x1 →
        wX11_gateLine_224 post R109 v0 v1 v2 v4 v5 v6 x1 v0 s1
      ) ∧ (¬ v4 ≤ x1 →
        ∀ x2 : Int32, x2 = (((8 : Int32) * v6) + x1) →
        vp_in x2 64 ∧
        (¬ (s1.1 (v0 + 14) x2.toNatClampNeg) = 0 →
          wX11_gateLine_229 post R109 v0 v1 v2 v4 v5 v6 x1 v0 (0 : Int32) s1
        ) ∧ ((s1.1 (v0 + 14) x2.toNatClampNeg) = 0 →
          wX11_gateLine_224 post R109 v0 v1 v2 v4 v5 v6 x1 v0 s1))
    ) ∧ (r1 = false →
      post false s1))
def wX11_gateLine_152 (post : Bool → St → Prop) (R109 : Nat → Int32 → Int64 → Int32 → Int32 → St → Prop) (v0 : Nat) (v1 : Int32) (v2 : Int64) (v4 : Int32) (v5 : Int32) (t0 : Nat) (t1 : Int32) (σ : St) : Prop :=
  wX11_must t0 t1 (5 : Int32) σ (fun r1 s1 =>
    (r1 = true →
      ∀ x1 : Int32, x1 = (s1.1 v0 7) →
      wX11_steps v0 s1 (fun s2 =>
        (¬ (s2.1 v0 6) = (2 : Int32) →
          wX11_gateLine_185 post R109 v0 v1 v2 v4 v5 x1 v0 (0 : Int32) s2
        ) ∧ ((s2.1 v0 6) = (2 : Int32) →
          wX11_gateLine_185 post R109 v0 v1 v2 v4 v5 x1 v0 (1 : Int32) s2))
    ) ∧ (r1 = false →
      post false s1))
def wX11_gateLine_132 (post : Bool → St → Prop) (R109 : Nat → Int32 → Int64 → Int32 → Int32 → St → Prop) (v0 : Nat) (v1 : Int32) (v2 : Int64) (v4 : Int32) (v5 : Int32) (t0 : Nat) (t1 : Int32) (σ : St) : Prop :=
  wX11_must t0 t1 (4 : Int32) σ (fun r1 s1 =>
    (r1 = false →
      post false s1
    ) ∧ (r1 = true →
      ((12 : Int32) ≤ v5 →
        wX11_gateLine_152 post R109 v0 v1 v2 v4 v5 v0 (0 : Int32) s1
      ) ∧ (¬ (12 : Int32) ≤ v5 →
        wX11_gateLine_152 post R109 v0 v1 v2 v4 v5 v0 (1 : Int32) s1)))
def wX11_gateLine_109 (post : Bool → St → Prop) : Nat → Nat → Int32 → Int64 → Int32 → Int32 → St → Prop
  | 0 => fun _ _ _ _ _ _ => False
  | n + 1 => fun v0 v1 v2 v4 v5 σ =>
    (¬ (σ.1 v0 6) = (2 : Int32) →
      ∀ x1 : Int32, x1 = (σ.1 v0 12) →
      vp_in x1 2 ∧
      wX11_laysMatchings v0 v4 (σ.1 (v0 + 2) x1.toNatClampNeg) σ (fun s1 =>
        ∃ j, wX11_gateLine_348 post j v0 v1 v2 v4 (0 : Int32) s1)
    ) ∧ ((σ.1 v0 6) = (2 : Int32) →
      (v4 ≤ (σ.1 v0 7) →
        wX11_gateLine_132 post (wX11_gateLine_109 post n) v0 v1 v2 v4 v5 v0 (0 : Int32) σ
      ) ∧ (¬ v4 ≤ (σ.1 v0 7) →
        wX11_gateLine_132 post (wX11_gateLine_109 post n) v0 v1 v2 v4 v5 v0 (1 : Int32) σ))
def wX11_gateLine_85 (post : Bool → St → Prop) : Nat → Nat → Int32 → Int64 → Int32 → Int32 → St → Prop
  | 0 => fun _ _ _ _ _ _ => False
  | n + 1 => fun v0 v1 v2 v4 v5 σ =>
    ((64 : Int32) ≤ v5 →
      ∃ j, wX11_gateLine_109 post j v0 v1 v2 v4 (0 : Int32) σ
    ) ∧ (¬ (64 : Int32) ≤ v5 →
      vp_in v5 64 ∧
      ∀ s1 : St, s1 = u1 σ (v0 + 14) v5.toNatClampNeg (0 : Int32) →
      ∀ x1 : Int32, x1 = v5 + (1 : Int32) →
      wX11_gateLine_85 post n v0 v1 v2 v4 x1 s1)
def wX11_gateLine_64 (post : Bool → St → Prop) (v0 : Nat) (v1 : Int32) (v2 : Int64) (v4 : Int32) (t0 : Nat) (t1 : Int32) (t2 : Int32) (σ : St) : Prop :=
  wX11_takesNumber t0 t1 t2 σ (fun r1 s1 =>
    (r1 = true →
      vp_in v1 16 ∧
      ∀ s2 : St, s2 = u1 s1 (v0 + 9) v1.toNatClampNeg (s1.1 v0 11) →
      ∃ j, wX11_gateLine_85 post j v0 v1 v2 v4 (0 : Int32) s2
    ) ∧ (r1 = false →
      post false s1))
def wX11_gateLine (v0 : Nat) (σ : St) (post : Bool → St → Prop) : Prop :=
  wX11_newName v0 σ (fun r1 s1 =>
    (r1 = true →
      ∀ x1 : Int32, x1 = (s1.1 v0 12) →
      vp_in x1 2 ∧
      ∀ x2 : Int32, x2 = (((8 : Int32) * (s1.1 v0 12)) + (s1.1 (v0 + 3) x1.toNatClampNeg)) →
      ∀ x3 : Int64, x3 = (s1.2 v0 26) →
      wX11_takesNumber v0 (1 : Int32) (8 : Int32) s1 (fun r2 s2 =>
        (r2 = true →
          ∀ x4 : Int32, x4 = (s2.1 v0 11) →
          ((4 : Int32) ≤ x4 →
            wX11_gateLine_64 post v0 x2 x3 x4 v0 (1 : Int32) (4 : Int32) s2
          ) ∧ (¬ (4 : Int32) ≤ x4 →
            wX11_gateLine_64 post v0 x2 x3 x4 v0 (1 : Int32) x4 s2)
        ) ∧ (r2 = false →
          post false s2))
    ) ∧ (r1 = false →
      post false s1))

def wX11_modulo (v0 : Int64) (v2 : Int32) (σ : St) (post : Int32 → St → Prop) : Prop :=
  (¬ (v2.toInt64) = 0) ∧
  ∀ x1 : Int32, x1 = ((v0 - v0 / (v2.toInt64) * (v2.toInt64)).toInt32) →
  (0 ≤ x1 →
    post x1 σ
  ) ∧ (¬ 0 ≤ x1 →
    post (x1 + v2) σ)

def wX11_baseLine_166 (post : Bool → St → Prop) (v0 : Nat) (v1 : Int32) (v2 : Int64) (t0 : Nat) (t1 : Int32) (σ : St) : Prop :=
  wX11_must t0 t1 (4 : Int32) σ (fun r1 s1 =>
    (r1 = true →
      vp_in (((4 : Int32) * v1) + (3 : Int32)) 40 ∧
      ∀ s2 : St, s2 = u1 s1 (v0 + 11) (((4 : Int32) * v1) + (3 : Int32)).toNatClampNeg (s1.1 v0 7) →
      wX11_steps v0 s2 (fun s3 =>
        vp_in v1 10 ∧
        ∀ s4 : St, s4 = u2 s3 (v0 + 7) v1.toNatClampNeg v2 →
        ∀ x1 : Int32, x1 = (s4.1 v0 12) →
        vp_in x1 2 ∧
        vp_in x1 2 ∧
        ∀ s5 : St, s5 = u1 s4 (v0 + 4) x1.toNatClampNeg ((s4.1 (v0 + 4) x1.toNatClampNeg) + (1 : Int32)) →
        post true s5)
    ) ∧ (r1 = false →
      post false s1))
def wX11_baseLine_165 (post : Bool → St → Prop) (v0 : Nat) (v1 : Int32) (v2 : Int64) (t0 : Nat) (σ : St) : Prop :=
  wX11_baseLine_166 post v0 v1 v2 t0 (0 : Int32) σ
def wX11_baseLine_100 (post : Bool → St → Prop) (v0 : Nat) (v1 : Int32) (v2 : Int64) (v4 : Int32) (t0 : Nat) (t1 : Int32) (σ : St) : Prop :=
  wX11_must t0 t1 (1 : Int32) σ (fun r1 s1 =>
    (r1 = false →
      post false s1
    ) ∧ (r1 = true →
      (v4 ≤ (s1.1 v0 7) →
        wX11_baseLine_165 post v0 v1 v2 v0 s1
      ) ∧ (¬ v4 ≤ (s1.1 v0 7) →
        ∀ x1 : Int32, x1 = ((4 : Int32) * v1) →
        vp_in x1 40 ∧
        ∀ x2 : Int32, x2 = (((4 : Int32) * v1) + (1 : Int32)) →
        vp_in x2 40 ∧
        ∀ x3 : Int32, x3 = (((4 : Int32) * v1) + (2 : Int32)) →
        vp_in x3 40 ∧
        wX11_modulo ((((s1.1 (v0 + 11) x1.toNatClampNeg) * (s1.1 v0 7)) - ((s1.1 (v0 + 11) x2.toNatClampNeg) * (s1.1 (v0 + 11) x3.toNatClampNeg))).toInt64) v4 s1 (fun r2 s2 =>
          (r2 = 0 →
            wX11_baseLine_165 post v0 v1 v2 v0 s2
          ) ∧ (¬ r2 = 0 →
            wX11_baseLine_166 post v0 v1 v2 v0 (1 : Int32) s2)))))
def wX11_baseLine_45 (post : Bool → St → Prop) : Nat → Nat → Int32 → Int64 → Int32 → Int32 → St → Prop
  | 0 => fun _ _ _ _ _ _ => False
  | n + 1 => fun v0 v1 v2 v4 v5 σ =>
    ((3 : Int32) ≤ v5 →
      (¬ (σ.1 v0 6) = (2 : Int32) →
        wX11_baseLine_100 post v0 v1 v2 v4 v0 (0 : Int32) σ
      ) ∧ ((σ.1 v0 6) = (2 : Int32) →
        wX11_baseLine_100 post v0 v1 v2 v4 v0 (1 : Int32) σ)
    ) ∧ (¬ (3 : Int32) ≤ v5 →
      wX11_takesNumber v0 (0 : Int32) (v4 - (1 : Int32)) σ (fun r1 s1 =>
        (r1 = true →
          vp_in (((4 : Int32) * v1) + v5) 40 ∧
          ∀ s2 : St, s2 = u1 s1 (v0 + 11) (((4 : Int32) * v1) + v5).toNatClampNeg (s1.1 v0 11) →
          ∀ x1 : Int32, x1 = v5 + (1 : Int32) →
          wX11_baseLine_45 post n v0 v1 v2 v4 x1 s2
        ) ∧ (r1 = false →
          post false s1)))
def wX11_baseLine (v0 : Nat) (σ : St) (post : Bool → St → Prop) : Prop :=
  wX11_newName v0 σ (fun r1 s1 =>
    (r1 = true →
      ∀ x1 : Int32, x1 = (s1.1 v0 12) →
      vp_in x1 2 ∧
      ∀ x2 : Int32, x2 = (((5 : Int32) * (s1.1 v0 12)) + (s1.1 (v0 + 4) x1.toNatClampNeg)) →
      ∀ x3 : Int64, x3 = (s1.2 v0 26) →
      ∀ x4 : Int32, x4 = (s1.1 v0 12) →
      vp_in x4 2 ∧
      ∀ x5 : Int32, x5 = (s1.1 (v0 + 2) x4.toNatClampNeg) →
      ∃ j, wX11_baseLine_45 post j v0 x2 x3 x5 (0 : Int32) s1
    ) ∧ (r1 = false →
      post false s1))

def wX11_nodeLine_39 (post : Bool → St → Prop) (v0 : Nat) (v1 : Int64) (t0 : Nat) (t1 : Int32) (σ : St) : Prop :=
  wX11_must t0 t1 (3 : Int32) σ (fun r1 s1 =>
    (r1 = true →
      ∀ x1 : Int32, x1 = (s1.1 v0 12) →
      vp_in x1 2 ∧
      wX11_tableNamed v0 s1 (fun r2 s2 =>
        vp_in (((6 : Int32) * (s1.1 v0 12)) + (s1.1 (v0 + 5) x1.toNatClampNeg)) 12 ∧
        ∀ s3 : St, s3 = u1 s2 (v0 + 12) (((6 : Int32) * (s1.1 v0 12)) + (s1.1 (v0 + 5) x1.toNatClampNeg)).toNatClampNeg r2 →
        wX11_steps v0 s3 (fun s4 =>
          ∀ x2 : Int32, x2 = (s4.1 v0 12) →
          vp_in x2 2 ∧
          vp_in (((6 : Int32) * (s4.1 v0 12)) + (s4.1 (v0 + 5) x2.toNatClampNeg)) 12 ∧
          ∀ s5 : St, s5 = u2 s4 (v0 + 8) (((6 : Int32) * (s4.1 v0 12)) + (s4.1 (v0 + 5) x2.toNatClampNeg)).toNatClampNeg v1 →
          ∀ x3 : Int32, x3 = (s5.1 v0 12) →
          vp_in x3 2 ∧
          vp_in x3 2 ∧
          ∀ s6 : St, s6 = u1 s5 (v0 + 5) x3.toNatClampNeg ((s5.1 (v0 + 5) x3.toNatClampNeg) + (1 : Int32)) →
          post true s6))
    ) ∧ (r1 = false →
      post false s1))
def wX11_nodeLine (v0 : Nat) (σ : St) (post : Bool → St → Prop) : Prop :=
  wX11_newName v0 σ (fun r1 s1 =>
    (r1 = true →
      ∀ x1 : Int64, x1 = (s1.2 v0 26) →
      wX11_isName v0 s1 (fun r2 s2 =>
        wX11_must v0 (b2i r2) (1 : Int32) s2 (fun r3 s3 =>
          (r3 = false →
            post false s3
          ) ∧ (r3 = true →
            wX11_tableNamed v0 s3 (fun r4 s4 =>
              (r4 < 0 →
                wX11_nodeLine_39 post v0 x1 v0 (0 : Int32) s4
              ) ∧ (¬ r4 < 0 →
                wX11_nodeLine_39 post v0 x1 v0 (1 : Int32) s4)))))
    ) ∧ (r1 = false →
      post false s1))

def wX11_takesEnd_191 (post : Bool → St → Prop) (v0 : Nat) (v3 : Int32) (t0 : Nat) (t1 : Int32) (σ : St) : Prop :=
  wX11_must t0 t1 (2 : Int32) σ (fun r1 s1 =>
    (r1 = false →
      post false s1
    ) ∧ (r1 = true →
      wX11_must v0 v3 (4 : Int32) s1 (fun r2 s2 =>
        (r2 = true →
          wX11_steps v0 s2 (fun s3 =>
            post true s3)
        ) ∧ (r2 = false →
          post false s2))))
def wX11_takesEnd_186 (post : Bool → St → Prop) (v0 : Nat) (v3 : Int32) (t0 : Nat) (σ : St) : Prop :=
  wX11_takesEnd_191 post v0 v3 t0 (1 : Int32) σ
def wX11_takesEnd_167 (post : Bool → St → Prop) (R135 : Nat → Int32 → Int32 → Int32 → St → Prop) (v0 : Nat) (v3 : Int32) (v5 : Int32) (t0 : Int32) (t1 : Int32) (σ : St) : Prop :=
  ∀ x1 : Int32, x1 = (t0 &&& t1) →
  ∀ x2 : Int32, x2 = v5 + (1 : Int32) →
  R135 v0 v3 x1 x2 σ
def wX11_takesEnd_135 (post : Bool → St → Prop) : Nat → Nat → Int32 → Int32 → Int32 → St → Prop
  | 0 => fun _ _ _ _ _ => False
  | n + 1 => fun v0 v3 v4 v5 σ =>
    (((2 : Int32) * (σ.1 v0 24)) ≤ v5 →
      (v3 = 0 →
        wX11_takesEnd_186 post v0 v3 v0 σ
      ) ∧ (¬ v3 = 0 →
        (v4 = 0 →
          wX11_takesEnd_191 post v0 v3 v0 (0 : Int32) σ
        ) ∧ (¬ v4 = 0 →
          wX11_takesEnd_186 post v0 v3 v0 σ))
    ) ∧ (¬ ((2 : Int32) * (σ.1 v0 24)) ≤ v5 →
      vp_in v5 20 ∧
      ((σ.1 (v0 + 13) v5.toNatClampNeg) = (σ.1 v0 29) →
        wX11_takesEnd_167 post (wX11_takesEnd_135 post n) v0 v3 v5 v4 (0 : Int32) σ
      ) ∧ (¬ (σ.1 (v0 + 13) v5.toNatClampNeg) = (σ.1 v0 29) →
        wX11_takesEnd_167 post (wX11_takesEnd_135 post n) v0 v3 v5 v4 (1 : Int32) σ))
def wX11_takesEnd_130 (post : Bool → St → Prop) (v0 : Nat) (v3 : Int32) (t0 : Int32) (σ : St) : Prop :=
  ∃ j, wX11_takesEnd_135 post j v0 v3 t0 (0 : Int32) σ
def wX11_takesEnd_116 (post : Bool → St → Prop) (v0 : Nat) (v1 : Int32) (t0 : Int32) (σ : St) : Prop :=
  ((σ.1 v0 29) = v1 →
    wX11_takesEnd_130 post v0 t0 (0 : Int32) σ
  ) ∧ (¬ (σ.1 v0 29) = v1 →
    wX11_takesEnd_130 post v0 t0 (1 : Int32) σ)
def wX11_takesEnd_56 (post : Bool → St → Prop) (v0 : Nat) (v1 : Int32) (v2 : Int32) (t0 : Nat) (t1 : Int32) (σ : St) : Prop :=
  wX11_must t0 t1 (1 : Int32) σ (fun r1 s1 =>
    (r1 = true →
      ∀ s2 : St, s2 = u1 s1 v0 29 (((4 : Int32) * v2) + (s1.1 v0 7)) →
      ∀ x1 : Int32, x1 = (((6 : Int32) * (s2.1 v0 12)) + v2) →
      vp_in x1 12 ∧
      ∀ x2 : Int32, x2 = (((8 : Int32) * (s2.1 v0 12)) + (s2.1 (v0 + 12) x1.toNatClampNeg)) →
      vp_in x2 16 ∧
      ((s2.1 (v0 + 9) x2.toNatClampNeg) ≤ (s2.1 v0 7) →
        wX11_takesEnd_116 post v0 v1 (0 : Int32) s2
      ) ∧ (¬ (s2.1 (v0 + 9) x2.toNatClampNeg) ≤ (s2.1 v0 7) →
        wX11_takesEnd_116 post v0 v1 (1 : Int32) s2)
    ) ∧ (r1 = false →
      post false s1))
def wX11_takesEnd_29 (post : Bool → St → Prop) (v0 : Nat) (v1 : Int32) (v2 : Int32) (t0 : Nat) (t1 : Int32) (σ : St) : Prop :=
  wX11_must t0 t1 (3 : Int32) σ (fun r1 s1 =>
    (r1 = true →
      wX11_steps v0 s1 (fun s2 =>
        (¬ (s2.1 v0 6) = (2 : Int32) →
          wX11_takesEnd_56 post v0 v1 v2 v0 (0 : Int32) s2
        ) ∧ ((s2.1 v0 6) = (2 : Int32) →
          wX11_takesEnd_56 post v0 v1 v2 v0 (1 : Int32) s2))
    ) ∧ (r1 = false →
      post false s1))
def wX11_takesEnd (v0 : Nat) (v1 : Int32) (σ : St) (post : Bool → St → Prop) : Prop :=
  wX11_isName v0 σ (fun r1 s1 =>
    wX11_must v0 (b2i r1) (1 : Int32) s1 (fun r2 s2 =>
      (r2 = true →
        wX11_nodeNamed v0 s2 (fun r3 s3 =>
          (r3 < 0 →
            wX11_takesEnd_29 post v0 v1 r3 v0 (0 : Int32) s3
          ) ∧ (¬ r3 < 0 →
            wX11_takesEnd_29 post v0 v1 r3 v0 (1 : Int32) s3))
      ) ∧ (r2 = false →
        post false s2)))

def wX11_wireLine (v0 : Nat) (σ : St) (post : Bool → St → Prop) : Prop :=
  wX11_takesEnd v0 (-1 : Int32) σ (fun r1 s1 =>
    (r1 = true →
      ∀ x1 : Int32, x1 = (s1.1 v0 29) →
      wX11_takesEnd v0 x1 s1 (fun r2 s2 =>
        (r2 = true →
          vp_in ((2 : Int32) * (s2.1 v0 24)) 20 ∧
          ∀ s3 : St, s3 = u1 s2 (v0 + 13) ((2 : Int32) * (s2.1 v0 24)).toNatClampNeg x1 →
          vp_in (((2 : Int32) * (s3.1 v0 24)) + (1 : Int32)) 20 ∧
          ∀ s4 : St, s4 = u1 s3 (v0 + 13) (((2 : Int32) * (s3.1 v0 24)) + (1 : Int32)).toNatClampNeg (s3.1 v0 29) →
          ∀ s5 : St, s5 = u1 s4 v0 24 ((s4.1 v0 24) + (1 : Int32)) →
          post true s5
        ) ∧ (r2 = false →
          post false s2))
    ) ∧ (r1 = false →
      post false s1))

def wX11_lineHere_266 (post : Bool → St → Prop) (v0 : Nat) (t0 : Nat) (t1 : Int32) (σ : St) : Prop :=
  wX11_must t0 t1 (1 : Int32) σ (fun r1 s1 =>
    (r1 = true →
      wX11_steps v0 s1 (fun s2 =>
        post true s2)
    ) ∧ (r1 = false →
      post false s1))
def wX11_lineHere_247 (post : Bool → St → Prop) (v0 : Nat) (t0 : Int32) (σ : St) : Prop :=
  (t0 = 0 →
    post false σ
  ) ∧ (¬ t0 = 0 →
    (¬ (σ.1 v0 6) = (3 : Int32) →
      wX11_lineHere_266 post v0 v0 (0 : Int32) σ
    ) ∧ ((σ.1 v0 6) = (3 : Int32) →
      wX11_lineHere_266 post v0 v0 (1 : Int32) σ))
def wX11_lineHere_180 (post : Bool → St → Prop) (v0 : Nat) (v1 : Int32) (t0 : Int32) (σ : St) : Prop :=
  wX11_must v0 t0 (5 : Int32) σ (fun r1 s1 =>
    (r1 = true →
      wX11_steps v0 s1 (fun s2 =>
        (¬ v1 = 0 →
          (¬ v1 = (1 : Int32) →
            (¬ v1 = (2 : Int32) →
              (¬ v1 = (3 : Int32) →
                wX11_wireLine v0 s2 (fun r2 s3 =>
                  wX11_lineHere_247 post v0 (b2i r2) s3)
              ) ∧ (v1 = (3 : Int32) →
                wX11_nodeLine v0 s2 (fun r3 s4 =>
                  wX11_lineHere_247 post v0 (b2i r3) s4))
            ) ∧ (v1 = (2 : Int32) →
              wX11_baseLine v0 s2 (fun r4 s5 =>
                wX11_lineHere_247 post v0 (b2i r4) s5))
          ) ∧ (v1 = (1 : Int32) →
            wX11_gateLine v0 s2 (fun r5 s6 =>
              wX11_lineHere_247 post v0 (b2i r5) s6))
        ) ∧ (v1 = 0 →
          wX11_tableLine v0 s2 (fun r6 s7 =>
            wX11_lineHere_247 post v0 (b2i r6) s7)))
    ) ∧ (r1 = false →
      post false s1))
def wX11_lineHere_77 (post : Bool → St → Prop) (v0 : Nat) (v1 : Int32) (t0 : Nat) (t1 : Int32) (σ : St) : Prop :=
  wX11_must t0 t1 (1 : Int32) σ (fun r1 s1 =>
    (r1 = true →
      ((2 : Int32) ≤ v1 →
        (¬ v1 = (2 : Int32) →
          (¬ v1 = (3 : Int32) →
            ((10 : Int32) ≤ (s1.1 v0 24) →
              wX11_lineHere_180 post v0 v1 (0 : Int32) s1
            ) ∧ (¬ (10 : Int32) ≤ (s1.1 v0 24) →
              wX11_lineHere_180 post v0 v1 (1 : Int32) s1)
          ) ∧ (v1 = (3 : Int32) →
            ∀ x1 : Int32, x1 = (s1.1 v0 12) →
            vp_in x1 2 ∧
            ((6 : Int32) ≤ (s1.1 (v0 + 5) x1.toNatClampNeg) →
              wX11_lineHere_180 post v0 v1 (0 : Int32) s1
            ) ∧ (¬ (6 : Int32) ≤ (s1.1 (v0 + 5) x1.toNatClampNeg) →
              wX11_lineHere_180 post v0 v1 (1 : Int32) s1))
        ) ∧ (v1 = (2 : Int32) →
          ∀ x2 : Int32, x2 = (s1.1 v0 12) →
          vp_in x2 2 ∧
          ((5 : Int32) ≤ (s1.1 (v0 + 4) x2.toNatClampNeg) →
            wX11_lineHere_180 post v0 v1 (0 : Int32) s1
          ) ∧ (¬ (5 : Int32) ≤ (s1.1 (v0 + 4) x2.toNatClampNeg) →
            wX11_lineHere_180 post v0 v1 (1 : Int32) s1))
      ) ∧ (¬ (2 : Int32) ≤ v1 →
        ∀ x3 : Int32, x3 = (s1.1 v0 12) →
        vp_in x3 2 ∧
        ((8 : Int32) ≤ (s1.1 (v0 + 3) x3.toNatClampNeg) →
          wX11_lineHere_180 post v0 v1 (0 : Int32) s1
        ) ∧ (¬ (8 : Int32) ≤ (s1.1 (v0 + 3) x3.toNatClampNeg) →
          wX11_lineHere_180 post v0 v1 (1 : Int32) s1))
    ) ∧ (r1 = false →
      post false s1))
def wX11_lineHere_66 (post : Bool → St → Prop) (v0 : Nat) (t0 : Int32) (σ : St) : Prop :=
  (t0 < 0 →
    wX11_lineHere_77 post v0 t0 v0 (0 : Int32) σ
  ) ∧ (¬ t0 < 0 →
    wX11_lineHere_77 post v0 t0 v0 (1 : Int32) σ)
def wX11_lineHere (v0 : Nat) (σ : St) (post : Bool → St → Prop) : Prop :=
  wX11_is v0 1 σ (fun r1 s1 =>
    (r1 = false →
      wX11_is v0 2 s1 (fun r2 s2 =>
        (r2 = false →
          wX11_is v0 3 s2 (fun r3 s3 =>
            (r3 = false →
              wX11_is v0 4 s3 (fun r4 s4 =>
                (r4 = false →
                  wX11_is v0 5 s4 (fun r5 s5 =>
                    (r5 = false →
                      wX11_lineHere_66 post v0 (-1 : Int32) s5
                    ) ∧ (r5 = true →
                      wX11_lineHere_66 post v0 (4 : Int32) s5))
                ) ∧ (r4 = true →
                  wX11_lineHere_66 post v0 (3 : Int32) s4))
            ) ∧ (r3 = true →
              wX11_lineHere_66 post v0 (2 : Int32) s3))
        ) ∧ (r2 = true →
          wX11_lineHere_66 post v0 (1 : Int32) s2))
    ) ∧ (r1 = true →
      wX11_lineHere_66 post v0 (0 : Int32) s1))

def wX11_isPrime_2 (post : Bool → St → Prop) : Nat → Int32 → Int32 → St → Prop
  | 0 => fun _ _ _ => False
  | n + 1 => fun v0 v1 σ =>
    (v0 < (v1 * v1) →
      post true σ
    ) ∧ (¬ v0 < (v1 * v1) →
      (¬ v1 = 0) ∧
      (¬ (v0 - v0 / v1 * v1) = 0 →
        ∀ x1 : Int32, x1 = v1 + (1 : Int32) →
        wX11_isPrime_2 post n v0 x1 σ
      ) ∧ ((v0 - v0 / v1 * v1) = 0 →
        post false σ))
def wX11_isPrime (v0 : Int32) (σ : St) (post : Bool → St → Prop) : Prop :=
  ∃ j, wX11_isPrime_2 post j v0 (2 : Int32) σ

def wX11_fieldLine_95 (post : Bool → St → Prop) (v0 : Nat) (t0 : Nat) (t1 : Int32) (σ : St) : Prop :=
  wX11_must t0 t1 (1 : Int32) σ (fun r1 s1 =>
    (r1 = true →
      wX11_steps v0 s1 (fun s2 =>
        post true s2)
    ) ∧ (r1 = false →
      post false s1))
def wX11_fieldLine_58 (post : Bool → St → Prop) (v0 : Nat) (t0 : Nat) (t1 : Int32) (σ : St) : Prop :=
  wX11_must t0 t1 (4 : Int32) σ (fun r1 s1 =>
    (r1 = true →
      ∀ s2 : St, s2 = u1 s1 (v0 + 2) (1 : Int32).toNatClampNeg (s1.1 v0 7) →
      wX11_steps v0 s2 (fun s3 =>
        (¬ (s3.1 v0 6) = (3 : Int32) →
          wX11_fieldLine_95 post v0 v0 (0 : Int32) s3
        ) ∧ ((s3.1 v0 6) = (3 : Int32) →
          wX11_fieldLine_95 post v0 v0 (1 : Int32) s3))
    ) ∧ (r1 = false →
      post false s1))
def wX11_fieldLine_57 (post : Bool → St → Prop) (v0 : Nat) (t0 : Nat) (σ : St) : Prop :=
  wX11_fieldLine_58 post v0 t0 (0 : Int32) σ
def wX11_fieldLine_18 (post : Bool → St → Prop) (v0 : Nat) (t0 : Nat) (t1 : Int32) (σ : St) : Prop :=
  wX11_must t0 t1 (1 : Int32) σ (fun r1 s1 =>
    (r1 = false →
      post false s1
    ) ∧ (r1 = true →
      wX11_within ((s1.1 v0 7).toInt64) (3 : Int64) (97 : Int64) s1 (fun r2 s2 =>
        (r2 = false →
          wX11_fieldLine_57 post v0 v0 s2
        ) ∧ (r2 = true →
          wX11_isPrime (s2.1 v0 7) s2 (fun r3 s3 =>
            (r3 = false →
              wX11_fieldLine_57 post v0 v0 s3
            ) ∧ (r3 = true →
              wX11_fieldLine_58 post v0 v0 (1 : Int32) s3))))))
def wX11_fieldLine (v0 : Nat) (σ : St) (post : Bool → St → Prop) : Prop :=
  wX11_steps v0 σ (fun s1 =>
    (¬ (s1.1 v0 6) = (2 : Int32) →
      wX11_fieldLine_18 post v0 v0 (0 : Int32) s1
    ) ∧ ((s1.1 v0 6) = (2 : Int32) →
      wX11_fieldLine_18 post v0 v0 (1 : Int32) s1))

def wX11_copies_291 (post : St → Prop) : Nat → Nat → Int32 → St → Prop
  | 0 => fun _ _ _ => False
  | n + 1 => fun v0 v1 σ =>
    (((2 : Int32) * (σ.1 v0 24)) ≤ v1 →
      ∀ s1 : St, s1 = u1 σ (v0 + 16) (116 : Int32).toNatClampNeg (σ.1 v0 24) →
      post s1
    ) ∧ (¬ ((2 : Int32) * (σ.1 v0 24)) ≤ v1 →
      vp_in v1 20 ∧
      vp_in ((96 : Int32) + v1) 117 ∧
      ∀ s2 : St, s2 = u1 σ (v0 + 16) ((96 : Int32) + v1).toNatClampNeg (σ.1 (v0 + 13) v1.toNatClampNeg) →
      ∀ x1 : Int32, x1 = v1 + (1 : Int32) →
      wX11_copies_291 post n v0 x1 s2)
def wX11_copies_244 (post : St → Prop) (R202 : Nat → Int32 → St → Prop) : Nat → Nat → Int32 → Int32 → St → Prop
  | 0 => fun _ _ _ _ => False
  | n + 1 => fun v0 v1 v2 σ =>
    ((16 : Int32) ≤ v2 →
      ∀ x1 : Int32, x1 = v1 + (1 : Int32) →
      R202 v0 x1 σ
    ) ∧ (¬ (16 : Int32) ≤ v2 →
      vp_in v1 12 ∧
      ∀ x2 : Int32, x2 = (((16 : Int32) * (σ.1 (v0 + 12) v1.toNatClampNeg)) + v2) →
      vp_in x2 256 ∧
      vp_in (((16 : Int32) * v1) + v2) 117 ∧
      ∀ s1 : St, s1 = u1 σ (v0 + 16) (((16 : Int32) * v1) + v2).toNatClampNeg (σ.1 (v0 + 10) x2.toNatClampNeg) →
      ∀ x3 : Int32, x3 = v2 + (1 : Int32) →
      wX11_copies_244 post R202 n v0 v1 x3 s1)
def wX11_copies_202 (post : St → Prop) : Nat → Nat → Int32 → St → Prop
  | 0 => fun _ _ _ => False
  | n + 1 => fun v0 v1 σ =>
    ((σ.1 (v0 + 5) (0 : Int32).toNatClampNeg) ≤ v1 →
      ∃ j, wX11_copies_291 post j v0 (0 : Int32) σ
    ) ∧ (¬ (σ.1 (v0 + 5) (0 : Int32).toNatClampNeg) ≤ v1 →
      ∀ x1 : Int32, x1 = ((6 : Int32) + v1) →
      vp_in x1 12 ∧
      vp_in v1 12 ∧
      ∀ s1 : St, s1 = u2 σ (v0 + 8) v1.toNatClampNeg (σ.2 (v0 + 8) x1.toNatClampNeg) →
      ∀ x2 : Int32, x2 = ((6 : Int32) + v1) →
      vp_in x2 12 ∧
      vp_in v1 12 ∧
      ∀ s2 : St, s2 = u1 s1 (v0 + 12) v1.toNatClampNeg (s1.1 (v0 + 12) x2.toNatClampNeg) →
      ∃ j, wX11_copies_244 post (wX11_copies_202 post n) j v0 v1 (0 : Int32) s2)
def wX11_copies_181 (post : St → Prop) : Nat → Nat → Int32 → St → Prop
  | 0 => fun _ _ _ => False
  | n + 1 => fun v0 v1 σ =>
    ((117 : Int32) ≤ v1 →
      ∃ j, wX11_copies_202 post j v0 (0 : Int32) σ
    ) ∧ (¬ (117 : Int32) ≤ v1 →
      vp_in v1 117 ∧
      ∀ s1 : St, s1 = u1 σ (v0 + 16) v1.toNatClampNeg (0 : Int32) →
      ∀ x1 : Int32, x1 = v1 + (1 : Int32) →
      wX11_copies_181 post n v0 x1 s1)
def wX11_copies_152 (post : St → Prop) : Nat → Nat → Int32 → St → Prop
  | 0 => fun _ _ _ => False
  | n + 1 => fun v0 v1 σ =>
    ((20 : Int32) ≤ v1 →
      ∃ j, wX11_copies_181 post j v0 (0 : Int32) σ
    ) ∧ (¬ (20 : Int32) ≤ v1 →
      ∀ x1 : Int32, x1 = ((20 : Int32) + v1) →
      vp_in x1 40 ∧
      vp_in v1 40 ∧
      ∀ s1 : St, s1 = u1 σ (v0 + 11) v1.toNatClampNeg (σ.1 (v0 + 11) x1.toNatClampNeg) →
      ∀ x2 : Int32, x2 = v1 + (1 : Int32) →
      wX11_copies_152 post n v0 x2 s1)
def wX11_copies_125 (post : St → Prop) : Nat → Nat → Int32 → St → Prop
  | 0 => fun _ _ _ => False
  | n + 1 => fun v0 v1 σ =>
    ((5 : Int32) ≤ v1 →
      ∃ j, wX11_copies_152 post j v0 (0 : Int32) σ
    ) ∧ (¬ (5 : Int32) ≤ v1 →
      ∀ x1 : Int32, x1 = ((5 : Int32) + v1) →
      vp_in x1 10 ∧
      vp_in v1 10 ∧
      ∀ s1 : St, s1 = u2 σ (v0 + 7) v1.toNatClampNeg (σ.2 (v0 + 7) x1.toNatClampNeg) →
      ∀ x2 : Int32, x2 = v1 + (1 : Int32) →
      wX11_copies_125 post n v0 x2 s1)
def wX11_copies_94 (post : St → Prop) : Nat → Nat → Int32 → St → Prop
  | 0 => fun _ _ _ => False
  | n + 1 => fun v0 v1 σ =>
    ((128 : Int32) ≤ v1 →
      ∃ j, wX11_copies_125 post j v0 (0 : Int32) σ
    ) ∧ (¬ (128 : Int32) ≤ v1 →
      ∀ x1 : Int32, x1 = ((128 : Int32) + v1) →
      vp_in x1 256 ∧
      vp_in v1 256 ∧
      ∀ s1 : St, s1 = u1 σ (v0 + 10) v1.toNatClampNeg (σ.1 (v0 + 10) x1.toNatClampNeg) →
      ∀ x2 : Int32, x2 = v1 + (1 : Int32) →
      wX11_copies_94 post n v0 x2 s1)
def wX11_copies_50 (post : St → Prop) : Nat → Nat → Int32 → St → Prop
  | 0 => fun _ _ _ => False
  | n + 1 => fun v0 v1 σ =>
    ((8 : Int32) ≤ v1 →
      ∃ j, wX11_copies_94 post j v0 (0 : Int32) σ
    ) ∧ (¬ (8 : Int32) ≤ v1 →
      ∀ x1 : Int32, x1 = ((8 : Int32) + v1) →
      vp_in x1 16 ∧
      vp_in v1 16 ∧
      ∀ s1 : St, s1 = u2 σ (v0 + 6) v1.toNatClampNeg (σ.2 (v0 + 6) x1.toNatClampNeg) →
      ∀ x2 : Int32, x2 = ((8 : Int32) + v1) →
      vp_in x2 16 ∧
      vp_in v1 16 ∧
      ∀ s2 : St, s2 = u1 s1 (v0 + 9) v1.toNatClampNeg (s1.1 (v0 + 9) x2.toNatClampNeg) →
      ∀ x3 : Int32, x3 = v1 + (1 : Int32) →
      wX11_copies_50 post n v0 x3 s2)
def wX11_copies (v0 : Nat) (σ : St) (post : St → Prop) : Prop :=
  ∀ s1 : St, s1 = u1 σ (v0 + 2) (0 : Int32).toNatClampNeg (σ.1 (v0 + 2) (1 : Int32).toNatClampNeg) →
  ∀ s2 : St, s2 = u1 s1 (v0 + 3) (0 : Int32).toNatClampNeg (s1.1 (v0 + 3) (1 : Int32).toNatClampNeg) →
  ∀ s3 : St, s3 = u1 s2 (v0 + 4) (0 : Int32).toNatClampNeg (s2.1 (v0 + 4) (1 : Int32).toNatClampNeg) →
  ∀ s4 : St, s4 = u1 s3 (v0 + 5) (0 : Int32).toNatClampNeg (s3.1 (v0 + 5) (1 : Int32).toNatClampNeg) →
  ∃ j, wX11_copies_50 post j v0 (0 : Int32) s4

def wX11_net_151 (post : Int32 → St → Prop) (v0 : Nat) (v2 : Int32) (v3 : Int32) (σ : St) : Prop :=
  ∀ s1 : St, s1 = u1 σ v0 12 (0 : Int32) →
  (¬ v3 = 0 →
    wX11_copies v0 s1 (fun s2 =>
      ∀ s3 : St, s3 = u1 s2 v0 32 (0 : Int32) →
      ∀ s4 : St, s4 = u1 s3 (v0 + 19) (0 : Int32).toNatClampNeg (vp_nar .boolean (0 : Int32)) →
      ∀ s5 : St, s5 = u1 s4 (v0 + 19) (1 : Int32).toNatClampNeg (vp_nar .boolean (0 : Int32)) →
      post v2 s5)
  ) ∧ (v3 = 0 →
    post ((-2 : Int32) - (((8 : Int32) * (s1.1 v0 10)) + (s1.1 v0 9))) s1)
def wX11_net_129 (post : Int32 → St → Prop) : Nat → Nat → Int32 → Int32 → St → Prop
  | 0 => fun _ _ _ _ => False
  | n + 1 => fun v0 v2 v3 σ =>
    (v3 = 0 →
      wX11_net_151 post v0 v2 v3 σ
    ) ∧ (¬ v3 = 0 →
      ((σ.1 v0 6) = 0 →
        wX11_net_151 post v0 v2 v3 σ
      ) ∧ (¬ (σ.1 v0 6) = 0 →
        wX11_lineHere v0 σ (fun r1 s1 =>
          ∀ x1 : Int32, x1 = v2 + (1 : Int32) →
          wX11_net_129 post n v0 x1 (b2i r1) s1)))
def wX11_net_84 (post : Int32 → St → Prop) : Nat → Nat → Int32 → St → Prop
  | 0 => fun _ _ _ => False
  | n + 1 => fun v0 v2 σ =>
    ((256 : Int32) ≤ v2 →
      wX11_steps v0 σ (fun s1 =>
        wX11_is v0 0 s1 (fun r1 s2 =>
          (r1 = false →
            ∃ j, wX11_net_129 post j v0 (0 : Int32) (1 : Int32) s2
          ) ∧ (r1 = true →
            wX11_fieldLine v0 s2 (fun r2 s3 =>
              ∀ x1 : Int32, x1 = (0 : Int32) + (1 : Int32) →
              ∃ j, wX11_net_129 post j v0 x1 (b2i r2) s3))))
    ) ∧ (¬ (256 : Int32) ≤ v2 →
      vp_in v2 256 ∧
      ∀ s4 : St, s4 = u1 σ (v0 + 10) v2.toNatClampNeg (0 : Int32) →
      ∀ x2 : Int32, x2 = v2 + (1 : Int32) →
      wX11_net_84 post n v0 x2 s4)
def wX11_net (v0 : Nat) (v1 : Int32) (σ : St) (post : Int32 → St → Prop) : Prop :=
  ∀ s1 : St, s1 = u1 σ v0 0 (0 : Int32) →
  wX11_within (v1.toInt64) (0 : Int64) ((s1.1 v0 2).toInt64) s1 (fun r1 s2 =>
    (r1 = true →
      ∀ s3 : St, s3 = u1 s2 v0 2 (0 : Int32) →
      ∀ s4 : St, s4 = u1 s3 v0 3 v1 →
      ∀ s5 : St, s5 = u1 s4 v0 5 (0 : Int32) →
      ∀ s6 : St, s6 = u1 s5 v0 9 (0 : Int32) →
      ∀ s7 : St, s7 = u1 s6 v0 12 (1 : Int32) →
      ∀ s8 : St, s8 = u1 s7 (v0 + 2) (1 : Int32).toNatClampNeg (7 : Int32) →
      ∀ s9 : St, s9 = u1 s8 (v0 + 3) (1 : Int32).toNatClampNeg (0 : Int32) →
      ∀ s10 : St, s10 = u1 s9 (v0 + 4) (1 : Int32).toNatClampNeg (0 : Int32) →
      ∀ s11 : St, s11 = u1 s10 (v0 + 5) (1 : Int32).toNatClampNeg (0 : Int32) →
      ∀ s12 : St, s12 = u1 s11 v0 24 (0 : Int32) →
      ∃ j, wX11_net_84 post j v0 (128 : Int32) s12
    ) ∧ (r1 = false →
      post (-1 : Int32) s2))

def wX11_p (v0 : Nat) (σ : St) (post : Int32 → St → Prop) : Prop :=
  post (σ.1 (v0 + 2) (0 : Int32).toNatClampNeg) σ

def wX11_isTable (v0 : Nat) (v1 : Int32) (σ : St) (post : Bool → St → Prop) : Prop :=
  wX11_within (v1.toInt64) (0 : Int64) (((σ.1 (v0 + 3) (0 : Int32).toNatClampNeg) - (1 : Int32)).toInt64) σ (fun r1 s1 =>
    post r1 s1)

def wX11_isBase (v0 : Nat) (v1 : Int32) (σ : St) (post : Bool → St → Prop) : Prop :=
  wX11_within (v1.toInt64) (0 : Int64) (((σ.1 (v0 + 4) (0 : Int32).toNatClampNeg) - (1 : Int32)).toInt64) σ (fun r1 s1 =>
    post r1 s1)

def wX11_isNode (v0 : Nat) (v1 : Int32) (σ : St) (post : Bool → St → Prop) : Prop :=
  wX11_within (v1.toInt64) (0 : Int64) (((σ.1 (v0 + 5) (0 : Int32).toNatClampNeg) - (1 : Int32)).toInt64) σ (fun r1 s1 =>
    post r1 s1)

def wX11_isWire (v0 : Nat) (v1 : Int32) (σ : St) (post : Bool → St → Prop) : Prop :=
  wX11_within (v1.toInt64) (0 : Int64) (((σ.1 (v0 + 16) (116 : Int32).toNatClampNeg) - (1 : Int32)).toInt64) σ (fun r1 s1 =>
    post r1 s1)

def wX11_legsAt (v0 : Nat) (v1 : Int32) (σ : St) (post : Int32 → St → Prop) : Prop :=
  vp_in v1 12 ∧
  ∀ x1 : Int32, x1 = (σ.1 (v0 + 12) v1.toNatClampNeg) →
  vp_in x1 16 ∧
  post (σ.1 (v0 + 9) x1.toNatClampNeg) σ

def wX11_bits_4 (post : Int32 → St → Prop) : Nat → Int32 → Int32 → St → Prop
  | 0 => fun _ _ _ => False
  | n + 1 => fun v1 v2 σ =>
    (v2 = 0 →
      post v1 σ
    ) ∧ (¬ v2 = 0 →
      ∀ x1 : Int32, x1 = v1 + (1 : Int32) →
      ∀ x2 : Int32, x2 = (v2 &&& (v2 - (1 : Int32))) →
      wX11_bits_4 post n x1 x2 σ)
def wX11_bits (v0 : Int32) (σ : St) (post : Int32 → St → Prop) : Prop :=
  ∃ j, wX11_bits_4 post j (0 : Int32) v0 σ

def wX11_laysTable_12 (post : St → Prop) : Nat → Nat → Int32 → Int32 → St → Prop
  | 0 => fun _ _ _ _ => False
  | n + 1 => fun v0 v1 v2 σ =>
    (((1 : Int32) <<< ((σ.1 v0 36) &&& 31)) ≤ v2 →
      post σ
    ) ∧ (¬ ((1 : Int32) <<< ((σ.1 v0 36) &&& 31)) ≤ v2 →
      ∀ x1 : Int32, x1 = (((16 : Int32) * v1) + v2) →
      vp_in x1 256 ∧
      vp_in v2 16 ∧
      ∀ s1 : St, s1 = u1 σ (v0 + 20) v2.toNatClampNeg (σ.1 (v0 + 10) x1.toNatClampNeg) →
      ∀ x2 : Int32, x2 = v2 + (1 : Int32) →
      wX11_laysTable_12 post n v0 v1 x2 s1)
def wX11_laysTable (v0 : Nat) (v1 : Int32) (σ : St) (post : St → Prop) : Prop :=
  vp_in v1 16 ∧
  ∀ s1 : St, s1 = u1 σ v0 36 (σ.1 (v0 + 9) v1.toNatClampNeg) →
  ∃ j, wX11_laysTable_12 post j v0 v1 (0 : Int32) s1

def wX11_table (v0 : Nat) (v1 : Int32) (v2 : Int32) (σ : St) (post : Int32 → St → Prop) : Prop :=
  ∀ s1 : St, s1 = u1 σ v0 0 (0 : Int32) →
  wX11_isTable v0 v1 s1 (fun r1 s2 =>
    (r1 = true →
      (¬ v2 = (-1 : Int32) →
        vp_in v1 16 ∧
        wX11_within (v2.toInt64) (0 : Int64) ((((1 : Int32) <<< ((s2.1 (v0 + 9) v1.toNatClampNeg) &&& 31)) - (1 : Int32)).toInt64) s2 (fun r2 s3 =>
          (r2 = false →
            post (-2 : Int32) s3
          ) ∧ (r2 = true →
            ∀ x1 : Int32, x1 = (((16 : Int32) * v1) + v2) →
            vp_in x1 256 ∧
            post (s3.1 (v0 + 10) x1.toNatClampNeg) s3))
      ) ∧ (v2 = (-1 : Int32) →
        vp_in v1 16 ∧
        post (s2.1 (v0 + 9) v1.toNatClampNeg) s2)
    ) ∧ (r1 = false →
      post (-2 : Int32) s2))

def wX11_parityHere_62 (post : Int32 → St → Prop) (v1 : Int32) (v2 : Int32) (σ : St) : Prop :=
  (v1 = 0 →
    (v2 = 0 →
      post (3 : Int32) σ
    ) ∧ (¬ v2 = 0 →
      post (1 : Int32) σ)
  ) ∧ (¬ v1 = 0 →
    post (0 : Int32) σ)
def wX11_parityHere_6 (post : Int32 → St → Prop) : Nat → Nat → Int32 → Int32 → Int32 → St → Prop
  | 0 => fun _ _ _ _ _ => False
  | n + 1 => fun v0 v1 v2 v3 σ =>
    (((1 : Int32) <<< ((σ.1 v0 36) &&& 31)) ≤ v3 →
      (v1 = 0 →
        wX11_parityHere_62 post v1 v2 σ
      ) ∧ (¬ v1 = 0 →
        (v2 = 0 →
          wX11_parityHere_62 post v1 v2 σ
        ) ∧ (¬ v2 = 0 →
          post (2 : Int32) σ))
    ) ∧ (¬ ((1 : Int32) <<< ((σ.1 v0 36) &&& 31)) ≤ v3 →
      vp_in v3 16 ∧
      (¬ (σ.1 (v0 + 20) v3.toNatClampNeg) = 0 →
        wX11_bits v3 σ (fun r1 s1 =>
          (¬ (r1 - r1 / (2 : Int32) * (2 : Int32)) = 0 →
            ∀ x1 : Int32, x1 = v3 + (1 : Int32) →
            wX11_parityHere_6 post n v0 (0 : Int32) v2 x1 s1
          ) ∧ ((r1 - r1 / (2 : Int32) * (2 : Int32)) = 0 →
            ∀ x2 : Int32, x2 = v3 + (1 : Int32) →
            wX11_parityHere_6 post n v0 v1 (0 : Int32) x2 s1))
      ) ∧ ((σ.1 (v0 + 20) v3.toNatClampNeg) = 0 →
        ∀ x3 : Int32, x3 = v3 + (1 : Int32) →
        wX11_parityHere_6 post n v0 v1 v2 x3 σ))
def wX11_parityHere (v0 : Nat) (σ : St) (post : Int32 → St → Prop) : Prop :=
  ∃ j, wX11_parityHere_6 post j v0 (1 : Int32) (1 : Int32) (0 : Int32) σ

def wX11_ruleHere_127 (post : Int32 → St → Prop) (v0 : Nat) (t0 : Int32) (σ : St) : Prop :=
  wX11_p v0 σ (fun r1 s1 =>
    wX11_modulo (t0.toInt64) r1 s1 (fun r2 s2 =>
      post r2 s2))
def wX11_ruleHere (v0 : Nat) (v1 : Int32) (σ : St) (post : Int32 → St → Prop) : Prop :=
  (v1 = 0 →
    wX11_ruleHere_127 post v0 (((((σ.1 (v0 + 20) (0 : Int32).toNatClampNeg) * (σ.1 (v0 + 20) (15 : Int32).toNatClampNeg)) - ((σ.1 (v0 + 20) (3 : Int32).toNatClampNeg) * (σ.1 (v0 + 20) (12 : Int32).toNatClampNeg))) + ((σ.1 (v0 + 20) (5 : Int32).toNatClampNeg) * (σ.1 (v0 + 20) (10 : Int32).toNatClampNeg))) - ((σ.1 (v0 + 20) (6 : Int32).toNatClampNeg) * (σ.1 (v0 + 20) (9 : Int32).toNatClampNeg))) σ
  ) ∧ (¬ v1 = 0 →
    wX11_ruleHere_127 post v0 (((((σ.1 (v0 + 20) (1 : Int32).toNatClampNeg) * (σ.1 (v0 + 20) (14 : Int32).toNatClampNeg)) - ((σ.1 (v0 + 20) (2 : Int32).toNatClampNeg) * (σ.1 (v0 + 20) (13 : Int32).toNatClampNeg))) + ((σ.1 (v0 + 20) (4 : Int32).toNatClampNeg) * (σ.1 (v0 + 20) (11 : Int32).toNatClampNeg))) - ((σ.1 (v0 + 20) (8 : Int32).toNatClampNeg) * (σ.1 (v0 + 20) (7 : Int32).toNatClampNeg))) σ)

def wX11_isMadeHere (v0 : Nat) (σ : St) (post : Bool → St → Prop) : Prop :=
  wX11_parityHere v0 σ (fun r1 s1 =>
    (r1 = (3 : Int32) →
      post false s1
    ) ∧ (¬ r1 = (3 : Int32) →
      ((s1.1 v0 36) < (4 : Int32) →
        post true s1
      ) ∧ (¬ (s1.1 v0 36) < (4 : Int32) →
        wX11_ruleHere v0 (0 : Int32) s1 (fun r2 s2 =>
          (¬ r2 = 0 →
            post false s2
          ) ∧ (r2 = 0 →
            wX11_ruleHere v0 (1 : Int32) s2 (fun r3 s3 =>
              (¬ r3 = 0 →
                post false s3
              ) ∧ (r3 = 0 →
                post true s3)))))))

def wX11_parity (v0 : Nat) (v1 : Int32) (σ : St) (post : Int32 → St → Prop) : Prop :=
  ∀ s1 : St, s1 = u1 σ v0 0 (0 : Int32) →
  wX11_isTable v0 v1 s1 (fun r1 s2 =>
    (r1 = true →
      wX11_laysTable v0 v1 s2 (fun s3 =>
        wX11_parityHere v0 s3 (fun r2 s4 =>
          post r2 s4))
    ) ∧ (r1 = false →
      post (-1 : Int32) s2))

def wX11_identity (v0 : Nat) (v1 : Int32) (v2 : Int32) (σ : St) (post : Int32 → St → Prop) : Prop :=
  ∀ s1 : St, s1 = u1 σ v0 0 (0 : Int32) →
  wX11_isTable v0 v1 s1 (fun r1 s2 =>
    (r1 = true →
      wX11_laysTable v0 v1 s2 (fun s3 =>
        ((4 : Int32) ≤ (s3.1 v0 36) →
          wX11_ruleHere v0 v2 s3 (fun r2 s4 =>
            post r2 s4)
        ) ∧ (¬ (4 : Int32) ≤ (s3.1 v0 36) →
          post (-2 : Int32) s3))
    ) ∧ (r1 = false →
      post (-1 : Int32) s2))

def wX11_made (v0 : Nat) (v1 : Int32) (σ : St) (post : Int32 → St → Prop) : Prop :=
  ∀ s1 : St, s1 = u1 σ v0 0 (0 : Int32) →
  wX11_isTable v0 v1 s1 (fun r1 s2 =>
    (r1 = true →
      wX11_laysTable v0 v1 s2 (fun s3 =>
        wX11_isMadeHere v0 s3 (fun r2 s4 =>
          (r2 = false →
            post (0 : Int32) s4
          ) ∧ (r2 = true →
            post (1 : Int32) s4)))
    ) ∧ (r1 = false →
      post (-1 : Int32) s2))

def wX11_plain_22 (post : Int32 → St → Prop) : Nat → Nat → Int32 → St → Prop
  | 0 => fun _ _ _ => False
  | n + 1 => fun v0 v2 σ =>
    (((1 : Int32) <<< ((σ.1 v0 36) &&& 31)) ≤ v2 →
      post (1 : Int32) σ
    ) ∧ (¬ ((1 : Int32) <<< ((σ.1 v0 36) &&& 31)) ≤ v2 →
      vp_in v2 16 ∧
      wX11_bits v2 σ (fun r1 s1 =>
        ∀ x1 : Int32, x1 = (((1 : Int32) <<< (r1 &&& 31)) - (1 : Int32)) →
        vp_in x1 16 ∧
        ((σ.1 (v0 + 20) v2.toNatClampNeg) = (s1.1 (v0 + 20) x1.toNatClampNeg) →
          ∀ x2 : Int32, x2 = v2 + (1 : Int32) →
          wX11_plain_22 post n v0 x2 s1
        ) ∧ (¬ (σ.1 (v0 + 20) v2.toNatClampNeg) = (s1.1 (v0 + 20) x1.toNatClampNeg) →
          post (0 : Int32) s1)))
def wX11_plain (v0 : Nat) (v1 : Int32) (σ : St) (post : Int32 → St → Prop) : Prop :=
  ∀ s1 : St, s1 = u1 σ v0 0 (0 : Int32) →
  wX11_isTable v0 v1 s1 (fun r1 s2 =>
    (r1 = true →
      wX11_laysTable v0 v1 s2 (fun s3 =>
        ∃ j, wX11_plain_22 post j v0 (0 : Int32) s3)
    ) ∧ (r1 = false →
      post (-1 : Int32) s2))

def wX11_like_110 (post : Int32 → St → Prop) (R42 : Nat → Int32 → Int32 → Int32 → St → Prop) (R56 : Nat → Int32 → Int32 → Int32 → Int32 → Int32 → St → Prop) (v0 : Nat) (v1 : Int32) (v2 : Int32) (v3 : Int32) (v5 : Int32) (t0 : Int32) (t1 : Int32) (σ : St) : Prop :=
  ∀ x1 : Int32, x1 = (t0 &&& t1) →
  ∀ x2 : Int32, x2 = v5 + (1 : Int32) →
  R56 v0 v1 v2 v3 x1 x2 σ
def wX11_like_56 (post : Int32 → St → Prop) (R42 : Nat → Int32 → Int32 → Int32 → St → Prop) : Nat → Nat → Int32 → Int32 → Int32 → Int32 → Int32 → St → Prop
  | 0 => fun _ _ _ _ _ _ _ => False
  | n + 1 => fun v0 v1 v2 v3 v4 v5 σ =>
    vp_in v1 16 ∧
    (((1 : Int32) <<< ((σ.1 (v0 + 9) v1.toNatClampNeg) &&& 31)) ≤ v5 →
      (v4 = 0 →
        ∀ x1 : Int32, x1 = v3 + (1 : Int32) →
        R42 v0 v1 v2 x1 σ
      ) ∧ (¬ v4 = 0 →
        post v3 σ)
    ) ∧ (¬ ((1 : Int32) <<< ((σ.1 (v0 + 9) v1.toNatClampNeg) &&& 31)) ≤ v5 →
      ∀ x2 : Int32, x2 = (((16 : Int32) * v1) + v5) →
      vp_in x2 256 ∧
      ∀ x3 : Int32, x3 = (((16 : Int32) * v2) + v5) →
      vp_in x3 256 ∧
      wX11_p v0 σ (fun r1 s1 =>
        (¬ r1 = 0) ∧
        (¬ (σ.1 (v0 + 10) x2.toNatClampNeg) = ((v3 * (σ.1 (v0 + 10) x3.toNatClampNeg)) - (v3 * (σ.1 (v0 + 10) x3.toNatClampNeg)) / r1 * r1) →
          wX11_like_110 post R42 (wX11_like_56 post R42 n) v0 v1 v2 v3 v5 v4 (0 : Int32) s1
        ) ∧ ((σ.1 (v0 + 10) x2.toNatClampNeg) = ((v3 * (σ.1 (v0 + 10) x3.toNatClampNeg)) - (v3 * (σ.1 (v0 + 10) x3.toNatClampNeg)) / r1 * r1) →
          wX11_like_110 post R42 (wX11_like_56 post R42 n) v0 v1 v2 v3 v5 v4 (1 : Int32) s1)))
def wX11_like_42 (post : Int32 → St → Prop) : Nat → Nat → Int32 → Int32 → Int32 → St → Prop
  | 0 => fun _ _ _ _ _ => False
  | n + 1 => fun v0 v1 v2 v3 σ =>
    wX11_p v0 σ (fun r1 s1 =>
      (r1 ≤ v3 →
        post (0 : Int32) s1
      ) ∧ (¬ r1 ≤ v3 →
        ∃ j, wX11_like_56 post (wX11_like_42 post n) j v0 v1 v2 v3 (1 : Int32) (0 : Int32) s1))
def wX11_like (v0 : Nat) (v1 : Int32) (v2 : Int32) (σ : St) (post : Int32 → St → Prop) : Prop :=
  ∀ s1 : St, s1 = u1 σ v0 0 (0 : Int32) →
  wX11_isTable v0 v1 s1 (fun r1 s2 =>
    (r1 = false →
      post (-1 : Int32) s2
    ) ∧ (r1 = true →
      wX11_isTable v0 v2 s2 (fun r2 s3 =>
        (r2 = true →
          vp_in v1 16 ∧
          vp_in v2 16 ∧
          ((s3.1 (v0 + 9) v1.toNatClampNeg) = (s3.1 (v0 + 9) v2.toNatClampNeg) →
            ∃ j, wX11_like_42 post j v0 v1 v2 (1 : Int32) s3
          ) ∧ (¬ (s3.1 (v0 + 9) v1.toNatClampNeg) = (s3.1 (v0 + 9) v2.toNatClampNeg) →
            post (0 : Int32) s3)
        ) ∧ (r2 = false →
          post (-1 : Int32) s3))))

def wX11_inverse_2 (post : Int32 → St → Prop) : Nat → Nat → Int32 → Int32 → St → Prop
  | 0 => fun _ _ _ _ => False
  | n + 1 => fun v0 v1 v2 σ =>
    wX11_p v0 σ (fun r1 s1 =>
      (¬ r1 = 0) ∧
      (((v1 * v2) - (v1 * v2) / r1 * r1) = (1 : Int32) →
        post v2 s1
      ) ∧ (¬ ((v1 * v2) - (v1 * v2) / r1 * r1) = (1 : Int32) →
        ∀ x1 : Int32, x1 = v2 + (1 : Int32) →
        wX11_inverse_2 post n v0 v1 x1 s1))
def wX11_inverse (v0 : Nat) (v1 : Int32) (σ : St) (post : Int32 → St → Prop) : Prop :=
  ∃ j, wX11_inverse_2 post j v0 v1 (1 : Int32) σ

def wX11_spread_8 (post : Int32 → St → Prop) : Nat → Int32 → Int32 → Int32 → Int32 → Int32 → Int32 → St → Prop
  | 0 => fun _ _ _ _ _ _ _ => False
  | n + 1 => fun v0 v1 v2 v3 v4 v5 σ =>
    (v2 ≤ v5 →
      post v4 σ
    ) ∧ (¬ v2 ≤ v5 →
      (¬ ((v1 >>> (v5 &&& 31)) &&& (1 : Int32)) = 0 →
        ∀ x1 : Int32, x1 = (v4 ||| (((v0 >>> (v3 &&& 31)) &&& (1 : Int32)) <<< (v5 &&& 31))) →
        ∀ x2 : Int32, x2 = v3 + (1 : Int32) →
        ∀ x3 : Int32, x3 = v5 + (1 : Int32) →
        wX11_spread_8 post n v0 v1 v2 x2 x1 x3 σ
      ) ∧ (((v1 >>> (v5 &&& 31)) &&& (1 : Int32)) = 0 →
        ∀ x4 : Int32, x4 = v5 + (1 : Int32) →
        wX11_spread_8 post n v0 v1 v2 v3 v4 x4 σ))
def wX11_spread (v0 : Int32) (v1 : Int32) (v2 : Int32) (σ : St) (post : Int32 → St → Prop) : Prop :=
  ∃ j, wX11_spread_8 post j v0 v1 v2 (0 : Int32) (0 : Int32) (0 : Int32) σ

def wX11_clears_16 (post : St → Prop) : Nat → Nat → Int32 → Int32 → Int32 → Int32 → St → Prop
  | 0 => fun _ _ _ _ _ _ => False
  | n + 1 => fun v0 v1 v2 v4 v5 σ =>
    ((16 : Int32) ≤ v5 →
      post σ
    ) ∧ (¬ (16 : Int32) ≤ v5 →
      ∀ x1 : Int32, x1 = (((16 : Int32) * v2) + v5) →
      vp_in x1 256 ∧
      ∀ x2 : Int32, x2 = (((16 : Int32) * v1) + v5) →
      vp_in x2 256 ∧
      wX11_p v0 σ (fun r1 s1 =>
        wX11_modulo (((σ.1 (v0 + 21) x1.toNatClampNeg) - (v4 * (σ.1 (v0 + 21) x2.toNatClampNeg))).toInt64) r1 s1 (fun r2 s2 =>
          vp_in (((16 : Int32) * v2) + v5) 256 ∧
          ∀ s3 : St, s3 = u1 s2 (v0 + 21) (((16 : Int32) * v2) + v5).toNatClampNeg r2 →
          ∀ x3 : Int32, x3 = v5 + (1 : Int32) →
          wX11_clears_16 post n v0 v1 v2 v4 x3 s3)))
def wX11_clears (v0 : Nat) (v1 : Int32) (v2 : Int32) (v3 : Int32) (σ : St) (post : St → Prop) : Prop :=
  ∀ x1 : Int32, x1 = (((16 : Int32) * v2) + v3) →
  vp_in x1 256 ∧
  ∀ x2 : Int32, x2 = (σ.1 (v0 + 21) x1.toNatClampNeg) →
  ∃ j, wX11_clears_16 post j v0 v1 v2 x2 (0 : Int32) σ

def wX11_ranked_197 (post : Int32 → St → Prop) (R5 : Nat → Int32 → Int32 → Int32 → Int32 → St → Prop) : Nat → Nat → Int32 → Int32 → Int32 → Int32 → Int32 → St → Prop
  | 0 => fun _ _ _ _ _ _ _ => False
  | n + 1 => fun v0 v1 v2 v3 v4 v7 σ =>
    (v1 ≤ v7 →
      ∀ x1 : Int32, x1 = v3 + (1 : Int32) →
      ∀ x2 : Int32, x2 = v4 + (1 : Int32) →
      R5 v0 v1 v2 x1 x2 σ
    ) ∧ (¬ v1 ≤ v7 →
      wX11_clears v0 v3 v7 v4 σ (fun s1 =>
        ∀ x3 : Int32, x3 = v7 + (1 : Int32) →
        wX11_ranked_197 post R5 n v0 v1 v2 v3 v4 x3 s1))
def wX11_ranked_147 (post : Int32 → St → Prop) (R5 : Nat → Int32 → Int32 → Int32 → Int32 → St → Prop) : Nat → Nat → Int32 → Int32 → Int32 → Int32 → Int32 → Int32 → St → Prop
  | 0 => fun _ _ _ _ _ _ _ _ => False
  | n + 1 => fun v0 v1 v2 v3 v4 v6 v7 σ =>
    ((16 : Int32) ≤ v7 →
      ∀ x1 : Int32, x1 = (v3 + (1 : Int32)) →
      ∃ j, wX11_ranked_197 post R5 j v0 v1 v2 v3 v4 x1 σ
    ) ∧ (¬ (16 : Int32) ≤ v7 →
      ∀ x2 : Int32, x2 = (((16 : Int32) * v3) + v7) →
      vp_in x2 256 ∧
      wX11_p v0 σ (fun r1 s1 =>
        (¬ r1 = 0) ∧
        vp_in (((16 : Int32) * v3) + v7) 256 ∧
        ∀ s2 : St, s2 = u1 s1 (v0 + 21) (((16 : Int32) * v3) + v7).toNatClampNeg (((σ.1 (v0 + 21) x2.toNatClampNeg) * v6) - ((σ.1 (v0 + 21) x2.toNatClampNeg) * v6) / r1 * r1) →
        ∀ x3 : Int32, x3 = v7 + (1 : Int32) →
        wX11_ranked_147 post R5 n v0 v1 v2 v3 v4 v6 x3 s2))
def wX11_ranked_59 (post : Int32 → St → Prop) (R5 : Nat → Int32 → Int32 → Int32 → Int32 → St → Prop) : Nat → Nat → Int32 → Int32 → Int32 → Int32 → Int32 → Int32 → St → Prop
  | 0 => fun _ _ _ _ _ _ _ _ => False
  | n + 1 => fun v0 v1 v2 v3 v4 v5 v6 σ =>
    ((16 : Int32) ≤ v6 →
      ∀ x1 : Int32, x1 = (((16 : Int32) * v3) + v4) →
      vp_in x1 256 ∧
      wX11_inverse v0 (σ.1 (v0 + 21) x1.toNatClampNeg) σ (fun r1 s1 =>
        ∃ j, wX11_ranked_147 post R5 j v0 v1 v2 v3 v4 r1 (0 : Int32) s1)
    ) ∧ (¬ (16 : Int32) ≤ v6 →
      ∀ x2 : Int32, x2 = (((16 : Int32) * v5) + v6) →
      vp_in x2 256 ∧
      ∀ x3 : Int32, x3 = (σ.1 (v0 + 21) x2.toNatClampNeg) →
      ∀ x4 : Int32, x4 = (((16 : Int32) * v3) + v6) →
      vp_in x4 256 ∧
      vp_in (((16 : Int32) * v5) + v6) 256 ∧
      ∀ s2 : St, s2 = u1 σ (v0 + 21) (((16 : Int32) * v5) + v6).toNatClampNeg (σ.1 (v0 + 21) x4.toNatClampNeg) →
      vp_in (((16 : Int32) * v3) + v6) 256 ∧
      ∀ s3 : St, s3 = u1 s2 (v0 + 21) (((16 : Int32) * v3) + v6).toNatClampNeg x3 →
      ∀ x5 : Int32, x5 = v6 + (1 : Int32) →
      wX11_ranked_59 post R5 n v0 v1 v2 v3 v4 v5 x5 s3)
def wX11_ranked_47 (post : Int32 → St → Prop) (R5 : Nat → Int32 → Int32 → Int32 → Int32 → St → Prop) (v0 : Nat) (v1 : Int32) (v2 : Int32) (v3 : Int32) (v4 : Int32) (v5 : Int32) (σ : St) : Prop :=
  (¬ v5 = v1 →
    ∃ j, wX11_ranked_59 post R5 j v0 v1 v2 v3 v4 v5 (0 : Int32) σ
  ) ∧ (v5 = v1 →
    ∀ x1 : Int32, x1 = v4 + (1 : Int32) →
    R5 v0 v1 v2 v3 x1 σ)
def wX11_ranked_19 (post : Int32 → St → Prop) (R5 : Nat → Int32 → Int32 → Int32 → Int32 → St → Prop) : Nat → Nat → Int32 → Int32 → Int32 → Int32 → Int32 → St → Prop
  | 0 => fun _ _ _ _ _ _ _ => False
  | n + 1 => fun v0 v1 v2 v3 v4 v5 σ =>
    (v1 ≤ v5 →
      wX11_ranked_47 post R5 v0 v1 v2 v3 v4 v5 σ
    ) ∧ (¬ v1 ≤ v5 →
      ∀ x1 : Int32, x1 = (((16 : Int32) * v5) + v4) →
      vp_in x1 256 ∧
      (¬ (σ.1 (v0 + 21) x1.toNatClampNeg) = 0 →
        wX11_ranked_47 post R5 v0 v1 v2 v3 v4 v5 σ
      ) ∧ ((σ.1 (v0 + 21) x1.toNatClampNeg) = 0 →
        ∀ x2 : Int32, x2 = v5 + (1 : Int32) →
        wX11_ranked_19 post R5 n v0 v1 v2 v3 v4 x2 σ))
def wX11_ranked_5 (post : Int32 → St → Prop) : Nat → Nat → Int32 → Int32 → Int32 → Int32 → St → Prop
  | 0 => fun _ _ _ _ _ _ => False
  | n + 1 => fun v0 v1 v2 v3 v4 σ =>
    (v2 ≤ v4 →
      post v3 σ
    ) ∧ (¬ v2 ≤ v4 →
      (v1 ≤ v3 →
        post v3 σ
      ) ∧ (¬ v1 ≤ v3 →
        ∃ j, wX11_ranked_19 post (wX11_ranked_5 post n) j v0 v1 v2 v3 v4 v3 σ))
def wX11_ranked (v0 : Nat) (v1 : Int32) (v2 : Int32) (σ : St) (post : Int32 → St → Prop) : Prop :=
  ∃ j, wX11_ranked_5 post j v0 v1 v2 (0 : Int32) (0 : Int32) σ

def wX11_rank_98 (post : Int32 → St → Prop) (R88 : Nat → Int32 → Int32 → Int32 → Int32 → Int32 → Int32 → St → Prop) : Nat → Nat → Int32 → Int32 → Int32 → Int32 → Int32 → Int32 → Int32 → St → Prop
  | 0 => fun _ _ _ _ _ _ _ _ _ => False
  | n + 1 => fun v0 v1 v2 v3 v4 v5 v6 v7 σ =>
    (v5 ≤ v7 →
      ∀ x1 : Int32, x1 = v6 + (1 : Int32) →
      R88 v0 v1 v2 v3 v4 v5 x1 σ
    ) ∧ (¬ v5 ≤ v7 →
      wX11_spread v6 v2 v3 σ (fun r1 s1 =>
        wX11_spread v7 ((((1 : Int32) <<< (v3 &&& 31)) - (1 : Int32)) &&& (v2 ^^^ (-1 : Int32))) v3 s1 (fun r2 s2 =>
          ∀ x2 : Int32, x2 = (((16 : Int32) * v1) + (r1 ||| r2)) →
          vp_in x2 256 ∧
          vp_in (((16 : Int32) * v6) + v7) 256 ∧
          ∀ s3 : St, s3 = u1 s2 (v0 + 21) (((16 : Int32) * v6) + v7).toNatClampNeg (s2.1 (v0 + 10) x2.toNatClampNeg) →
          ∀ x3 : Int32, x3 = v7 + (1 : Int32) →
          wX11_rank_98 post R88 n v0 v1 v2 v3 v4 v5 v6 x3 s3)))
def wX11_rank_88 (post : Int32 → St → Prop) : Nat → Nat → Int32 → Int32 → Int32 → Int32 → Int32 → Int32 → St → Prop
  | 0 => fun _ _ _ _ _ _ _ _ => False
  | n + 1 => fun v0 v1 v2 v3 v4 v5 v6 σ =>
    (v4 ≤ v6 →
      wX11_ranked v0 v4 v5 σ (fun r1 s1 =>
        post r1 s1)
    ) ∧ (¬ v4 ≤ v6 →
      ∃ j, wX11_rank_98 post (wX11_rank_88 post n) j v0 v1 v2 v3 v4 v5 v6 (0 : Int32) σ)
def wX11_rank_63 (post : Int32 → St → Prop) : Nat → Nat → Int32 → Int32 → Int32 → Int32 → Int32 → Int32 → St → Prop
  | 0 => fun _ _ _ _ _ _ _ _ => False
  | n + 1 => fun v0 v1 v2 v3 v4 v5 v6 σ =>
    ((256 : Int32) ≤ v6 →
      ∃ j, wX11_rank_88 post j v0 v1 v2 v3 v4 v5 (0 : Int32) σ
    ) ∧ (¬ (256 : Int32) ≤ v6 →
      vp_in v6 256 ∧
      ∀ s1 : St, s1 = u1 σ (v0 + 21) v6.toNatClampNeg (0 : Int32) →
      ∀ x1 : Int32, x1 = v6 + (1 : Int32) →
      wX11_rank_63 post n v0 v1 v2 v3 v4 v5 x1 s1)
def wX11_rank (v0 : Nat) (v1 : Int32) (v2 : Int32) (σ : St) (post : Int32 → St → Prop) : Prop :=
  ∀ s1 : St, s1 = u1 σ v0 0 (0 : Int32) →
  wX11_isTable v0 v1 s1 (fun r1 s2 =>
    (r1 = false →
      post (-1 : Int32) s2
    ) ∧ (r1 = true →
      vp_in v1 16 ∧
      wX11_within (v2.toInt64) (0 : Int64) ((((1 : Int32) <<< ((s2.1 (v0 + 9) v1.toNatClampNeg) &&& 31)) - (1 : Int32)).toInt64) s2 (fun r2 s3 =>
        (r2 = true →
          vp_in v1 16 ∧
          ∀ x1 : Int32, x1 = (s3.1 (v0 + 9) v1.toNatClampNeg) →
          wX11_bits v2 s3 (fun r3 s4 =>
            ∀ x2 : Int32, x2 = ((1 : Int32) <<< (r3 &&& 31)) →
            wX11_bits v2 s4 (fun r4 s5 =>
              ∀ x3 : Int32, x3 = ((1 : Int32) <<< ((x1 - r4) &&& 31)) →
              ∃ j, wX11_rank_63 post j v0 v1 v2 x1 x2 x3 (0 : Int32) s5))
        ) ∧ (r2 = false →
          post (-1 : Int32) s3))))

def wX11_det (v0 : Nat) (v1 : Int32) (σ : St) (post : Int32 → St → Prop) : Prop :=
  ∀ x1 : Int32, x1 = ((4 : Int32) * v1) →
  vp_in x1 40 ∧
  ∀ x2 : Int32, x2 = (((4 : Int32) * v1) + (3 : Int32)) →
  vp_in x2 40 ∧
  ∀ x3 : Int32, x3 = (((4 : Int32) * v1) + (1 : Int32)) →
  vp_in x3 40 ∧
  ∀ x4 : Int32, x4 = (((4 : Int32) * v1) + (2 : Int32)) →
  vp_in x4 40 ∧
  wX11_p v0 σ (fun r1 s1 =>
    wX11_modulo ((((σ.1 (v0 + 11) x1.toNatClampNeg) * (σ.1 (v0 + 11) x2.toNatClampNeg)) - ((σ.1 (v0 + 11) x3.toNatClampNeg) * (σ.1 (v0 + 11) x4.toNatClampNeg))).toInt64) r1 s1 (fun r2 s2 =>
      post r2 s2))

def wX11_base_26 (post : Int32 → St → Prop) (v0 : Nat) (v1 : Int32) (v2 : Int32) (t0 : Nat) (t1 : Int32) (σ : St) : Prop :=
  ∀ s1 : St, s1 = u1 σ t0 0 t1 →
  (¬ (s1.1 v0 0) = (1 : Int32) →
    ((4 : Int32) ≤ v2 →
      wX11_det v0 v1 s1 (fun r1 s2 =>
        post r1 s2)
    ) ∧ (¬ (4 : Int32) ≤ v2 →
      ∀ x1 : Int32, x1 = (((4 : Int32) * v1) + v2) →
      vp_in x1 40 ∧
      post (s1.1 (v0 + 11) x1.toNatClampNeg) s1)
  ) ∧ ((s1.1 v0 0) = (1 : Int32) →
    post (0 : Int32) s1)
def wX11_base_25 (post : Int32 → St → Prop) (v0 : Nat) (v1 : Int32) (v2 : Int32) (t0 : Nat) (σ : St) : Prop :=
  wX11_base_26 post v0 v1 v2 t0 (1 : Int32) σ
def wX11_base (v0 : Nat) (v1 : Int32) (v2 : Int32) (σ : St) (post : Int32 → St → Prop) : Prop :=
  wX11_isBase v0 v1 σ (fun r1 s1 =>
    (r1 = false →
      wX11_base_25 post v0 v1 v2 v0 s1
    ) ∧ (r1 = true →
      wX11_within (v2.toInt64) (0 : Int64) (4 : Int64) s1 (fun r2 s2 =>
        (r2 = false →
          wX11_base_25 post v0 v1 v2 v0 s2
        ) ∧ (r2 = true →
          wX11_base_26 post v0 v1 v2 v0 (0 : Int32) s2))))

def wX11_changes_3 (ln : Nat) (post : St → Prop) : Nat → Nat → Nat → Int32 → Int32 → Int32 → Int32 → Int32 → Int32 → Int32 → Int32 → St → Prop
  | 0 => fun _ _ _ _ _ _ _ _ _ _ _ => False
  | n + 1 => fun v0 v1 v2 v3 v4 v5 v6 v7 v8 v9 σ =>
    (((1 : Int32) <<< (v3 &&& 31)) ≤ v9 →
      post σ
    ) ∧ (¬ ((1 : Int32) <<< (v3 &&& 31)) ≤ v9 →
      (¬ ((v9 >>> (v4 &&& 31)) &&& (1 : Int32)) = (1 : Int32) →
        ∀ x1 : Int32, x1 = (v2 + v9) →
        vp_in x1 ln ∧
        ∀ x2 : Int32, x2 = (σ.1 v1 x1.toNatClampNeg) →
        ∀ x3 : Int32, x3 = (v2 + (v9 ||| ((1 : Int32) <<< (v4 &&& 31)))) →
        vp_in x3 ln ∧
        ∀ x4 : Int32, x4 = (σ.1 v1 x3.toNatClampNeg) →
        wX11_p v0 σ (fun r1 s1 =>
          wX11_modulo (((v5 * x2) + (v6 * x4)).toInt64) r1 s1 (fun r2 s2 =>
            vp_in (v2 + v9) ln ∧
            ∀ s3 : St, s3 = u1 s2 v1 (v2 + v9).toNatClampNeg r2 →
            wX11_p v0 s3 (fun r3 s4 =>
              wX11_modulo (((v7 * x2) + (v8 * x4)).toInt64) r3 s4 (fun r4 s5 =>
                vp_in (v2 + (v9 ||| ((1 : Int32) <<< (v4 &&& 31)))) ln ∧
                ∀ s6 : St, s6 = u1 s5 v1 (v2 + (v9 ||| ((1 : Int32) <<< (v4 &&& 31)))).toNatClampNeg r4 →
                ∀ x5 : Int32, x5 = v9 + (1 : Int32) →
                wX11_changes_3 ln post n v0 v1 v2 v3 v4 v5 v6 v7 v8 x5 s6))))
      ) ∧ (((v9 >>> (v4 &&& 31)) &&& (1 : Int32)) = (1 : Int32) →
        ∀ x6 : Int32, x6 = v9 + (1 : Int32) →
        wX11_changes_3 ln post n v0 v1 v2 v3 v4 v5 v6 v7 v8 x6 σ))
def wX11_changes (ln : Nat) (v0 : Nat) (v1 : Nat) (v2 : Int32) (v3 : Int32) (v4 : Int32) (v5 : Int32) (v6 : Int32) (v7 : Int32) (v8 : Int32) (σ : St) (post : St → Prop) : Prop :=
  ∃ j, wX11_changes_3 ln post j v0 v1 v2 v3 v4 v5 v6 v7 v8 (0 : Int32) σ

def wX11_laysBased_8 (post : St → Prop) : Nat → Nat → Int32 → Int32 → Int32 → Int32 → Int32 → St → Prop
  | 0 => fun _ _ _ _ _ _ _ => False
  | n + 1 => fun v0 v2 v3 v4 v5 v6 σ =>
    ((σ.1 v0 36) ≤ v6 →
      post σ
    ) ∧ (¬ (σ.1 v0 36) ≤ v6 →
      wX11_changes 16 v0 (v0 + 20) (0 : Int32) (σ.1 v0 36) v6 v2 v3 v4 v5 σ (fun s1 =>
        ∀ x1 : Int32, x1 = v6 + (1 : Int32) →
        wX11_laysBased_8 post n v0 v2 v3 v4 v5 x1 s1))
def wX11_laysBased (v0 : Nat) (v1 : Int32) (v2 : Int32) (v3 : Int32) (v4 : Int32) (v5 : Int32) (σ : St) (post : St → Prop) : Prop :=
  wX11_laysTable v0 v1 σ (fun s1 =>
    ∃ j, wX11_laysBased_8 post j v0 v2 v3 v4 v5 (0 : Int32) s1)

def wX11_laysBasedBy (v0 : Nat) (v1 : Int32) (v2 : Int32) (σ : St) (post : St → Prop) : Prop :=
  ∀ x1 : Int32, x1 = ((4 : Int32) * v2) →
  vp_in x1 40 ∧
  ∀ x2 : Int32, x2 = (((4 : Int32) * v2) + (1 : Int32)) →
  vp_in x2 40 ∧
  ∀ x3 : Int32, x3 = (((4 : Int32) * v2) + (2 : Int32)) →
  vp_in x3 40 ∧
  ∀ x4 : Int32, x4 = (((4 : Int32) * v2) + (3 : Int32)) →
  vp_in x4 40 ∧
  wX11_laysBased v0 v1 (σ.1 (v0 + 11) x1.toNatClampNeg) (σ.1 (v0 + 11) x2.toNatClampNeg) (σ.1 (v0 + 11) x3.toNatClampNeg) (σ.1 (v0 + 11) x4.toNatClampNeg) σ (fun s1 =>
    post s1)

def wX11_based (v0 : Nat) (v1 : Int32) (v2 : Int32) (v3 : Int32) (σ : St) (post : Int32 → St → Prop) : Prop :=
  ∀ s1 : St, s1 = u1 σ v0 0 (0 : Int32) →
  wX11_isTable v0 v1 s1 (fun r1 s2 =>
    (r1 = false →
      post (-1 : Int32) s2
    ) ∧ (r1 = true →
      wX11_isBase v0 v2 s2 (fun r2 s3 =>
        (r2 = false →
          post (-1 : Int32) s3
        ) ∧ (r2 = true →
          vp_in v1 16 ∧
          wX11_within (v3.toInt64) (0 : Int64) ((((1 : Int32) <<< ((s3.1 (v0 + 9) v1.toNatClampNeg) &&& 31)) - (1 : Int32)).toInt64) s3 (fun r3 s4 =>
            (r3 = true →
              wX11_laysBasedBy v0 v1 v2 s4 (fun s5 =>
                vp_in v3 16 ∧
                post (s5.1 (v0 + 20) v3.toNatClampNeg) s5)
            ) ∧ (r3 = false →
              post (-1 : Int32) s4))))))

def wX11_fits (v0 : Nat) (v1 : Int32) (v2 : Int32) (σ : St) (post : Int32 → St → Prop) : Prop :=
  ∀ s1 : St, s1 = u1 σ v0 0 (0 : Int32) →
  wX11_isTable v0 v1 s1 (fun r1 s2 =>
    (r1 = false →
      post (-1 : Int32) s2
    ) ∧ (r1 = true →
      wX11_isBase v0 v2 s2 (fun r2 s3 =>
        (r2 = true →
          wX11_laysBasedBy v0 v1 v2 s3 (fun s4 =>
            wX11_isMadeHere v0 s4 (fun r3 s5 =>
              (r3 = false →
                post (0 : Int32) s5
              ) ∧ (r3 = true →
                post (1 : Int32) s5)))
        ) ∧ (r2 = false →
          post (-1 : Int32) s3))))

def wX11_first_17 (post : Int32 → St → Prop) : Nat → Nat → Int32 → Int32 → St → Prop
  | 0 => fun _ _ _ _ => False
  | n + 1 => fun v0 v1 v2 σ =>
    ((σ.1 (v0 + 4) (0 : Int32).toNatClampNeg) ≤ v2 →
      post (-2 : Int32) σ
    ) ∧ (¬ (σ.1 (v0 + 4) (0 : Int32).toNatClampNeg) ≤ v2 →
      wX11_laysBasedBy v0 v1 v2 σ (fun s1 =>
        wX11_isMadeHere v0 s1 (fun r1 s2 =>
          (r1 = false →
            ∀ x1 : Int32, x1 = v2 + (1 : Int32) →
            wX11_first_17 post n v0 v1 x1 s2
          ) ∧ (r1 = true →
            post v2 s2))))
def wX11_first (v0 : Nat) (v1 : Int32) (σ : St) (post : Int32 → St → Prop) : Prop :=
  ∀ s1 : St, s1 = u1 σ v0 0 (0 : Int32) →
  wX11_isTable v0 v1 s1 (fun r1 s2 =>
    (r1 = true →
      ∃ j, wX11_first_17 post j v0 v1 (0 : Int32) s2
    ) ∧ (r1 = false →
      post (-1 : Int32) s2))

def wX11_seek_27 (post : Int32 → St → Prop) (R17 : Nat → Int32 → Int32 → St → Prop) : Nat → Nat → Int32 → Int32 → Int32 → St → Prop
  | 0 => fun _ _ _ _ _ => False
  | n + 1 => fun v0 v1 v2 v3 σ =>
    wX11_p v0 σ (fun r1 s1 =>
      (r1 ≤ v3 →
        ∀ x1 : Int32, x1 = v2 + (1 : Int32) →
        R17 v0 v1 x1 s1
      ) ∧ (¬ r1 ≤ v3 →
        (¬ v2 = v3 →
          wX11_laysBased v0 v1 (1 : Int32) (1 : Int32) v2 v3 s1 (fun s2 =>
            wX11_isMadeHere v0 s2 (fun r2 s3 =>
              (r2 = false →
                ∀ x2 : Int32, x2 = v3 + (1 : Int32) →
                wX11_seek_27 post R17 n v0 v1 v2 x2 s3
              ) ∧ (r2 = true →
                wX11_p v0 s3 (fun r3 s4 =>
                  post ((r3 * v2) + v3) s4))))
        ) ∧ (v2 = v3 →
          ∀ x3 : Int32, x3 = v3 + (1 : Int32) →
          wX11_seek_27 post R17 n v0 v1 v2 x3 s1)))
def wX11_seek_17 (post : Int32 → St → Prop) : Nat → Nat → Int32 → Int32 → St → Prop
  | 0 => fun _ _ _ _ => False
  | n + 1 => fun v0 v1 v2 σ =>
    wX11_p v0 σ (fun r1 s1 =>
      (r1 ≤ v2 →
        post (-2 : Int32) s1
      ) ∧ (¬ r1 ≤ v2 →
        ∃ j, wX11_seek_27 post (wX11_seek_17 post n) j v0 v1 v2 (0 : Int32) s1))
def wX11_seek (v0 : Nat) (v1 : Int32) (σ : St) (post : Int32 → St → Prop) : Prop :=
  ∀ s1 : St, s1 = u1 σ v0 0 (0 : Int32) →
  wX11_isTable v0 v1 s1 (fun r1 s2 =>
    (r1 = true →
      ∃ j, wX11_seek_17 post j v0 v1 (0 : Int32) s2
    ) ∧ (r1 = false →
      post (-1 : Int32) s2))

def wX11_node (v0 : Nat) (v1 : Int32) (v2 : Int32) (σ : St) (post : Int32 → St → Prop) : Prop :=
  ∀ s1 : St, s1 = u1 σ v0 0 (0 : Int32) →
  wX11_isNode v0 v1 s1 (fun r1 s2 =>
    (r1 = true →
      (¬ v2 = (-1 : Int32) →
        wX11_legsAt v0 v1 s2 (fun r2 s3 =>
          wX11_within (v2.toInt64) (0 : Int64) ((((1 : Int32) <<< (r2 &&& 31)) - (1 : Int32)).toInt64) s3 (fun r3 s4 =>
            (r3 = false →
              post (-2 : Int32) s4
            ) ∧ (r3 = true →
              ∀ x1 : Int32, x1 = (((16 : Int32) * v1) + v2) →
              vp_in x1 117 ∧
              post (s4.1 (v0 + 16) x1.toNatClampNeg) s4)))
      ) ∧ (v2 = (-1 : Int32) →
        wX11_legsAt v0 v1 s2 (fun r4 s5 =>
          post r4 s5))
    ) ∧ (r1 = false →
      post (-2 : Int32) s2))

def wX11_wire_26 (post : Int32 → St → Prop) (v0 : Nat) (v1 : Int32) (v2 : Int32) (t0 : Nat) (t1 : Int32) (σ : St) : Prop :=
  ∀ s1 : St, s1 = u1 σ t0 0 t1 →
  (¬ (s1.1 v0 0) = (1 : Int32) →
    ∀ x1 : Int32, x1 = (((96 : Int32) + ((2 : Int32) * v1)) + (v2 / (2 : Int32))) →
    vp_in x1 117 ∧
    ∀ x2 : Int32, x2 = (s1.1 (v0 + 16) x1.toNatClampNeg) →
    (¬ (v2 - v2 / (2 : Int32) * (2 : Int32)) = 0 →
      post (x2 - x2 / (4 : Int32) * (4 : Int32)) s1
    ) ∧ ((v2 - v2 / (2 : Int32) * (2 : Int32)) = 0 →
      post (x2 / (4 : Int32)) s1)
  ) ∧ ((s1.1 v0 0) = (1 : Int32) →
    post (0 : Int32) s1)
def wX11_wire_25 (post : Int32 → St → Prop) (v0 : Nat) (v1 : Int32) (v2 : Int32) (t0 : Nat) (σ : St) : Prop :=
  wX11_wire_26 post v0 v1 v2 t0 (1 : Int32) σ
def wX11_wire (v0 : Nat) (v1 : Int32) (v2 : Int32) (σ : St) (post : Int32 → St → Prop) : Prop :=
  wX11_isWire v0 v1 σ (fun r1 s1 =>
    (r1 = false →
      wX11_wire_25 post v0 v1 v2 v0 s1
    ) ∧ (r1 = true →
      wX11_within (v2.toInt64) (0 : Int64) (3 : Int64) s1 (fun r2 s2 =>
        (r2 = false →
          wX11_wire_25 post v0 v1 v2 v0 s2
        ) ∧ (r2 = true →
          wX11_wire_26 post v0 v1 v2 v0 (0 : Int32) s2))))

def wX11_wireAt_2 (post : Int32 → St → Prop) : Nat → Nat → Int32 → Int32 → St → Prop
  | 0 => fun _ _ _ _ => False
  | n + 1 => fun v0 v1 v2 σ =>
    (((2 : Int32) * (σ.1 (v0 + 16) (116 : Int32).toNatClampNeg)) ≤ v2 →
      post (-1 : Int32) σ
    ) ∧ (¬ ((2 : Int32) * (σ.1 (v0 + 16) (116 : Int32).toNatClampNeg)) ≤ v2 →
      ∀ x1 : Int32, x1 = ((96 : Int32) + v2) →
      vp_in x1 117 ∧
      (¬ (σ.1 (v0 + 16) x1.toNatClampNeg) = v1 →
        ∀ x2 : Int32, x2 = v2 + (1 : Int32) →
        wX11_wireAt_2 post n v0 v1 x2 σ
      ) ∧ ((σ.1 (v0 + 16) x1.toNatClampNeg) = v1 →
        post (v2 / (2 : Int32)) σ))
def wX11_wireAt (v0 : Nat) (v1 : Int32) (σ : St) (post : Int32 → St → Prop) : Prop :=
  ∃ j, wX11_wireAt_2 post j v0 v1 (0 : Int32) σ

def wX11_laysOpen_19 (post : St → Prop) (R7 : Nat → Int32 → St → Prop) : Nat → Nat → Int32 → Int32 → St → Prop
  | 0 => fun _ _ _ _ => False
  | n + 1 => fun v0 v1 v2 σ =>
    wX11_legsAt v0 v1 σ (fun r1 s1 =>
      (r1 ≤ v2 →
        ∀ x1 : Int32, x1 = v1 + (1 : Int32) →
        R7 v0 x1 s1
      ) ∧ (¬ r1 ≤ v2 →
        wX11_wireAt v0 (((4 : Int32) * v1) + v2) s1 (fun r2 s2 =>
          (r2 < 0 →
            vp_in (s2.1 v0 39) 24 ∧
            ∀ s3 : St, s3 = u1 s2 (v0 + 22) (s2.1 v0 39).toNatClampNeg (((4 : Int32) * v1) + v2) →
            ∀ s4 : St, s4 = u1 s3 v0 39 ((s3.1 v0 39) + (1 : Int32)) →
            ∀ x2 : Int32, x2 = v2 + (1 : Int32) →
            wX11_laysOpen_19 post R7 n v0 v1 x2 s4
          ) ∧ (¬ r2 < 0 →
            ∀ x3 : Int32, x3 = v2 + (1 : Int32) →
            wX11_laysOpen_19 post R7 n v0 v1 x3 s2))))
def wX11_laysOpen_7 (post : St → Prop) : Nat → Nat → Int32 → St → Prop
  | 0 => fun _ _ _ => False
  | n + 1 => fun v0 v1 σ =>
    ((σ.1 (v0 + 5) (0 : Int32).toNatClampNeg) ≤ v1 →
      post σ
    ) ∧ (¬ (σ.1 (v0 + 5) (0 : Int32).toNatClampNeg) ≤ v1 →
      ∃ j, wX11_laysOpen_19 post (wX11_laysOpen_7 post n) j v0 v1 (0 : Int32) σ)
def wX11_laysOpen (v0 : Nat) (σ : St) (post : St → Prop) : Prop :=
  ∀ s1 : St, s1 = u1 σ v0 39 (0 : Int32) →
  ∃ j, wX11_laysOpen_7 post j v0 (0 : Int32) s1

def wX11_open (v0 : Nat) (v1 : Int32) (σ : St) (post : Int32 → St → Prop) : Prop :=
  ∀ s1 : St, s1 = u1 σ v0 0 (0 : Int32) →
  wX11_laysOpen v0 s1 (fun s2 =>
    (¬ v1 = (-1 : Int32) →
      wX11_within (v1.toInt64) (0 : Int64) (((s2.1 v0 39) - (1 : Int32)).toInt64) s2 (fun r1 s3 =>
        (r1 = false →
          post (-2 : Int32) s3
        ) ∧ (r1 = true →
          vp_in v1 24 ∧
          vp_in v1 24 ∧
          post ((((s3.1 (v0 + 22) v1.toNatClampNeg) / (4 : Int32)) * (10 : Int32)) + ((s3.1 (v0 + 22) v1.toNatClampNeg) - (s3.1 (v0 + 22) v1.toNatClampNeg) / (4 : Int32) * (4 : Int32))) s3))
    ) ∧ (v1 = (-1 : Int32) →
      post (s2.1 v0 39) s2))

def wX11_setsWires_2 (post : St → Prop) : Nat → Nat → Int32 → Int32 → St → Prop
  | 0 => fun _ _ _ _ => False
  | n + 1 => fun v0 v1 v2 σ =>
    ((σ.1 (v0 + 16) (116 : Int32).toNatClampNeg) ≤ v2 →
      post σ
    ) ∧ (¬ (σ.1 (v0 + 16) (116 : Int32).toNatClampNeg) ≤ v2 →
      ∀ x1 : Int32, x1 = ((96 : Int32) + ((2 : Int32) * v2)) →
      vp_in x1 117 ∧
      vp_in (σ.1 (v0 + 16) x1.toNatClampNeg) 24 ∧
      ∀ s1 : St, s1 = u1 σ (v0 + 23) (σ.1 (v0 + 16) x1.toNatClampNeg).toNatClampNeg ((v1 >>> (v2 &&& 31)) &&& (1 : Int32)) →
      ∀ x2 : Int32, x2 = (((96 : Int32) + ((2 : Int32) * v2)) + (1 : Int32)) →
      vp_in x2 117 ∧
      vp_in (s1.1 (v0 + 16) x2.toNatClampNeg) 24 ∧
      ∀ s2 : St, s2 = u1 s1 (v0 + 23) (s1.1 (v0 + 16) x2.toNatClampNeg).toNatClampNeg ((v1 >>> (v2 &&& 31)) &&& (1 : Int32)) →
      ∀ x3 : Int32, x3 = v2 + (1 : Int32) →
      wX11_setsWires_2 post n v0 v1 x3 s2)
def wX11_setsWires (v0 : Nat) (v1 : Int32) (σ : St) (post : St → Prop) : Prop :=
  ∃ j, wX11_setsWires_2 post j v0 v1 (0 : Int32) σ

def wX11_valueOf_103 (post : Int32 → St → Prop) (R4 : Nat → Int32 → Int32 → Int32 → St → Prop) (v0 : Nat) (v1 : Int32) (v3 : Int32) (t0 : Int32) (t1 : Int32) (σ : St) : Prop :=
  ∀ x1 : Int32, x1 = (t0 + t1) →
  ∀ x2 : Int32, x2 = v3 + (1 : Int32) →
  R4 v0 v1 x1 x2 σ
def wX11_valueOf_73 (post : Int32 → St → Prop) (R4 : Nat → Int32 → Int32 → Int32 → St → Prop) (R21 : Nat → Int32 → Int32 → Int32 → Int32 → Int32 → St → Prop) (v0 : Nat) (v1 : Int32) (v2 : Int32) (v3 : Int32) (v5 : Int32) (t0 : Int32) (t1 : Int32) (σ : St) : Prop :=
  ∀ x1 : Int32, x1 = (t0 &&& t1) →
  ∀ x2 : Int32, x2 = v5 + (1 : Int32) →
  R21 v0 v1 v2 v3 x1 x2 σ
def wX11_valueOf_68 (post : Int32 → St → Prop) (R4 : Nat → Int32 → Int32 → Int32 → St → Prop) (R21 : Nat → Int32 → Int32 → Int32 → Int32 → Int32 → St → Prop) (v0 : Nat) (v1 : Int32) (v2 : Int32) (v3 : Int32) (v5 : Int32) (t0 : Int32) (σ : St) : Prop :=
  wX11_valueOf_73 post R4 R21 v0 v1 v2 v3 v5 t0 (1 : Int32) σ
def wX11_valueOf_21 (post : Int32 → St → Prop) (R4 : Nat → Int32 → Int32 → Int32 → St → Prop) : Nat → Nat → Int32 → Int32 → Int32 → Int32 → Int32 → St → Prop
  | 0 => fun _ _ _ _ _ _ _ => False
  | n + 1 => fun v0 v1 v2 v3 v4 v5 σ =>
    wX11_legsAt v0 v1 σ (fun r1 s1 =>
      (r1 ≤ v5 →
        (v4 = 0 →
          wX11_valueOf_103 post R4 v0 v1 v3 v2 (0 : Int32) s1
        ) ∧ (¬ v4 = 0 →
          ∀ x1 : Int32, x1 = (((16 : Int32) * v1) + v3) →
          vp_in x1 117 ∧
          wX11_valueOf_103 post R4 v0 v1 v3 v2 (s1.1 (v0 + 16) x1.toNatClampNeg) s1)
      ) ∧ (¬ r1 ≤ v5 →
        ∀ x2 : Int32, x2 = (((4 : Int32) * v1) + v5) →
        vp_in x2 24 ∧
        ((s1.1 (v0 + 23) x2.toNatClampNeg) = (2 : Int32) →
          wX11_valueOf_68 post R4 (wX11_valueOf_21 post R4 n) v0 v1 v2 v3 v5 v4 s1
        ) ∧ (¬ (s1.1 (v0 + 23) x2.toNatClampNeg) = (2 : Int32) →
          ∀ x3 : Int32, x3 = (((4 : Int32) * v1) + v5) →
          vp_in x3 24 ∧
          (¬ (s1.1 (v0 + 23) x3.toNatClampNeg) = ((v3 >>> (v5 &&& 31)) &&& (1 : Int32)) →
            wX11_valueOf_73 post R4 (wX11_valueOf_21 post R4 n) v0 v1 v2 v3 v5 v4 (0 : Int32) s1
          ) ∧ ((s1.1 (v0 + 23) x3.toNatClampNeg) = ((v3 >>> (v5 &&& 31)) &&& (1 : Int32)) →
            wX11_valueOf_68 post R4 (wX11_valueOf_21 post R4 n) v0 v1 v2 v3 v5 v4 s1))))
def wX11_valueOf_4 (post : Int32 → St → Prop) : Nat → Nat → Int32 → Int32 → Int32 → St → Prop
  | 0 => fun _ _ _ _ _ => False
  | n + 1 => fun v0 v1 v2 v3 σ =>
    wX11_legsAt v0 v1 σ (fun r1 s1 =>
      (((1 : Int32) <<< (r1 &&& 31)) ≤ v3 →
        wX11_p v0 s1 (fun r2 s2 =>
          (¬ r2 = 0) ∧
          post (v2 - v2 / r2 * r2) s2)
      ) ∧ (¬ ((1 : Int32) <<< (r1 &&& 31)) ≤ v3 →
        ∃ j, wX11_valueOf_21 post (wX11_valueOf_4 post n) j v0 v1 v2 v3 (1 : Int32) (0 : Int32) s1))
def wX11_valueOf (v0 : Nat) (v1 : Int32) (σ : St) (post : Int32 → St → Prop) : Prop :=
  ∃ j, wX11_valueOf_4 post j v0 v1 (0 : Int32) (0 : Int32) σ

def wX11_product_39 (post : Int32 → St → Prop) (R4 : Nat → Int32 → Int32 → Int32 → St → Prop) (v0 : Nat) (v1 : Int32) (v3 : Int32) (t0 : Int32) (σ : St) : Prop :=
  ∀ x1 : Int32, x1 = v3 + (1 : Int32) →
  R4 v0 v1 t0 x1 σ
def wX11_product_4 (post : Int32 → St → Prop) : Nat → Nat → Int32 → Int32 → Int32 → St → Prop
  | 0 => fun _ _ _ _ _ => False
  | n + 1 => fun v0 v1 v2 v3 σ =>
    ((σ.1 (v0 + 5) (0 : Int32).toNatClampNeg) ≤ v3 →
      post v2 σ
    ) ∧ (¬ (σ.1 (v0 + 5) (0 : Int32).toNatClampNeg) ≤ v3 →
      (¬ ((v1 >>> (v3 &&& 31)) &&& (1 : Int32)) = (1 : Int32) →
        wX11_product_39 post (wX11_product_4 post n) v0 v1 v3 v2 σ
      ) ∧ (((v1 >>> (v3 &&& 31)) &&& (1 : Int32)) = (1 : Int32) →
        wX11_valueOf v0 v3 σ (fun r1 s1 =>
          wX11_p v0 s1 (fun r2 s2 =>
            (¬ r2 = 0) ∧
            wX11_product_39 post (wX11_product_4 post n) v0 v1 v3 ((v2 * r1) - (v2 * r1) / r2 * r2) s2))))
def wX11_product (v0 : Nat) (v1 : Int32) (σ : St) (post : Int32 → St → Prop) : Prop :=
  ∃ j, wX11_product_4 post j v0 v1 (1 : Int32) (0 : Int32) σ

def wX11_allNodes (v0 : Nat) (σ : St) (post : Int32 → St → Prop) : Prop :=
  post (((1 : Int32) <<< ((σ.1 (v0 + 5) (0 : Int32).toNatClampNeg) &&& 31)) - (1 : Int32)) σ

def wX11_laysIndex_26 (post : Bool → St → Prop) : Nat → Nat → Int32 → Int32 → St → Prop
  | 0 => fun _ _ _ _ => False
  | n + 1 => fun v0 v1 v2 σ =>
    ((σ.1 v0 39) ≤ v2 →
      post true σ
    ) ∧ (¬ (σ.1 v0 39) ≤ v2 →
      vp_in v2 24 ∧
      vp_in (σ.1 (v0 + 22) v2.toNatClampNeg) 24 ∧
      ∀ s1 : St, s1 = u1 σ (v0 + 23) (σ.1 (v0 + 22) v2.toNatClampNeg).toNatClampNeg ((v1 >>> (v2 &&& 31)) &&& (1 : Int32)) →
      ∀ x1 : Int32, x1 = v2 + (1 : Int32) →
      wX11_laysIndex_26 post n v0 v1 x1 s1)
def wX11_laysIndex (v0 : Nat) (v1 : Int32) (σ : St) (post : Bool → St → Prop) : Prop :=
  wX11_laysOpen v0 σ (fun s1 =>
    wX11_within (v1.toInt64) (0 : Int64) ((((1 : Int32) <<< ((s1.1 v0 39) &&& 31)) - (1 : Int32)).toInt64) s1 (fun r1 s2 =>
      (r1 = true →
        ∃ j, wX11_laysIndex_26 post j v0 v1 (0 : Int32) s2
      ) ∧ (r1 = false →
        post false s2)))

def wX11_summed_60 (post : Int32 → St → Prop) (R4 : Nat → Int32 → Int32 → Int32 → St → Prop) (v0 : Nat) (v1 : Int32) (v3 : Int32) (t0 : Int32) (σ : St) : Prop :=
  ∀ x1 : Int32, x1 = v3 + (1 : Int32) →
  R4 v0 v1 t0 x1 σ
def wX11_summed_47 (post : Int32 → St → Prop) (R4 : Nat → Int32 → Int32 → Int32 → St → Prop) (v0 : Nat) (v1 : Int32) (v3 : Int32) (t0 : Int32) (t1 : Int32) (σ : St) : Prop :=
  wX11_summed_60 post R4 v0 v1 v3 (t0 + t1) σ
def wX11_summed_4 (post : Int32 → St → Prop) : Nat → Nat → Int32 → Int32 → Int32 → St → Prop
  | 0 => fun _ _ _ _ _ => False
  | n + 1 => fun v0 v1 v2 v3 σ =>
    (((1 : Int32) <<< ((σ.1 (v0 + 16) (116 : Int32).toNatClampNeg) &&& 31)) ≤ v3 →
      post v2 σ
    ) ∧ (¬ ((1 : Int32) <<< ((σ.1 (v0 + 16) (116 : Int32).toNatClampNeg) &&& 31)) ≤ v3 →
      wX11_setsWires v0 v3 σ (fun s1 =>
        wX11_allNodes v0 s1 (fun r1 s2 =>
          wX11_product v0 r1 s2 (fun r2 s3 =>
            (v1 = 0 →
              wX11_p v0 s3 (fun r3 s4 =>
                (¬ r3 = 0) ∧
                wX11_summed_60 post (wX11_summed_4 post n) v0 v1 v3 ((v2 + r2) - (v2 + r2) / r3 * r3) s4)
            ) ∧ (¬ v1 = 0 →
              (¬ r2 = 0 →
                wX11_summed_47 post (wX11_summed_4 post n) v0 v1 v3 v2 (1 : Int32) s3
              ) ∧ (r2 = 0 →
                wX11_summed_47 post (wX11_summed_4 post n) v0 v1 v3 v2 (0 : Int32) s3))))))
def wX11_summed (v0 : Nat) (v1 : Int32) (σ : St) (post : Int32 → St → Prop) : Prop :=
  ∃ j, wX11_summed_4 post j v0 v1 (0 : Int32) (0 : Int32) σ

def wX11_sum (v0 : Nat) (v1 : Int32) (σ : St) (post : Int32 → St → Prop) : Prop :=
  ∀ s1 : St, s1 = u1 σ v0 0 (0 : Int32) →
  wX11_laysIndex v0 v1 s1 (fun r1 s2 =>
    (r1 = false →
      post (-1 : Int32) s2
    ) ∧ (r1 = true →
      wX11_summed v0 (0 : Int32) s2 (fun r2 s3 =>
        post r2 s3)))

def wX11_ways (v0 : Nat) (v1 : Int32) (σ : St) (post : Int32 → St → Prop) : Prop :=
  ∀ s1 : St, s1 = u1 σ v0 0 (0 : Int32) →
  wX11_laysIndex v0 v1 s1 (fun r1 s2 =>
    (r1 = false →
      post (-1 : Int32) s2
    ) ∧ (r1 = true →
      wX11_summed v0 (1 : Int32) s2 (fun r2 s3 =>
        post r2 s3)))

def wX11_total_11 (post : Int32 → St → Prop) : Nat → Nat → Int32 → St → Prop
  | 0 => fun _ _ _ => False
  | n + 1 => fun v0 v1 σ =>
    ((σ.1 v0 39) ≤ v1 →
      wX11_summed v0 (0 : Int32) σ (fun r1 s1 =>
        post r1 s1)
    ) ∧ (¬ (σ.1 v0 39) ≤ v1 →
      vp_in v1 24 ∧
      vp_in (σ.1 (v0 + 22) v1.toNatClampNeg) 24 ∧
      ∀ s2 : St, s2 = u1 σ (v0 + 23) (σ.1 (v0 + 22) v1.toNatClampNeg).toNatClampNeg (2 : Int32) →
      ∀ x1 : Int32, x1 = v1 + (1 : Int32) →
      wX11_total_11 post n v0 x1 s2)
def wX11_total (v0 : Nat) (σ : St) (post : Int32 → St → Prop) : Prop :=
  ∀ s1 : St, s1 = u1 σ v0 0 (0 : Int32) →
  wX11_laysOpen v0 s1 (fun s2 =>
    ∃ j, wX11_total_11 post j v0 (0 : Int32) s2)

def wX11_isInside (v0 : Nat) (v1 : Int32) (v2 : Int32) (σ : St) (post : Bool → St → Prop) : Prop :=
  ∀ x1 : Int32, x1 = ((96 : Int32) + ((2 : Int32) * v1)) →
  vp_in x1 117 ∧
  (¬ ((v2 >>> (((σ.1 (v0 + 16) x1.toNatClampNeg) / (4 : Int32)) &&& 31)) &&& (1 : Int32)) = (1 : Int32) →
    post false σ
  ) ∧ (((v2 >>> (((σ.1 (v0 + 16) x1.toNatClampNeg) / (4 : Int32)) &&& 31)) &&& (1 : Int32)) = (1 : Int32) →
    ∀ x2 : Int32, x2 = (((96 : Int32) + ((2 : Int32) * v1)) + (1 : Int32)) →
    vp_in x2 117 ∧
    (¬ ((v2 >>> (((σ.1 (v0 + 16) x2.toNatClampNeg) / (4 : Int32)) &&& 31)) &&& (1 : Int32)) = (1 : Int32) →
      post false σ
    ) ∧ (((v2 >>> (((σ.1 (v0 + 16) x2.toNatClampNeg) / (4 : Int32)) &&& 31)) &&& (1 : Int32)) = (1 : Int32) →
      post true σ))

def wX11_within__95 (post : Int32 → St → Prop) (R66 : Nat → Int32 → Int32 → Int32 → Int32 → St → Prop) : Nat → Nat → Int32 → Int32 → Int32 → Int32 → Int32 → St → Prop
  | 0 => fun _ _ _ _ _ _ _ => False
  | n + 1 => fun v0 v1 v2 v3 v4 v5 σ =>
    ((24 : Int32) ≤ v5 →
      wX11_setsWires v0 v4 σ (fun s1 =>
        wX11_product v0 v1 s1 (fun r1 s2 =>
          wX11_p v0 s2 (fun r2 s3 =>
            (¬ r2 = 0) ∧
            ∀ x1 : Int32, x1 = ((v3 + r1) - (v3 + r1) / r2 * r2) →
            ∀ x2 : Int32, x2 = v4 + (1 : Int32) →
            R66 v0 v1 v2 x1 x2 s3)))
    ) ∧ (¬ (24 : Int32) ≤ v5 →
      vp_in v5 24 ∧
      ∀ s4 : St, s4 = u1 σ (v0 + 23) v5.toNatClampNeg (0 : Int32) →
      ∀ x3 : Int32, x3 = v5 + (1 : Int32) →
      wX11_within__95 post R66 n v0 v1 v2 v3 v4 x3 s4)
def wX11_within__66 (post : Int32 → St → Prop) : Nat → Nat → Int32 → Int32 → Int32 → Int32 → St → Prop
  | 0 => fun _ _ _ _ _ _ => False
  | n + 1 => fun v0 v1 v2 v3 v4 σ =>
    (((1 : Int32) <<< ((σ.1 (v0 + 16) (116 : Int32).toNatClampNeg) &&& 31)) ≤ v4 →
      post v3 σ
    ) ∧ (¬ ((1 : Int32) <<< ((σ.1 (v0 + 16) (116 : Int32).toNatClampNeg) &&& 31)) ≤ v4 →
      ((v4 &&& (v2 ^^^ (-1 : Int32))) = 0 →
        ∃ j, wX11_within__95 post (wX11_within__66 post n) j v0 v1 v2 v3 v4 (0 : Int32) σ
      ) ∧ (¬ (v4 &&& (v2 ^^^ (-1 : Int32))) = 0 →
        ∀ x1 : Int32, x1 = v4 + (1 : Int32) →
        wX11_within__66 post n v0 v1 v2 v3 x1 σ))
def wX11_within__53 (post : Int32 → St → Prop) (R25 : Nat → Int32 → Int32 → Int32 → St → Prop) (v0 : Nat) (v1 : Int32) (v3 : Int32) (t0 : Int32) (t1 : Int32) (σ : St) : Prop :=
  ∀ x1 : Int32, x1 = (t0 ||| t1) →
  ∀ x2 : Int32, x2 = v3 + (1 : Int32) →
  R25 v0 v1 x1 x2 σ
def wX11_within__25 (post : Int32 → St → Prop) : Nat → Nat → Int32 → Int32 → Int32 → St → Prop
  | 0 => fun _ _ _ _ _ => False
  | n + 1 => fun v0 v1 v2 v3 σ =>
    ((σ.1 (v0 + 16) (116 : Int32).toNatClampNeg) ≤ v3 →
      ∃ j, wX11_within__66 post j v0 v1 v2 (0 : Int32) (0 : Int32) σ
    ) ∧ (¬ (σ.1 (v0 + 16) (116 : Int32).toNatClampNeg) ≤ v3 →
      wX11_isInside v0 v3 v1 σ (fun r1 s1 =>
        (r1 = false →
          wX11_within__53 post (wX11_within__25 post n) v0 v1 v3 v2 (0 : Int32) s1
        ) ∧ (r1 = true →
          wX11_within__53 post (wX11_within__25 post n) v0 v1 v3 v2 ((1 : Int32) <<< (v3 &&& 31)) s1)))
def wX11_within_ (v0 : Nat) (v1 : Int32) (σ : St) (post : Int32 → St → Prop) : Prop :=
  ∀ s1 : St, s1 = u1 σ v0 0 (0 : Int32) →
  wX11_allNodes v0 s1 (fun r1 s2 =>
    wX11_within (v1.toInt64) (0 : Int64) (r1.toInt64) s2 (fun r2 s3 =>
      (r2 = true →
        ∃ j, wX11_within__25 post j v0 v1 (0 : Int32) (0 : Int32) s3
      ) ∧ (r2 = false →
        post (-1 : Int32) s3)))

def wX11_edgeOf_131 (post : Int32 → St → Prop) (R4 : Nat → Int32 → Int32 → Int32 → St → Prop) (R17 : Nat → Int32 → Int32 → Int32 → Int32 → St → Prop) (v0 : Nat) (v1 : Int32) (v3 : Int32) (v4 : Int32) (t0 : Int32) (t1 : Int32) (σ : St) : Prop :=
  ∀ x1 : Int32, x1 = (t0 + t1) →
  ∀ x2 : Int32, x2 = v4 + (1 : Int32) →
  R17 v0 v1 x1 v3 x2 σ
def wX11_edgeOf_126 (post : Int32 → St → Prop) (R4 : Nat → Int32 → Int32 → Int32 → St → Prop) (R17 : Nat → Int32 → Int32 → Int32 → Int32 → St → Prop) (v0 : Nat) (v1 : Int32) (v3 : Int32) (v4 : Int32) (t0 : Int32) (σ : St) : Prop :=
  wX11_edgeOf_131 post R4 R17 v0 v1 v3 v4 t0 (1 : Int32) σ
def wX11_edgeOf_107 (post : Int32 → St → Prop) (R4 : Nat → Int32 → Int32 → Int32 → St → Prop) (R17 : Nat → Int32 → Int32 → Int32 → Int32 → St → Prop) (v0 : Nat) (v1 : Int32) (v2 : Int32) (v3 : Int32) (v4 : Int32) (v5 : Int32) (t0 : Int32) (σ : St) : Prop :=
  (v5 < 0 →
    wX11_edgeOf_126 post R4 R17 v0 v1 v3 v4 v2 σ
  ) ∧ (¬ v5 < 0 →
    (¬ ((v1 >>> ((t0 / (4 : Int32)) &&& 31)) &&& (1 : Int32)) = 0 →
      wX11_edgeOf_131 post R4 R17 v0 v1 v3 v4 v2 (0 : Int32) σ
    ) ∧ (((v1 >>> ((t0 / (4 : Int32)) &&& 31)) &&& (1 : Int32)) = 0 →
      wX11_edgeOf_126 post R4 R17 v0 v1 v3 v4 v2 σ))
def wX11_edgeOf_17 (post : Int32 → St → Prop) (R4 : Nat → Int32 → Int32 → Int32 → St → Prop) : Nat → Nat → Int32 → Int32 → Int32 → Int32 → St → Prop
  | 0 => fun _ _ _ _ _ _ => False
  | n + 1 => fun v0 v1 v2 v3 v4 σ =>
    wX11_legsAt v0 v3 σ (fun r1 s1 =>
      (r1 ≤ v4 →
        ∀ x1 : Int32, x1 = v3 + (1 : Int32) →
        R4 v0 v1 v2 x1 s1
      ) ∧ (¬ r1 ≤ v4 →
        (¬ ((v1 >>> (v3 &&& 31)) &&& (1 : Int32)) = (1 : Int32) →
          ∀ x2 : Int32, x2 = v3 + (1 : Int32) →
          R4 v0 v1 v2 x2 s1
        ) ∧ (((v1 >>> (v3 &&& 31)) &&& (1 : Int32)) = (1 : Int32) →
          wX11_wireAt v0 (((4 : Int32) * v3) + v4) s1 (fun r2 s2 =>
            (0 ≤ r2 →
              ∀ x3 : Int32, x3 = ((96 : Int32) + ((2 : Int32) * r2)) →
              vp_in x3 117 ∧
              (¬ (s2.1 (v0 + 16) x3.toNatClampNeg) = (((4 : Int32) * v3) + v4) →
                ∀ x4 : Int32, x4 = ((96 : Int32) + ((2 : Int32) * r2)) →
                vp_in x4 117 ∧
                wX11_edgeOf_107 post R4 (wX11_edgeOf_17 post R4 n) v0 v1 v2 v3 v4 r2 (s2.1 (v0 + 16) x4.toNatClampNeg) s2
              ) ∧ ((s2.1 (v0 + 16) x3.toNatClampNeg) = (((4 : Int32) * v3) + v4) →
                ∀ x5 : Int32, x5 = (((96 : Int32) + ((2 : Int32) * r2)) + (1 : Int32)) →
                vp_in x5 117 ∧
                wX11_edgeOf_107 post R4 (wX11_edgeOf_17 post R4 n) v0 v1 v2 v3 v4 r2 (s2.1 (v0 + 16) x5.toNatClampNeg) s2)
            ) ∧ (¬ 0 ≤ r2 →
              wX11_edgeOf_107 post R4 (wX11_edgeOf_17 post R4 n) v0 v1 v2 v3 v4 r2 (-1 : Int32) s2)))))
def wX11_edgeOf_4 (post : Int32 → St → Prop) : Nat → Nat → Int32 → Int32 → Int32 → St → Prop
  | 0 => fun _ _ _ _ _ => False
  | n + 1 => fun v0 v1 v2 v3 σ =>
    ((σ.1 (v0 + 5) (0 : Int32).toNatClampNeg) ≤ v3 →
      post v2 σ
    ) ∧ (¬ (σ.1 (v0 + 5) (0 : Int32).toNatClampNeg) ≤ v3 →
      ∃ j, wX11_edgeOf_17 post (wX11_edgeOf_4 post n) j v0 v1 v2 v3 (0 : Int32) σ)
def wX11_edgeOf (v0 : Nat) (v1 : Int32) (σ : St) (post : Int32 → St → Prop) : Prop :=
  ∃ j, wX11_edgeOf_4 post j v0 v1 (0 : Int32) (0 : Int32) σ

def wX11_takesOn_123 (REC : Nat → Int32 → Int32 → Int32 → St → (St → Prop) → Prop) (post : St → Prop) (R57 : Nat → Int32 → Int32 → Int32 → Int32 → St → Prop) (v0 : Nat) (v1 : Int32) (v2 : Int32) (v3 : Int32) (v4 : Int32) (t0 : Nat) (t1 : Int32) (t2 : Int32) (t3 : Int32) (σ : St) : Prop :=
  REC t0 t1 t2 t3 σ (fun s1 =>
    ∀ x1 : Int32, x1 = v4 + (1 : Int32) →
    R57 v0 v1 v2 v3 x1 s1)
def wX11_takesOn_57 (REC : Nat → Int32 → Int32 → Int32 → St → (St → Prop) → Prop) (post : St → Prop) : Nat → Nat → Int32 → Int32 → Int32 → Int32 → St → Prop
  | 0 => fun _ _ _ _ _ _ => False
  | n + 1 => fun v0 v1 v2 v3 v4 σ =>
    ((σ.1 (v0 + 5) (0 : Int32).toNatClampNeg) ≤ v4 →
      post σ
    ) ∧ (¬ (σ.1 (v0 + 5) (0 : Int32).toNatClampNeg) ≤ v4 →
      (¬ ((v2 >>> (v4 &&& 31)) &&& (1 : Int32)) = (1 : Int32) →
        vp_in v1 6 ∧
        ∀ s1 : St, s1 = u1 σ (v0 + 24) v1.toNatClampNeg v4 →
        wX11_edgeOf v0 (v2 ||| ((1 : Int32) <<< (v4 &&& 31))) s1 (fun r1 s2 =>
          (r1 ≤ v3 →
            wX11_takesOn_123 REC post (wX11_takesOn_57 REC post n) v0 v1 v2 v3 v4 v0 (v1 + (1 : Int32)) (v2 ||| ((1 : Int32) <<< (v4 &&& 31))) v3 s2
          ) ∧ (¬ r1 ≤ v3 →
            wX11_takesOn_123 REC post (wX11_takesOn_57 REC post n) v0 v1 v2 v3 v4 v0 (v1 + (1 : Int32)) (v2 ||| ((1 : Int32) <<< (v4 &&& 31))) r1 s2))
      ) ∧ (((v2 >>> (v4 &&& 31)) &&& (1 : Int32)) = (1 : Int32) →
        ∀ x1 : Int32, x1 = v4 + (1 : Int32) →
        wX11_takesOn_57 REC post n v0 v1 v2 v3 x1 σ))
def wX11_takesOn_27 (REC : Nat → Int32 → Int32 → Int32 → St → (St → Prop) → Prop) (post : St → Prop) : Nat → Nat → Int32 → Int32 → St → Prop
  | 0 => fun _ _ _ _ => False
  | n + 1 => fun v0 v1 v4 σ =>
    (v1 ≤ v4 →
      post σ
    ) ∧ (¬ v1 ≤ v4 →
      vp_in v4 6 ∧
      vp_in v4 6 ∧
      ∀ s1 : St, s1 = u1 σ (v0 + 25) v4.toNatClampNeg (σ.1 (v0 + 24) v4.toNatClampNeg) →
      ∀ x1 : Int32, x1 = v4 + (1 : Int32) →
      wX11_takesOn_27 REC post n v0 v1 x1 s1)
def wX11_takesOn : Nat → Nat → Int32 → Int32 → Int32 → St → (St → Prop) → Prop
  | 0 => fun _ _ _ _ _ _ => False
  | n + 1 => fun v0 v1 v2 v3 σ post =>
    (v3 < (σ.1 v0 43) →
      (¬ v1 = (σ.1 (v0 + 5) (0 : Int32).toNatClampNeg) →
        ∃ j, wX11_takesOn_57 (wX11_takesOn n) post j v0 v1 v2 v3 (0 : Int32) σ
      ) ∧ (v1 = (σ.1 (v0 + 5) (0 : Int32).toNatClampNeg) →
        ∀ s1 : St, s1 = u1 σ v0 43 v3 →
        ∃ j, wX11_takesOn_27 (wX11_takesOn n) post j v0 v1 (0 : Int32) s1)
    ) ∧ (¬ v3 < (σ.1 v0 43) →
      post σ)

def wX11_width (v0 : Nat) (v1 : Int32) (σ : St) (post : Int32 → St → Prop) : Prop :=
  ∀ s1 : St, s1 = u1 σ v0 0 (0 : Int32) →
  wX11_within (v1.toInt64) (0 : Int64) ((s1.1 (v0 + 5) (0 : Int32).toNatClampNeg).toInt64) s1 (fun r1 s2 =>
    (r1 = true →
      ∀ s3 : St, s3 = u1 s2 v0 43 (100 : Int32) →
      wX11_takesOn 8 v0 (0 : Int32) (0 : Int32) (0 : Int32) s3 (fun s4 =>
        (¬ v1 = 0 →
          ∀ x1 : Int32, x1 = (v1 - (1 : Int32)) →
          vp_in x1 6 ∧
          post (s4.1 (v0 + 25) x1.toNatClampNeg) s4
        ) ∧ (v1 = 0 →
          post (s4.1 v0 43) s4))
    ) ∧ (r1 = false →
      post (-1 : Int32) s2))

def wX11_keeps_51 (post : St → Prop) : Nat → Nat → Int32 → St → Prop
  | 0 => fun _ _ _ => False
  | n + 1 => fun v0 v1 σ =>
    ((117 : Int32) ≤ v1 →
      ∀ s1 : St, s1 = u1 σ v0 32 ((σ.1 v0 32) + (1 : Int32)) →
      post s1
    ) ∧ (¬ (117 : Int32) ≤ v1 →
      vp_in v1 117 ∧
      vp_in (((117 : Int32) * (σ.1 v0 32)) + v1) 1404 ∧
      ∀ s2 : St, s2 = u1 σ (v0 + 17) (((117 : Int32) * (σ.1 v0 32)) + v1).toNatClampNeg (σ.1 (v0 + 16) v1.toNatClampNeg) →
      ∀ x1 : Int32, x1 = v1 + (1 : Int32) →
      wX11_keeps_51 post n v0 x1 s2)
def wX11_keeps_49 (post : St → Prop) (v0 : Nat) (σ : St) : Prop :=
  ∃ j, wX11_keeps_51 post j v0 (0 : Int32) σ
def wX11_keeps_11 (post : St → Prop) : Nat → Nat → Int32 → St → Prop
  | 0 => fun _ _ _ => False
  | n + 1 => fun v0 v1 σ =>
    ((1287 : Int32) ≤ v1 →
      ∀ s1 : St, s1 = u1 σ v0 32 ((σ.1 v0 32) - (1 : Int32)) →
      wX11_keeps_49 post v0 s1
    ) ∧ (¬ (1287 : Int32) ≤ v1 →
      ∀ x1 : Int32, x1 = (v1 + (117 : Int32)) →
      vp_in x1 1404 ∧
      vp_in v1 1404 ∧
      ∀ s2 : St, s2 = u1 σ (v0 + 17) v1.toNatClampNeg (σ.1 (v0 + 17) x1.toNatClampNeg) →
      ∀ x2 : Int32, x2 = v1 + (1 : Int32) →
      wX11_keeps_11 post n v0 x2 s2)
def wX11_keeps (v0 : Nat) (σ : St) (post : St → Prop) : Prop :=
  (¬ (σ.1 v0 32) = (12 : Int32) →
    wX11_keeps_49 post v0 σ
  ) ∧ ((σ.1 v0 32) = (12 : Int32) →
    ∃ j, wX11_keeps_11 post j v0 (0 : Int32) σ)

def wX11_change (v0 : Nat) (v1 : Int32) (v2 : Int32) (σ : St) (post : Bool → St → Prop) : Prop :=
  ∀ s1 : St, s1 = u1 σ v0 0 (0 : Int32) →
  wX11_isWire v0 v1 s1 (fun r1 s2 =>
    (r1 = false →
      post false s2
    ) ∧ (r1 = true →
      wX11_isBase v0 v2 s2 (fun r2 s3 =>
        (r2 = true →
          wX11_keeps v0 s3 (fun s4 =>
            ∀ x1 : Int32, x1 = ((96 : Int32) + ((2 : Int32) * v1)) →
            vp_in x1 117 ∧
            ∀ x2 : Int32, x2 = (s4.1 (v0 + 16) x1.toNatClampNeg) →
            ∀ x3 : Int32, x3 = (((96 : Int32) + ((2 : Int32) * v1)) + (1 : Int32)) →
            vp_in x3 117 ∧
            ∀ x4 : Int32, x4 = (s4.1 (v0 + 16) x3.toNatClampNeg) →
            wX11_det v0 v2 s4 (fun r3 s5 =>
              wX11_inverse v0 r3 s5 (fun r4 s6 =>
                ∀ x5 : Int32, x5 = ((4 : Int32) * v2) →
                vp_in x5 40 ∧
                ∀ x6 : Int32, x6 = (s6.1 (v0 + 11) x5.toNatClampNeg) →
                ∀ x7 : Int32, x7 = (((4 : Int32) * v2) + (2 : Int32)) →
                vp_in x7 40 ∧
                ∀ x8 : Int32, x8 = (s6.1 (v0 + 11) x7.toNatClampNeg) →
                ∀ x9 : Int32, x9 = (((4 : Int32) * v2) + (3 : Int32)) →
                vp_in x9 40 ∧
                ∀ x10 : Int32, x10 = (s6.1 (v0 + 11) x9.toNatClampNeg) →
                wX11_legsAt v0 (x2 / (4 : Int32)) s6 (fun r5 s7 =>
                  ∀ x11 : Int32, x11 = (((4 : Int32) * v2) + (1 : Int32)) →
                  vp_in x11 40 ∧
                  wX11_changes 117 v0 (v0 + 16) ((16 : Int32) * (x2 / (4 : Int32))) r5 (x2 - x2 / (4 : Int32) * (4 : Int32)) x6 (s7.1 (v0 + 11) x11.toNatClampNeg) x8 x10 s7 (fun s8 =>
                    wX11_legsAt v0 (x4 / (4 : Int32)) s8 (fun r6 s9 =>
                      wX11_p v0 s9 (fun r7 s10 =>
                        (¬ r7 = 0) ∧
                        wX11_p v0 s10 (fun r8 s11 =>
                          wX11_modulo (((-x8) * r4).toInt64) r8 s11 (fun r9 s12 =>
                            ∀ x12 : Int32, x12 = (((4 : Int32) * v2) + (1 : Int32)) →
                            vp_in x12 40 ∧
                            wX11_p v0 s12 (fun r10 s13 =>
                              wX11_modulo (((-(s12.1 (v0 + 11) x12.toNatClampNeg)) * r4).toInt64) r10 s13 (fun r11 s14 =>
                                wX11_p v0 s14 (fun r12 s15 =>
                                  (¬ r12 = 0) ∧
                                  wX11_changes 117 v0 (v0 + 16) ((16 : Int32) * (x4 / (4 : Int32))) r6 (x4 - x4 / (4 : Int32) * (4 : Int32)) ((x10 * r4) - (x10 * r4) / r7 * r7) r9 r11 ((x6 * r4) - (x6 * r4) / r12 * r12) s15 (fun s16 =>
                                    post true s16)))))))))))))
        ) ∧ (r2 = false →
          post false s3))))

def wX11_plug_43 (post : Bool → St → Prop) : Nat → Nat → Int32 → Int32 → Int32 → St → Prop
  | 0 => fun _ _ _ _ _ => False
  | n + 1 => fun v0 v1 v2 v3 σ =>
    ((16 : Int32) ≤ v3 →
      post true σ
    ) ∧ (¬ (16 : Int32) ≤ v3 →
      ∀ x1 : Int32, x1 = (((16 : Int32) * v2) + v3) →
      vp_in x1 256 ∧
      vp_in (((16 : Int32) * v1) + v3) 117 ∧
      ∀ s1 : St, s1 = u1 σ (v0 + 16) (((16 : Int32) * v1) + v3).toNatClampNeg (σ.1 (v0 + 10) x1.toNatClampNeg) →
      ∀ x2 : Int32, x2 = v3 + (1 : Int32) →
      wX11_plug_43 post n v0 v1 v2 x2 s1)
def wX11_plug (v0 : Nat) (v1 : Int32) (v2 : Int32) (σ : St) (post : Bool → St → Prop) : Prop :=
  ∀ s1 : St, s1 = u1 σ v0 0 (0 : Int32) →
  wX11_isNode v0 v1 s1 (fun r1 s2 =>
    (r1 = false →
      post false s2
    ) ∧ (r1 = true →
      wX11_isTable v0 v2 s2 (fun r2 s3 =>
        (r2 = false →
          post false s3
        ) ∧ (r2 = true →
          vp_in v2 16 ∧
          wX11_legsAt v0 v1 s3 (fun r3 s4 =>
            ((s3.1 (v0 + 9) v2.toNatClampNeg) = r3 →
              wX11_keeps v0 s4 (fun s5 =>
                ∃ j, wX11_plug_43 post j v0 v1 v2 (0 : Int32) s5)
            ) ∧ (¬ (s3.1 (v0 + 9) v2.toNatClampNeg) = r3 →
              post false s4))))))

def wX11_scale_37 (post : Bool → St → Prop) : Nat → Nat → Int32 → Int32 → Int32 → St → Prop
  | 0 => fun _ _ _ _ _ => False
  | n + 1 => fun v0 v1 v2 v3 σ =>
    ((16 : Int32) ≤ v3 →
      post true σ
    ) ∧ (¬ (16 : Int32) ≤ v3 →
      ∀ x1 : Int32, x1 = (((16 : Int32) * v1) + v3) →
      vp_in x1 117 ∧
      wX11_p v0 σ (fun r1 s1 =>
        (¬ r1 = 0) ∧
        vp_in (((16 : Int32) * v1) + v3) 117 ∧
        ∀ s2 : St, s2 = u1 s1 (v0 + 16) (((16 : Int32) * v1) + v3).toNatClampNeg (((σ.1 (v0 + 16) x1.toNatClampNeg) * v2) - ((σ.1 (v0 + 16) x1.toNatClampNeg) * v2) / r1 * r1) →
        ∀ x2 : Int32, x2 = v3 + (1 : Int32) →
        wX11_scale_37 post n v0 v1 v2 x2 s2))
def wX11_scale (v0 : Nat) (v1 : Int32) (v2 : Int32) (σ : St) (post : Bool → St → Prop) : Prop :=
  ∀ s1 : St, s1 = u1 σ v0 0 (0 : Int32) →
  wX11_isNode v0 v1 s1 (fun r1 s2 =>
    (r1 = false →
      post false s2
    ) ∧ (r1 = true →
      wX11_p v0 s2 (fun r2 s3 =>
        wX11_within (v2.toInt64) (1 : Int64) ((r2 - (1 : Int32)).toInt64) s3 (fun r3 s4 =>
          (r3 = true →
            wX11_keeps v0 s4 (fun s5 =>
              ∃ j, wX11_scale_37 post j v0 v1 v2 (0 : Int32) s5)
          ) ∧ (r3 = false →
            post false s4)))))

def wX11_swap_61 (post : Bool → St → Prop) : Nat → Nat → Int32 → Int32 → Int32 → Int32 → St → Prop
  | 0 => fun _ _ _ _ _ _ => False
  | n + 1 => fun v0 v1 v2 v3 v4 σ =>
    wX11_legsAt v0 v1 σ (fun r1 s1 =>
      (((1 : Int32) <<< (r1 &&& 31)) ≤ v4 →
        post true s1
      ) ∧ (¬ ((1 : Int32) <<< (r1 &&& 31)) ≤ v4 →
        (((v4 >>> (v2 &&& 31)) &&& (1 : Int32)) = 0 →
          ∀ x1 : Int32, x1 = v4 + (1 : Int32) →
          wX11_swap_61 post n v0 v1 v2 v3 x1 s1
        ) ∧ (¬ ((v4 >>> (v2 &&& 31)) &&& (1 : Int32)) = 0 →
          (¬ ((v4 >>> (v3 &&& 31)) &&& (1 : Int32)) = (1 : Int32) →
            ∀ x2 : Int32, x2 = ((v4 &&& (((1 : Int32) <<< (v2 &&& 31)) ^^^ (-1 : Int32))) ||| ((1 : Int32) <<< (v3 &&& 31))) →
            ∀ x3 : Int32, x3 = (((16 : Int32) * v1) + v4) →
            vp_in x3 117 ∧
            ∀ x4 : Int32, x4 = (s1.1 (v0 + 16) x3.toNatClampNeg) →
            ∀ x5 : Int32, x5 = (((16 : Int32) * v1) + x2) →
            vp_in x5 117 ∧
            vp_in (((16 : Int32) * v1) + v4) 117 ∧
            ∀ s2 : St, s2 = u1 s1 (v0 + 16) (((16 : Int32) * v1) + v4).toNatClampNeg (s1.1 (v0 + 16) x5.toNatClampNeg) →
            vp_in (((16 : Int32) * v1) + x2) 117 ∧
            ∀ s3 : St, s3 = u1 s2 (v0 + 16) (((16 : Int32) * v1) + x2).toNatClampNeg x4 →
            ∀ x6 : Int32, x6 = v4 + (1 : Int32) →
            wX11_swap_61 post n v0 v1 v2 v3 x6 s3
          ) ∧ (((v4 >>> (v3 &&& 31)) &&& (1 : Int32)) = (1 : Int32) →
            ∀ x7 : Int32, x7 = v4 + (1 : Int32) →
            wX11_swap_61 post n v0 v1 v2 v3 x7 s1))))
def wX11_swap (v0 : Nat) (v1 : Int32) (v2 : Int32) (v3 : Int32) (σ : St) (post : Bool → St → Prop) : Prop :=
  ∀ s1 : St, s1 = u1 σ v0 0 (0 : Int32) →
  wX11_isNode v0 v1 s1 (fun r1 s2 =>
    (r1 = false →
      post false s2
    ) ∧ (r1 = true →
      wX11_legsAt v0 v1 s2 (fun r2 s3 =>
        wX11_within (v2.toInt64) (0 : Int64) ((r2 - (1 : Int32)).toInt64) s3 (fun r3 s4 =>
          (r3 = false →
            post false s4
          ) ∧ (r3 = true →
            wX11_legsAt v0 v1 s4 (fun r4 s5 =>
              wX11_within (v3.toInt64) (0 : Int64) ((r4 - (1 : Int32)).toInt64) s5 (fun r5 s6 =>
                (r5 = false →
                  post false s6
                ) ∧ (r5 = true →
                  (¬ v2 = v3 →
                    wX11_keeps v0 s6 (fun s7 =>
                      ∃ j, wX11_swap_61 post j v0 v1 v2 v3 (0 : Int32) s7)
                  ) ∧ (v2 = v3 →
                    post false s6)))))))))

def wX11_isOpen (v0 : Nat) (v1 : Int32) (v2 : Int32) (σ : St) (post : Bool → St → Prop) : Prop :=
  wX11_isNode v0 v1 σ (fun r1 s1 =>
    (r1 = false →
      post false s1
    ) ∧ (r1 = true →
      wX11_legsAt v0 v1 s1 (fun r2 s2 =>
        wX11_within (v2.toInt64) (0 : Int64) ((r2 - (1 : Int32)).toInt64) s2 (fun r3 s3 =>
          (r3 = false →
            post false s3
          ) ∧ (r3 = true →
            wX11_wireAt v0 (((4 : Int32) * v1) + v2) s3 (fun r4 s4 =>
              (0 ≤ r4 →
                post false s4
              ) ∧ (¬ 0 ≤ r4 →
                post true s4)))))))

def wX11_join_35 (post : Int32 → St → Prop) (v0 : Nat) (v1 : Int32) (v2 : Int32) (v3 : Int32) (v4 : Int32) (σ : St) : Prop :=
  (¬ (σ.1 (v0 + 16) (116 : Int32).toNatClampNeg) = (10 : Int32) →
    wX11_keeps v0 σ (fun s1 =>
      vp_in ((96 : Int32) + ((2 : Int32) * (s1.1 (v0 + 16) (116 : Int32).toNatClampNeg))) 117 ∧
      ∀ s2 : St, s2 = u1 s1 (v0 + 16) ((96 : Int32) + ((2 : Int32) * (s1.1 (v0 + 16) (116 : Int32).toNatClampNeg))).toNatClampNeg (((4 : Int32) * v1) + v2) →
      vp_in (((96 : Int32) + ((2 : Int32) * (s2.1 (v0 + 16) (116 : Int32).toNatClampNeg))) + (1 : Int32)) 117 ∧
      ∀ s3 : St, s3 = u1 s2 (v0 + 16) (((96 : Int32) + ((2 : Int32) * (s2.1 (v0 + 16) (116 : Int32).toNatClampNeg))) + (1 : Int32)).toNatClampNeg (((4 : Int32) * v3) + v4) →
      ∀ s4 : St, s4 = u1 s3 (v0 + 16) (116 : Int32).toNatClampNeg ((s3.1 (v0 + 16) (116 : Int32).toNatClampNeg) + (1 : Int32)) →
      post ((s4.1 (v0 + 16) (116 : Int32).toNatClampNeg) - (1 : Int32)) s4)
  ) ∧ ((σ.1 (v0 + 16) (116 : Int32).toNatClampNeg) = (10 : Int32) →
    post (-1 : Int32) σ)
def wX11_join (v0 : Nat) (v1 : Int32) (v2 : Int32) (v3 : Int32) (v4 : Int32) (σ : St) (post : Int32 → St → Prop) : Prop :=
  ∀ s1 : St, s1 = u1 σ v0 0 (0 : Int32) →
  wX11_isOpen v0 v1 v2 s1 (fun r1 s2 =>
    (r1 = false →
      post (-1 : Int32) s2
    ) ∧ (r1 = true →
      wX11_isOpen v0 v3 v4 s2 (fun r2 s3 =>
        (r2 = false →
          post (-1 : Int32) s3
        ) ∧ (r2 = true →
          (¬ v1 = v3 →
            wX11_join_35 post v0 v1 v2 v3 v4 s3
          ) ∧ (v1 = v3 →
            (v2 = v4 →
              post (-1 : Int32) s3
            ) ∧ (¬ v2 = v4 →
              wX11_join_35 post v0 v1 v2 v3 v4 s3))))))

def wX11_cut_23 (post : Int32 → St → Prop) : Nat → Nat → Int32 → St → Prop
  | 0 => fun _ _ _ => False
  | n + 1 => fun v0 v2 σ =>
    (((2 : Int32) * (σ.1 (v0 + 16) (116 : Int32).toNatClampNeg)) ≤ (v2 + (2 : Int32)) →
      ∀ s1 : St, s1 = u1 σ (v0 + 16) (116 : Int32).toNatClampNeg ((σ.1 (v0 + 16) (116 : Int32).toNatClampNeg) - (1 : Int32)) →
      post (s1.1 (v0 + 16) (116 : Int32).toNatClampNeg) s1
    ) ∧ (¬ ((2 : Int32) * (σ.1 (v0 + 16) (116 : Int32).toNatClampNeg)) ≤ (v2 + (2 : Int32)) →
      ∀ x1 : Int32, x1 = (((96 : Int32) + v2) + (2 : Int32)) →
      vp_in x1 117 ∧
      vp_in ((96 : Int32) + v2) 117 ∧
      ∀ s2 : St, s2 = u1 σ (v0 + 16) ((96 : Int32) + v2).toNatClampNeg (σ.1 (v0 + 16) x1.toNatClampNeg) →
      ∀ x2 : Int32, x2 = v2 + (1 : Int32) →
      wX11_cut_23 post n v0 x2 s2)
def wX11_cut (v0 : Nat) (v1 : Int32) (σ : St) (post : Int32 → St → Prop) : Prop :=
  ∀ s1 : St, s1 = u1 σ v0 0 (0 : Int32) →
  wX11_isWire v0 v1 s1 (fun r1 s2 =>
    (r1 = true →
      wX11_keeps v0 s2 (fun s3 =>
        ∀ x1 : Int32, x1 = ((2 : Int32) * v1) →
        ∃ j, wX11_cut_23 post j v0 x1 s3)
    ) ∧ (r1 = false →
      post (-1 : Int32) s2))

def wX11_undo_26 (post : Int32 → St → Prop) : Nat → Nat → Int32 → St → Prop
  | 0 => fun _ _ _ => False
  | n + 1 => fun v0 v1 σ =>
    ((117 : Int32) ≤ v1 →
      post (σ.1 v0 32) σ
    ) ∧ (¬ (117 : Int32) ≤ v1 →
      ∀ x1 : Int32, x1 = (((117 : Int32) * (σ.1 v0 32)) + v1) →
      vp_in x1 1404 ∧
      vp_in v1 117 ∧
      ∀ s1 : St, s1 = u1 σ (v0 + 16) v1.toNatClampNeg (σ.1 (v0 + 17) x1.toNatClampNeg) →
      ∀ x2 : Int32, x2 = v1 + (1 : Int32) →
      wX11_undo_26 post n v0 x2 s1)
def wX11_undo (v0 : Nat) (σ : St) (post : Int32 → St → Prop) : Prop :=
  ∀ s1 : St, s1 = u1 σ v0 0 (0 : Int32) →
  (¬ (s1.1 v0 32) = 0 →
    ∀ s2 : St, s2 = u1 s1 v0 32 ((s1.1 v0 32) - (1 : Int32)) →
    ∃ j, wX11_undo_26 post j v0 (0 : Int32) s2
  ) ∧ ((s1.1 v0 32) = 0 →
    post (-1 : Int32) s1)

def wX11_keep_32 (post : Bool → St → Prop) : Nat → Nat → Int32 → Int32 → Int32 → St → Prop
  | 0 => fun _ _ _ _ _ => False
  | n + 1 => fun v0 v1 v2 v3 σ =>
    ((117 : Int32) ≤ v3 →
      (v2 = 0 →
        vp_in v1 2 ∧
        ∀ s1 : St, s1 = u1 σ (v0 + 19) v1.toNatClampNeg (vp_nar .boolean (1 : Int32)) →
        post true s1
      ) ∧ (¬ v2 = 0 →
        ∀ s2 : St, s2 = u1 σ v0 32 (0 : Int32) →
        post true s2)
    ) ∧ (¬ (117 : Int32) ≤ v3 →
      (v2 = 0 →
        vp_in v3 117 ∧
        vp_in (((117 : Int32) * v1) + v3) 234 ∧
        ∀ s3 : St, s3 = u1 σ (v0 + 18) (((117 : Int32) * v1) + v3).toNatClampNeg (σ.1 (v0 + 16) v3.toNatClampNeg) →
        ∀ x1 : Int32, x1 = v3 + (1 : Int32) →
        wX11_keep_32 post n v0 v1 v2 x1 s3
      ) ∧ (¬ v2 = 0 →
        ∀ x2 : Int32, x2 = (((117 : Int32) * v1) + v3) →
        vp_in x2 234 ∧
        vp_in v3 117 ∧
        ∀ s4 : St, s4 = u1 σ (v0 + 16) v3.toNatClampNeg (σ.1 (v0 + 18) x2.toNatClampNeg) →
        ∀ x3 : Int32, x3 = v3 + (1 : Int32) →
        wX11_keep_32 post n v0 v1 v2 x3 s4))
def wX11_keep_30 (post : Bool → St → Prop) (v0 : Nat) (v1 : Int32) (v2 : Int32) (σ : St) : Prop :=
  ∃ j, wX11_keep_32 post j v0 v1 v2 (0 : Int32) σ
def wX11_keep (v0 : Nat) (v1 : Int32) (v2 : Int32) (σ : St) (post : Bool → St → Prop) : Prop :=
  ∀ s1 : St, s1 = u1 σ v0 0 (0 : Int32) →
  wX11_within (v1.toInt64) (0 : Int64) (1 : Int64) s1 (fun r1 s2 =>
    (r1 = false →
      post false s2
    ) ∧ (r1 = true →
      (v2 = 0 →
        wX11_keep_30 post v0 v1 v2 s2
      ) ∧ (¬ v2 = 0 →
        vp_in v1 2 ∧
        (¬ (s2.1 (v0 + 19) v1.toNatClampNeg) = 0 →
          wX11_keep_30 post v0 v1 v2 s2
        ) ∧ ((s2.1 (v0 + 19) v1.toNatClampNeg) = 0 →
          post false s2))))

def wX11_count (v0 : Nat) (v1 : Int32) (σ : St) (post : Int32 → St → Prop) : Prop :=
  ∀ s1 : St, s1 = u1 σ v0 0 (0 : Int32) →
  (v1 = (0 : Int32) →
    wX11_p v0 s1 (fun r1 s2 =>
      post r1 s2)
  ) ∧ (¬ v1 = (0 : Int32) →
  (v1 = (1 : Int32) →
    post (s1.1 (v0 + 3) (0 : Int32).toNatClampNeg) s1
  ) ∧ (¬ v1 = (1 : Int32) →
  (v1 = (2 : Int32) →
    post (s1.1 (v0 + 4) (0 : Int32).toNatClampNeg) s1
  ) ∧ (¬ v1 = (2 : Int32) →
  (v1 = (3 : Int32) →
    post (s1.1 (v0 + 5) (0 : Int32).toNatClampNeg) s1
  ) ∧ (¬ v1 = (3 : Int32) →
  (v1 = (4 : Int32) →
    post (s1.1 (v0 + 16) (116 : Int32).toNatClampNeg) s1
  ) ∧ (¬ v1 = (4 : Int32) →
  (v1 = (5 : Int32) →
    wX11_laysOpen v0 s1 (fun s3 =>
      post (s3.1 v0 39) s3)
  ) ∧ (¬ v1 = (5 : Int32) →
  (v1 = (6 : Int32) →
    post (s1.1 v0 32) s1
  ) ∧ (¬ v1 = (6 : Int32) →
  (v1 = (7 : Int32) →
    post (s1.1 v0 2) s1
  ) ∧ (¬ v1 = (7 : Int32) →
    post (-1 : Int32) s1))))))))
