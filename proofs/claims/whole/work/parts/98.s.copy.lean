/-! the reference copies what it read -/
section CP
variable {t P : Nat} {σ τ σ' τ' u : St} {tp : Nat → Int32} {n : Nat} {U : Nat → Nat} {a : Nat} {D : PD}
def FK (τ s : St) : Prop := (∀ o, (o = 0 ∨ o = 1 ∨ (13 ≤ o ∧ o ≠ 16)) → s.1 o = τ.1 o)
theorem m_copies {tn bn nn : Nat} {lg tof : Nat → Nat} {tv bv : Nat → Nat → Int32} {w : NetT} {tna bna nna : Nat → Nat} {post : St → Prop} (h1 : τ.1 2 1 = nI P) (h2 : τ.1 3 1 = nI tn) (h3 : τ.1 4 1 = nI bn) (h4 : τ.1 5 1 = nI nn) (h5 : ∀ j, j < tn → τ.1 9 (8 + j) = nI (lg j) ∧ ∀ i, i < 2 ^ lg j → τ.1 10 (16 * (8 + j) + i) = tv j i) (h6 : ∀ j, j < bn → ∀ k, k < 4 → τ.1 11 (4 * (5 + j) + k) = bv j k) (h7 : ∀ m, m < nn → τ.1 12 (6 + m) = nI (tof m)) (h8 : τ.1 0 24 = nI w.1) (h9 : ∀ e, e < 2 * w.1 → τ.1 13 e = nI (w.2.1 e)) (hV : PrV P tn bn nn lg tof tv bv w tna bna nna) (k : ∀ u, FK τ u → TabM P tn bn lg tv bv u → NodM nn tof u → NetM nn (fun m => lg (tof m)) w (u.1 16) → post u) : wX11_copies 0 τ post := by
  have ht8 := hV.1.t8
  have hb5 := hV.1.b5
  have hn6 := hV.2.1.1
  have hw := hV.2.2.1.1
  have hl4 : ∀ j, j < tn → lg j ≤ 4 := fun j hj => hV.1.l4 hj
  have htf := hV.2.1.2
  have hev : ∀ m, m < nn → ∀ i, i < 2 ^ lg (tof m) → w.2.2 m i = tv (tof m) i := hV.2.2.2.1
  unfold wX11_copies
  rintro _ rfl _ rfl _ rfl _ rfl
  simp only [Nat.zero_add]
  generalize hs0 : (u1 (u1 (u1 (u1 τ 2 (0 : Int32).toNatClampNeg (τ.1 2 (1 : Int32).toNatClampNeg)) 3 (0 : Int32).toNatClampNeg _) 4 (0 : Int32).toNatClampNeg _) 5 (0 : Int32).toNatClampNeg _) = s0
  have Z : (0 : Int32).toNatClampNeg = 0 := rfl
  have O : (1 : Int32).toNatClampNeg = 1 := rfl
  have A : (∀ o, o ≠ 2 → o ≠ 3 → o ≠ 4 → o ≠ 5 → s0.1 o = τ.1 o) ∧ s0.1 2 0 = nI P ∧ s0.1 3 0 = nI tn ∧ s0.1 4 0 = nI bn ∧ s0.1 5 0 = nI nn := by
    subst hs0
    simp only [Z, O]
    refine ⟨fun o o2 o3 o4 o5 => by rw [u1_n o5, u1_n o4, u1_n o3, u1_n o2], ?_, ?_, ?_, ?_⟩
    · rw [u1_n (by decide), u1_n (by decide), u1_n (by decide), u1_s, pk_us]; exact h1
    · rw [u1_n (by decide), u1_n (by decide), u1_s, pk_us, u1_n (by decide)]; exact h2
    · rw [u1_n (by decide), u1_s, pk_us, u1_n (by decide), u1_n (by decide)]; exact h3
    · rw [u1_s, pk_us, u1_n (by decide), u1_n (by decide), u1_n (by decide)]; exact h4
  obtain ⟨A0, A2, A3, A4, A5⟩ := A
  clear hs0
  refine loop_0 (fun j i (s : St) => wX11_copies_50 post j 0 (nI i) s) (fun i s => (∀ o, o ≠ 9 → s.1 o = s0.1 o) ∧ (∀ x, 8 ≤ x → s.1 9 x = s0.1 9 x) ∧ ∀ x, x < i → s.1 9 x = s0.1 9 (8 + x)) 8 s0 ⟨fun o _ => rfl, fun x _ => rfl, fun x hx => by omega⟩ ?_ ?_
  case refine_2 =>
    rintro j i s hi ⟨i1, i2, i3⟩ ih
    unfold wX11_copies_50
    refine ⟨fun d => absurd d (nI_ge (b := 8) hi (by decide)), fun _ => ?_⟩
    rw [show (8 : Int32) = nI 8 from rfl, nI_add]
    rintro _ rfl
    refine ⟨vp_in_nI (by omega) (by decide), vp_in_nI (by omega) (by decide), ?_⟩
    rintro _ rfl _ rfl
    refine ⟨vp_in_nI (by omega) (by decide), vp_in_nI (by omega) (by decide), ?_⟩
    rw [nI_clamp (by omega), nI_clamp (by omega), nI_1, u2_1, show s.1 (0 + 9) (8 + i) = s0.1 9 (8 + i) from i2 _ (by omega)]
    rintro _ rfl _ rfl
    refine ih _ ⟨fun o o1 => by rw [u1_n o1, u2_1]; exact i1 o o1, fun x hx => ?_, fun x hx => ?_⟩
    · show (u1 _ 9 i _).1 9 x = _
      rw [u1_s, pk_un (by omega), u2_1]; exact i2 x hx
    · show (u1 _ 9 i _).1 9 x = _
      rw [u1_s]
      by_cases c : x = i
      · rw [c, pk_us]
      · rw [pk_un c, u2_1]; exact i3 x (by omega)
  rintro j s1 ⟨b1, _, b3⟩
  unfold wX11_copies_50
  refine ⟨fun _ => ?_, fun d => absurd (nI_le (a := 8) (Nat.le_refl _) (by decide)) d⟩
  refine loop_0 (fun j i (s : St) => wX11_copies_94 post j 0 (nI i) s) (fun i s => (∀ o, o ≠ 10 → s.1 o = s1.1 o) ∧ (∀ x, 128 ≤ x → s.1 10 x = s1.1 10 x) ∧ ∀ x, x < i → s.1 10 x = s1.1 10 (128 + x)) 128 s1 ⟨fun o _ => rfl, fun x _ => rfl, fun x hx => by omega⟩ ?_ ?_
  case refine_2 =>
    rintro j i s hi ⟨i1, i2, i3⟩ ih
    unfold wX11_copies_94
    refine ⟨fun d => absurd d (nI_ge (b := 128) hi (by decide)), fun _ => ?_⟩
    rw [show (128 : Int32) = nI 128 from rfl, nI_add]
    rintro _ rfl
    refine ⟨vp_in_nI (by omega) (by decide), vp_in_nI (by omega) (by decide), ?_⟩
    rw [nI_clamp (by omega), nI_clamp (by omega), nI_1, show s.1 (0 + 10) (128 + i) = s1.1 10 (128 + i) from i2 _ (by omega)]
    rintro _ rfl _ rfl
    refine ih _ ⟨fun o o1 => by rw [u1_n o1]; exact i1 o o1, fun x hx => ?_, fun x hx => ?_⟩
    · show (u1 _ 10 i _).1 10 x = _
      rw [u1_s, pk_un (by omega)]; exact i2 x hx
    · show (u1 _ 10 i _).1 10 x = _
      rw [u1_s]
      by_cases c : x = i
      · rw [c, pk_us]
      · rw [pk_un c]; exact i3 x (by omega)
  rintro j s2 ⟨c1, _, c3⟩
  unfold wX11_copies_94
  refine ⟨fun _ => ?_, fun d => absurd (nI_le (a := 128) (Nat.le_refl _) (by decide)) d⟩
  refine loop_0 (fun j i (s : St) => wX11_copies_125 post j 0 (nI i) s) (fun i s => s.1 = s2.1) 5 s2 rfl ?_ ?_
  case refine_2 =>
    rintro j i s hi i1 ih
    unfold wX11_copies_125
    refine ⟨fun d => absurd d (nI_ge (b := 5) hi (by decide)), fun _ => ?_⟩
    rw [show (5 : Int32) = nI 5 from rfl, nI_add]
    rintro _ rfl
    refine ⟨vp_in_nI (by omega) (by decide), vp_in_nI (by omega) (by decide), ?_⟩
    rw [nI_1]
    rintro _ rfl _ rfl
    exact ih _ i1
  rintro j s3 d1
  unfold wX11_copies_125
  refine ⟨fun _ => ?_, fun d => absurd (nI_le (a := 5) (Nat.le_refl _) (by decide)) d⟩
  refine loop_0 (fun j i (s : St) => wX11_copies_152 post j 0 (nI i) s) (fun i s => (∀ o, o ≠ 11 → s.1 o = s3.1 o) ∧ (∀ x, 20 ≤ x → s.1 11 x = s3.1 11 x) ∧ ∀ x, x < i → s.1 11 x = s3.1 11 (20 + x)) 20 s3 ⟨fun o _ => rfl, fun x _ => rfl, fun x hx => by omega⟩ ?_ ?_
  case refine_2 =>
    rintro j i s hi ⟨i1, i2, i3⟩ ih
    unfold wX11_copies_152
    refine ⟨fun d => absurd d (nI_ge (b := 20) hi (by decide)), fun _ => ?_⟩
    rw [show (20 : Int32) = nI 20 from rfl, nI_add]
    rintro _ rfl
    refine ⟨vp_in_nI (by omega) (by decide), vp_in_nI (by omega) (by decide), ?_⟩
    rw [nI_clamp (by omega), nI_clamp (by omega), nI_1, show s.1 (0 + 11) (20 + i) = s3.1 11 (20 + i) from i2 _ (by omega)]
    rintro _ rfl _ rfl
    refine ih _ ⟨fun o o1 => by rw [u1_n o1]; exact i1 o o1, fun x hx => ?_, fun x hx => ?_⟩
    · show (u1 _ 11 i _).1 11 x = _
      rw [u1_s, pk_un (by omega)]; exact i2 x hx
    · show (u1 _ 11 i _).1 11 x = _
      rw [u1_s]
      by_cases c : x = i
      · rw [c, pk_us]
      · rw [pk_un c]; exact i3 x (by omega)
  rintro j s4 ⟨e1, _, e3⟩
  unfold wX11_copies_152
  refine ⟨fun _ => ?_, fun d => absurd (nI_le (a := 20) (Nat.le_refl _) (by decide)) d⟩
  refine loop_0 (fun j i (s : St) => wX11_copies_181 post j 0 (nI i) s) (fun i s => (∀ o, o ≠ 16 → s.1 o = s4.1 o)) 117 s4 (fun o _ => rfl) ?_ ?_
  case refine_2 =>
    rintro j i s hi i1 ih
    unfold wX11_copies_181
    refine ⟨fun d => absurd d (nI_ge (b := 117) hi (by decide)), fun _ => ⟨vp_in_nI (by omega) (by decide), ?_⟩⟩
    rw [nI_1]
    rintro _ rfl _ rfl
    exact ih _ (fun o o1 => by rw [u1_n o1]; exact i1 o o1)
  rintro j s5 f1
  unfold wX11_copies_181
  refine ⟨fun _ => ?_, fun d => absurd (nI_le (a := 117) (Nat.le_refl _) (by decide)) d⟩
  have G : ∀ o, o ≠ 2 → o ≠ 3 → o ≠ 4 → o ≠ 5 → o ≠ 9 → o ≠ 10 → o ≠ 11 → o ≠ 16 → s5.1 o = τ.1 o := fun o o2 o3 o4 o5 o9 o10 o11 o16 => by rw [f1 o o16, e1 o o11, d1, c1 o o10, b1 o o9, A0 o o2 o3 o4 o5]
  have G2 : ∀ o, 2 ≤ o → o ≤ 5 → s5.1 o = s0.1 o := fun o o1 o2 => by rw [f1 o (by omega), e1 o (by omega), d1, c1 o (by omega), b1 o (by omega)]
  have g9 : ∀ j, j < tn → s5.1 9 j = nI (lg j) := fun j hj => by rw [f1 9 (by decide), e1 9 (by decide), d1, c1 9 (by decide), b3 j (by omega), A0 9 (by decide) (by decide) (by decide) (by decide)]; exact (h5 j hj).1
  have g10 : ∀ j, j < tn → ∀ i, i < 2 ^ lg j → s5.1 10 (16 * j + i) = tv j i := fun j hj i hi => by
    have := lt16 _ (hl4 j hj) i hi
    rw [f1 10 (by decide), e1 10 (by decide), d1, c3 _ (by omega), b1 10 (by decide), A0 10 (by decide) (by decide) (by decide) (by decide), show 128 + (16 * j + i) = 16 * (8 + j) + i by omega]
    exact (h5 j hj).2 i hi
  have g11 : ∀ j, j < bn → ∀ k, k < 4 → s5.1 11 (4 * j + k) = bv j k := fun j hj k hk => by
    rw [f1 11 (by decide), e3 _ (by omega), d1, c1 11 (by decide), b1 11 (by decide), A0 11 (by decide) (by decide) (by decide) (by decide), show 20 + (4 * j + k) = 4 * (5 + j) + k by omega]
    exact h6 j hj k hk
  have g12 : ∀ x, s5.1 12 x = τ.1 12 x := fun x => by rw [G 12 (by decide) (by decide) (by decide) (by decide) (by decide) (by decide) (by decide) (by decide)]
  have g50 : s5.1 5 0 = nI nn := by rw [G2 5 (by decide) (by decide)]; exact A5
  refine loop_0 (fun j i (s : St) => wX11_copies_202 post j 0 (nI i) s) (fun i s => (∀ o, o ≠ 12 → o ≠ 16 → s.1 o = s5.1 o) ∧ (∀ x, 6 ≤ x → s.1 12 x = τ.1 12 x) ∧ (∀ x, x < i → s.1 12 x = nI (tof x)) ∧ ∀ m, m < i → ∀ x, x < 2 ^ lg (tof m) → s.1 16 (16 * m + x) = w.2.2 m x) nn s5 ⟨fun o _ _ => rfl, fun x _ => g12 x, fun x hx => by omega, fun m hm => by omega⟩ ?_ ?_
  case refine_2 =>
    rintro j i s hi ⟨i1, i2, i3, i4⟩ ih
    have htl := htf i hi
    unfold wX11_copies_202
    rw [show (0 : Int32).toNatClampNeg = 0 from rfl, show s.1 (0 + 5) 0 = nI nn by rw [show (0 + 5 : Nat) = 5 from rfl, i1 5 (by decide) (by decide)]; exact g50]
    refine ⟨fun d => absurd d (nI_ge hi (by omega)), fun _ => ?_⟩
    rw [show (6 : Int32) = nI 6 from rfl, nI_add]
    rintro _ rfl
    refine ⟨vp_in_nI (by omega) (by decide), vp_in_nI (by omega) (by decide), ?_⟩
    rintro _ rfl _ rfl
    refine ⟨vp_in_nI (by omega) (by decide), vp_in_nI (by omega) (by decide), ?_⟩
    rw [nI_clamp (by omega), nI_clamp (by omega), u2_1, show s.1 (0 + 12) (6 + i) = nI (tof i) by rw [show (0 + 12 : Nat) = 12 from rfl, i2 _ (by omega)]; exact h7 i hi]
    rintro _ rfl
    generalize hy0 : u1 (u2 s (0 + 8) i _) (0 + 12) i (nI (tof i)) = y0
    have Y : (∀ o, o ≠ 12 → y0.1 o = s.1 o) ∧ y0.1 12 i = nI (tof i) ∧ ∀ x, x ≠ i → y0.1 12 x = s.1 12 x := by
      subst hy0
      refine ⟨fun o ho => by rw [u1_n ho, u2_1], ?_, fun x hx => ?_⟩
      · show (u1 _ 12 i _).1 12 i = _
        rw [u1_s, pk_us]
      · show (u1 _ 12 i _).1 12 x = _
        rw [u1_s, pk_un hx, u2_1]
    obtain ⟨Y1, Y2, Y3⟩ := Y
    clear hy0
    refine loop_0 (fun j x (y : St) => wX11_copies_244 post _ j 0 (nI i) (nI x) y) (fun x y => (∀ o, o ≠ 16 → y.1 o = y0.1 o) ∧ (∀ z, z < 16 * i → y.1 16 z = y0.1 16 z) ∧ ∀ z, z < x → y.1 16 (16 * i + z) = y0.1 10 (16 * tof i + z)) 16 y0 ⟨fun o _ => rfl, fun z _ => rfl, fun z hz => by omega⟩ ?_ ?_
    · rintro j' y ⟨y1, y2, y3⟩
      unfold wX11_copies_244
      refine ⟨fun _ => ?_, fun d => absurd (nI_le (a := 16) (Nat.le_refl _) (by decide)) d⟩
      rw [nI_1]
      rintro _ rfl
      refine ih y ⟨fun o o1 o2 => by rw [y1 o o2, Y1 o o1]; exact i1 o o1 o2, fun x hx => by rw [y1 12 (by decide), Y3 x (by omega)]; exact i2 x hx, fun x hx => ?_, fun m hm x hx => ?_⟩
      · rw [y1 12 (by decide)]
        by_cases c : x = i
        · rw [c]; exact Y2
        · rw [Y3 x c]; exact i3 x (by omega)
      · by_cases c : m = i
        · subst c
          have := lt16 _ (hl4 _ htl) x hx
          rw [y3 x this, Y1 10 (by decide), i1 10 (by decide) (by decide), g10 _ htl x hx, hev m hi x hx]
        · have := lt16 _ (hl4 _ (htf m (by omega))) x hx
          rw [y2 _ (by omega), Y1 16 (by decide)]
          exact i4 m (by omega) x hx
    · rintro j' x y hx ⟨y1, y2, y3⟩ ih'
      unfold wX11_copies_244
      refine ⟨fun d => absurd d (nI_ge (b := 16) hx (by decide)), fun _ => ⟨vp_in_nI (by omega) (by decide), ?_⟩⟩
      rw [nI_clamp (by omega), show y.1 (0 + 12) i = nI (tof i) by rw [show (0 + 12 : Nat) = 12 from rfl, y1 12 (by decide)]; exact Y2, show (16 : Int32) = nI 16 from rfl, pk_mul, pk_mul, nI_add, nI_add]
      rintro _ rfl
      refine ⟨vp_in_nI (by omega) (by decide), vp_in_nI (by omega) (by decide), ?_⟩
      rw [nI_clamp (by omega), nI_clamp (by omega), nI_1, show y.1 (0 + 10) (16 * tof i + x) = y0.1 10 (16 * tof i + x) by rw [show (0 + 10 : Nat) = 10 from rfl, y1 10 (by decide)]]
      rintro _ rfl _ rfl
      refine ih' _ ⟨fun o o1 => by rw [u1_n o1]; exact y1 o o1, fun z hz => ?_, fun z hz => ?_⟩
      · show (u1 _ 16 _ _).1 16 z = _
        rw [u1_s, pk_un (by omega)]; exact y2 z hz
      · show (u1 _ 16 _ _).1 16 _ = _
        rw [u1_s]
        by_cases c : z = x
        · rw [c, pk_us]
        · rw [pk_un (by omega)]; exact y3 z (by omega)
  rintro j s6 ⟨i1, i2, i3, i4⟩
  unfold wX11_copies_202
  rw [show (0 : Int32).toNatClampNeg = 0 from rfl, show s6.1 (0 + 5) 0 = nI nn by rw [show (0 + 5 : Nat) = 5 from rfl, i1 5 (by decide) (by decide)]; exact g50]
  refine ⟨fun _ => ?_, fun d => absurd (nI_le (Nat.le_refl _) (by omega)) d⟩
  have g24 : s6.1 0 24 = nI w.1 := by rw [i1 0 (by decide) (by decide), G 0 (by decide) (by decide) (by decide) (by decide) (by decide) (by decide) (by decide) (by decide)]; exact h8
  have g13 : s6.1 13 = τ.1 13 := by rw [i1 13 (by decide) (by decide), G 13 (by decide) (by decide) (by decide) (by decide) (by decide) (by decide) (by decide) (by decide)]
  refine loop_0 (fun j i (s : St) => wX11_copies_291 post j 0 (nI i) s) (fun i s => (∀ o, o ≠ 16 → s.1 o = s6.1 o) ∧ (∀ z, z < 96 → s.1 16 z = s6.1 16 z) ∧ ∀ z, z < i → s.1 16 (96 + z) = nI (w.2.1 z)) (2 * w.1) s6 ⟨fun o _ => rfl, fun z _ => rfl, fun z hz => by omega⟩ ?_ ?_
  · rintro j' y ⟨y1, y2, y3⟩
    unfold wX11_copies_291
    rw [show y.1 0 24 = nI w.1 by rw [y1 0 (by decide)]; exact g24, show (2 : Int32) = nI 2 from rfl, pk_mul]
    refine ⟨fun _ => ?_, fun d => absurd (nI_le (Nat.le_refl _) (by omega)) d⟩
    rintro _ rfl
    have F : ∀ o, o ≠ 16 → (u1 y (0 + 16) (116 : Int32).toNatClampNeg (nI w.1)).1 o = s6.1 o := fun o ho => by rw [u1_n ho]; exact y1 o ho
    have E : (u1 y (0 + 16) (116 : Int32).toNatClampNeg (nI w.1)).1 16 = upd (y.1 16) 116 (nI w.1) := u1_s
    refine k _ (fun o ho => by rw [F o (by omega), i1 o (by omega) (by omega), G o (by omega) (by omega) (by omega) (by omega) (by omega) (by omega) (by omega) (by omega)]) ⟨?_, ?_, ?_, fun j hj => ⟨?_, fun i hi => ?_⟩, fun j hj k hk => ?_⟩ ⟨?_, fun m hm => ?_⟩ ⟨?_, fun e he => ?_, fun m hm i hi => ?_⟩
    · rw [F 2 (by decide), i1 2 (by decide) (by decide), G2 2 (by decide) (by decide)]; exact A2
    · rw [F 3 (by decide), i1 3 (by decide) (by decide), G2 3 (by decide) (by decide)]; exact A3
    · rw [F 4 (by decide), i1 4 (by decide) (by decide), G2 4 (by decide) (by decide)]; exact A4
    · rw [F 9 (by decide), i1 9 (by decide) (by decide)]; exact g9 j hj
    · rw [F 10 (by decide), i1 10 (by decide) (by decide)]; exact g10 j hj i hi
    · rw [F 11 (by decide), i1 11 (by decide) (by decide)]; exact g11 j hj k hk
    · rw [F 5 (by decide), i1 5 (by decide) (by decide)]; exact g50
    · rw [F 12 (by decide)]; exact i3 m hm
    · rw [E, pk_us]
    · rw [E, pk_un (by omega)]; exact y3 e he
    · have hi : i < 2 ^ lg (tof m) := hi
      have := lt16 _ (hl4 _ (htf m hm)) i hi
      rw [E, pk_un (by omega), y2 _ (by omega)]
      exact i4 m hm i hi
  · rintro j' i y hi ⟨y1, y2, y3⟩ ih
    unfold wX11_copies_291
    rw [show y.1 0 24 = nI w.1 by rw [y1 0 (by decide)]; exact g24, show (2 : Int32) = nI 2 from rfl, pk_mul]
    refine ⟨fun d => absurd d (nI_ge hi (by omega)), fun _ => ⟨vp_in_nI (by omega) (by decide), ?_⟩⟩
    rw [show (96 : Int32) = nI 96 from rfl, nI_add]
    refine ⟨vp_in_nI (by omega) (by decide), ?_⟩
    rw [nI_clamp (by omega), nI_clamp (by omega), nI_1, show y.1 (0 + 13) i = nI (w.2.1 i) by rw [show (0 + 13 : Nat) = 13 from rfl, y1 13 (by decide), g13]; exact h9 i hi]
    rintro _ rfl _ rfl
    refine ih _ ⟨fun o o1 => by rw [u1_n o1]; exact y1 o o1, fun z hz => ?_, fun z hz => ?_⟩
    · show (u1 _ 16 _ _).1 16 z = _
      rw [u1_s, pk_un (by omega)]; exact y2 z hz
    · show (u1 _ 16 _ _).1 16 _ = _
      rw [u1_s]
      by_cases c : z = i
      · rw [c, pk_us]
      · rw [pk_un (by omega)]; exact y3 z (by omega)
end CP
