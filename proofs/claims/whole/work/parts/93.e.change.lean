/-! change -/
def invF (d : Int32) (P : Nat) : Int32 := findI (fun k => decide (md (d * nI k) P = 1)) nI 0 1 (P - 1)
theorem findI_or {Q : Nat → Bool} {r : Nat → Int32} {d : Int32} : ∀ (m a : Nat), (findI Q r d a m = d) ∨ ∃ k, a ≤ k ∧ k < a + m ∧ findI Q r d a m = r k ∧ Q k = true
  | 0, a => Or.inl rfl
  | m + 1, a => by
    rw [findI]
    by_cases h : Q a = true
    · rw [if_pos h]; exact Or.inr ⟨a, by omega, by omega, rfl, h⟩
    · rw [if_neg h]
      rcases findI_or m (a + 1) with h1 | ⟨k, h1, h2, h3, h4⟩
      · exact Or.inl h1
      · exact Or.inr ⟨k, by omega, by omega, h3, h4⟩
theorem invF_Sm {d : Int32} {P : Nat} (h : 0 < P) (h2 : P < 2 ^ 31) : Sm P (invF d P) := by
  unfold invF
  rcases findI_or (Q := fun k => decide (md (d * nI k) P = 1)) (r := nI) (d := 0) (P - 1) 1 with e | ⟨k, h1, h3, e, _⟩
  · rw [e, show (0 : Int32) = nI 0 from rfl]
    exact Sm_nI h h2
  · rw [e]
    exact Sm_nI (by omega) h2
theorem c_inverse {d : Int32} {P : Nat} {σ : St} {post : Int32 → St → Prop} (h : 0 < P) (h2 : P < 2 ^ 31) (k : post (invF d P) σ) : wX1_inverse d (nI P) σ post := by
  unfold wX1_inverse
  have hm : ∀ m i, i + m = P → 1 ≤ i → invF d P = findI (fun k => decide (md (d * nI k) P = 1)) nI 0 i m → wX1_inverse_2 post (m + 1) d (nI P) (nI i) σ := by
    intro m
    induction m with
    | zero =>
      intro i e _ hf
      unfold wX1_inverse_2
      refine ⟨fun _ => ?_, fun q => absurd (nI_le (by omega) (by omega)) q⟩
      rw [hf] at k
      exact k
    | succ m ih =>
      intro i e h1 hf
      unfold wX1_inverse_2
      refine ⟨fun q => absurd q (nI_ge (by omega) (by omega)), fun _ => c_mod h h2 ⟨fun q => ?_, fun q => ?_⟩⟩
      · rintro _ rfl
        rw [nI_1]
        refine ih (i + 1) (by omega) (by omega) ?_
        rw [hf, findI, if_neg (by simp [q])]
      · rw [hf, findI, if_pos (by simp [q])] at k
        exact k
  exact ⟨P - 1 + 1, hm (P - 1) 1 (by omega) (by omega) rfl⟩
theorem m_inverse {d : Int32} {P : Nat} {τ : St} {post : Int32 → St → Prop} (h0 : 0 < P) (h97 : P ≤ 97) (hP : τ.1 2 0 = nI P) (hd : Sm P d) (hex : ∃ y, 1 ≤ y ∧ y < P ∧ md (d * nI y) P = 1) (k : post (invF d P) τ) : wX11_inverse 0 d τ post := by
  unfold wX11_inverse
  have hm : ∀ m i, i + m = P → 1 ≤ i → (∃ y, i ≤ y ∧ y < P ∧ md (d * nI y) P = 1) → invF d P = findI (fun k => decide (md (d * nI k) P = 1)) nI 0 i m → wX11_inverse_2 post (m + 1) 0 d (nI i) τ := by
    intro m
    induction m with
    | zero =>
      rintro i e _ ⟨y, h1, h2, _⟩ _
      omega
    | succ m ih =>
      rintro i e h1 ⟨y, hy1, hy2, hy3⟩ hf
      unfold wX11_inverse_2 wX11_p
      rw [show τ.1 (0 + 2) (0 : Int32).toNatClampNeg = nI P from hP]
      have er := rem_md (x := d * nI i) h0 (by omega) (mul_nn h97 hd (Sm_nI (show i < P by omega) (by omega))).2.1
      refine ⟨nI_ne0 h0 (by omega), fun q => ?_, fun q => ?_⟩ <;> rw [er] at q
      · rw [hf, findI, if_pos (by simp [q])] at k
        exact k
      · rintro _ rfl
        rw [nI_1]
        have hne : y ≠ i := fun e => q (by rw [← e]; exact hy3)
        refine ih (i + 1) (by omega) (by omega) ⟨y, by omega, hy2, hy3⟩ ?_
        rw [hf, findI, if_neg (by simp [q])]
  exact ⟨P - 1 + 1, hm (P - 1) 1 (by omega) (by omega) hex rfl⟩
theorem chF_Sm {n leg P : Nat} {a b c d : Int32} {v : Nat → Int32} (h0 : 0 < P) (hP : P < 2 ^ 31) (h : ∀ j, j < 2 ^ n → Sm P (v j)) : ∀ i, i ≤ 2 ^ n → ∀ j, j < 2 ^ n → Sm P (chF leg a b c d P v i j) := by
  intro i
  induction i with
  | zero => intro _ j hj; exact h j hj
  | succ i ih =>
    intro hi j hj
    rw [chF, chS]
    split
    · exact ih (by omega) j hj
    · unfold upd
      split
      · exact md_Sm h0 hP
      · split
        · exact md_Sm h0 hP
        · exact ih (by omega) j hj
def chN (P : Nat) (nl : Nat → Nat) (w : NetT) (x : Nat) (a b c d : Int32) : NetT := setN w (x / 4) (chF (x % 4) a b c d P (w.2.2 (x / 4)) (2 ^ nl (x / 4)))
section CH
variable {t P tn bn nn : Nat} {lg tof : Nat → Nat} {tv bv : Nat → Nat → Int32} {L : Nat} {tp : Nat → Int32} {nw nw' : NetT} {sz old sz' old' : Nat} {ac ac' : Nat → NetT} {kb kb' : Nat → Bool} {kn kn' : Nat → NetT} {σ τ σ' τ' : St} {nl : Nat → Nat} {w : NetT} {N j : Nat}
theorem TabV.inv (h : TabV P tn bn lg tv bv) {d : Int32} (hd : Sm P d) (hz : d ≠ 0) : ∃ y, 1 ≤ y ∧ y < P ∧ md (d * nI y) P = 1 := by
  have h97 := h.1.2.1
  have h3 := h.1.1
  obtain ⟨x, hx, rfl⟩ := hd.nI h.p31
  have hx0 : 0 < x := by
    cases x with
    | zero => exact absurd nI_0 hz
    | succ x => omega
  obtain ⟨y, y1, y2, y3⟩ := h.1.2.2 x hx0 hx
  refine ⟨y, y1, y2, ?_⟩
  have hle : x * y ≤ 97 * 97 := Nat.mul_le_mul (by omega) (by omega)
  rw [pk_mul, md_nI (by omega), y3]
  rfl
theorem NetV.ch {x : Nat} {a b c d : Int32} (h : NetV P nn nl w) (h0 : 0 < P) (hP : P < 2 ^ 31) (hx : x / 4 < nn) : NetV P nn nl (chN P nl w x a b c d) := h.vals (fun i hi => chF_Sm h0 hP (h.2.2.2 _ hx) _ (Nat.le_refl _) i hi)
theorem c_chLeg {x v2 : Nat} {a b c d : Int32} {post : St → Prop} (hV : RV P tn bn nn lg tof tv bv L tp nw sz old ac kb kn) (hX : RX t P tn bn nn lg tof tv bv L tp nw sz old ac kb kn σ) (hx : x / 4 < nn ∧ x % 4 < lg (tof (x / 4))) (hv : v2 < 86 ∨ 101 ≤ v2) (ha : σ.1 v2 0 = a) (hb : σ.1 v2 1 = b) (hc : σ.1 v2 2 = c) (hd : σ.1 v2 3 = d) (k : ∀ s, RX t P tn bn nn lg tof tv bv L tp (chN P (fun n => lg (tof n)) nw x a b c d) sz old ac kb kn s → (∀ o, (o < 86 ∨ 101 ≤ o) → s.1 o = σ.1 o) → post s) : wX10_changeLegOfNet 0 (nI x) v2 σ post := by
  have hn := hV.2.1.1
  have h4 : lg (tof (x / 4)) ≤ 4 := hV.hl _ hx.1
  unfold wX10_changeLegOfNet
  rw [show (4 : Int32) = nI 4 from rfl, pk_rem (by omega) (by decide) (by decide), pk_div (by omega) (by decide) (by decide)]
  rintro _ rfl
  refine ⟨vp_in_nI (by omega) (by decide), ?_⟩
  rintro _ rfl
  simp only [Nat.zero_add]
  rw [hX.1.p, hX.1.pr, nI_clamp (by omega)]
  obtain ⟨g1, g2⟩ := hX.2.2.2.1.2.2.2 _ hx.1
  refine ⟨kX_t hX.1.1, s_changeLeg g1 h4 hx.2 (by omega) hV.1.p0 hV.1.p31 (fun s m1 m2 m3 => k s (hX.now hV (fun o ho => m2 o (by omega)) (hX.2.2.2.1.vals (fun o h1 h2 => m2 o h2) (by rw [m2 _ (by omega)]; exact g1) (fun i hi => ?_))) (fun o ho => m2 o (by omega)))⟩
  rw [m1, ha, hb, hc, hd]
  exact chF_cg h4 hx.2 g2 _ (Nat.le_refl _) i hi
theorem c_setInv {v1 : Nat} {a b c d : Int32} {post : St → Prop} (hV : TabV P tn bn lg tv bv) (hv : v1 ≠ 315) (ha : σ.1 v1 0 = a) (hb : σ.1 v1 1 = b) (hc : σ.1 v1 2 = c) (hd : σ.1 v1 3 = d) (k : ∀ s, (∀ o, o ≠ 315 → s.1 o = σ.1 o) → s.1 315 0 = md (d * invF (md (a * d - b * c) P) P) P → s.1 315 1 = md (-c * invF (md (a * d - b * c) P) P) P → s.1 315 2 = md (-b * invF (md (a * d - b * c) P) P) P → s.1 315 3 = md (a * invF (md (a * d - b * c) P) P) P → post s) : wX1_setInverseTurnedOver 315 v1 (nI P) σ post := by
  have h0 := hV.p0
  have hP := hV.p31
  unfold wX1_setInverseTurnedOver wX1_determinant
  rw [ha, hb, hc, hd]
  refine c_mod h0 hP (c_inverse h0 hP (c_mod h0 hP ?_))
  rintro _ rfl
  rw [u1_n hv, hc]
  refine c_mod h0 hP ?_
  rintro _ rfl
  rw [u1_n hv, u1_n hv, hb]
  refine c_mod h0 hP ?_
  rintro _ rfl
  rw [u1_n hv, u1_n hv, u1_n hv, ha]
  refine c_mod h0 hP ?_
  rintro _ rfl
  refine k _ (fun o ho => by rw [u1_n ho, u1_n ho, u1_n ho, u1_n ho]) ?_ ?_ ?_ ?_
  · rw [u1_s, pk_un (by decide), u1_s, pk_un (by decide), u1_s, pk_un (by decide), u1_s, pk_us, hd]
  · rw [u1_s, pk_un (by decide), u1_s, pk_un (by decide), u1_s, pk_us]
  · rw [u1_s, pk_un (by decide), u1_s, pk_us]
  · rw [u1_s, pk_us]
def chgN (P : Nat) (nl : Nat → Nat) (w : NetT) (j : Nat) (f : Nat → Int32) : NetT :=
  chN P nl (chN P nl w (w.2.1 (2 * j)) (f 0) (f 1) (f 2) (f 3)) (w.2.1 (2 * j + 1)) (md (f 3 * invF (md (f 0 * f 3 - f 1 * f 2) P) P) P) (md (-f 2 * invF (md (f 0 * f 3 - f 1 * f 2) P) P) P) (md (-f 1 * invF (md (f 0 * f 3 - f 1 * f 2) P) P) P) (md (f 0 * invF (md (f 0 * f 3 - f 1 * f 2) P) P) P)
theorem C_change {a b : Int32} {post : Bool → St → Prop} (hV : RV P tn bn nn lg tof tv bv L tp nw sz old ac kb kn) (hX : RX t P tn bn nn lg tof tv bv L tp nw sz old ac kb kn σ) (k : ((ixB a nw.1 && ixB b bn) = false → post false σ) ∧ ((ixB a nw.1 && ixB b bn) = true → ∀ s, RX t P tn bn nn lg tof tv bv L tp (chgN P (fun n => lg (tof n)) nw a.toNatClampNeg (bv b.toNatClampNeg)) (remS sz) (remO sz old) (remA sz ac nw) kb kn s → post true s)) : wX10_change 0 a b σ post := by
  have hn := hV.2.1.1
  have hw := hV.2.2.2.1.1
  have h5 := hV.1.b5
  unfold wX10_change
  simp only [Nat.zero_add]
  refine c_hasWire hX.2.2.2.1 hw ⟨fun q => k.1 (by rw [q]; rfl), fun q => c_isBase hX.1 h5 ⟨fun q2 => ?_, fun q2 => k.1 (by rw [q2]; simp)⟩⟩
  have k := k.2 (by rw [q, q2]; rfl)
  obtain ⟨j, hj, rfl⟩ := ixB_t (by omega) q
  obtain ⟨y, hy, rfl⟩ := ixB_t (by omega) q2
  rw [nI_clamp (by omega), nI_clamp (by omega)] at k
  rw [nI_clamp (by omega)]
  refine C_rem hV hX (fun s hs => ?_)
  have ht : t = 2 ∨ t = 44 := hX.1.1
  rintro _ rfl
  rw [hs.1.p]
  refine ⟨kX_t ht, vp_in_nI (by omega) (by decide), ?_⟩
  rw [show (2 : Int32) = nI 2 from rfl, pk_mul]
  rintro _ rfl
  refine ⟨vp_in_nI (by omega) (by decide), ?_⟩
  rw [nI_clamp (by omega), hs.2.2.2.1.2.2.1 _ (by omega)]
  have v1 := hV.2.2.2.1.2.1 (2 * j) (by omega)
  have v2 := hV.2.2.2.1.2.1 (2 * j + 1) (by omega)
  refine c_chLeg hV.rem hs v1 (by omega) (hs.1.bas hy (by decide)) (hs.1.bas hy (by decide)) (hs.1.bas hy (by decide)) (hs.1.bas hy (by decide)) (fun s2 hs2 f2 => ?_)
  rintro _ rfl
  rw [hs2.1.p, hs2.1.pr]
  refine ⟨kX_t ht, c_setInv hV.1 (by omega) (hs2.1.bas hy (by decide)) (hs2.1.bas hy (by decide)) (hs2.1.bas hy (by decide)) (hs2.1.bas hy (by decide)) (fun s3 f3 e0 e1 e2 e3 => ?_)⟩
  have hV2 := hV.rem.now (hV.2.2.2.1.ch (x := nw.2.1 (2 * j)) (a := bv y 0) (b := bv y 1) (c := bv y 2) (d := bv y 3) hV.1.p0 hV.1.p31 v1.1)
  have hs3 := RX.fr hV2 hs2 (fun o ho => f3 o (by omega))
  rw [nI_1]
  rintro _ rfl
  refine ⟨vp_in_nI (by omega) (by decide), ?_⟩
  rw [nI_clamp (by omega), hs3.2.2.2.1.2.2.1 (2 * j + 1) (by show 2 * j + 1 < 2 * nw.1; omega)]
  exact c_chLeg hV2 hs3 v2 (by omega) e0 e1 e2 e3 (fun s4 hs4 f4 => k s4 hs4)
theorem m_chLeg {x : Nat} {a b c d : Int32} {post : St → Prop} (hV : RV P tn bn nn lg tof tv bv L tp nw sz old ac kb kn) (hM : RM P tn bn nn lg tof tv bv L tp nw sz ac kb kn τ) (hx : x / 4 < nn ∧ x % 4 < lg (tof (x / 4))) (k : ∀ s, RM P tn bn nn lg tof tv bv L tp (chN P (fun n => lg (tof n)) nw x a b c d) sz ac kb kn s → post s) : wX11_changes 117 0 (0 + 16) (nI (16 * (x / 4))) (nI (lg (tof (x / 4)))) (nI (x % 4)) a b c d τ post := by
  have hn := hV.2.1.1
  have h4 : lg (tof (x / 4)) ≤ 4 := hV.hl _ hx.1
  have h16 := p2le h4
  refine m_changes h4 hx.2 (by omega) (by decide) (by decide) hM.1.1 hV.1.p0 hV.1.p31 (fun s e1 e2 e3 e4 => k s (hM.now (fun j hj => by rw [e3 0 (by decide)]) (fun o h1 h2 h3 => e3 o h3) (hM.2.2.2.1.vals hn hV.hl hV.2.2.2.1.1 hx.1 (fun z hz => e2 z (by omega)) (fun i hi => ?_))))
  rw [show s.1 16 (16 * (x / 4) + i) = _ from e1 i hi]
  exact chF_cg h4 hx.2 (fun z hz => hM.2.2.2.1.2.2 _ hx.1 z hz) _ (Nat.le_refl _) i hi
theorem M_change {a b : Int32} {post : Bool → St → Prop} (hV : RV P tn bn nn lg tof tv bv L tp nw sz old ac kb kn) (hM : RM P tn bn nn lg tof tv bv L tp nw sz ac kb kn τ) (k : ((ixB a nw.1 && ixB b bn) = false → ∀ v, FM τ v → post false v) ∧ ((ixB a nw.1 && ixB b bn) = true → ∀ s, RM P tn bn nn lg tof tv bv L tp (chgN P (fun n => lg (tof n)) nw a.toNatClampNeg (bv b.toNatClampNeg)) (remS sz) (remA sz ac nw) kb kn s → post true s)) : wX11_change 0 a b τ post := by
  have hF : FM τ (u1 τ 0 0 0) := FM.u0 (by decide)
  have hM1 := hM.fr hF
  have hn := hV.2.1.1
  have hw := hV.2.2.2.1.1
  have h5 := hV.1.b5
  have h97 := hV.1.1.2.1
  have h0 := hV.1.p0
  have hP := hV.1.p31
  unfold wX11_change
  rintro _ rfl
  generalize u1 τ 0 0 0 = τ1 at *
  refine m_isWire hM1.2.2.2.1 hw ⟨fun q => k.1 (by rw [q]; rfl) _ hF, fun q => m_isBase hM1.1 h5 ⟨fun q2 => ?_, fun q2 => k.1 (by rw [q2]; simp) _ hF⟩⟩
  have k := k.2 (by rw [q, q2]; rfl)
  obtain ⟨j, hj, rfl⟩ := ixB_t (by omega) q
  obtain ⟨y, hy, rfl⟩ := ixB_t (by omega) q2
  rw [nI_clamp (by omega), nI_clamp (by omega)] at k
  refine M_rem hV hM1 (fun s hs => ?_)
  have v1 := hV.2.2.2.1.2.1 (2 * j) (by omega)
  have v2 := hV.2.2.2.1.2.1 (2 * j + 1) (by omega)
  have l1 := hV.2.2.2.1.lt hn (e := 2 * j) (by omega)
  have l2 := hV.2.2.2.1.lt hn (e := 2 * j + 1) (by omega)
  have eb0 : s.1 11 (4 * y) = bv y 0 := hs.1.bas hy (k := 0) (by decide)
  have eb1 : s.1 11 (4 * y + 1) = bv y 1 := hs.1.bas hy (k := 1) (by decide)
  have eb2 : s.1 11 (4 * y + 2) = bv y 2 := hs.1.bas hy (k := 2) (by decide)
  have eb3 : s.1 11 (4 * y + 3) = bv y 3 := hs.1.bas hy (k := 3) (by decide)
  obtain ⟨sm, dne⟩ := hV.1.2.2.2.2 y hy
  rw [show (96 : Int32) = nI 96 from rfl, show (2 : Int32) = nI 2 from rfl, show (4 : Int32) = nI 4 from rfl, show (3 : Int32) = nI 3 from rfl, show (16 : Int32) = nI 16 from rfl, pk_mul, nI_add, pk_mul, nI_add, nI_add, nI_1, nI_1]
  rintro _ rfl
  refine ⟨vp_in_nI (by omega) (by decide), ?_⟩
  rintro _ rfl _ rfl
  refine ⟨vp_in_nI (by omega) (by decide), ?_⟩
  rintro _ rfl
  rw [nI_clamp (by omega), nI_clamp (by omega), show s.1 (0 + 16) (96 + 2 * j) = nI (nw.2.1 (2 * j)) from hs.2.2.2.1.2.1 (2 * j) (by omega), show s.1 (0 + 16) (96 + 2 * j + 1) = nI (nw.2.1 (2 * j + 1)) from by rw [Nat.add_assoc]; exact hs.2.2.2.1.2.1 (2 * j + 1) (by omega)]
  unfold wX11_det wX11_p
  rw [show s.1 (0 + 2) (0 : Int32).toNatClampNeg = nI P from hs.1.1]
  rw [show (4 : Int32) = nI 4 from rfl, show (1 : Int32) = nI 1 from rfl, show (2 : Int32) = nI 2 from rfl, show (3 : Int32) = nI 3 from rfl, pk_mul, nI_add, nI_add, nI_add]
  rintro _ rfl
  refine ⟨vp_in_nI (by omega) (by decide), ?_⟩
  rintro _ rfl
  refine ⟨vp_in_nI (by omega) (by decide), ?_⟩
  rintro _ rfl
  refine ⟨vp_in_nI (by omega) (by decide), ?_⟩
  rintro _ rfl
  refine ⟨vp_in_nI (by omega) (by decide), m_mod h0 hP ?_⟩
  rw [nI_clamp (by omega), nI_clamp (by omega), nI_clamp (by omega), nI_clamp (by omega)]
  simp only [Nat.zero_add]
  rw [eb0, eb1, eb2, eb3]
  refine m_inverse h0 h97 hs.1.1 (md_Sm h0 hP) (hV.1.inv (md_Sm h0 hP) dne) ?_
  rintro _ rfl
  refine ⟨vp_in_nI (by omega) (by decide), ?_⟩
  rintro _ rfl _ rfl
  refine ⟨vp_in_nI (by omega) (by decide), ?_⟩
  rintro _ rfl _ rfl
  refine ⟨vp_in_nI (by omega) (by decide), ?_⟩
  rintro _ rfl
  rw [pk_rem (by omega) (by decide) (by decide), pk_div (by omega) (by decide) (by decide), pk_rem (by omega) (by decide) (by decide), pk_div (by omega) (by decide) (by decide)]
  refine m_legsAt hV.2.1 hV.1 hs.2.1 hs.1 v1.1 ?_
  rintro _ rfl
  refine ⟨vp_in_nI (by omega) (by decide), ?_⟩
  rw [nI_clamp (by omega), nI_clamp (by omega), nI_clamp (by omega), nI_clamp (by omega), eb0, eb1, eb2, eb3, pk_mul, pk_mul]
  refine m_chLeg hV.rem hs v1 (fun s2 hs2 => ?_)
  have hV2 := hV.rem.now (hV.2.2.2.1.ch (x := nw.2.1 (2 * j)) (a := bv y 0) (b := bv y 1) (c := bv y 2) (d := bv y 3) h0 hP v1.1)
  refine m_legsAt hV.2.1 hV.1 hs2.2.1 hs2.1 v2.1 ?_
  have eP : s2.1 2 (0 : Int32).toNatClampNeg = nI P := hs2.1.1
  have ec1 : s2.1 11 (4 * y + 1) = bv y 1 := hs2.1.bas hy (k := 1) (by decide)
  rw [eP]
  have smi : Sm P (invF (md (bv y 0 * bv y 3 - bv y 1 * bv y 2) P) P) := invF_Sm h0 hP
  refine ⟨nI_ne0 h0 hP, m_mod h0 hP ?_⟩
  rintro _ rfl
  refine ⟨vp_in_nI (by omega) (by decide), ?_⟩
  rw [eP]
  refine m_mod h0 hP ?_
  rw [eP, nI_clamp (by omega), ec1]
  refine ⟨nI_ne0 h0 hP, ?_⟩
  rw [rem_md h0 hP (mul_nn h97 (sm 3 (by decide)) smi).2.1, rem_md h0 hP (mul_nn h97 (sm 0 (by decide)) smi).2.1]
  exact m_chLeg hV2 hs2 v2 (fun s4 hs4 => k s4 hs4)
theorem S_change (hR : Rel σ τ) (a b : Int32) : wX10_change 0 a b σ (fun r u => wX11_change 0 a b τ (fun r2 v => r = r2 ∧ Rel u v)) := by
  obtain ⟨t, P, tn, bn, nn, lg, tof, tv, bv, L, tp, nw, sz, old, ac, kb, kn, hV, hX, hM⟩ := id hR
  have hw := hV.2.2.2.1.1
  refine C_change hV hX ⟨fun h => M_change hV hM ⟨fun _ v hv => ⟨rfl, hR.fr (FX.rf σ) hv⟩, fun h2 => absurd (h.symm.trans h2) (by decide)⟩, fun h s hs => M_change hV hM ⟨fun h2 => absurd (h.symm.trans h2) (by decide), fun _ v hv => ⟨rfl, t, P, tn, bn, nn, lg, tof, tv, bv, L, tp, _, _, _, _, kb, kn, hV.rem.now ?_, hs, hv⟩⟩⟩
  simp only [Bool.and_eq_true] at h
  obtain ⟨j, hj, rfl⟩ := ixB_t (by omega) h.1
  rw [nI_clamp (by omega)]
  have v1 := hV.2.2.2.1.2.1 (2 * j) (by omega)
  have v2 := hV.2.2.2.1.2.1 (2 * j + 1) (by omega)
  exact (hV.2.2.2.1.ch hV.1.p0 hV.1.p31 v1.1).ch hV.1.p0 hV.1.p31 v2.1
end CH
