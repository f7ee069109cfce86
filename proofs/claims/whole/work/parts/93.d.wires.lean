/-! cut, join, change -/
def cutN (w : NetT) (j : Nat) : NetT := (w.1 - 1, fun e => if e < 2 * j then w.2.1 e else w.2.1 (e + 2), w.2.2)
def addN (w : NetT) (x y : Nat) : NetT := (w.1 + 1, fun e => if e = 2 * w.1 then x else if e = 2 * w.1 + 1 then y else w.2.1 e, w.2.2)
section WR
variable {t P tn bn nn : Nat} {lg tof : Nat → Nat} {tv bv : Nat → Nat → Int32} {L : Nat} {tp : Nat → Int32} {nw nw' : NetT} {sz old sz' old' : Nat} {ac ac' : Nat → NetT} {kb kb' : Nat → Bool} {kn kn' : Nat → NetT} {σ τ σ' τ' : St} {nl : Nat → Nat} {w : NetT} {N j : Nat}
theorem NetV.cut (h : NetV P nn nl w) (hj : j < w.1) : NetV P nn nl (cutN w j) := by
  obtain ⟨h1, h2, h3, h4⟩ := h
  refine ⟨?_, fun e he => ?_, fun e e' he he' => ?_, h4⟩
  · show w.1 - 1 ≤ 10
    omega
  · have he : e < 2 * (w.1 - 1) := he
    show (if e < 2 * j then w.2.1 e else w.2.1 (e + 2)) / 4 < nn ∧ (if e < 2 * j then w.2.1 e else w.2.1 (e + 2)) % 4 < nl ((if e < 2 * j then w.2.1 e else w.2.1 (e + 2)) / 4)
    split
    · exact h2 e (by omega)
    · exact h2 (e + 2) (by omega)
  · have he' : e' < 2 * (w.1 - 1) := he'
    show (if e < 2 * j then w.2.1 e else w.2.1 (e + 2)) ≠ (if e' < 2 * j then w.2.1 e' else w.2.1 (e' + 2))
    split
    · split
      · exact h3 e e' he (by omega)
      · exact h3 e (e' + 2) (by omega) (by omega)
    · split
      · omega
      · exact h3 (e + 2) (e' + 2) (by omega) (by omega)
theorem NetV.add {x y : Nat} (h : NetV P nn nl w) (hw : w.1 < 10) (hx : x / 4 < nn ∧ x % 4 < nl (x / 4)) (hy : y / 4 < nn ∧ y % 4 < nl (y / 4)) (hxy : x ≠ y) (nx : wiB w.2.1 (2 * w.1) x = false) (ny : wiB w.2.1 (2 * w.1) y = false) : NetV P nn nl (addN w x y) := by
  obtain ⟨h1, h2, h3, h4⟩ := h
  have nx := wiB_no.mp nx
  have ny := wiB_no.mp ny
  refine ⟨?_, fun e he => ?_, fun e e' he he' => ?_, h4⟩
  · show w.1 + 1 ≤ 10
    omega
  · have he : e < 2 * (w.1 + 1) := he
    have g : ∀ z, (z = x ∨ z = y ∨ ∃ e, e < 2 * w.1 ∧ z = w.2.1 e) → z / 4 < nn ∧ z % 4 < nl (z / 4) := by
      rintro z (rfl | rfl | ⟨e, he, rfl⟩)
      · exact hx
      · exact hy
      · exact h2 e he
    refine g _ ?_
    show (if e = 2 * w.1 then x else if e = 2 * w.1 + 1 then y else w.2.1 e) = x ∨ _
    by_cases e1 : e = 2 * w.1
    · rw [if_pos e1]; exact Or.inl rfl
    · rw [if_neg e1]
      by_cases e2 : e = 2 * w.1 + 1
      · rw [if_pos e2]
        refine Or.inr (Or.inl ?_)
        show (if e = 2 * w.1 then x else if e = 2 * w.1 + 1 then y else w.2.1 e) = y
        rw [if_neg e1, if_pos e2]
      · refine Or.inr (Or.inr ⟨e, by omega, ?_⟩)
        show (if e = 2 * w.1 then x else if e = 2 * w.1 + 1 then y else w.2.1 e) = w.2.1 e
        rw [if_neg e1, if_neg e2]
  · have he' : e' < 2 * (w.1 + 1) := he'
    show (if e = 2 * w.1 then x else if e = 2 * w.1 + 1 then y else w.2.1 e) ≠ (if e' = 2 * w.1 then x else if e' = 2 * w.1 + 1 then y else w.2.1 e')
    by_cases e1 : e' = 2 * w.1
    · rw [if_pos e1, if_neg (by omega), if_neg (by omega)]
      exact nx e (by omega)
    · rw [if_neg e1]
      by_cases e2 : e' = 2 * w.1 + 1
      · rw [if_pos e2]
        by_cases e3 : e = 2 * w.1
        · rw [if_pos e3]; exact hxy
        · rw [if_neg e3, if_neg (by omega)]
          exact ny e (by omega)
      · rw [if_neg e2, if_neg (by omega), if_neg (by omega)]
        exact h3 e e' he (by omega)
theorem c_cut {post : St → Prop} (h : NetX nn nl w N σ) (hn : nn ≤ 6) (hw : w.1 ≤ 10) (hj : j < w.1) (k : ∀ s, NetX nn nl (cutN w j) N s → (∀ o, (o < N ∨ N + 15 ≤ o) → s.1 o = σ.1 o) → post s) : wX4_removeWire N (nI j) σ post := by
  obtain ⟨h1, h2, h3, h4⟩ := h
  obtain ⟨y, hy⟩ : ∃ y, w.1 = y + 1 := ⟨w.1 - 1, by omega⟩
  have hc : (cutN w j).1 = y := by show w.1 - 1 = y; omega
  unfold wX4_removeWire
  rw [show (2 : Int32) = nI 2 from rfl, pk_mul]
  rintro _ rfl
  refine pk_loop (fun x i (s : St) => wX4_removeWire_4 post x N (nI i) s) (fun i s => 2 * j ≤ i ∧ (∀ o, o ≠ N + 2 → s.1 o = σ.1 o) ∧ (∀ x, x < i → x < 2 * y → s.1 (N + 2) x = nI (if x < 2 * j then w.2.1 x else w.2.1 (x + 2))) ∧ (∀ x, i ≤ x → x < 2 * w.1 → s.1 (N + 2) x = nI (w.2.1 x))) (2 * y) (2 * j) σ (by omega) ⟨Nat.le_refl _, fun _ _ => rfl, fun x h1 h2 => by rw [h3 x (by omega), if_pos h1], fun x h1 h2 => h3 x h2⟩ ?_ ?_
  · rintro x s ⟨i0, i1, i2, i3⟩
    unfold wX4_removeWire_4
    rw [i1 N (by omega), h2, hy, nI_pred, show (2 : Int32) = nI 2 from rfl, pk_mul]
    refine ⟨fun _ => ?_, fun q => absurd (nI_le (Nat.le_refl _) (by omega)) q⟩
    rintro _ rfl
    refine k _ ⟨by rw [u1_s, pk_un (by decide), i1 N (by omega)]; exact h1, by rw [u1_s, pk_us, hc], fun e he => ?_, fun z hz => ⟨by rw [u1_n (by omega), i1 _ (by omega)]; exact (h4 z hz).1, fun i hi => by rw [u1_n (by omega), i1 _ (by omega)]; exact (h4 z hz).2 i hi⟩⟩ (fun o ho => by rw [u1_n (by omega), i1 _ (by omega)])
    rw [hc] at he
    rw [u1_n (by omega), i2 e (by omega) (by omega)]
    rfl
  · rintro x i s hi ⟨i0, i1, i2, i3⟩ ih
    unfold wX4_removeWire_4
    rw [i1 N (by omega), h2, hy, nI_pred, show (2 : Int32) = nI 2 from rfl, pk_mul, nI_add]
    refine ⟨fun q => absurd q (nI_ge hi (by omega)), fun _ => ?_⟩
    rintro _ rfl
    refine ⟨vp_in_nI (by omega) (by decide), vp_in_nI (by omega) (by decide), ?_⟩
    rintro _ rfl _ rfl
    rw [nI_1, nI_clamp (by omega), nI_clamp (by omega), i3 (i + 2) (by omega) (by omega)]
    refine ih _ ⟨by omega, fun o ho => by rw [u1_n ho, i1 o ho], fun x h1 h2 => ?_, fun x h1 h2 => by rw [u1_s, pk_un (by omega)]; exact i3 x (by omega) h2⟩
    rw [u1_s]
    by_cases e : x = i
    · subst e
      rw [pk_us, if_neg (by omega)]
    · rw [pk_un e]; exact i2 x (by omega) h2
theorem C_cut {a : Int32} {post : Int32 → St → Prop} (hV : RV P tn bn nn lg tof tv bv L tp nw sz old ac kb kn) (hX : RX t P tn bn nn lg tof tv bv L tp nw sz old ac kb kn σ) (k : (ixB a nw.1 = false → post (-1) σ) ∧ (ixB a nw.1 = true → ∀ s, RX t P tn bn nn lg tof tv bv L tp (cutN nw a.toNatClampNeg) (remS sz) (remO sz old) (remA sz ac nw) kb kn s → post (nI (nw.1 - 1)) s)) : wX10_cut 0 a σ post := by
  have hn := hV.2.1.1
  have hw := hV.2.2.2.1.1
  unfold wX10_cut
  simp only [Nat.zero_add]
  refine c_hasWire hX.2.2.2.1 hw ⟨fun q => ?_, fun q => k.1 q⟩
  have k := k.2 q
  obtain ⟨j, hj, rfl⟩ := ixB_t (by omega) q
  rw [nI_clamp (by omega)] at k
  refine C_rem hV hX (fun s hs => c_cut hs.2.2.2.1 hn hw hj (fun s' g1 g2 => ?_))
  rw [g1.2.1]
  exact k s' (hs.now hV.rem (fun o ho => g2 o (by omega)) g1)
theorem M_cut {a : Int32} {post : Int32 → St → Prop} (hV : RV P tn bn nn lg tof tv bv L tp nw sz old ac kb kn) (hM : RM P tn bn nn lg tof tv bv L tp nw sz ac kb kn τ) (k : (ixB a nw.1 = false → ∀ v, FM τ v → post (-1) v) ∧ (ixB a nw.1 = true → ∀ s, RM P tn bn nn lg tof tv bv L tp (cutN nw a.toNatClampNeg) (remS sz) (remA sz ac nw) kb kn s → post (nI (nw.1 - 1)) s)) : wX11_cut 0 a τ post := by
  have hF : FM τ (u1 τ 0 0 0) := FM.u0 (by decide)
  have hM1 := hM.fr hF
  have hn := hV.2.1.1
  have hw := hV.2.2.2.1.1
  unfold wX11_cut
  rintro _ rfl
  generalize u1 τ 0 0 0 = τ1 at *
  refine m_isWire hM1.2.2.2.1 hw ⟨fun q => ?_, fun q => k.1 q _ hF⟩
  have k := k.2 q
  obtain ⟨j, hj, rfl⟩ := ixB_t (by omega) q
  rw [nI_clamp (by omega)] at k
  obtain ⟨y, hy⟩ : ∃ y, nw.1 = y + 1 := ⟨nw.1 - 1, by omega⟩
  have hc : (cutN nw j).1 = y := by show nw.1 - 1 = y; omega
  refine M_rem hV hM1 (fun s hs => ?_)
  obtain ⟨m1, m2, m3⟩ := hs.2.2.2.1
  rw [show (2 : Int32) = nI 2 from rfl, pk_mul]
  rintro _ rfl
  refine pk_loop (fun x i (r : St) => wX11_cut_23 post x 0 (nI i) r) (fun i r => 2 * j ≤ i ∧ (∀ o, o ≠ 16 → r.1 o = s.1 o) ∧ (∀ x, x < i → x < 2 * y → r.1 16 (96 + x) = nI (if x < 2 * j then nw.2.1 x else nw.2.1 (x + 2))) ∧ (∀ x, (x < 96 ∨ 96 + i ≤ x) → r.1 16 x = s.1 16 x)) (2 * y) (2 * j) s (by omega) ⟨Nat.le_refl _, fun _ _ => rfl, fun x h1 h2 => by rw [m2 x (by omega), if_pos h1], fun _ _ => rfl⟩ ?_ ?_
  · rintro x r ⟨i0, i1, i2, i3⟩
    have e116 : r.1 (0 + 16) (116 : Int32).toNatClampNeg = nI (y + 1) := by
      show r.1 16 116 = _
      rw [i3 116 (by omega), m1, hy]
    unfold wX11_cut_23
    rw [e116, nI_pred, show (2 : Int32) = nI 2 from rfl, pk_mul, nI_add]
    refine ⟨fun _ => ?_, fun q => absurd (nI_le (by omega) (by omega)) q⟩
    rintro _ rfl
    have e2 : (u1 r (0 + 16) (116 : Int32).toNatClampNeg (nI y)).1 (0 + 16) (116 : Int32).toNatClampNeg = nI y := by rw [u1_s, pk_us]
    rw [e2]
    have e3 : ∀ x, x ≠ 116 → (u1 r (0 + 16) (116 : Int32).toNatClampNeg (nI y)).1 16 x = r.1 16 x := fun x hx => by
      rw [show (0 + 16 : Nat) = 16 from rfl, u1_s]
      exact pk_un hx
    have k := k (u1 r (0 + 16) (116 : Int32).toNatClampNeg (nI y)) (hs.now (fun j hj => by rw [u1_n (by decide), i1 0 (by decide)]) (fun o h1 h2 h3 => by rw [u1_n (by omega), i1 o h3]) ⟨by rw [hc]; exact e2, fun e he => ?_, fun z hz i hi => ?_⟩)
    · rw [hy] at k; exact k
    · rw [hc] at he
      rw [e3 _ (by omega), i2 e (by omega) (by omega)]
      rfl
    · have h16 := p2le (hV.hl z hz)
      rw [e3 _ (by omega), i3 _ (by omega)]
      exact m3 z hz i hi
  · rintro x i r hi ⟨i0, i1, i2, i3⟩ ih
    have e116 : r.1 (0 + 16) (116 : Int32).toNatClampNeg = nI (y + 1) := by
      show r.1 16 116 = _
      rw [i3 116 (by omega), m1, hy]
    unfold wX11_cut_23
    rw [e116]
    simp only [Nat.zero_add]
    rw [show (2 : Int32) = nI 2 from rfl, pk_mul, show (96 : Int32) = nI 96 from rfl, nI_add, nI_add, nI_add]
    refine ⟨fun q => absurd q (nI_ge (by omega) (by omega)), fun _ => ?_⟩
    rintro _ rfl
    refine ⟨vp_in_nI (by omega) (by decide), vp_in_nI (by omega) (by decide), ?_⟩
    rintro _ rfl _ rfl
    rw [nI_1, nI_clamp (by omega), nI_clamp (by omega), i3 (96 + i + 2) (by omega), Nat.add_assoc, m2 (i + 2) (by omega)]
    refine ih _ ⟨by omega, fun o ho => by rw [u1_n ho, i1 o ho], fun x h1 h2 => ?_, fun x hx => by rw [u1_s, pk_un (by omega)]; exact i3 x (by omega)⟩
    rw [u1_s]
    by_cases e : x = i
    · subst e
      rw [pk_us, if_neg (by omega)]
    · rw [pk_un (by omega)]; exact i2 x (by omega) h2
theorem S_cut (hR : Rel σ τ) (a : Int32) : wX10_cut 0 a σ (fun r u => wX11_cut 0 a τ (fun r2 v => r = r2 ∧ Rel u v)) := by
  obtain ⟨t, P, tn, bn, nn, lg, tof, tv, bv, L, tp, nw, sz, old, ac, kb, kn, hV, hX, hM⟩ := id hR
  have hw := hV.2.2.2.1.1
  refine C_cut hV hX ⟨fun h => M_cut hV hM ⟨fun _ v hv => ⟨rfl, hR.fr (FX.rf σ) hv⟩, fun h2 => absurd (h.symm.trans h2) (by decide)⟩, fun h s hs => M_cut hV hM ⟨fun h2 => absurd (h.symm.trans h2) (by decide), fun _ v hv => ⟨rfl, t, P, tn, bn, nn, lg, tof, tv, bv, L, tp, _, _, _, _, kb, kn, hV.rem.now (hV.2.2.2.1.cut ?_), hs, hv⟩⟩⟩
  obtain ⟨j, hj, rfl⟩ := ixB_t (by omega) h
  rw [nI_clamp (by omega)]; exact hj
def opB (nn : Nat) (nl : Nat → Nat) (w : NetT) (a b : Int32) : Bool := (ixB a nn && ixB b (nl a.toNatClampNeg)) && !wiB w.2.1 (2 * w.1) (4 * a.toNatClampNeg + b.toNatClampNeg)
def joinB (nn : Nat) (nl : Nat → Nat) (w : NetT) (a b c d : Int32) : Bool := opB nn nl w a b && (opB nn nl w c d && (!decide (4 * a.toNatClampNeg + b.toNatClampNeg = 4 * c.toNatClampNeg + d.toNatClampNeg) && decide (w.1 < 10)))
theorem C_join {a b c d : Int32} {post : Int32 → St → Prop} (hV : RV P tn bn nn lg tof tv bv L tp nw sz old ac kb kn) (hX : RX t P tn bn nn lg tof tv bv L tp nw sz old ac kb kn σ) (k : (joinB nn (fun n => lg (tof n)) nw a b c d = false → post (-1) σ) ∧ (joinB nn (fun n => lg (tof n)) nw a b c d = true → ∀ s, RX t P tn bn nn lg tof tv bv L tp (addN nw (4 * a.toNatClampNeg + b.toNatClampNeg) (4 * c.toNatClampNeg + d.toNatClampNeg)) (remS sz) (remO sz old) (remA sz ac nw) kb kn s → post (nI nw.1) s)) : wX10_join 0 a b c d σ post := by
  have hn := hV.2.1.1
  have hw := hV.2.2.2.1.1
  unfold wX10_join
  simp only [Nat.zero_add]
  unfold joinB opB at k
  refine c_hasLeg hX.2.2.2.1 hn hV.hl ⟨fun q => k.1 (by rw [q]; rfl), fun q => c_hasLeg hX.2.2.2.1 hn hV.hl ⟨fun q2 => ?_, fun q2 => k.1 (by rw [q2]; simp)⟩⟩
  rw [q, q2] at k
  simp only [Bool.and_eq_true] at q q2
  obtain ⟨j, hj, rfl⟩ := ixB_t (by omega) q.1
  obtain ⟨j', hj', rfl⟩ := ixB_t (by omega) q2.1
  have h4 : lg (tof j) ≤ 4 := hV.hl j hj
  have h4' : lg (tof j') ≤ 4 := hV.hl j' hj'
  have q := q.2
  have q2 := q2.2
  rw [nI_clamp (by omega)] at q q2
  obtain ⟨x, hx, rfl⟩ := ixB_t (by omega) q
  obtain ⟨y, hy, rfl⟩ := ixB_t (by omega) q2
  rw [nI_clamp (by omega), nI_clamp (by omega), nI_clamp (by omega), nI_clamp (by omega)] at k
  rw [show (4 : Int32) = nI 4 from rfl, pk_mul, pk_mul, nI_add, nI_add]
  rintro _ rfl _ rfl
  rw [nI_eq (by omega) (by omega)]
  have hlt : ∀ e, e < 2 * nw.1 → nw.2.1 e < 2 ^ 31 := fun e he => by
    have := hV.2.2.2.1.lt hn he
    omega
  refine ⟨fun e => k.1 (by simp [e]), fun e => c_wired hX.2.2.2.1 hw hlt (by omega) ⟨fun q3 => k.1 (by simp [q3]), fun q3 => c_wired hX.2.2.2.1 hw hlt (by omega) ⟨fun q4 => k.1 (by simp [q4]), fun q4 => ?_⟩⟩⟩
  rw [hX.2.2.2.1.2.1, show (10 : Int32) = nI 10 from rfl, nI_ltI (by omega) (by decide)]
  refine ⟨fun q5 => ?_, fun q5 => k.1 (by simp [q5])⟩
  have k := k.2 (by simp [q3, q4, q5, e])
  refine C_rem hV hX (fun s hs => ?_)
  obtain ⟨h1, h2, h3, h4⟩ := hs.2.2.2.1
  unfold wX4_addWire
  rw [h2, show (10 : Int32) = nI 10 from rfl, show (2 : Int32) = nI 2 from rfl, pk_mul]
  refine ⟨fun q6 => absurd q6 (nI_ge q5 (by decide)), fun _ => ⟨vp_in_nI (by omega) (by decide), ?_⟩⟩
  rintro _ rfl
  rw [u1_n (o' := 86) (by decide), h2, pk_mul, nI_1]
  refine ⟨vp_in_nI (by omega) (by decide), ?_⟩
  rintro _ rfl
  rw [u1_n (o' := 86) (by decide), u1_n (o' := 86) (by decide), h2, nI_1]
  rintro _ rfl
  rw [u1_s, pk_us, nI_pred, nI_clamp (by omega), nI_clamp (by omega)]
  refine k _ (hs.now hV.rem (fun o ho => by rw [u1_n (by omega), u1_n (by omega), u1_n (by omega)]) ⟨?_, by rw [u1_s, pk_us]; rfl, fun z hz => ?_, fun z hz => ⟨by rw [u1_n (by omega), u1_n (by omega), u1_n (by omega)]; exact (h4 z hz).1, fun i hi => by rw [u1_n (by omega), u1_n (by omega), u1_n (by omega)]; exact (h4 z hz).2 i hi⟩⟩)
  · rw [u1_s, pk_un (by decide), u1_n (by decide), u1_n (by decide)]; exact h1
  · have hz : z < 2 * (nw.1 + 1) := hz
    rw [u1_n (by decide), u1_s, u1_s]
    show _ = nI (if z = 2 * nw.1 then _ else if z = 2 * nw.1 + 1 then _ else nw.2.1 z)
    by_cases f1 : z = 2 * nw.1 + 1
    · rw [if_neg (by omega), if_pos f1, f1, pk_us]
    · rw [pk_un f1]
      by_cases f2 : z = 2 * nw.1
      · rw [if_pos f2, f2, pk_us]
      · rw [pk_un f2, if_neg f2, if_neg f1]; exact h3 z (by omega)
theorem m_isOpen {a b : Int32} {post : Bool → St → Prop} (hV : RV P tn bn nn lg tof tv bv L tp nw sz old ac kb kn) (hM : RM P tn bn nn lg tof tv bv L tp nw sz ac kb kn τ) (k : post (opB nn (fun n => lg (tof n)) nw a b) τ) : wX11_isOpen 0 a b τ post := by
  have hn := hV.2.1.1
  have e : ∀ r, opB nn (fun n => lg (tof n)) nw a b = r → post r τ := fun r hr => by rw [← hr]; exact k
  unfold wX11_isOpen
  unfold opB at e
  refine m_isNode hM.2.1 hn ⟨fun q => e _ (by rw [q]; rfl), fun q => ?_⟩
  obtain ⟨j, hj, rfl⟩ := ixB_t (by omega) q
  have h4 : lg (tof j) ≤ 4 := hV.hl j hj
  rw [nI_clamp (by omega), q] at e
  refine m_legsAt hV.2.1 hV.1 hM.2.1 hM.1 hj (m_within (pred_toInt (by omega)) ⟨fun q2 => e _ (by rw [q2]; rfl), fun q2 => ?_⟩)
  rw [q2] at e
  obtain ⟨x, hx, rfl⟩ := ixB_t (by omega) q2
  rw [nI_clamp (by omega)] at e
  rw [show (4 : Int32) = nI 4 from rfl, pk_mul, nI_add]
  refine m_wireAt hM.2.2.2.1 hV.2.2.2.1 hn (by omega) (fun q3 => ?_) (fun y hy q3 => ?_)
  · exact ⟨fun q4 => absurd q4 (by decide), fun _ => e _ (by rw [q3]; rfl)⟩
  · have hw := hV.2.2.2.1.1
    refine ⟨fun _ => e _ ?_, fun q4 => absurd (nI_pos' (by omega)) q4⟩
    rw [wiB_iff.mpr ⟨y, hy, q3⟩]; rfl
theorem m_join35 {j x j' y : Nat} {post : Int32 → St → Prop} (hV : RV P tn bn nn lg tof tv bv L tp nw sz old ac kb kn) (hM : RM P tn bn nn lg tof tv bv L tp nw sz ac kb kn τ) (hx : 4 * j + x < 24) (hy : 4 * j' + y < 24) (k0 : ¬ nw.1 < 10 → post (-1) τ) (k1 : nw.1 < 10 → ∀ s, RM P tn bn nn lg tof tv bv L tp (addN nw (4 * j + x) (4 * j' + y)) (remS sz) (remA sz ac nw) kb kn s → post (nI nw.1) s) : wX11_join_35 post 0 (nI j) (nI x) (nI j') (nI y) τ := by
  have hn := hV.2.1.1
  have hw := hV.2.2.2.1.1
  unfold wX11_join_35
  rw [show τ.1 (0 + 16) (116 : Int32).toNatClampNeg = nI nw.1 from hM.2.2.2.1.1, show (10 : Int32) = nI 10 from rfl, nI_eq (by omega) (by decide)]
  refine ⟨fun q => ?_, fun q => k0 (by omega)⟩
  have k1 := k1 (by omega)
  refine M_rem hV hM (fun s hs => ?_)
  obtain ⟨m1, m2, m3⟩ := hs.2.2.2.1
  rw [show s.1 (0 + 16) (116 : Int32).toNatClampNeg = nI nw.1 from m1, show (4 : Int32) = nI 4 from rfl, show (96 : Int32) = nI 96 from rfl, show (2 : Int32) = nI 2 from rfl, pk_mul, pk_mul, pk_mul, nI_add, nI_add, nI_add]
  refine ⟨vp_in_nI (by omega) (by decide), ?_⟩
  rintro _ rfl
  rw [nI_clamp (by omega)]
  have e1 : (u1 s (0 + 16) (96 + 2 * nw.1) (nI (4 * j + x))).1 (0 + 16) (116 : Int32).toNatClampNeg = nI nw.1 := by
    rw [u1_s, pk_un (show (116 : Int32).toNatClampNeg ≠ _ from by show (116 : Nat) ≠ _; omega)]
    exact m1
  rw [e1, pk_mul, nI_add, nI_1]
  refine ⟨vp_in_nI (by omega) (by decide), ?_⟩
  rintro _ rfl
  rw [nI_clamp (by omega)]
  have e2 : (u1 (u1 s (0 + 16) (96 + 2 * nw.1) (nI (4 * j + x))) (0 + 16) (96 + 2 * nw.1 + 1) (nI (4 * j' + y))).1 (0 + 16) (116 : Int32).toNatClampNeg = nI nw.1 := by
    rw [u1_s, pk_un (show (116 : Int32).toNatClampNeg ≠ _ from by show (116 : Nat) ≠ _; omega)]
    exact e1
  rw [e2, nI_1]
  rintro _ rfl
  rw [u1_s, pk_us, nI_pred]
  refine k1 _ (hs.now (fun j hj => by rw [u1_n (by decide), u1_n (by decide), u1_n (by decide)]) (fun o h1 h2 h3 => by rw [u1_n (by omega), u1_n (by omega), u1_n (by omega)]) ⟨?_, fun z hz => ?_, fun z hz i hi => ?_⟩)
  · rw [show (0 + 16 : Nat) = 16 from rfl, u1_s]
    exact pk_us
  · have hz : z < 2 * (nw.1 + 1) := hz
    rw [show (0 + 16 : Nat) = 16 from rfl, u1_s, pk_un (show 96 + z ≠ (116 : Int32).toNatClampNeg from by show _ ≠ (116 : Nat); omega), u1_s, u1_s]
    show _ = nI (if z = 2 * nw.1 then _ else if z = 2 * nw.1 + 1 then _ else nw.2.1 z)
    by_cases f1 : z = 2 * nw.1 + 1
    · rw [if_neg (by omega), if_pos f1, f1, show 96 + (2 * nw.1 + 1) = 96 + 2 * nw.1 + 1 from rfl, pk_us]
    · rw [pk_un (by omega)]
      by_cases f2 : z = 2 * nw.1
      · rw [if_pos f2, f2, pk_us]
      · rw [pk_un (by omega), if_neg f2, if_neg f1]; exact m2 z (by omega)
  · have h16 := p2le (hV.hl z hz)
    rw [show (0 + 16 : Nat) = 16 from rfl, u1_s, pk_un (show 16 * z + i ≠ (116 : Int32).toNatClampNeg from by show _ ≠ (116 : Nat); omega), u1_s, pk_un (by omega), u1_s, pk_un (by omega)]
    exact m3 z hz i hi
theorem opB_t {a b : Int32} (hV : RV P tn bn nn lg tof tv bv L tp nw sz old ac kb kn) (h : opB nn (fun n => lg (tof n)) nw a b = true) : ∃ j x, j < nn ∧ x < lg (tof j) ∧ a = nI j ∧ b = nI x ∧ a.toNatClampNeg = j ∧ b.toNatClampNeg = x ∧ wiB nw.2.1 (2 * nw.1) (4 * j + x) = false := by
  have hn := hV.2.1.1
  unfold opB at h
  simp only [Bool.and_eq_true] at h
  obtain ⟨j, hj, rfl⟩ := ixB_t (by omega) h.1.1
  rw [nI_clamp (by omega)] at h
  have h4 : lg (tof j) ≤ 4 := hV.hl j hj
  obtain ⟨x, hx, rfl⟩ := ixB_t (by omega) h.1.2
  rw [nI_clamp (by omega)] at h
  exact ⟨j, x, hj, hx, rfl, rfl, nI_clamp (by omega), nI_clamp (by omega), by simpa using h.2⟩
theorem M_join {a b c d : Int32} {post : Int32 → St → Prop} (hV : RV P tn bn nn lg tof tv bv L tp nw sz old ac kb kn) (hM : RM P tn bn nn lg tof tv bv L tp nw sz ac kb kn τ) (k : (joinB nn (fun n => lg (tof n)) nw a b c d = false → ∀ v, FM τ v → post (-1) v) ∧ (joinB nn (fun n => lg (tof n)) nw a b c d = true → ∀ s, RM P tn bn nn lg tof tv bv L tp (addN nw (4 * a.toNatClampNeg + b.toNatClampNeg) (4 * c.toNatClampNeg + d.toNatClampNeg)) (remS sz) (remA sz ac nw) kb kn s → post (nI nw.1) s)) : wX11_join 0 a b c d τ post := by
  have hF : FM τ (u1 τ 0 0 0) := FM.u0 (by decide)
  have hM1 := hM.fr hF
  have hn := hV.2.1.1
  unfold wX11_join
  rintro _ rfl
  generalize u1 τ 0 0 0 = τ1 at *
  unfold joinB at k
  refine m_isOpen hV hM1 ⟨fun q => k.1 (by rw [q]; rfl) _ hF, fun q => m_isOpen hV hM1 ⟨fun q2 => k.1 (by rw [q2]; simp) _ hF, fun q2 => ?_⟩⟩
  rw [q, q2] at k
  obtain ⟨j, x, hj, hx, rfl, rfl, e1, e2, hw1⟩ := opB_t hV q
  obtain ⟨j', y, hj', hy, rfl, rfl, e1', e2', hw2⟩ := opB_t hV q2
  have h4 : lg (tof j) ≤ 4 := hV.hl j hj
  have h4' : lg (tof j') ≤ 4 := hV.hl j' hj'
  rw [e1, e2, e1', e2'] at k
  rw [nI_eq (by omega) (by omega), nI_eq (by omega) (by omega)]
  refine ⟨fun e => m_join35 hV hM1 (by omega) (by omega) (fun f => k.1 (by simp [f]) _ hF) (fun f => k.2 (by simp [f]; omega)), fun e => ⟨fun f2 => k.1 (by simp [e, f2]) _ hF, fun f2 => m_join35 hV hM1 (by omega) (by omega) (fun f => k.1 (by simp [f]) _ hF) (fun f => k.2 (by simp [f]; omega))⟩⟩
theorem S_join (hR : Rel σ τ) (a b c d : Int32) : wX10_join 0 a b c d σ (fun r u => wX11_join 0 a b c d τ (fun r2 v => r = r2 ∧ Rel u v)) := by
  obtain ⟨t, P, tn, bn, nn, lg, tof, tv, bv, L, tp, nw, sz, old, ac, kb, kn, hV, hX, hM⟩ := id hR
  refine C_join hV hX ⟨fun h => M_join hV hM ⟨fun _ v hv => ⟨rfl, hR.fr (FX.rf σ) hv⟩, fun h2 => absurd (h.symm.trans h2) (by decide)⟩, fun h s hs => M_join hV hM ⟨fun h2 => absurd (h.symm.trans h2) (by decide), fun _ v hv => ⟨rfl, t, P, tn, bn, nn, lg, tof, tv, bv, L, tp, _, _, _, _, kb, kn, hV.rem.now ?_, hs, hv⟩⟩⟩
  unfold joinB at h
  simp only [Bool.and_eq_true] at h
  obtain ⟨j, x, hj, hx, rfl, rfl, e1, e2, hw1⟩ := opB_t hV h.1
  obtain ⟨j', y, hj', hy, rfl, rfl, e1', e2', hw2⟩ := opB_t hV h.2.1
  have h4 : lg (tof j) ≤ 4 := hV.hl j hj
  have h4' : lg (tof j') ≤ 4 := hV.hl j' hj'
  have h3 := h.2.2
  rw [e1, e2, e1', e2'] at h3
  rw [e1, e2, e1', e2']
  simp only [Bool.not_eq_true', decide_eq_false_iff_not, decide_eq_true_eq] at h3
  have d1 : (4 * j + x) / 4 = j := by omega
  have d2 : (4 * j + x) % 4 = x := by omega
  have d3 : (4 * j' + y) / 4 = j' := by omega
  have d4 : (4 * j' + y) % 4 = y := by omega
  exact hV.2.2.2.1.add h3.2 ⟨by rw [d1]; exact hj, by rw [d1, d2]; exact hx⟩ ⟨by rw [d3]; exact hj', by rw [d3, d4]; exact hy⟩ h3.1 hw1 hw2
end WR
