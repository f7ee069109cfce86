/-! open legs: open, count -/
def opX (nn : Nat) (nl : Nat → Nat) (w : NetT) (x : Nat) : Bool := decide (x / 4 < nn) && (decide (x % 4 < nl (x / 4)) && !wiB w.2.1 (2 * w.1) x)
theorem cnt_is (e : Nat) : ∀ n, fb_ct (fun x => decide (e = x)) n = if e < n then 1 else 0
  | 0 => rfl
  | n + 1 => by
    rw [fb_ct_succ, cnt_is e n]
    by_cases h : e = n
    · subst h; simp
    · by_cases h2 : e < n
      · simp [h, h2, show e < n + 1 by omega]
      · simp [h, h2, show ¬ e < n + 1 by omega]
theorem cnt_img {en : Nat → Nat} {n : Nat} : ∀ m, (∀ e, e < m → en e < n) → (∀ e e', e < e' → e' < m → en e ≠ en e') → fb_ct (wiB en m) n = m
  | 0, _, _ => fb_ct_zero.mpr (fun _ _ => rfl)
  | m + 1, h1, h2 => by
    have ih := cnt_img m (fun e he => h1 e (by omega)) (fun e e' he he' => h2 e e' he (by omega))
    have h := fb_ct_or (p := wiB en m) (q := fun x => decide (en m = x)) (n := n) (fun k hk => ?_)
    · rw [ih, cnt_is, if_pos (h1 m (by omega))] at h
      exact h
    · rintro ⟨a, b⟩
      obtain ⟨e, he, q⟩ := wiB_iff.mp a
      exact h2 e m he (by omega) (q.trans (of_decide_eq_true b).symm)
theorem cnt_le4 : ∀ n, n ≤ 4 → fb_ct (fun k => decide (k < n)) 4 = n := by decide
theorem cnt_legs {nl : Nat → Nat} : ∀ {m : Nat}, (∀ j, j < m → nl j ≤ 4) → fb_ct (fun x => decide (x % 4 < nl (x / 4))) (4 * m) = fb_sm nl m
  | 0, _ => rfl
  | m + 1, h => by
    rw [show 4 * (m + 1) = 4 * m + 4 by omega, fb_ct_split, cnt_legs (fun j hj => h j (by omega)), fb_sm_succ]
    congr 1
    rw [← cnt_le4 (nl m) (h m (by omega))]
    refine fb_ct_cong (fun k hk => ?_)
    rw [show (4 * m + k) % 4 = k by omega, show (4 * m + k) / 4 = m by omega]
section OP
variable {t P tn bn nn : Nat} {lg tof : Nat → Nat} {tv bv : Nat → Nat → Int32} {L L' : Nat} {tp tp' : Nat → Int32} {nw nw' : NetT} {sz old sz' old' : Nat} {ac ac' : Nat → NetT} {kb kb' : Nat → Bool} {kn kn' : Nat → NetT} {σ τ σ' τ' : St} {nl : Nat → Nat} {w : NetT} {N j : Nat}
def opC (nn : Nat) (nl : Nat → Nat) (w : NetT) (m : Nat) : Nat := fb_ct (opX nn nl w) m
theorem op_sum (h : NetV P nn nl w) (hl : ∀ j, j < nn → nl j ≤ 4) : fb_sm nl nn = opC nn nl w (4 * nn) + 2 * w.1 := by
  obtain ⟨h1, h2, h3, h4⟩ := h
  rw [← cnt_legs hl, ← cnt_img (en := w.2.1) (n := 4 * nn) (2 * w.1) (fun e he => by have := (h2 e he).1; omega) h3]
  unfold opC
  rw [← fb_ct_or (p := opX nn nl w)]
  · refine fb_ct_cong (fun k hk => ?_)
    unfold opX
    have hk4 : k / 4 < nn := by omega
    cases hw : wiB w.2.1 (2 * w.1) k with
    | false => simp [hk4]
    | true =>
      obtain ⟨e, he, q⟩ := wiB_iff.mp hw
      have := (h2 e he).2
      rw [q] at this
      simp [this]
  · rintro k hk ⟨a, b⟩
    unfold opX at a
    rw [b] at a
    simp at a
theorem opC_le {m : Nat} : opC nn nl w m ≤ m := fb_ct_le _ _
theorem c_openCount {post : Int32 → St → Prop} (h : NetX nn nl w N σ) (hV : NetV P nn nl w) (hn : nn ≤ 6) (hl : ∀ j, j < nn → nl j ≤ 4) (k : post (nI (opC nn nl w (4 * nn))) σ) : wX4_openCount N σ post := by
  unfold wX4_openCount
  refine loop_0 (fun j i (_ : Unit) => wX4_openCount_4 post j N (nI (fb_sm nl i)) (nI i) σ) (fun _ _ => True) nn () trivial ?_ ?_
  · intro j _ _
    unfold wX4_openCount_4
    rw [h.1, h.2.1, show (2 : Int32) = nI 2 from rfl, pk_mul, op_sum hV hl, pk_sub (by omega), Nat.add_sub_cancel]
    exact ⟨fun _ => k, fun q => absurd (nI_le (Nat.le_refl _) (by omega)) q⟩
  · intro j i _ hi _ ih
    unfold wX4_openCount_4
    rw [h.1]
    refine ⟨fun q => absurd q (nI_ge hi (by omega)), fun _ => ⟨vp_in_nI (by omega) (by decide), ?_⟩⟩
    rw [nI_clamp (by omega), (h.2.2.2 i hi).1, nI_add, nI_1]
    rintro _ rfl _ rfl
    exact ih () trivial
theorem c_isOpen {x : Nat} {post : Bool → St → Prop} (h : NetX nn nl w N σ) (hV : NetV P nn nl w) (hn : nn ≤ 6) (hl : ∀ j, j < nn → nl j ≤ 4) (hx : x < 24) (k : post (opX nn nl w x) σ) : wX4_isOpen N (nI x) σ post := by
  have e : ∀ r, opX nn nl w x = r → post r σ := fun r hr => by rw [← hr]; exact k
  unfold opX at e
  unfold wX4_isOpen
  rw [show (4 : Int32) = nI 4 from rfl, pk_rem (by omega) (by decide) (by decide), pk_div (by omega) (by decide) (by decide)]
  have hi : ∀ {a b : Nat}, a < 2 ^ 31 → ixB (nI a) b = decide (a < b) := fun {a b} ha => by
    unfold ixB
    rw [nI_toInt ha]
    simp
  refine c_hasLeg h hn hl ?_
  rw [hi (by omega), hi (by omega), nI_clamp (by omega)]
  refine ⟨fun q => e _ (by rw [← Bool.and_assoc, q]; rfl), fun q => c_wired h hV.1 (fun z hz => by have := hV.lt hn hz; omega) (by omega) ⟨fun q2 => e _ (by rw [q2]; simp), fun q2 => e _ (by rw [← Bool.and_assoc, q, q2]; rfl)⟩⟩
theorem c_openLeg {v : Int32} {post : Int32 → St → Prop} (h : NetX nn nl w N σ) (hV : NetV P nn nl w) (hn : nn ≤ 6) (hl : ∀ j, j < nn → nl j ≤ 4) (k1 : ∀ x, x < 4 * nn → opX nn nl w x = true → v = nI (opC nn nl w x) → post (nI x) σ) (k2 : (∀ x, x < 4 * nn → opX nn nl w x = true → v ≠ nI (opC nn nl w x)) → post (-1) σ) : wX4_openLeg N v σ post := by
  unfold wX4_openLeg
  refine loop_0 (fun j i (_ : Unit) => wX4_openLeg_4 post j N v (nI (opC nn nl w i)) (nI i) σ) (fun i _ => ∀ x, x < i → opX nn nl w x = true → v ≠ nI (opC nn nl w x)) (4 * nn) () (fun x hx => by omega) ?_ ?_
  · intro j _ hI
    unfold wX4_openLeg_4
    rw [h.1, show (4 : Int32) = nI 4 from rfl, pk_mul]
    exact ⟨fun _ => k2 hI, fun q => absurd (nI_le (Nat.le_refl _) (by omega)) q⟩
  · intro j i _ hi hI ih
    unfold wX4_openLeg_4
    rw [h.1, show (4 : Int32) = nI 4 from rfl, pk_mul]
    refine ⟨fun q => absurd q (nI_ge hi (by omega)), fun _ => c_isOpen h hV hn hl (by omega) ⟨fun q => ?_, fun q => ⟨fun q2 => ?_, fun q2 => k1 i hi q q2.symm⟩⟩⟩
    · rintro _ rfl
      rw [nI_1]
      have ih := ih () (fun x hx h1 => by
        by_cases e : x = i
        · subst e; rw [q] at h1; exact absurd h1 (by decide)
        · exact hI x (by omega) h1)
      have e : opC nn nl w (i + 1) = opC nn nl w i := by
        unfold opC
        rw [fb_ct_succ, q]; rfl
      rw [e] at ih
      exact ih
    · rw [nI_1, nI_1]
      rintro _ rfl _ rfl
      have ih := ih () (fun x hx h1 => by
        by_cases e : x = i
        · subst e; exact fun e => q2 e.symm
        · exact hI x (by omega) h1)
      have e : opC nn nl w (i + 1) = opC nn nl w i + 1 := by
        unfold opC
        rw [fb_ct_succ, q]; rfl
      rw [e] at ih
      exact ih
theorem m_laysOpen {post : St → Prop} (hV : RV P tn bn nn lg tof tv bv L tp nw sz old ac kb kn) (hM : RM P tn bn nn lg tof tv bv L tp nw sz ac kb kn τ) (k : ∀ s, FM τ s → (∀ j, j ≠ 39 → s.1 0 j = τ.1 0 j) → (∀ o, o ≠ 0 → o ≠ 22 → s.1 o = τ.1 o) → s.1 0 39 = nI (opC nn (fun n => lg (tof n)) nw (4 * nn)) → (∀ x, x < 4 * nn → opX nn (fun n => lg (tof n)) nw x = true → s.1 22 (opC nn (fun n => lg (tof n)) nw x) = nI x) → post s) : wX11_laysOpen 0 τ post := by
  have hn := hV.2.1.1
  unfold wX11_laysOpen
  rintro _ rfl
  refine loop_0 (fun j i (s : St) => wX11_laysOpen_7 post j 0 (nI i) s) (fun i s => (∀ j, j ≠ 39 → s.1 0 j = τ.1 0 j) ∧ (∀ o, o ≠ 0 → o ≠ 22 → s.1 o = τ.1 o) ∧ s.1 0 39 = nI (opC nn (fun n => lg (tof n)) nw (4 * i)) ∧ (∀ x, x < 4 * i → opX nn (fun n => lg (tof n)) nw x = true → s.1 22 (opC nn (fun n => lg (tof n)) nw x) = nI x)) nn _ ⟨fun j hj => by rw [u1_s, pk_un hj], fun o h1 h2 => by rw [u1_n h1], by rw [u1_s, pk_us]; rfl, fun x hx => by omega⟩ ?_ ?_
  · rintro j s ⟨i1, i2, i3, i4⟩
    unfold wX11_laysOpen_7
    rw [show s.1 (0 + 5) (0 : Int32).toNatClampNeg = nI nn from by rw [i2 _ (by decide) (by decide)]; exact hM.2.1.1]
    exact ⟨fun _ => k s ⟨fun j hj => i1 j (by omega), fun o h1 h2 => i2 o (by omega) (by omega)⟩ i1 i2 i3 i4, fun q => absurd (nI_le (Nat.le_refl _) (by omega)) q⟩
  · rintro j i s hi ⟨i1, i2, i3, i4⟩ ih
    have h4 : lg (tof i) ≤ 4 := hV.hl i hi
    unfold wX11_laysOpen_7
    rw [show s.1 (0 + 5) (0 : Int32).toNatClampNeg = nI nn from by rw [i2 _ (by decide) (by decide)]; exact hM.2.1.1]
    refine ⟨fun q => absurd q (nI_ge hi (by omega)), fun _ => ?_⟩
    refine loop_0 (fun y l (r : St) => wX11_laysOpen_19 post (wX11_laysOpen_7 post j) y 0 (nI i) (nI l) r) (fun l r => (∀ j, j ≠ 39 → r.1 0 j = τ.1 0 j) ∧ (∀ o, o ≠ 0 → o ≠ 22 → r.1 o = τ.1 o) ∧ r.1 0 39 = nI (opC nn (fun n => lg (tof n)) nw (4 * i + l)) ∧ (∀ x, x < 4 * i + l → opX nn (fun n => lg (tof n)) nw x = true → r.1 22 (opC nn (fun n => lg (tof n)) nw x) = nI x)) (lg (tof i)) s ⟨i1, i2, i3, i4⟩ ?_ ?_
    · rintro y r ⟨g1, g2, g3, g4⟩
      have hr := hM.fr (τ' := r) ⟨fun j hj => g1 j (by omega), fun o h1 h2 => g2 o (by omega) (by omega)⟩
      unfold wX11_laysOpen_19
      refine m_legsAt hV.2.1 hV.1 hr.2.1 hr.1 hi ⟨fun _ => ?_, fun q => absurd (nI_le (Nat.le_refl _) (by omega)) q⟩
      rintro _ rfl
      rw [nI_1]
      have hno : ∀ x, 4 * i + lg (tof i) ≤ x → x < 4 * (i + 1) → opX nn (fun n => lg (tof n)) nw x = false := fun x h1 h2 => by
        unfold opX
        have e1 : x / 4 = i := by omega
        have e2 : ¬ x % 4 < lg (tof i) := by omega
        simp [e1, e2]
      have he : ∀ m, m ≤ 4 - lg (tof i) → opC nn (fun n => lg (tof n)) nw (4 * i + lg (tof i) + m) = opC nn (fun n => lg (tof n)) nw (4 * i + lg (tof i)) := by
        intro m
        induction m with
        | zero => intro _; rfl
        | succ m ihm =>
          intro hm
          rw [← ihm (by omega)]
          unfold opC
          rw [← Nat.add_assoc, fb_ct_succ, hno _ (by omega) (by omega)]
          rfl
      refine ih r ⟨g1, g2, ?_, fun x hx h1 => ?_⟩
      · rw [g3, ← he (4 - lg (tof i)) (Nat.le_refl _), show 4 * i + lg (tof i) + (4 - lg (tof i)) = 4 * (i + 1) by omega]
      · by_cases e : x < 4 * i + lg (tof i)
        · exact g4 x e h1
        · rw [hno x (by omega) hx] at h1
          exact absurd h1 (by decide)
    · rintro y l r hl ⟨g1, g2, g3, g4⟩ ih2
      have hr := hM.fr (τ' := r) ⟨fun j hj => g1 j (by omega), fun o h1 h2 => g2 o (by omega) (by omega)⟩
      have e1 : (4 * i + l) / 4 = i := by omega
      have e2 : (4 * i + l) % 4 = l := by omega
      unfold wX11_laysOpen_19
      refine m_legsAt hV.2.1 hV.1 hr.2.1 hr.1 hi ⟨fun q => absurd q (nI_ge hl (by omega)), fun _ => ?_⟩
      simp only [Nat.zero_add]
      rw [show (4 : Int32) = nI 4 from rfl, pk_mul, nI_add, nI_1]
      refine m_wireAt hr.2.2.2.1 hV.2.2.2.1 hn (by omega) (fun q3 => ?_) (fun z hz q3 => ?_)
      · have ho : opX nn (fun n => lg (tof n)) nw (4 * i + l) = true := by
          unfold opX
          rw [q3, e1, e2]
          simp [hi, hl]
        have ec : opC nn (fun n => lg (tof n)) nw (4 * i + (l + 1)) = opC nn (fun n => lg (tof n)) nw (4 * i + l) + 1 := by
          unfold opC
          rw [← Nat.add_assoc, fb_ct_succ, ho]; rfl
        have hb : opC nn (fun n => lg (tof n)) nw (4 * i + l) ≤ 4 * i + l := opC_le
        refine ⟨fun _ => ?_, fun q4 => absurd (by decide) q4⟩
        rw [g3]
        refine ⟨vp_in_nI (by omega) (by decide), ?_⟩
        rintro _ rfl
        rw [u1_n (o' := 0) (by decide), g3, nI_1, nI_clamp (by omega)]
        rintro _ rfl _ rfl
        refine ih2 _ ⟨fun j hj => by rw [u1_s, pk_un hj, u1_n (by decide)]; exact g1 j hj, fun o h1 h2 => by rw [u1_n h1, u1_n h2]; exact g2 o h1 h2, by rw [u1_s, pk_us, ec], fun x hx h1 => ?_⟩
        rw [u1_n (by decide), u1_s]
        by_cases e : x = 4 * i + l
        · rw [e, pk_us]
        · rw [pk_un, g4 x (by omega) h1]
          intro q
          exact e (fb_ct_kth_one h1 ho q)
      · have ho : opX nn (fun n => lg (tof n)) nw (4 * i + l) = false := by
          unfold opX
          rw [wiB_iff.mpr ⟨z, hz, q3⟩]
          simp
        have ec : opC nn (fun n => lg (tof n)) nw (4 * i + (l + 1)) = opC nn (fun n => lg (tof n)) nw (4 * i + l) := by
          unfold opC
          rw [← Nat.add_assoc, fb_ct_succ, ho]; rfl
        have hw := hV.2.2.2.1.1
        refine ⟨fun q4 => absurd q4 (nI_pos (by omega)), fun _ => ?_⟩
        rintro _ rfl
        refine ih2 r ⟨g1, g2, by rw [ec]; exact g3, fun x hx h1 => ?_⟩
        by_cases e : x = 4 * i + l
        · rw [e, ho] at h1; exact absurd h1 (by decide)
        · exact g4 x (by omega) h1
theorem opC_lt {x m : Nat} (hx : x < m) (h : opX nn nl w x = true) : opC nn nl w x < opC nn nl w m := by
  have e : opC nn nl w (x + 1) = opC nn nl w x + 1 := by
    unfold opC
    rw [fb_ct_succ, h]; rfl
  have : opC nn nl w (x + 1) ≤ opC nn nl w m := fb_ct_mono _ (by omega)
  omega
theorem M_open {v : Int32} {post : Int32 → St → Prop} (hV : RV P tn bn nn lg tof tv bv L tp nw sz old ac kb kn) (hM : RM P tn bn nn lg tof tv bv L tp nw sz ac kb kn τ) (k0 : ∀ s, v = -1 → FM τ s → post (nI (opC nn (fun n => lg (tof n)) nw (4 * nn))) s) (k1 : ∀ x s, ¬ v = -1 → x < 4 * nn → opX nn (fun n => lg (tof n)) nw x = true → v = nI (opC nn (fun n => lg (tof n)) nw x) → FM τ s → post (nI (10 * (x / 4) + x % 4)) s) (k2 : ∀ s, ¬ v = -1 → (∀ x, x < 4 * nn → opX nn (fun n => lg (tof n)) nw x = true → v ≠ nI (opC nn (fun n => lg (tof n)) nw x)) → FM τ s → post (-2) s) : wX11_open 0 v τ post := by
  have hF : FM τ (u1 τ 0 0 0) := FM.u0 (by decide)
  have hM1 := hM.fr hF
  have hn := hV.2.1.1
  unfold wX11_open
  rintro _ rfl
  generalize u1 τ 0 0 0 = τ1 at *
  refine m_laysOpen hV hM1 (fun s f1 f2 f3 g1 g2 => ?_)
  simp only [Nat.zero_add]
  rw [g1]
  have hb : opC nn (fun n => lg (tof n)) nw (4 * nn) ≤ 4 * nn := opC_le
  refine ⟨fun q => m_within (pred_toInt (by omega)) ⟨fun q2 => k2 s q (fun x hx ho e => ?_) (hF.tr f1), fun q2 => ?_⟩, fun q => k0 s q (hF.tr f1)⟩
  · have := opC_lt hx ho
    rw [e, ixB_nI this (by omega)] at q2
    exact absurd q2 (by decide)
  · obtain ⟨y, hy, rfl⟩ := ixB_t (by omega) q2
    obtain ⟨x, x1, x2, x3⟩ := fb_ct_kth hy
    have x3' : opC nn (fun n => lg (tof n)) nw x = y := x3
    have e := g2 x x1 x2
    rw [x3'] at e
    refine ⟨vp_in_nI (by omega) (by decide), vp_in_nI (by omega) (by decide), ?_⟩
    rw [nI_clamp (by omega), e, show (4 : Int32) = nI 4 from rfl, pk_rem (by omega) (by decide) (by decide), pk_div (by omega) (by decide) (by decide), show (10 : Int32) = nI 10 from rfl, pk_mul, nI_add, Nat.mul_comm]
    exact k1 x s q x1 x2 (by rw [x3']) (hF.tr f1)
theorem S_open (hR : Rel σ τ) (v : Int32) : wX10_open 0 v σ (fun r u => wX11_open 0 v τ (fun r2 v => r = r2 ∧ Rel u v)) := by
  obtain ⟨t, P, tn, bn, nn, lg, tof, tv, bv, L, tp, nw, sz, old, ac, kb, kn, hV, hX, hM⟩ := id hR
  have hn := hV.2.1.1
  unfold wX10_open
  simp only [Nat.zero_add]
  refine ⟨fun q => c_openLeg hX.2.2.2.1 hV.2.2.2.1 hn hV.hl (fun x hx ho e => ⟨fun _ => ?_, fun e2 => ?_⟩) (fun h => ⟨fun e => absurd rfl e, fun _ => ?_⟩), fun q => c_openCount hX.2.2.2.1 hV.2.2.2.1 hn hV.hl ?_⟩
  · rw [show (4 : Int32) = nI 4 from rfl, pk_rem (by omega) (by decide) (by decide), pk_div (by omega) (by decide) (by decide), show (10 : Int32) = nI 10 from rfl, pk_mul, nI_add]
    refine M_open hV hM (fun s q2 _ => absurd q2 q) (fun y s _ hy hoy ey hs => ?_) (fun s _ h _ => absurd e (h x hx ho))
    have b1 : opC nn (fun n => lg (tof n)) nw x ≤ x := opC_le
    have b2 : opC nn (fun n => lg (tof n)) nw y ≤ y := opC_le
    have e3 := nI_inj2 e ey (by omega) (by omega)
    have e4 : x = y := fb_ct_kth_one ho hoy e3
    subst e4
    exact ⟨rfl, hR.fr (FX.rf σ) hs⟩
  · have := congrArg Int32.toInt e2
    rw [nI_toInt (by omega)] at this
    have z : (-1 : Int32).toInt = -1 := rfl
    omega
  · exact M_open hV hM (fun s q2 _ => absurd q2 q) (fun y s _ hy hoy ey hs => absurd ey (h y hy hoy)) (fun s _ _ hs => ⟨rfl, hR.fr (FX.rf σ) hs⟩)
  · exact M_open hV hM (fun s _ hs => ⟨rfl, hR.fr (FX.rf σ) hs⟩) (fun y s q2 _ _ _ _ => absurd q q2) (fun s q2 _ _ => absurd q q2)
theorem S_count (hR : Rel σ τ) (v : Int32) : wX10_count 0 v σ (fun r u => wX11_count 0 v τ (fun r2 v => r = r2 ∧ Rel u v)) := by
  obtain ⟨t, P, tn, bn, nn, lg, tof, tv, bv, L, tp, nw, sz, old, ac, kb, kn, hV, hX, hM⟩ := id hR
  have hn := hV.2.1.1
  have hF : FM τ (u1 τ 0 0 0) := FM.u0 (by decide)
  have hM1 := hM.fr hF
  have hR1 := hR.fr (FX.rf σ) hF
  unfold wX10_count
  simp only [Nat.zero_add]
  have K : ∀ Q : Int32 → St → Prop, (v = 0 → Q (nI P) (u1 τ 0 0 0)) → (v = 1 → Q (nI tn) (u1 τ 0 0 0)) → (v = 2 → Q (nI bn) (u1 τ 0 0 0)) → (v = 3 → Q (nI nn) (u1 τ 0 0 0)) → (v = 4 → Q (nI nw.1) (u1 τ 0 0 0)) → (v = 5 → ∀ s, FM (u1 τ 0 0 0) s → Q (nI (opC nn (fun n => lg (tof n)) nw (4 * nn))) s) → (v = 6 → Q (nI sz) (u1 τ 0 0 0)) → (v = 7 → Q (nI L) (u1 τ 0 0 0)) → ((¬ v = 0 ∧ ¬ v = 1 ∧ ¬ v = 2 ∧ ¬ v = 3 ∧ ¬ v = 4 ∧ ¬ v = 5 ∧ ¬ v = 6 ∧ ¬ v = 7) → Q (-1) (u1 τ 0 0 0)) → wX11_count 0 v τ Q := by
    intro Q c0 c1 c2 c3 c4 c5 c6 c7 c8
    unfold wX11_count wX11_p
    rintro _ rfl
    generalize u1 τ 0 0 0 = τ1 at *
    rw [show τ1.1 (0 + 2) (0 : Int32).toNatClampNeg = nI P from hM1.1.1, show τ1.1 (0 + 3) (0 : Int32).toNatClampNeg = nI tn from hM1.1.2.1, show τ1.1 (0 + 4) (0 : Int32).toNatClampNeg = nI bn from hM1.1.2.2.1, show τ1.1 (0 + 5) (0 : Int32).toNatClampNeg = nI nn from hM1.2.1.1, show τ1.1 (0 + 16) (116 : Int32).toNatClampNeg = nI nw.1 from hM1.2.2.2.1.1, hM1.2.2.2.2.1.1, hM1.2.2.1.1]
    refine ⟨c0, fun e0 => ⟨c1, fun e1 => ⟨c2, fun e2 => ⟨c3, fun e3 => ⟨c4, fun e4 => ⟨fun e5 => m_laysOpen hV hM1 (fun s f1 f2 f3 g1 g2 => ?_), fun e5 => ⟨c6, fun e6 => ⟨c7, fun e7 => c8 ⟨e0, e1, e2, e3, e4, e5, e6, e7⟩⟩⟩⟩⟩⟩⟩⟩⟩
    rw [g1]
    exact c5 e5 s f1
  have A : ∀ {x y : Int32}, v = x → v = y → x ≠ y → ∀ {Q : Prop}, Q := fun h1 h2 h3 => absurd (h1.symm.trans h2) h3
  refine ⟨fun e => ?_, fun e0 => ⟨fun e => ?_, fun e1 => ⟨fun e => ?_, fun e2 => ⟨fun e => ?_, fun e3 => ⟨fun e => ?_, fun e4 => ⟨fun e => ?_, fun e5 => ⟨fun e => ?_, fun e6 => ⟨fun e => ?_, fun e7 => ?_⟩⟩⟩⟩⟩⟩⟩⟩
  · rintro _ rfl
    rw [hX.1.p, hX.1.pr]
    exact ⟨kX_t hX.1.1, K _ (fun _ => ⟨rfl, hR1⟩) (fun f => A e f (by decide)) (fun f => A e f (by decide)) (fun f => A e f (by decide)) (fun f => A e f (by decide)) (fun f => A e f (by decide)) (fun f => A e f (by decide)) (fun f => A e f (by decide)) (fun f => absurd e f.1)⟩
  · rintro _ rfl
    rw [hX.1.p, hX.1.2.2.2.2.1]
    exact ⟨kX_t hX.1.1, K _ (fun f => A e f (by decide)) (fun _ => ⟨rfl, hR1⟩) (fun f => A e f (by decide)) (fun f => A e f (by decide)) (fun f => A e f (by decide)) (fun f => A e f (by decide)) (fun f => A e f (by decide)) (fun f => A e f (by decide)) (fun f => absurd e f.2.1)⟩
  · rintro _ rfl
    rw [hX.1.p, hX.1.2.2.2.2.2.1]
    exact ⟨kX_t hX.1.1, K _ (fun f => A e f (by decide)) (fun f => A e f (by decide)) (fun _ => ⟨rfl, hR1⟩) (fun f => A e f (by decide)) (fun f => A e f (by decide)) (fun f => A e f (by decide)) (fun f => A e f (by decide)) (fun f => A e f (by decide)) (fun f => absurd e f.2.2.1)⟩
  · rw [hX.2.2.2.1.1]
    exact K _ (fun f => A e f (by decide)) (fun f => A e f (by decide)) (fun f => A e f (by decide)) (fun _ => ⟨rfl, hR1⟩) (fun f => A e f (by decide)) (fun f => A e f (by decide)) (fun f => A e f (by decide)) (fun f => A e f (by decide)) (fun f => absurd e f.2.2.2.1)
  · rw [hX.2.2.2.1.2.1]
    exact K _ (fun f => A e f (by decide)) (fun f => A e f (by decide)) (fun f => A e f (by decide)) (fun f => A e f (by decide)) (fun _ => ⟨rfl, hR1⟩) (fun f => A e f (by decide)) (fun f => A e f (by decide)) (fun f => A e f (by decide)) (fun f => absurd e f.2.2.2.2.1)
  · refine c_openCount hX.2.2.2.1 hV.2.2.2.1 hn hV.hl ?_
    exact K _ (fun f => A e f (by decide)) (fun f => A e f (by decide)) (fun f => A e f (by decide)) (fun f => A e f (by decide)) (fun f => A e f (by decide)) (fun _ s hs => ⟨rfl, hR.fr (FX.rf σ) (hF.tr hs)⟩) (fun f => A e f (by decide)) (fun f => A e f (by decide)) (fun f => absurd e f.2.2.2.2.2.1)
  · rw [hX.2.2.2.2.1.1]
    exact K _ (fun f => A e f (by decide)) (fun f => A e f (by decide)) (fun f => A e f (by decide)) (fun f => A e f (by decide)) (fun f => A e f (by decide)) (fun f => A e f (by decide)) (fun _ => ⟨rfl, hR1⟩) (fun f => A e f (by decide)) (fun f => absurd e f.2.2.2.2.2.2.1)
  · rw [hX.2.2.1.1]
    exact K _ (fun f => A e f (by decide)) (fun f => A e f (by decide)) (fun f => A e f (by decide)) (fun f => A e f (by decide)) (fun f => A e f (by decide)) (fun f => A e f (by decide)) (fun f => A e f (by decide)) (fun _ => ⟨rfl, hR1⟩) (fun f => absurd e f.2.2.2.2.2.2.2)
  · exact K _ (fun f => absurd f e0) (fun f => absurd f e1) (fun f => absurd f e2) (fun f => absurd f e3) (fun f => absurd f e4) (fun f => absurd f e5) (fun f => absurd f e6) (fun f => absurd f e7) (fun _ => ⟨rfl, hR1⟩)
end OP
