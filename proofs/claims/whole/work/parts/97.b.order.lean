/-! width: the reference -/
theorem cnt_or {T c nn : Nat} (hc : c < nn) (hb : T.testBit c = false) : fb_ct (fun k => (T ||| 2 ^ c).testBit k) nn = fb_ct (fun k => T.testBit k) nn + 1 := by
  have := fb_ct_upd (fun k => T.testBit k) true hc
  rw [show (fun k => (T ||| 2 ^ c).testBit k) = (fun k => if k = c then true else T.testBit k) from by
    funext k
    rw [fb_bit_set]
    by_cases e : k = c
    · simp [e]
    · simp [e]]
  simp only [hb] at this
  simpa using this
theorem cnt_full {T nn : Nat} (hT : T < 2 ^ nn) (h : fb_ct (fun k => T.testBit k) nn = nn) : T = 2 ^ nn - 1 := by
  have h := fb_ct_all.mp h
  apply Nat.eq_of_testBit_eq
  intro i
  rw [Nat.testBit_two_pow_sub_one]
  by_cases c : i < nn
  · rw [h i c]; simp [c]
  · rw [bit_ge hT (by omega)]; simp [c]
theorem cnt_all (nn : Nat) : fb_ct (fun k => (2 ^ nn - 1).testBit k) nn = nn := fb_ct_all.mpr (fun k hk => by rw [Nat.testBit_two_pow_sub_one]; simp [hk])
theorem ct_skip {p : Nat → Bool} {a : Nat} : ∀ m, (∀ x, a ≤ x → x < a + m → p x = false) → fb_ct p (a + m) = fb_ct p a
  | 0, _ => rfl
  | m + 1, h => by
    rw [← Nat.add_assoc, fb_ct_succ, h (a + m) (by omega) (by omega), ct_skip m (fun x h1 h2 => h x h1 (by omega))]
    rfl
section WO
variable {t P tn bn nn : Nat} {lg tof : Nat → Nat} {tv bv : Nat → Nat → Int32} {L L' : Nat} {tp tp' : Nat → Int32} {nw nw' : NetT} {sz old sz' old' : Nat} {ac ac' : Nat → NetT} {kb kb' : Nat → Bool} {kn kn' : Nat → NetT} {σ τ σ' τ' : St} {nl : Nat → Nat} {w : NetT} {N j : Nat}
theorem m_edgeOf {T : Nat} {post : Int32 → St → Prop} (hV : RV P tn bn nn lg tof tv bv L tp nw sz old ac kb kn) (hM : RM P tn bn nn lg tof tv bv L tp nw sz ac kb kn τ) (hT : T < 2 ^ 31) (k : post (nI (gF nn (fun n => lg (tof n)) nw T)) τ) : wX11_edgeOf 0 (nI T) τ post := by
  have hn := hV.2.1.1
  have hd := hV.2.2.2.1.2.2.1
  have hw := hV.2.2.2.1.1
  unfold wX11_edgeOf
  refine loop_0 (fun j i (_ : Unit) => wX11_edgeOf_4 post j 0 (nI T) (nI (fb_ct (edX nn (fun n => lg (tof n)) nw T) (4 * i))) (nI i) τ) (fun _ _ => True) nn () trivial ?_ ?_
  · rintro j _ _
    unfold wX11_edgeOf_4
    rw [show τ.1 (0 + 5) (0 : Int32).toNatClampNeg = nI nn from hM.2.1.1]
    exact ⟨fun _ => k, fun q => absurd (nI_le (Nat.le_refl _) (by omega)) q⟩
  · rintro j i _ hi _ ih
    have ih := ih () trivial
    have h4 : lg (tof i) ≤ 4 := hV.hl i hi
    unfold wX11_edgeOf_4
    rw [show τ.1 (0 + 5) (0 : Int32).toNatClampNeg = nI nn from hM.2.1.1]
    refine ⟨fun q => absurd q (nI_ge hi (by omega)), fun _ => ?_⟩
    refine loop_0 (fun y l (_ : Unit) => wX11_edgeOf_17 post (wX11_edgeOf_4 post j) y 0 (nI T) (nI (fb_ct (edX nn (fun n => lg (tof n)) nw T) (4 * i + l))) (nI i) (nI l) τ) (fun _ _ => True) (lg (tof i)) () trivial ?_ ?_
    · rintro y _ _
      unfold wX11_edgeOf_17
      refine m_legsAt hV.2.1 hV.1 hM.2.1 hM.1 hi ⟨fun _ => ?_, fun q => absurd (nI_le (Nat.le_refl _) (by omega)) q⟩
      rintro _ rfl
      rw [nI_1]
      have e := ct_skip (p := edX nn (fun n => lg (tof n)) nw T) (a := 4 * i + lg (tof i)) (4 - lg (tof i)) (fun x h1 h2 => by
        unfold edX lgT
        rw [show x / 4 = i by omega]
        simp [show ¬ x % 4 < lg (tof i) by omega])
      rw [show 4 * i + lg (tof i) + (4 - lg (tof i)) = 4 * (i + 1) by omega] at e
      rw [e] at ih
      exact ih
    · rintro y l _ hl _ ih2
      have ih2 := ih2 () trivial
      have e1 : (4 * i + l) / 4 = i := by omega
      have e2 : (4 * i + l) % 4 = l := by omega
      rw [← Nat.add_assoc, fb_ct_succ] at ih2
      unfold wX11_edgeOf_17
      refine m_legsAt hV.2.1 hV.1 hM.2.1 hM.1 hi ⟨fun q => absurd q (nI_ge hl (by omega)), fun _ => ?_⟩
      rw [sr_b1 hT (by omega), nI_1]
      refine ⟨fun q => ?_, fun q => ?_⟩
      · rintro _ rfl
        have e := ct_skip (p := edX nn (fun n => lg (tof n)) nw T) (a := 4 * i + l) (4 - l) (fun x h1 h2 => by
          unfold edX lgT
          rw [show x / 4 = i by omega]
          simp [q])
        rw [show 4 * i + l + (4 - l) = 4 * (i + 1) by omega] at e
        rw [e] at ih
        exact ih
      · have hlg : lgT nn (fun n => lg (tof n)) T (4 * i + l) = true := by
          unfold lgT
          rw [e1, e2]
          simp [hi, hl, q]
        have yes : edX nn (fun n => lg (tof n)) nw T (4 * i + l) = true → wX11_edgeOf_126 post (wX11_edgeOf_4 post j) (wX11_edgeOf_17 post (wX11_edgeOf_4 post j) y) 0 (nI T) (nI i) (nI l) (nI (fb_ct (edX nn (fun n => lg (tof n)) nw T) (4 * i + l))) τ := fun c => by
          rw [c] at ih2
          unfold wX11_edgeOf_126 wX11_edgeOf_131
          rw [nI_1, nI_1]
          rintro _ rfl _ rfl
          exact ih2
        have no : edX nn (fun n => lg (tof n)) nw T (4 * i + l) = false → wX11_edgeOf_131 post (wX11_edgeOf_4 post j) (wX11_edgeOf_17 post (wX11_edgeOf_4 post j) y) 0 (nI T) (nI i) (nI l) (nI (fb_ct (edX nn (fun n => lg (tof n)) nw T) (4 * i + l))) 0 τ := fun c => by
          rw [c] at ih2
          unfold wX11_edgeOf_131
          rw [nI_1, Int32.add_zero]
          rintro _ rfl _ rfl
          exact ih2
        rw [show (4 : Int32) = nI 4 from rfl, pk_mul, nI_add]
        refine m_wireAt hM.2.2.2.1 hV.2.2.2.1 hn (by omega) (fun q3 => ⟨fun q4 => absurd q4 (by decide), fun _ => ?_⟩) (fun e he q3 => ⟨fun _ => ?_, fun q4 => absurd (nI_pos' (by omega)) q4⟩)
        · unfold wX11_edgeOf_107
          refine ⟨fun _ => yes ?_, fun q5 => absurd (by decide) q5⟩
          unfold edX
          rw [hlg]
          have : wqB nw.2.1 (fun e => inF nw.2.1 T (e / 2)) (2 * nw.1) (4 * i + l) = false := by
            rw [← Bool.not_eq_true, wqB_iff]
            rintro ⟨e, h1, _, h3⟩
            exact wiB_no.mp q3 e h1 h3
          rw [this]; rfl
        · have inj : ∀ e', e' < 2 * nw.1 → nw.2.1 e' = 4 * i + l → e' = e := fun e' he' h => by
            rcases Nat.lt_trichotomy e' e with c | c | c
            · exact absurd (h.trans q3.symm) (hd _ _ c he)
            · exact c
            · exact absurd (q3.trans h.symm) (hd _ _ c he')
          have hwq : wqB nw.2.1 (fun e => inF nw.2.1 T (e / 2)) (2 * nw.1) (4 * i + l) = inF nw.2.1 T (e / 2) := bool_eq (by
            rw [wqB_iff]
            constructor
            · rintro ⟨e', h1, h2, h3⟩
              rw [inj e' h1 h3] at h2
              exact h2
            · intro h
              exact ⟨e, he, h, q3⟩)
          have hed : edX nn (fun n => lg (tof n)) nw T (4 * i + l) = !inF nw.2.1 T (e / 2) := by
            unfold edX
            rw [hlg, hwq]; rfl
          have l1 := hV.2.2.2.1.lt hn (e := 2 * (e / 2)) (by omega)
          have l2 := hV.2.2.2.1.lt hn (e := 2 * (e / 2) + 1) (by omega)
          have T1 : T.testBit ((4 * i + l) / 4) = true := by rw [e1]; exact q
          have go : ∀ o, o < 24 → T.testBit (o / 4) = inF nw.2.1 T (e / 2) → wX11_edgeOf_107 post (wX11_edgeOf_4 post j) (wX11_edgeOf_17 post (wX11_edgeOf_4 post j) y) 0 (nI T) (nI (fb_ct (edX nn (fun n => lg (tof n)) nw T) (4 * i + l))) (nI i) (nI l) (nI (e / 2)) (nI o) τ := fun o ho hb => by
            unfold wX11_edgeOf_107
            rw [show (4 : Int32) = nI 4 from rfl, pk_div (by omega) (by decide) (by decide), sr_b0 hT (by omega), hb]
            refine ⟨fun c => absurd c (nI_pos (by omega)), fun _ => ⟨fun c => no ?_, fun c => yes ?_⟩⟩
            · rw [hed]
              simpa using c
            · rw [hed, c]; rfl
          rw [show (96 : Int32) = nI 96 from rfl, show (2 : Int32) = nI 2 from rfl, pk_mul, nI_add, nI_1]
          rintro _ rfl
          refine ⟨vp_in_nI (by omega) (by decide), ?_⟩
          rw [nI_clamp (by omega), show τ.1 (0 + 16) (96 + 2 * (e / 2)) = nI (nw.2.1 (2 * (e / 2))) from hM.2.2.2.1.2.1 _ (by omega), nI_eq (by omega) (by omega)]
          refine ⟨fun c => ?_, fun c => ?_⟩
          · rintro _ rfl
            refine ⟨vp_in_nI (by omega) (by decide), ?_⟩
            rw [nI_clamp (by omega), show τ.1 (0 + 16) (96 + 2 * (e / 2)) = nI (nw.2.1 (2 * (e / 2))) from hM.2.2.2.1.2.1 _ (by omega)]
            refine go _ l1 ?_
            have ee : 2 * (e / 2) + 1 = e := by
              have : e ≠ 2 * (e / 2) := fun h => c (by rw [← h]; exact q3)
              omega
            unfold inF
            rw [ee, q3, T1, Bool.and_true]
          · rintro _ rfl
            refine ⟨vp_in_nI (by omega) (by decide), ?_⟩
            rw [nI_clamp (by omega), show τ.1 (0 + 16) (96 + 2 * (e / 2) + 1) = nI (nw.2.1 (2 * (e / 2) + 1)) from by rw [Nat.add_assoc]; exact hM.2.2.2.1.2.1 _ (by omega)]
            refine go _ l2 ?_
            unfold inF
            rw [c, T1, Bool.true_and]
theorem m_takes {W : Nat → Nat} (hV : RV P tn bn nn lg tof tv bv L tp nw sz old ac kb kn) (hM : RM P tn bn nn lg tof tv bv L tp nw sz ac kb kn τ) (hW : WdX nn (fun n => lg (tof n)) nw W) : ∀ (f k T wide b : Nat) (s : St) (post : St → Prop), nn - k < f → k ≤ nn → T < 2 ^ nn → fb_ct (fun k => T.testBit k) nn = k → wide ≤ 24 → b ≤ 100 → FM τ s → s.1 0 43 = nI b → (∀ s', FM τ s' → (∀ i, i < k → s'.1 24 i = s.1 24 i) → (max wide (mTF W nn T) < b → s'.1 0 43 = nI (max wide (mTF W nn T)) ∧ (∀ i, i < k → s'.1 25 i = s.1 24 i) ∧ ∀ i, k ≤ i → i < nn → s'.1 25 i = nI (nxF W nn (max wide (mTF W nn T)) (tkF W nn (max wide (mTF W nn T)) T (i - k)))) → (¬ max wide (mTF W nn T) < b → s'.1 0 43 = nI b ∧ ∀ i, i < nn → s'.1 25 i = s.1 25 i) → post s') → wX11_takesOn f 0 (nI k) (nI T) (nI wide) s post := by
  have hn := hV.2.1.1
  have h64 := p2_6 hn
  intro f
  induction f with
  | zero => intro k T wide b s post h; omega
  | succ f ih =>
    intro k T wide b s post hf hk hT hct hwd hb hF h43 K
    unfold wX11_takesOn
    rw [h43, nI_ltI (by omega) (by omega), show s.1 (0 + 5) (0 : Int32).toNatClampNeg = nI nn from (hM.fr hF).2.1.1, nI_eq (by omega) (by omega)]
    refine ⟨fun q => ⟨fun q2 => ?_, fun q2 => ?_⟩, fun q => K s hF (fun _ _ => rfl) (fun c => by omega) (fun _ => ⟨h43, fun _ _ => rfl⟩)⟩
    · have hne : T ≠ 2 ^ nn - 1 := fun e => by
        rw [e, cnt_all] at hct
        exact q2 hct.symm
      have hm : mTF W nn T = lbF W T nn := by unfold mTF; rw [if_neg hne]
      have hkn : k < nn := by omega
      have hk6 : k < 6 := by omega
      have hf2 : nn - (k + 1) < f := by omega
      refine loop_0 (fun y c (u : St) => wX11_takesOn_57 (wX11_takesOn f) post y 0 (nI k) (nI T) (nI wide) (nI c) u) (fun c u => FM τ u ∧ (∀ i, i < k → u.1 24 i = s.1 24 i) ∧ ∃ v, u.1 0 43 = nI v ∧ v ≤ b ∧ (∀ j, j < c → T.testBit j = false → v ≤ max wide (W (T ||| 2 ^ j))) ∧ (v < b → ∃ j, j < c ∧ T.testBit j = false ∧ max wide (W (T ||| 2 ^ j)) = v ∧ (∀ j', j' < j → T.testBit j' = false → v < max wide (W (T ||| 2 ^ j'))) ∧ (∀ i, i < k → u.1 25 i = s.1 24 i) ∧ u.1 25 k = nI j ∧ ∀ i, k < i → i < nn → u.1 25 i = nI (nxF W nn v (tkF W nn v (T ||| 2 ^ j) (i - k - 1)))) ∧ (v = b → ∀ i, i < nn → u.1 25 i = s.1 25 i)) nn s ⟨hF, fun _ _ => rfl, b, h43, Nat.le_refl _, fun j hj => by omega, fun h => by omega, fun _ _ _ => rfl⟩ ?_ ?_
      · rintro y u ⟨i1, i2, v, v1, v2, v3, v4, v5⟩
        unfold wX11_takesOn_57
        rw [show u.1 (0 + 5) (0 : Int32).toNatClampNeg = nI nn from (hM.fr i1).2.1.1]
        refine ⟨fun _ => ?_, fun q => absurd (nI_le (Nat.le_refl _) (by omega)) q⟩
        have hle : v ≤ max wide (lbF W T nn) := by
          rcases lbF_one (W := W) (T := T) nn with h | ⟨j, j1, j2, j3⟩
          · obtain ⟨j, hj, hb⟩ : ∃ j, j < nn ∧ T.testBit j = false := by
              apply Classical.byContradiction
              intro c
              apply q2
              rw [← hct]
              refine fb_ct_all.mpr (fun i hi => ?_)
              cases hb : T.testBit i with
              | true => rfl
              | false => exact absurd ⟨i, hi, hb⟩ c
            have a1 := v3 j hj hb
            have a2 := (hW _ (or_lt hT hj)).1
            omega
          · rw [j3]; exact v3 j j1 j2
        refine K u i1 i2 (fun c => ?_) (fun c => ?_)
        · rw [hm] at c ⊢
          have hvb : v < b := by omega
          obtain ⟨j, j1, j2, j3, j4, j5, j6, j7⟩ := v4 hvb
          have a1 := lbF_all (W := W) (T := T) nn j j1 j2
          have hv : max wide (lbF W T nn) = v := by omega
          rw [hv]
          have hx : nxF W nn v T = j := by
            unfold nxF
            have hle : fa_first (fun k => !T.testBit k && decide (W (T ||| 2 ^ k) ≤ v)) nn ≤ j := by
              apply Nat.le_of_not_lt
              intro c
              have := fa_first_no _ _ _ c
              simp [j2] at this
              omega
            have hy := fa_first_yes (fun k => !T.testBit k && decide (W (T ||| 2 ^ k) ≤ v)) nn (by omega)
            simp only [Bool.and_eq_true, Bool.not_eq_true', decide_eq_true_eq] at hy
            rcases Nat.lt_or_ge (fa_first (fun k => !T.testBit k && decide (W (T ||| 2 ^ k) ≤ v)) nn) j with c | c
            · have := j4 _ c hy.1
              omega
            · omega
          refine ⟨v1, j5, fun i h1 h2 => ?_⟩
          by_cases e : i = k
          · subst e
            rw [Nat.sub_self, tkF, hx]; exact j6
          · rw [j7 i (by omega) h2, show i - k = (i - k - 1) + 1 by omega, tkF, hx, show i - k - 1 + 1 - 1 = i - k - 1 by omega]
        · rw [hm] at c
          have hvb : v = b := by
            apply Classical.byContradiction
            intro d
            obtain ⟨j, j1, j2, j3, _⟩ := v4 (by omega)
            have a1 := lbF_all (W := W) (T := T) nn j j1 j2
            omega
          exact ⟨by rw [v1, hvb], v5 hvb⟩
      · rintro y c u hc ⟨i1, i2, v, v1, v2, v3, v4, v5⟩ ih2
        unfold wX11_takesOn_57
        rw [show u.1 (0 + 5) (0 : Int32).toNatClampNeg = nI nn from (hM.fr i1).2.1.1, sr_b1 (by omega) (by omega), sh1 _ (by omega), fa_or, nI_clamp (by omega)]
        refine ⟨fun q => absurd q (nI_ge hc (by omega)), fun _ => ⟨fun q3 => ⟨vp_in_nI hk6 (by decide), ?_⟩, fun q3 => ?_⟩⟩
        · have q3 : T.testBit c = false := by simpa using q3
          have hlt := or_lt hT hc
          have hWc := hW _ hlt
          have hg : gF nn (fun n => lg (tof n)) nw (T ||| 2 ^ c) ≤ 4 * nn := g_le
          rintro _ rfl
          have fu : FM u (u1 u (0 + 24) k (nI c)) := ⟨fun j hj => by rw [u1_n (by decide)], fun o h1 h2 => u1_n (by omega)⟩
          have F1 := i1.tr fu
          have a24 : ∀ i, i < k → (u1 u (0 + 24) k (nI c)).1 24 i = s.1 24 i := fun i hi => by
            rw [show (0 + 24 : Nat) = 24 from rfl, u1_s, pk_un (by omega)]; exact i2 i hi
          have a24k : (u1 u (0 + 24) k (nI c)).1 24 k = nI c := by rw [show (0 + 24 : Nat) = 24 from rfl, u1_s, pk_us]
          have a25 : (u1 u (0 + 24) k (nI c)).1 25 = u.1 25 := u1_n (by decide)
          have a43 : (u1 u (0 + 24) k (nI c)).1 0 43 = nI v := by rw [u1_n (by decide)]; exact v1
          generalize u1 u (0 + 24) k (nI c) = u' at *
          refine m_edgeOf hV (hM.fr F1) (by omega) ?_
          have R : ∀ wd, wd = max wide (gF nn (fun n => lg (tof n)) nw (T ||| 2 ^ c)) → wX11_takesOn_123 (wX11_takesOn f) post (wX11_takesOn_57 (wX11_takesOn f) post y) 0 (nI k) (nI T) (nI wide) (nI c) 0 (nI k + 1) (nI (T ||| 2 ^ c)) (nI wd) u' := by
            intro wd hwd2
            unfold wX11_takesOn_123
            rw [nI_1, nI_1]
            refine ih (k + 1) (T ||| 2 ^ c) wd v u' _ hf2 hkn hlt (by rw [cnt_or hc q3, hct]) (by omega) (by omega) F1 a43 (fun s' F2 p1 p2 p3 => ?_)
            rintro _ rfl
            have hmx : max wd (mTF W nn (T ||| 2 ^ c)) = max wide (W (T ||| 2 ^ c)) := by omega
            rw [hmx] at p2 p3
            refine ih2 s' ⟨F2, fun i hi => by rw [p1 i (by omega)]; exact a24 i hi, ?_⟩
            by_cases d : max wide (W (T ||| 2 ^ c)) < v
            · obtain ⟨r1, r2, r3⟩ := p2 d
              refine ⟨max wide (W (T ||| 2 ^ c)), r1, by omega, fun j hj hb => ?_, fun _ => ⟨c, by omega, q3, rfl, fun j' hj' hb => ?_, fun i hi => by rw [r2 i (by omega)]; exact a24 i hi, by rw [r2 k (by omega)]; exact a24k, fun i h1 h2 => by rw [r3 i (by omega) h2, Nat.sub_sub]⟩, fun e => by omega⟩
              · by_cases e : j = c
                · rw [e]; exact Nat.le_refl _
                · have := v3 j (by omega) hb
                  omega
              · have := v3 j' hj' hb
                omega
            · obtain ⟨r1, r2⟩ := p3 d
              have e25 : ∀ i, i < nn → s'.1 25 i = u.1 25 i := fun i hi => by rw [r2 i hi, a25]
              refine ⟨v, r1, v2, fun j hj hb => ?_, fun h => ?_, fun e i hi => by rw [e25 i hi]; exact v5 e i hi⟩
              · by_cases e : j = c
                · rw [e]; omega
                · exact v3 j (by omega) hb
              · obtain ⟨j, j1, j2, j3, j4, j5, j6, j7⟩ := v4 h
                exact ⟨j, by omega, j2, j3, j4, fun i hi => by rw [e25 i (Nat.lt_trans hi hkn)]; exact j5 i hi, by rw [e25 k hkn]; exact j6, fun i h1 h2 => by rw [e25 i h2]; exact j7 i h1 h2⟩
          rw [nI_leI (by omega) (by omega)]
          exact ⟨fun c1 => R wide (by omega), fun c1 => R _ (by omega)⟩
        · rintro _ rfl
          rw [nI_1]
          refine ih2 u ⟨i1, i2, v, v1, v2, fun j hj hb => ?_, fun h => ?_, v5⟩
          · by_cases e : j = c
            · rw [e, q3] at hb; exact absurd hb (by decide)
            · exact v3 j (by omega) hb
          · obtain ⟨j, j1, j2⟩ := v4 h
            exact ⟨j, by omega, j2⟩
    · have hall := cnt_full hT (by rw [hct, q2])
      have hm : mTF W nn T = 0 := by unfold mTF; rw [if_pos hall]
      rw [hm] at K
      rintro _ rfl
      refine loop_0 (fun y i (u : St) => wX11_takesOn_27 (wX11_takesOn f) post y 0 (nI k) (nI i) u) (fun i u => FM τ u ∧ u.1 24 = s.1 24 ∧ u.1 0 43 = nI wide ∧ ∀ x, x < i → u.1 25 x = s.1 24 x) k _ ⟨hF.tr (FM.u0 (by decide)), u1_n (by decide), by rw [u1_s, pk_us], fun x hx => by omega⟩ ?_ ?_
      · rintro y u ⟨g1, g2, g3, g4⟩
        unfold wX11_takesOn_27
        refine ⟨fun _ => K u g1 (fun i _ => by rw [g2]) (fun _ => ⟨by rw [g3]; congr 1; omega, g4, fun i h1 h2 => by omega⟩) (fun c => by omega), fun q => absurd (nI_le (Nat.le_refl _) (by omega)) q⟩
      · rintro y i u hi ⟨g1, g2, g3, g4⟩ ih2
        unfold wX11_takesOn_27
        simp only [Nat.zero_add]
        refine ⟨fun q => absurd q (nI_ge hi (by omega)), fun _ => ⟨vp_in_nI (by omega) (by decide), vp_in_nI (by omega) (by decide), ?_⟩⟩
        rintro _ rfl _ rfl
        rw [nI_1, nI_clamp (by omega), g2]
        refine ih2 _ ⟨g1.tr ⟨fun j hj => by rw [u1_n (by decide)], fun o h1 h2 => u1_n (by omega)⟩, by rw [u1_n (by decide)]; exact g2, by rw [u1_n (by decide)]; exact g3, fun x hx => ?_⟩
        rw [u1_s]
        by_cases e : x = i
        · rw [e, pk_us]
        · rw [pk_un e]; exact g4 x (by omega)
theorem M_width {W : Nat → Nat} {a : Int32} {post : Int32 → St → Prop} (hV : RV P tn bn nn lg tof tv bv L tp nw sz old ac kb kn) (hM : RM P tn bn nn lg tof tv bv L tp nw sz ac kb kn τ) (hW : WdX nn (fun n => lg (tof n)) nw W) (k0 : ixB a (nn + 1) = false → ∀ s, FM τ s → post (-1) s) (k1 : a = 0 → ∀ s, FM τ s → post (nI (W 0)) s) (k2 : ∀ i s, i < nn → a = nI (i + 1) → FM τ s → post (nI (nxF W nn (W 0) (tkF W nn (W 0) 0 i))) s) : wX11_width 0 a τ post := by
  have hF : FM τ (u1 τ 0 0 0) := FM.u0 (by decide)
  have hM1 := hM.fr hF
  have hn := hV.2.1.1
  have hp := Nat.two_pow_pos nn
  unfold wX11_width
  rintro _ rfl
  generalize u1 τ 0 0 0 = τ1 at *
  rw [show τ1.1 (0 + 5) (0 : Int32).toNatClampNeg = nI nn from hM1.2.1.1]
  refine m_within (N := nn + 1) (by rw [nI_toInt (by omega)]; omega) ⟨fun q => ?_, fun q => k0 q τ1 hF⟩
  obtain ⟨wh, hwh, rfl⟩ := ixB_t (by omega) q
  rintro _ rfl
  have w0 := hW 0 hp
  have g0 : gF nn (fun n => lg (tof n)) nw 0 = 0 := fb_ct_zero.mpr (fun k _ => by
    unfold edX lgT
    simp)
  have hm0 : max 0 (mTF W nn 0) = W 0 := by omega
  refine m_takes (W := W) hV hM hW 8 0 0 0 100 _ _ (by omega) (by omega) hp (fb_ct_zero.mpr (fun k _ => Nat.zero_testBit k)) (by omega) (by omega) (hF.tr (FM.u0 (by decide))) (by rw [u1_s, pk_us]; rfl) (fun s' F2 p1 p2 p3 => ?_)
  rw [hm0] at p2
  obtain ⟨r1, r2, r3⟩ := p2 (by omega)
  refine ⟨fun c => ?_, fun c => ?_⟩
  · obtain ⟨i, rfl⟩ := nz_succ c
    rw [nI_pred]
    rintro _ rfl
    refine ⟨vp_in_nI (by omega) (by decide), ?_⟩
    rw [nI_clamp (by omega), show s'.1 (0 + 25) i = _ from r3 i (by omega) (by omega), Nat.sub_zero]
    exact k2 i s' (by omega) rfl F2
  · rw [r1]
    exact k1 c s' F2
theorem S_width (hR : Rel σ τ) (a : Int32) : wX10_width 0 a σ (fun r u => wX11_width 0 a τ (fun r2 v => r = r2 ∧ Rel u v)) := by
  obtain ⟨t, P, tn, bn, nn, lg, tof, tv, bv, L, tp, nw, sz, old, ac, kb, kn, hV, hX, hM⟩ := id hR
  have hn := hV.2.1.1
  have hp := Nat.two_pow_pos nn
  have z : (0 : Int32).toInt = 0 := rfl
  unfold wX10_width
  simp only [Nat.zero_add]
  rw [hX.2.2.2.1.1, fa_lt, z, fa_le, nI_toInt (by omega)]
  have out : ixB a (nn + 1) = false → wX11_width 0 a τ (fun r2 v => (-1 : Int32) = r2 ∧ Rel σ v) := fun c => by
    unfold wX11_width
    rintro _ rfl
    have hF : FM τ (u1 τ 0 0 0) := FM.u0 (by decide)
    rw [show (u1 τ 0 0 0).1 (0 + 5) (0 : Int32).toNatClampNeg = nI nn from (hM.fr hF).2.1.1]
    refine m_within (N := nn + 1) (by rw [nI_toInt (by omega)]; omega) ⟨fun q => absurd (c.symm.trans q) (by decide), fun q => ⟨rfl, hR.fr (FX.rf σ) hF⟩⟩
  refine ⟨fun q => out (decide_eq_false (by omega)), fun q => ⟨fun q2 => ?_, fun q2 => out (decide_eq_false (by omega))⟩⟩
  have hin : ixB a (nn + 1) = true := decide_eq_true ⟨by omega, by omega⟩
  refine c_weigh hX.2.2.2.1 hV.2.2.2.1 hn hV.hl (fun s W f1 hW hs => ?_)
  have hF1 : FX σ s := fun o ho => f1 o (by omega)
  have hN : NetX nn (fun n => lg (tof n)) nw 86 s := hX.2.2.2.1.fr hn (fun o h1 h2 => f1 o (by omega))
  refine ⟨fun c => ?_, fun c => ?_⟩
  · obtain ⟨wh, hwh, rfl⟩ := ixB_t (by omega) hin
    obtain ⟨i, rfl⟩ := nz_succ c
    rw [nI_pred]
    refine c_best hN hn hW hs (by omega) (M_width hV hM hW (fun d => absurd (hin.symm.trans d) (by decide)) (fun d => absurd d c) (fun i' s' hi' e hs' => ?_))
    have ee := (nI_eq (by omega) (by omega)).mp e
    have ee : i' = i := by omega
    subst ee
    exact ⟨rfl, hR.fr hF1 hs'⟩
  · unfold wX5_leastWidth
    rw [show s.1 (309 + 1) (0 : Int32).toNatClampNeg = nI (W 0) from hs 0 hp]
    refine M_width hV hM hW (fun d => absurd (hin.symm.trans d) (by decide)) (fun _ s' hs' => ⟨rfl, hR.fr hF1 hs'⟩) (fun i' s' hi' e hs' => ?_)
    have ee := (nI_eq (a := 0) (b := i' + 1) (by omega) (by omega)).mp (c.symm.trans e)
    omega
end WO
