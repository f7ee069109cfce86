/-! undo, keep, scale, plug -/
section UK
variable {t P tn bn nn : Nat} {lg tof : Nat → Nat} {tv bv : Nat → Nat → Int32} {L : Nat} {tp : Nat → Int32} {nw nw' : NetT} {sz old sz' old' : Nat} {ac ac' : Nat → NetT} {kb kb' : Nat → Bool} {kn kn' : Nat → NetT} {σ τ σ' τ' : St} {nl : Nat → Nat} {w : NetT} {N j : Nat}
theorem RV.pop {y : Nat} (hV : RV P tn bn nn lg tof tv bv L tp nw sz old ac kb kn) (hy : y ≤ sz) : RV P tn bn nn lg tof tv bv L tp nw y old ac kb kn := by
  obtain ⟨v1, v2, v3, v4, ⟨v5, v6, v7⟩, v8⟩ := hV
  exact ⟨v1, v2, v3, v4, ⟨by omega, v6, fun k hk => v7 k (by omega)⟩, v8⟩
theorem nz_succ {n : Nat} (h : ¬ nI n = 0) : ∃ y, n = y + 1 := by
  cases n with
  | zero => exact absurd nI_0 h
  | succ y => exact ⟨y, rfl⟩
theorem RX.pop {y : Nat} (hV : RV P tn bn nn lg tof tv bv L tp nw sz old ac kb kn) (hX : RX t P tn bn nn lg tof tv bv L tp nw sz old ac kb kn σ) (hy : y ≤ sz) : RX t P tn bn nn lg tof tv bv L tp nw y old ac kb kn (u1 σ 101 0 (nI y)) := by
  obtain ⟨a1, a2, a3⟩ := hX.2.2.2.2.1
  exact RX.acts hV hX (fun o ho => by rw [u1_n (by omega)]) (by rw [u1_s, pk_us]) (by rw [u1_s, pk_un (by decide), a2]) (fun k hk => (a3 k (by omega)).fr hV.2.1.1 (fun o h1 h2 => by rw [u1_n (by omega)]))
theorem RM.pop {y : Nat} (hM : RM P tn bn nn lg tof tv bv L tp nw sz ac kb kn τ) (hy : y ≤ sz) : RM P tn bn nn lg tof tv bv L tp nw y ac kb kn (u1 τ 0 32 (nI y)) := by
  obtain ⟨a1, a2⟩ := hM.2.2.2.2.1
  refine RM.acts hM (fun j hj => by rw [u1_s, pk_un (by omega)]) (fun o h1 h2 h3 => by rw [u1_n (by omega)]) (by rw [u1_s, pk_us]) (fun k hk => ?_)
  rw [u1_n (by decide)]
  exact a2 k (by omega)
theorem C_undo {post : Int32 → St → Prop} (hV : RV P tn bn nn lg tof tv bv L tp nw sz old ac kb kn) (hX : RX t P tn bn nn lg tof tv bv L tp nw sz old ac kb kn σ) (k0 : sz = 0 → post (-1) σ) (k1 : ∀ s y, sz = y + 1 → RX t P tn bn nn lg tof tv bv L tp (ac y) y old ac kb kn s → post (nI y) s) : wX10_undo 0 σ post := by
  have hs := hV.2.2.2.2.1.1
  have ho := hV.2.2.2.2.1.2.1
  have hn := hV.2.1.1
  obtain ⟨a1, a2, a3⟩ := hX.2.2.2.2.1
  unfold wX10_undo wX0_restore
  simp only [Nat.zero_add]
  rw [a1]
  refine ⟨fun q => ?_, fun q => k0 ?_⟩
  · obtain ⟨y, rfl⟩ := nz_succ q
    refine ⟨fun q2 => absurd q2 (nI_nle (by omega) (by omega)), fun _ => ?_⟩
    rintro _ rfl
    rw [nI_pred]
    have hX' := hX.pop hV (y := y) (by omega)
    obtain ⟨b1, b2, b3⟩ := hX'.2.2.2.2.1
    rw [b1, b2, nI_add, show (12 : Int32) = nI 12 from rfl, pk_rem (by omega) (by decide) (by decide)]
    rintro _ rfl
    refine ⟨vp_in_nI (Nat.mod_lt _ (by decide)) (by decide), ?_⟩
    rw [nI_clamp (by omega)]
    have hsrc := (a3 y (by omega)).fr (σ' := u1 σ 101 0 (nI y)) hn (fun o h1 h2 => by rw [u1_n (by omega)])
    refine c_netCopy hsrc hn hV.hl (hV.2.2.2.2.1.2.2 y (by omega)).1 (by omega) (fun s sN sF => ?_)
    rw [sF 101 (by omega), b1]
    exact k1 s y rfl (hX'.now (hV.pop (by omega)) (fun o ho => sF o (by omega)) sN)
  · have := (nI_eq (a := sz) (b := 0) (by omega) (by decide)).mp q
    exact this
theorem M_undo {post : Int32 → St → Prop} (hV : RV P tn bn nn lg tof tv bv L tp nw sz old ac kb kn) (hM : RM P tn bn nn lg tof tv bv L tp nw sz ac kb kn τ) (k0 : ∀ v, sz = 0 → FM τ v → post (-1) v) (k1 : ∀ s y, sz = y + 1 → RM P tn bn nn lg tof tv bv L tp (ac y) y ac kb kn s → post (nI y) s) : wX11_undo 0 τ post := by
  have hF : FM τ (u1 τ 0 0 0) := FM.u0 (by decide)
  have hM1 := hM.fr hF
  have hs := hV.2.2.2.2.1.1
  have hn := hV.2.1.1
  unfold wX11_undo
  rintro _ rfl
  generalize u1 τ 0 0 0 = τ1 at *
  obtain ⟨a1, a2⟩ := hM1.2.2.2.2.1
  rw [a1]
  refine ⟨fun q => ?_, fun q => k0 _ ?_ hF⟩
  · obtain ⟨y, rfl⟩ := nz_succ q
    rintro _ rfl
    rw [nI_pred]
    have hM' := hM1.pop (y := y) (by omega)
    obtain ⟨b1, b2⟩ := hM'.2.2.2.2.1
    have hsrc := a2 y (by omega)
    have e17 : (u1 τ1 0 32 (nI y)).1 17 = τ1.1 17 := u1_n (by decide)
    generalize u1 τ1 0 32 (nI y) = τ2 at *
    refine loop_0 (fun j i (s : St) => wX11_undo_26 post j 0 (nI i) s) (fun i s => (∀ o, o ≠ 16 → s.1 o = τ2.1 o) ∧ (∀ x, x < i → s.1 16 x = τ2.1 17 (117 * y + x))) 117 τ2 ⟨fun _ _ => rfl, fun x hx => by omega⟩ ?_ ?_
    · rintro j s ⟨i1, i2⟩
      unfold wX11_undo_26
      refine ⟨fun _ => ?_, fun q => absurd (nI_le (Nat.le_refl _) (by decide)) q⟩
      rw [i1 0 (by decide), b1]
      refine k1 s y rfl (hM'.now (fun j hj => by rw [i1 0 (by decide)]) (fun o h1 h2 h3 => i1 o h3) (hsrc.cg hn hV.hl (hV.2.2.2.2.1.2.2 y (by omega)).1 (fun i hi => ?_)))
      rw [i2 i hi, e17]
    · rintro j i s hi ⟨i1, i2⟩ ih
      unfold wX11_undo_26
      simp only [Nat.zero_add]
      rw [i1 0 (by decide), b1, show (117 : Int32) = nI 117 from rfl, pk_mul, nI_add]
      refine ⟨fun q => absurd q (nI_ge hi (by decide)), fun _ => ?_⟩
      rintro _ rfl
      refine ⟨vp_in_nI (by omega) (by decide), vp_in_nI (by omega) (by decide), ?_⟩
      rintro _ rfl _ rfl
      rw [nI_1, nI_clamp (by omega), nI_clamp (by omega), i1 17 (by decide)]
      refine ih _ ⟨fun o ho => by rw [u1_n ho, i1 o ho], fun x hx => ?_⟩
      rw [u1_s]
      by_cases e : x = i
      · subst e; rw [pk_us]
      · rw [pk_un e]; exact i2 x (by omega)
  · have := (nI_eq (a := sz) (b := 0) (by omega) (by decide)).mp q
    exact this
theorem RV.undo {y : Nat} (hV : RV P tn bn nn lg tof tv bv L tp nw (y + 1) old ac kb kn) : RV P tn bn nn lg tof tv bv L tp (ac y) y old ac kb kn := by
  have h := hV.2.2.2.2.1.2.2 y (by omega)
  exact (hV.pop (y := y) (by omega)).now h
theorem S_undo (hR : Rel σ τ) : wX10_undo 0 σ (fun r u => wX11_undo 0 τ (fun r2 v => r = r2 ∧ Rel u v)) := by
  obtain ⟨t, P, tn, bn, nn, lg, tof, tv, bv, L, tp, nw, sz, old, ac, kb, kn, hV, hX, hM⟩ := id hR
  refine C_undo hV hX (fun e => M_undo hV hM (fun v _ hv => ⟨rfl, hR.fr (FX.rf σ) hv⟩) (fun v y e2 _ => by omega)) (fun s y e hs => M_undo hV hM (fun v e2 _ => by omega) (fun v y2 e2 hv => ?_))
  have e3 : y2 = y := by omega
  subst e3
  subst e
  exact ⟨rfl, t, P, tn, bn, nn, lg, tof, tv, bv, L, tp, ac y2, y2, old, ac, kb, kn, hV.undo, hs, hv⟩
theorem C_keep {a b : Int32} {post : Bool → St → Prop} (hV : RV P tn bn nn lg tof tv bv L tp nw sz old ac kb kn) (hX : RX t P tn bn nn lg tof tv bv L tp nw sz old ac kb kn σ) (k0 : ixB a 2 = false → post false σ) (k1 : ∀ j, j < 2 → a = nI j → b ≠ 0 → kb j = false → post false σ) (k2 : ∀ j s, j < 2 → a = nI j → b ≠ 0 → kb j = true → RX t P tn bn nn lg tof tv bv L tp (kn j) 0 old ac kb kn s → post true s) (k3 : ∀ j s, j < 2 → a = nI j → b = 0 → RX t P tn bn nn lg tof tv bv L tp nw sz old ac (fun x => if x = j then true else kb x) (fun x => if x = j then nw else kn x) s → post true s) : wX10_keep 0 a b σ post := by
  have hn := hV.2.1.1
  have z : (0 : Int32).toInt = 0 := rfl
  have z2 : (2 : Int32).toInt = 2 := rfl
  unfold wX10_keep
  simp only [Nat.zero_add]
  refine ⟨fun q => k0 ?_, fun q => ⟨fun q2 => ?_, fun q2 => k0 ?_⟩⟩
  · rw [fa_lt, z] at q
    simp [ixB]; omega
  · have hq : ixB a 2 = true := by
      rw [fa_lt, z] at q
      rw [fa_lt, z2] at q2
      simp [ixB]; omega
    obtain ⟨j, hj, rfl⟩ := ixB_t (by decide) hq
    rw [nI_clamp (by omega)]
    have hin : vp_in (nI j) 2 := vp_in_nI hj (by decide)
    obtain ⟨g1, g2⟩ := hX.2.2.2.2.2.1 j hj
    refine ⟨fun hb => ⟨hin, fun hl => ⟨hin, ?_⟩, fun hl => ?_⟩, fun hb => ⟨hin, ?_⟩⟩
    · rw [g1] at hl
      have hk := (b2i_n _).mp hl
      refine c_netCopy (g2 hk) hn hV.hl (hV.2.2.2.2.2 j hj hk).1 (by omega) (fun s sN sF => ?_)
      unfold wX0_forget
      rintro _ rfl
      have hs : RX t P tn bn nn lg tof tv bv L tp (kn j) sz old ac kb kn s := hX.now hV (fun o ho => sF o (by omega)) sN
      exact k2 j _ hj rfl hb hk (hs.pop (hV.now (hV.2.2.2.2.2 j hj hk)) (y := 0) (by omega))
    · rw [g1] at hl
      exact k1 j hj rfl hb ((b2i_0 _).mp hl)
    · refine c_netCopy hX.2.2.2.1 hn hV.hl hV.2.2.2.1.1 (by omega) (fun s sN sF => ⟨hin, ?_⟩)
      rintro _ rfl
      refine k3 j _ hj rfl hb ?_
      obtain ⟨⟨v1, v2, v3, v4, v5⟩, ⟨v6, v7⟩, v8, v9, v10, v11⟩ := hV
      obtain ⟨h1, h2, ⟨h3, h4⟩, h5, ⟨h6, h7, h8⟩, h9, h10⟩ := hX
      have ht : t = 2 ∨ t = 44 := h1.1
      have hF : ∀ o, (o < 283 ∨ (285 ≤ o ∧ o < 316) ∨ 346 ≤ o) → (u1 s 284 j (vp_nar .boolean 1)).1 o = σ.1 o := fun o ho => by rw [u1_n (by omega), sF o (by omega)]
      refine ⟨h1.fr v2 v3 (fun o ho => hF o (by omega)), trivial, ⟨by rw [hF _ (by omega)]; exact h3, fun i hi => by rw [hF _ (by omega)]; exact h4 i hi⟩, h5.fr v6 (fun o h1 h2 => hF o (by omega)), ⟨by rw [hF _ (by omega)]; exact h6, by rw [hF _ (by omega)]; exact h7, fun k hk => (h8 k hk).fr v6 (fun o h1 h2 => hF o (by omega))⟩, fun k hk => ?_, fun k hk => by rw [hF _ (by omega)]; exact h10 k hk⟩
      by_cases e : k = j
      · subst e
        simp only [if_true]
        exact ⟨by rw [u1_s, pk_us]; rfl, fun _ => sN.fr v6 (fun o h1 h2 => by rw [u1_n (by omega)])⟩
      · simp only [if_neg e]
        exact ⟨by rw [u1_s, pk_un e, sF 284 (by omega)]; exact (h9 k hk).1, fun hb => ((h9 k hk).2 hb).fr v6 (fun o h1 h2 => by rw [u1_n (by omega), sF o (by omega)])⟩
  · rw [fa_lt, z] at q
    rw [fa_lt, z2] at q2
    simp [ixB]; omega
theorem M_keep {a b : Int32} {post : Bool → St → Prop} (hV : RV P tn bn nn lg tof tv bv L tp nw sz old ac kb kn) (hM : RM P tn bn nn lg tof tv bv L tp nw sz ac kb kn τ) (k0 : ∀ v, ixB a 2 = false → FM τ v → post false v) (k1 : ∀ j v, j < 2 → a = nI j → b ≠ 0 → kb j = false → FM τ v → post false v) (k2 : ∀ j s, j < 2 → a = nI j → b ≠ 0 → kb j = true → RM P tn bn nn lg tof tv bv L tp (kn j) 0 ac kb kn s → post true s) (k3 : ∀ j s, j < 2 → a = nI j → b = 0 → RM P tn bn nn lg tof tv bv L tp nw sz ac (fun x => if x = j then true else kb x) (fun x => if x = j then nw else kn x) s → post true s) : wX11_keep 0 a b τ post := by
  have hF : FM τ (u1 τ 0 0 0) := FM.u0 (by decide)
  have hM1 := hM.fr hF
  have hn := hV.2.1.1
  unfold wX11_keep
  rintro _ rfl
  generalize u1 τ 0 0 0 = τ1 at *
  simp only [Nat.zero_add]
  refine m_within (N := 2) (y := (1 : Int32)) rfl ⟨fun q => k0 _ q hF, fun q => ?_⟩
  obtain ⟨j, hj, rfl⟩ := ixB_t (by decide) q
  rw [nI_clamp (by omega)]
  obtain ⟨g1, g2⟩ := hM1.2.2.2.2.2.1 j hj
  unfold wX11_keep_30
  refine ⟨fun hb => ?_, fun hb => ⟨vp_in_nI hj (by decide), fun hl => ?_, fun hl => ?_⟩⟩
  · subst hb
    refine loop_0 (fun x i (s : St) => wX11_keep_32 post x 0 (nI j) 0 (nI i) s) (fun i s => (∀ o, o ≠ 18 → s.1 o = τ1.1 o) ∧ (∀ x, (x < 117 * j ∨ 117 * j + i ≤ x) → s.1 18 x = τ1.1 18 x) ∧ (∀ x, x < i → s.1 18 (117 * j + x) = τ1.1 16 x)) 117 τ1 ⟨fun _ _ => rfl, fun _ _ => rfl, fun x hx => by omega⟩ ?_ ?_
    · rintro x s ⟨i1, i2, i3⟩
      unfold wX11_keep_32
      refine ⟨fun _ => ⟨fun _ => ⟨vp_in_nI hj (by decide), ?_⟩, fun h => absurd rfl h⟩, fun q => absurd (nI_le (Nat.le_refl _) (by decide)) q⟩
      rintro _ rfl
      rw [nI_clamp (by omega)]
      refine k3 j _ hj rfl rfl ?_
      obtain ⟨h1, h2, h3, h4, h5, h6, h7⟩ := hM1
      have fo : ∀ o, o ≠ 18 → o ≠ 0 + 19 → (u1 s (0 + 19) j (vp_nar .boolean 1)).1 o = τ1.1 o := fun o ho h2 => by rw [u1_n h2, i1 o ho]
      unfold TabM NodM at *
      unfold RM TabM NodM
      rw [fo 0 (by decide) (by decide), fo 1 (by decide) (by decide), fo 2 (by decide) (by decide), fo 3 (by decide) (by decide), fo 4 (by decide) (by decide), fo 5 (by decide) (by decide), fo 9 (by decide) (by decide), fo 10 (by decide) (by decide), fo 11 (by decide) (by decide), fo 12 (by decide) (by decide), fo 16 (by decide) (by decide), fo 17 (by decide) (by decide)]
      refine ⟨h1, h2, h3, h4, h5, fun k hk => ?_, h7⟩
      by_cases e : k = j
      · subst e
        simp only [if_true]
        refine ⟨by rw [u1_s, pk_us]; rfl, fun _ => h4.cg hn hV.hl hV.2.2.2.1.1 (fun i hi => ?_)⟩
        rw [u1_n (by decide), i3 i hi]
      · simp only [if_neg e]
        refine ⟨by rw [u1_s, pk_un e, i1 19 (by decide)]; exact (h6 k hk).1, fun hb => ((h6 k hk).2 hb).cg hn hV.hl (hV.2.2.2.2.2 k hk hb).1 (fun i hi => ?_)⟩
        rw [u1_n (by decide)]
        exact i2 _ (by omega)
    · rintro x i s hi ⟨i1, i2, i3⟩ ih
      unfold wX11_keep_32
      simp only [Nat.zero_add]
      rw [show (117 : Int32) = nI 117 from rfl, pk_mul, nI_add]
      refine ⟨fun q => absurd q (nI_ge hi (by decide)), fun _ => ⟨fun _ => ⟨vp_in_nI (by omega) (by decide), vp_in_nI (by omega) (by decide), ?_⟩, fun h => absurd trivial h⟩⟩
      rintro _ rfl _ rfl
      rw [nI_1, nI_clamp (by omega), nI_clamp (by omega), i1 16 (by decide)]
      refine ih _ ⟨fun o ho => by rw [u1_n ho, i1 o ho], fun x hx => by rw [u1_s, pk_un (by omega)]; exact i2 x (by omega), fun x hx => ?_⟩
      rw [u1_s]
      by_cases e : x = i
      · subst e; rw [pk_us]
      · rw [pk_un (by omega)]; exact i3 x (by omega)
  · rw [g1] at hl
    have hk := (b2i_n _).mp hl
    refine loop_0 (fun x i (s : St) => wX11_keep_32 post x 0 (nI j) b (nI i) s) (fun i s => (∀ o, o ≠ 16 → s.1 o = τ1.1 o) ∧ (∀ x, x < i → s.1 16 x = τ1.1 18 (117 * j + x))) 117 τ1 ⟨fun _ _ => rfl, fun x hx => by omega⟩ ?_ ?_
    · rintro x s ⟨i1, i2⟩
      unfold wX11_keep_32
      refine ⟨fun _ => ⟨fun h => absurd h hb, fun _ => ?_⟩, fun q => absurd (nI_le (Nat.le_refl _) (by decide)) q⟩
      rintro _ rfl
      have hs : RM P tn bn nn lg tof tv bv L tp (kn j) sz ac kb kn s := hM1.now (fun j hj => by rw [i1 0 (by decide)]) (fun o h1 h2 h3 => i1 o h3) ((g2 hk).cg hn hV.hl (hV.2.2.2.2.2 j hj hk).1 (fun i hi => i2 i hi))
      exact k2 j _ hj rfl hb hk (hs.pop (y := 0) (by omega))
    · rintro x i s hi ⟨i1, i2⟩ ih
      unfold wX11_keep_32
      simp only [Nat.zero_add]
      rw [show (117 : Int32) = nI 117 from rfl, pk_mul, nI_add]
      refine ⟨fun q => absurd q (nI_ge hi (by decide)), fun _ => ⟨fun h => absurd h hb, fun _ => ?_⟩⟩
      rintro _ rfl
      refine ⟨vp_in_nI (by omega) (by decide), vp_in_nI (by omega) (by decide), ?_⟩
      rintro _ rfl _ rfl
      rw [nI_1, nI_clamp (by omega), nI_clamp (by omega), i1 18 (by decide)]
      refine ih _ ⟨fun o ho => by rw [u1_n ho, i1 o ho], fun x hx => ?_⟩
      rw [u1_s]
      by_cases e : x = i
      · subst e; rw [pk_us]
      · rw [pk_un e]; exact i2 x (by omega)
  · rw [g1] at hl
    exact k1 j _ hj rfl hb ((b2i_0 _).mp hl) hF
theorem nI_inj2 {a : Int32} {j j' : Nat} (h : a = nI j) (h' : a = nI j') (hj : j < 2 ^ 31) (hj' : j' < 2 ^ 31) : j = j' := (nI_eq hj hj').mp (h.symm.trans h')
theorem ixB_no {a : Int32} {j M : Nat} (h : ixB a M = false) (e : a = nI j) (hj : j < M) (hM : M < 2 ^ 31) : False := by
  rw [e, ixB_nI hj hM] at h
  exact absurd h (by decide)
theorem S_keep (hR : Rel σ τ) (a b : Int32) : wX10_keep 0 a b σ (fun r u => wX11_keep 0 a b τ (fun r2 v => r = r2 ∧ Rel u v)) := by
  obtain ⟨t, P, tn, bn, nn, lg, tof, tv, bv, L, tp, nw, sz, old, ac, kb, kn, hV, hX, hM⟩ := id hR
  refine C_keep hV hX (fun c => M_keep hV hM (fun v _ hv => ⟨rfl, hR.fr (FX.rf σ) hv⟩) (fun j v _ _ _ _ hv => ⟨rfl, hR.fr (FX.rf σ) hv⟩) (fun j v hj e _ _ _ => (ixB_no c e hj (by decide)).elim) (fun j v hj e _ _ => (ixB_no c e hj (by decide)).elim)) (fun j hj e c1 c2 => M_keep hV hM (fun v _ hv => ⟨rfl, hR.fr (FX.rf σ) hv⟩) (fun j v _ _ _ _ hv => ⟨rfl, hR.fr (FX.rf σ) hv⟩) (fun j' v hj' e' _ c3 _ => ?_) (fun j v hj e c3 _ => absurd c3 c1)) (fun j s hj e c1 c2 hs => M_keep hV hM (fun v c _ => (ixB_no c e hj (by decide)).elim) (fun j' v hj' e' _ c3 _ => ?_) (fun j' v hj' e' _ c3 hv => ?_) (fun j v hj e c3 _ => absurd c3 c1)) (fun j s hj e c1 hs => M_keep hV hM (fun v c _ => (ixB_no c e hj (by decide)).elim) (fun j' v hj' e' c2 _ _ => absurd c1 c2) (fun j' v hj' e' c2 _ _ => absurd c1 c2) (fun j' v hj' e' _ hv => ?_))
  · have := nI_inj2 e e' (by omega) (by omega)
    subst this
    rw [c2] at c3; exact absurd c3 (by decide)
  · have := nI_inj2 e e' (by omega) (by omega)
    subst this
    rw [c2] at c3; exact absurd c3 (by decide)
  · have := nI_inj2 e e' (by omega) (by omega)
    subst this
    exact ⟨rfl, t, P, tn, bn, nn, lg, tof, tv, bv, L, tp, kn j, 0, old, ac, kb, kn, (hV.now (hV.2.2.2.2.2 j hj c2)).pop (by omega), hs, hv⟩
  · have := nI_inj2 e e' (by omega) (by omega)
    subst this
    refine ⟨rfl, t, P, tn, bn, nn, lg, tof, tv, bv, L, tp, nw, sz, old, ac, _, _, ⟨hV.1, hV.2.1, hV.2.2.1, hV.2.2.2.1, hV.2.2.2.2.1, fun k hk hb => ?_⟩, hs, hv⟩
    by_cases e2 : k = j
    · simp only [if_pos e2]; exact hV.2.2.2.1
    · simp only [if_neg e2] at hb ⊢
      exact hV.2.2.2.2.2 k hk hb
end UK
