/-! the field's line in the reference; the whole text -/
def wrP (P : Nat) (r : (Nat × Nat) ⊕ (PD × Nat)) : (Nat × Nat) ⊕ (Nat × PD × Nat) := match r with
  | .inl f => .inl f
  | .inr (D, c) => .inr (P, D, c)
def fdW (U : Nat → Nat) (n : Nat) (r : (Nat × Nat) ⊕ (Nat × Nat)) : (Nat × Nat) ⊕ (Nat × PD × Nat) := match r with
  | .inl f => .inl f
  | .inr (P, b) => wrP P (rdL U n P (n + 1) b D0 1)
def topL (U : Nat → Nat) (n : Nat) : (Nat × Nat) ⊕ (Nat × PD × Nat) := if kwT U n 0 = 0 then fdW U n (fldL U n 0) else wrP 7 (rdL U n 7 (n + 1) 0 D0 0)
section TP
variable {t P : Nat} {σ τ σ' τ' u : St} {tp : Nat → Int32} {n : Nat} {U : Nat → Nat} {a : Nat} {D : PD}
theorem m_field {post : Bool → St → Prop} (hU : U = fun i => ub (tp i)) (h0 : TM tp n τ) (ha : a ≤ n) (tk : TokM U n a τ) (h9 : τ.1 0 9 = 0) (hk : kwT U n a ≠ 6) (h : MD P D0 τ) (kf : ∀ pl kd u, fldL U n a = .inl (pl, kd) → FPM τ u → u.1 0 9 = nI kd → u.1 0 10 = nI pl → post false u) (kt : ∀ v b u, fldL U n a = .inr (v, b) → FPM τ u → MD v D0 u → TokM U n b u → u.1 0 9 = 0 → post true u) : wX11_fieldLine 0 τ post := by
  have h1 := tkE_le (U := U) ha
  have h2 := tkE_le (U := U) h1.2
  unfold fldL at kf kt
  unfold wX11_fieldLine
  refine m_steps hU h0 h1.2 (tk.2.2.2.2 (by rw [kw_0 hk]; decide)) (fun s f t2 => ?_)
  have s9 : s.1 0 9 = 0 := by rw [f.2.1 9 (by decide) (by decide) (by decide) (by decide)]; exact h9
  have r := rk_eq1 (tkK_le (U := U) (n := n) (a := tkE U n a))
  have hs : MD P D0 s := PrM.fr h f.r
  rw [t2.1, r.2.1]
  unfold wX11_fieldLine_18
  refine ⟨fun q => ?_, fun q => ?_⟩
  · rw [if_neg q] at kf
    exact m_must (b := false) (kd := 1) s9 (by simp) (by decide) (by decide) t2.2.1 (fun d => absurd d (by decide)) (fun _ s' f' g1 g2 => ⟨fun _ => kf _ _ s' rfl (f.r.tr f').p g1 g2, fun d => absurd d (by decide)⟩)
  · rw [if_pos q] at kf kt
    have hv := tkV_num (U := U) (n := n) h1.2 q
    refine m_must (b := true) (kd := 1) s9 (by decide) (by decide) (by decide) t2.2.1 (fun _ => ⟨fun d => absurd d (by decide), fun _ => ?_⟩) (fun d => absurd d (by decide))
    have bad : ¬ (3 ≤ tkV U n (tkE U n a) ∧ tkV U n (tkE U n a) ≤ 97 ∧ prB (tkV U n (tkE U n a)) = true) → wX11_fieldLine_57 post 0 0 s := fun c => by
      rw [if_neg c] at kf
      unfold wX11_fieldLine_57 wX11_fieldLine_58
      exact m_must (b := false) (kd := 4) s9 (by simp) (by decide) (by decide) t2.2.1 (fun d => absurd d (by decide)) (fun _ s' f' g1 g2 => ⟨fun d => absurd d (by decide), fun _ => kf _ _ s' rfl (f.r.tr f').p g1 g2⟩)
    have v7 := t2.2.2.1 q
    rw [v7]
    refine m_win (lo := 3) (hi := 97) (by omega) (by decide) (by decide) ⟨fun c => bad ?_, fun c => ?_⟩
    · intro d
      have := d.1
      have := d.2.1
      unfold inU at c
      simp at c
      omega
    · have c : 3 ≤ tkV U n (tkE U n a) ∧ tkV U n (tkE U n a) ≤ 97 := by
        unfold inU at c
        simp at c
        omega
      rw [v7]
      refine m_prime c.1 c.2 ⟨fun d => bad (fun e => by rw [e.2.2] at d; exact absurd d (by decide)), fun d => ?_⟩
      rw [if_pos ⟨c.1, c.2, d⟩] at kf kt
      unfold wX11_fieldLine_58
      refine m_must (b := true) (kd := 4) s9 (by decide) (by decide) (by decide) t2.2.1 (fun _ => ⟨fun _ => ?_, fun d => absurd d (by decide)⟩) (fun d => absurd d (by decide))
      rw [v7]
      rintro _ rfl
      have f2 : FPM τ (u1 s (0 + 2) (1 : Int32).toNatClampNeg (nI (tkV U n (tkE U n a)))) := f.r.p.tr ⟨fun o ho => u1_n (by omega), fun o o1 o2 => by
        by_cases e : o = 2
        · subst e
          show (u1 s 2 _ _).1 2 0 = _
          rw [u1_s, pk_un (by decide)]
        · rw [u1_n e], fun i hi => by rw [u1_n (by decide)], fun i hi => by rw [u1_n (by decide)], fun i hi => by rw [u1_n (by decide)], fun i hi => by rw [u1_n (by decide)], fun j hj => by rw [u1_n (by decide)]⟩
      have p2 : MD (tkV U n (tkE U n a)) D0 (u1 s (0 + 2) (1 : Int32).toNatClampNeg (nI (tkV U n (tkE U n a)))) := by
        obtain ⟨a0, a1, a2, a3, a4, a5, a6, a7, a8, a9⟩ := hs
        have F : ∀ o, o ≠ 2 → (u1 s (0 + 2) (1 : Int32).toNatClampNeg (nI (tkV U n (tkE U n a)))).1 o = s.1 o := fun o ho => u1_n ho
        exact ⟨by rw [F 0 (by decide)]; exact a0, by show (u1 s 2 1 _).1 2 1 = _; rw [u1_s, pk_us], by rw [F 3 (by decide)]; exact a2, by rw [F 4 (by decide)]; exact a3, by rw [F 5 (by decide)]; exact a4, fun j hj => absurd hj (Nat.not_lt_zero j), fun j hj => absurd hj (Nat.not_lt_zero j), fun j hj => absurd hj (Nat.not_lt_zero j), by rw [F 0 (by decide)]; exact a8, fun e he => absurd he (Nat.not_lt_zero e)⟩
      have k2 := tkK_le (U := U) (n := n) (a := tkE U n (tkE U n a))
      refine m_steps hU (h0.fp f2) h2.2 (by rw [u1_n (by decide)]; exact t2.2.2.2.2 (by omega)) (fun y fy ty => ?_)
      have y9 : y.1 0 9 = 0 := by rw [fy.2.1 9 (by decide) (by decide) (by decide) (by decide), u1_n (by decide)]; exact s9
      have r2 := rk_eq1 k2
      rw [ty.1, r2.2.2.1]
      unfold wX11_fieldLine_95
      refine ⟨fun e => ?_, fun e => ?_⟩
      · have e1 : endC U n (tkE U n (tkE U n a)) = 1 := by unfold endC; rw [if_neg e]
        rw [e1, if_neg (by decide)] at kf
        exact m_must (b := false) (kd := 1) y9 (by simp) (by decide) (by decide) ty.2.1 (fun d => absurd d (by decide)) (fun _ s' f' g1 g2 => ⟨fun d => absurd d (by decide), fun _ => kf _ _ s' rfl (f2.tr (fy.r.tr f').p) g1 g2⟩)
      · have e1 : endC U n (tkE U n (tkE U n a)) = 0 := by unfold endC; rw [if_pos e]
        rw [if_pos e1] at kt
        refine m_must (b := true) (kd := 1) y9 (by decide) (by decide) (by decide) ty.2.1 (fun _ => ⟨fun _ => ?_, fun d => absurd d (by decide)⟩) (fun d => absurd d (by decide))
        refine m_steps hU (h0.fp (f2.tr fy.r.p)) (tkE_le h2.2).2 (ty.2.2.2.2 (by omega)) (fun z fz tz => ?_)
        exact kt _ _ z rfl (f2.tr (fy.r.tr fz.r).p) (PrM.fr p2 (fy.r.tr fz.r)) tz (by rw [fz.2.1 9 (by decide) (by decide) (by decide) (by decide)]; exact y9)
theorem c_top {post : Int32 → St → Prop} (hU : U = fun i => ub (tp i)) (hn : n ≤ 700) (hby : ∀ i, i < n → byR (tp i)) (htp : ∀ i, i < n → σ.1 1 i = tp i) (ht : t = 2 ∨ t = 44) (h292 : ∀ k, k < 6 → σ.1 290 k = pk k) (kf : ∀ pl kd u, topL U n = .inl (pl, kd) → (∀ o, (o < t ∨ t + 42 ≤ o) → (o < 285 ∨ 290 ≤ o) → u.1 o = σ.1 o) → post (fltV pl kd) u) (kt : ∀ P D c u, topL U n = .inr (P, D, c) → (∀ o, (o < t ∨ t + 42 ≤ o) → (o < 285 ∨ 290 ≤ o) → u.1 o = σ.1 o) → XD t P D u → VD P D → post (nI c) u) : wX6_read 285 1 (nI n) t σ post := by
  unfold wX6_read
  rw [show (if nI 700 < nI n then nI 700 else nI n) = nI n from if_neg (fun d => by have := (nI_ltI (a := 700) (by decide) (by omega)).mp d; omega)]
  rintro _ rfl _ rfl _ rfl
  have base : ∀ s, (∀ o, o ≠ 285 → o ≠ t → o ≠ t + 3 → s.1 o = σ.1 o) → s.1 285 2 = 0 → s.1 285 3 = nI n → s.1 t 0 = 7 → s.1 t 1 = 0 → s.1 t 3 = 0 → s.1 t 6 = 0 → s.1 (t + 3) 0 = 0 → s.1 (t + 3) 1 = 0 → wX6_advance 285 1 s (fun s5 => wX6_keyword 285 s5 (fun r1 s6 => (¬ r1 = 0 → wX6_read_61 post 285 1 t (0 : Int32) s6) ∧ (r1 = 0 → wX6_readField 285 1 t s6 (fun r2 s7 => (r2 = true → ∀ x1 : Int32, x1 = (0 : Int32) + (1 : Int32) → wX6_advance 285 1 s7 (fun s8 => wX6_read_61 post 285 1 t x1 s8)) ∧ (r2 = false → post (s7.1 285 7) s7))))) := fun s F a2 a3 b0 b1 b4 b7 n0 n1 => by
    have hX : TX tp n s := ⟨hn, hby, fun i hi => by rw [F 1 (by omega) (by omega) (by omega)]; exact htp i hi, a3⟩
    have hD : XD t 7 D0 s := ⟨0, fun _ => 0, fun _ => 0, fun _ => 0, ⟨rfl, fun k hk => absurd hk (Nat.not_lt_zero k), fun k hk => absurd hk (Nat.not_lt_zero k), fun k hk => absurd hk (Nat.not_lt_zero k), fun k hk => absurd hk (Nat.not_lt_zero k), fun k k' h1 h2 => absurd h2 (Nat.not_lt_zero k'), fun k hk => absurd hk (Nat.not_lt_zero k)⟩, ⟨ht, b0, b1, b4, b7, fun k hk => absurd hk (Nat.not_lt_zero k), fun k hk => absurd hk (Nat.not_lt_zero k), ⟨n0, n1, fun k hk => absurd hk (Nat.not_lt_zero k), fun k hk => absurd hk (Nat.not_lt_zero k)⟩, trivial, fun k hk => absurd hk (Nat.not_lt_zero k), fun k hk => by rw [F 290 (by omega) (by omega) (by omega)]; exact h292 k hk⟩⟩
    have G : ∀ u, FPX t s u → (∀ o, (o < t ∨ t + 42 ≤ o) → (o < 285 ∨ 290 ≤ o) → u.1 o = σ.1 o) := fun u f o o1 o2 => by rw [f.1 o o1 o2, F o (by omega) (by omega) (by omega)]
    refine c_advance hU hX (Nat.zero_le n) a2 (fun v fv tv => ?_)
    have hXv := hX.fc fv.c
    obtain ⟨nc, nmv, nmk, nmn, hN, hp⟩ := hD
    have hpv := hp.fc (Nat.zero_le _) (Nat.zero_le _) (Nat.zero_le _) fv.c
    have hDv : XD t 7 D0 v := ⟨nc, nmv, nmk, nmn, hN, hpv⟩
    have hkw := kwT_le (U := U) (n := n) (a := 0)
    refine c_keyword hU (Nat.zero_le n) hpv.2.2.2.2.2.2.2.2.2.2 tv ⟨fun q => ?_, fun q => ?_⟩
    · have q : ¬ kwT U n 0 = 0 := fun d => q (by rw [if_neg (by omega), d]; rfl)
      unfold topL at kf kt
      rw [if_neg q] at kf kt
      unfold wX6_read_61
      exact ⟨n + 1, c_read hU (n + 1) 0 D0 0 0 v (by omega) (Nat.zero_le _) (Nat.le_refl _) hXv tv hDv (VD_0 PrP_7) (fun pl kd u e f => kf pl kd u (by rw [e]; rfl) (G u (fv.c.p.tr f))) (fun D' c' u e f x d => kt 7 D' c' u (by rw [e]; rfl) (G u (fv.c.p.tr f)) x d)⟩
    · have q : kwT U n 0 = 0 := by
        by_cases d : kwT U n 0 = 6
        · rw [if_pos d] at q; exact absurd q (by decide)
        · rw [if_neg d, show (0 : Int32) = nI 0 from rfl, nI_eq (by omega) (by decide)] at q; exact q
      unfold topL at kf kt
      rw [if_pos q] at kf kt
      refine c_field hU hXv (Nat.zero_le n) tv (by omega) hDv (fun pl kd u e f g => ⟨fun d => absurd d (by decide), fun _ => ?_⟩) (fun P b u e f x g => ⟨fun _ => ?_, fun d => absurd d (by decide)⟩)
      · rw [g]
        exact kf pl kd u (by rw [e]; rfl) (G u (fv.c.p.tr f))
      · rintro _ rfl
        obtain ⟨e1, e2, e3⟩ := fld_ok (Nat.zero_le n) e
        obtain ⟨nc', nmv', nmk', nmn', hN', hp'⟩ := x
        refine c_advance hU (hXv.fp ht f) e2 g (fun y fy ty => ?_)
        unfold wX6_read_61
        exact ⟨n + 1, c_read hU (n + 1) b D0 1 0 y (by omega) e2 (Nat.zero_le _) (hXv.fp ht (f.tr fy.c.p)) ty ⟨nc', nmv', nmk', nmn', hN', hp'.fc (Nat.zero_le _) (Nat.zero_le _) (Nat.zero_le _) fy.c⟩ (VD_0 e1) (fun pl kd u e' f' => kf pl kd u (by rw [e]; show wrP P _ = _; rw [e']; rfl) (G u (fv.c.p.tr (f.tr (fy.c.p.tr f'))))) (fun D' c' u e' f' x d => kt P D' c' u (by rw [e]; show wrP P _ = _; rw [e']; rfl) (G u (fv.c.p.tr (f.tr (fy.c.p.tr f')))) x d)⟩
  unfold wX9_clear
  rintro _ rfl _ rfl _ rfl _ rfl _ rfl _ rfl
  refine base _ (fun o o1 o2 o3 => ?_) ?_ ?_ ?_ ?_ ?_ ?_ ?_ ?_
  · rw [u1_n o3, u1_n o3, u1_n o2, u1_n o2, u1_n o2, u1_n o2, u1_n o1, u1_n o1, u1_n o1]
  · rw [u1_n (by omega), u1_n (by omega), u1_n (by omega), u1_n (by omega), u1_n (by omega), u1_n (by omega), u1_s, pk_un (by decide), u1_s, pk_un (by decide), u1_s, pk_us]
  · rw [u1_n (by omega), u1_n (by omega), u1_n (by omega), u1_n (by omega), u1_n (by omega), u1_n (by omega), u1_s, pk_un (by decide), u1_s, pk_us]
  · rw [u1_n (by omega), u1_n (by omega), u1_s, pk_un (by decide), u1_s, pk_un (by decide), u1_s, pk_un (by decide), u1_s, pk_us]
  · rw [u1_n (by omega), u1_n (by omega), u1_s, pk_un (by decide), u1_s, pk_un (by decide), u1_s, pk_us]
  · rw [u1_n (by omega), u1_n (by omega), u1_s, pk_un (by decide), u1_s, pk_us]
  · rw [u1_n (by omega), u1_n (by omega), u1_s, pk_us]
  · rw [u1_s, pk_un (by decide), u1_s, pk_us]
  · rw [u1_s, pk_us]
end TP
