/-! the whole text, in the reference -/
section MT
variable {t P : Nat} {σ τ σ' τ' u : St} {tp : Nat → Int32} {n : Nat} {U : Nat → Nat} {a : Nat} {D : PD}
theorem m_top {s : St} {post : Int32 → St → Prop} (hU : U = fun i => ub (tp i)) (hT : TM tp n s) (h5 : s.1 0 5 = 0) (h9 : s.1 0 9 = 0) (h12 : s.1 0 12 = 1) (b2 : s.1 2 1 = 7) (b3 : s.1 3 1 = 0) (b4 : s.1 4 1 = 0) (b5 : s.1 5 1 = 0) (h24 : s.1 0 24 = 0) (kf : ∀ pl kd x u, topL U n = .inl (pl, kd) → FPM s u → u.1 0 9 = nI kd → u.1 0 10 = nI pl → wX11_net_151 post 0 x 0 u) (kt : ∀ P D c u, topL U n = .inr (P, D, c) → FPM s u → MD P D u → VD P D → wX11_net_151 post 0 (nI c) 1 u) : ∃ j, wX11_net_84 post j 0 (128 : Int32) s := by
  refine ⟨128 + 1, loop_i (fun j i (y : St) => wX11_net_84 post j 0 (nI i) y) (fun i y => 128 ≤ i ∧ (∀ o, o ≠ 10 → y.1 o = s.1 o) ∧ (∀ x, x < 128 → y.1 10 x = s.1 10 x)) 256 ?_ ?_ _ 128 s (by decide) (by decide) ⟨by decide, fun o _ => rfl, fun x _ => rfl⟩⟩
  · rintro j y ⟨_, y1, y2⟩
    have F0 : FPM s y := ⟨fun o ho => y1 o (by omega), fun o o1 o2 => by rw [y1 o (by omega)], fun i hi => by rw [y1 9 (by decide)], fun i hi => y2 i hi, fun i hi => by rw [y1 11 (by decide)], fun i hi => by rw [y1 12 (by decide)], fun j hj => by rw [y1 0 (by decide)]⟩
    have hTy := hT.fp F0
    have hMD : MD 7 D0 y := ⟨by rw [y1 0 (by decide)]; exact h12, by rw [y1 2 (by decide)]; exact b2, by rw [y1 3 (by decide)]; exact b3, by rw [y1 4 (by decide)]; exact b4, by rw [y1 5 (by decide)]; exact b5, fun j hj => absurd hj (Nat.not_lt_zero j), fun j hj => absurd hj (Nat.not_lt_zero j), fun j hj => absurd hj (Nat.not_lt_zero j), by rw [y1 0 (by decide)]; exact h24, fun e he => absurd he (Nat.not_lt_zero e)⟩
    unfold wX11_net_84
    refine ⟨fun _ => ?_, fun d => absurd (nI_le (a := 256) (Nat.le_refl _) (by decide)) d⟩
    refine m_steps hU hTy (Nat.zero_le n) (by rw [y1 0 (by decide)]; exact h5) (fun v fv tv => ?_)
    have v9 : v.1 0 9 = 0 := by rw [fv.2.1 9 (by decide) (by decide) (by decide) (by decide), y1 0 (by decide)]; exact h9
    have F1 := F0.tr fv.r.p
    have hMv : MD 7 D0 v := PrM.fr hMD fv.r
    unfold topL at kf kt
    refine m_is hU (Nat.zero_le n) (by decide) tv ⟨fun q => ?_, fun q => ?_⟩
    · have q := of_decide_eq_false q
      rw [if_neg q] at kf kt
      exact ⟨n + 1 + 1, m_read hU (n + 1) 0 D0 0 v (by omega) (Nat.zero_le _) (hT.fp F1) tv v9 hMv (VD_0 PrP_7) (fun pl kd x u e f => kf pl kd x u (by rw [e]; rfl) (F1.tr f)) (fun D' c' u e f => kt 7 D' c' u (by rw [e]; rfl) (F1.tr f))⟩
    · have q := of_decide_eq_true q
      rw [if_pos q] at kf kt
      refine m_field hU (hT.fp F1) (Nat.zero_le n) tv v9 (by omega) hMv (fun pl kd u e f g1 g2 => ?_) (fun P b u e f m tb u9 => ?_)
      · rintro _ rfl
        refine ⟨1, ?_⟩
        unfold wX11_net_129
        exact ⟨fun _ => kf pl kd _ u (by rw [e]; rfl) (F1.tr f) g1 g2, fun d => absurd rfl d⟩
      · rintro _ rfl
        obtain ⟨e1, e2, e3⟩ := fld_ok (Nat.zero_le n) e
        exact ⟨n + 1 + 1, m_read hU (n + 1) b D0 1 u (by omega) e2 (hT.fp (F1.tr f)) tb u9 m (VD_0 e1) (fun pl kd x u' e' f' => kf pl kd x u' (by rw [e]; show wrP P _ = _; rw [e']; rfl) (F1.tr (f.tr f'))) (fun D' c' u' e' f' => kt P D' c' u' (by rw [e]; show wrP P _ = _; rw [e']; rfl) (F1.tr (f.tr f')))⟩
  · rintro j i y hi ⟨i0, y1, y2⟩ ih
    unfold wX11_net_84
    refine ⟨fun d => absurd d (nI_ge (b := 256) hi (by decide)), fun _ => ⟨vp_in_nI hi (by decide), ?_⟩⟩
    rw [nI_clamp (by omega), nI_1]
    rintro _ rfl _ rfl
    refine ih _ ⟨by omega, fun o o1 => by rw [u1_n o1]; exact y1 o o1, fun x hx => ?_⟩
    show (u1 _ 10 _ _).1 10 x = _
    rw [u1_s, pk_un (by omega)]; exact y2 x hx
end MT
