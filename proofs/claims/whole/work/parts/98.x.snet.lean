/-! net keeps the relation -/
section SN
variable {σ τ : St}
theorem S_net (hR : Rel σ τ) (a : Int32) : wX10_net 0 a σ (fun r u => wX11_net 0 a τ (fun r2 v => r = r2 ∧ Rel u v)) := by
  obtain ⟨t, P, tn, bn, nn, lg, tof, tv, bv, L, tp, nw, sz, old, ac, kb, kn, hV, hX, hM⟩ := id hR
  obtain ⟨hL, hby⟩ := hV.2.2.1
  have ht := hX.1.1
  have no : ixB a (L + 1) = false → wX11_net 0 a τ (fun r2 v => (-1 : Int32) = r2 ∧ Rel σ v) := fun q => by
    unfold wX11_net
    rintro _ rfl
    rw [u1_s, pk_un (by decide), hM.2.2.1.1]
    exact m_within (N := L + 1) (by rw [nI_toInt (by omega)]; omega) ⟨fun d => absurd (q.symm.trans d) (by decide), fun _ => ⟨rfl, hR.fr (FX.rf σ) (FM.u0 (by decide))⟩⟩
  unfold wX10_net
  rw [hX.2.2.1.1, fa_lt, fa_le, nI_toInt (by omega), show (0 : Int32).toInt = 0 from rfl]
  refine ⟨fun q => no (by simp [ixB]; omega), fun q => ⟨fun q2 => ?_, fun q2 => no (by simp [ixB]; omega)⟩⟩
  obtain ⟨n, hn, rfl⟩ := ixB_t (x := a) (N := L + 1) (by omega) (by simp [ixB]; omega)
  rintro _ rfl _ rfl
  rw [show (u1 σ 0 1 0).1 0 3 = nI (47 - t) by rw [u1_s, pk_un (by decide)]; exact hX.1.2.2.1, nI_clamp (by omega)]
  have go : ∀ (post : Int32 → St → Prop), (∀ pl kd x u, topL (fun i => ub (tp i)) n = .inl (pl, kd) → ∀ s : St, (∀ o, 6 ≤ o → s.1 o = τ.1 o) → (∀ o, 2 ≤ o → o ≤ 5 → s.1 o 0 = τ.1 o 0) → s.1 0 2 = 0 → s.1 0 32 = τ.1 0 32 → FPM s u → u.1 0 9 = nI kd → u.1 0 10 = nI pl → wX11_net_151 post 0 x 0 u) → (∀ P D c u, topL (fun i => ub (tp i)) n = .inr (P, D, c) → ∀ s : St, s.1 0 2 = 0 → FPM s u → MD P D u → VD P D → wX11_net_151 post 0 (nI c) 1 u) → wX11_net 0 (nI n) τ post := fun post kf kt => by
    unfold wX11_net
    rintro _ rfl
    rw [u1_s, pk_un (by decide), hM.2.2.1.1]
    refine m_within (N := L + 1) (by rw [nI_toInt (by omega)]; omega) ⟨fun _ => ?_, fun d => absurd (d.symm.trans (ixB_nI hn (by omega))) (by decide)⟩
    rintro _ rfl _ rfl _ rfl _ rfl _ rfl _ rfl _ rfl _ rfl _ rfl _ rfl
    have O : (1 : Int32).toNatClampNeg = 1 := rfl
    simp only [Nat.zero_add, O]
    generalize hs : u1 (u1 (u1 (u1 (u1 (u1 (u1 (u1 (u1 (u1 (u1 τ 0 0 0) 0 2 0) 0 3 (nI n)) 0 5 0) 0 9 0) 0 12 1) 2 1 7) 3 1 0) 4 1 0) 5 1 0) 0 24 0 = s
    have A : ∀ o, o = 1 ∨ 6 ≤ o → s.1 o = τ.1 o := fun o ho => by
      subst hs
      rw [u1_n (by omega), u1_n (by omega), u1_n (by omega), u1_n (by omega), u1_n (by omega), u1_n (by omega), u1_n (by omega), u1_n (by omega), u1_n (by omega), u1_n (by omega), u1_n (by omega)]
    have B : s.1 0 2 = 0 ∧ s.1 0 3 = nI n ∧ s.1 0 5 = 0 ∧ s.1 0 9 = 0 ∧ s.1 0 12 = 1 ∧ s.1 2 1 = 7 ∧ s.1 3 1 = 0 ∧ s.1 4 1 = 0 ∧ s.1 5 1 = 0 ∧ s.1 0 24 = 0 ∧ s.1 0 32 = τ.1 0 32 ∧ s.1 2 0 = τ.1 2 0 ∧ s.1 3 0 = τ.1 3 0 ∧ s.1 4 0 = τ.1 4 0 ∧ s.1 5 0 = τ.1 5 0 := by
      subst hs
      simp [u1, rs, upd]
    obtain ⟨B2, B3, B5, B9, B12, C2, C3, C4, C5, B24, B32, E2, E3, E4, E5⟩ := B
    have S2 : ∀ o, 2 ≤ o → o ≤ 5 → s.1 o 0 = τ.1 o 0 := fun o o1 o2 => by
      rcases (show o = 2 ∨ o = 3 ∨ o = 4 ∨ o = 5 by omega) with rfl | rfl | rfl | rfl
      · exact E2
      · exact E3
      · exact E4
      · exact E5
    exact m_top rfl ⟨by omega, fun i hi => hby i (by omega), fun i hi => by rw [A 1 (Or.inl rfl)]; exact hM.2.2.1.2 i (by omega), B3⟩ B5 B9 B12 C2 C3 C4 C5 B24 (fun pl kd x u e f g1 g2 => kf pl kd x u e s (fun o ho => A o (Or.inr ho)) S2 B2 B32 f g1 g2) (fun P D c u e f m v => kt P D c u e s B2 f m v)
  refine ⟨kX_t (by omega), ?_⟩
  refine c_top (U := fun i => ub (tp i)) rfl (by omega) (fun i hi => hby i (by omega)) (fun i hi => by rw [u1_n (by decide)]; exact hX.2.2.1.2 i (by omega)) (by omega) (fun k hk => by rw [u1_n (by decide)]; exact hX.2.2.2.2.2.2 k hk) (fun pl kd u e F => ?_) (fun P' D c u e F x v => ?_)
  · have b := (top_ok (U := fun i => ub (tp i)) (n := n) rfl).1
    rw [e] at b
    have ng := flt_neg (pl := pl) (kd := kd) (by have := b.1; omega) b.2
    refine ⟨fun d => absurd d ng, fun _ => go _ (fun pl' kd' x' u' e' s S1 S2 S3 S4 f g1 g2 => ?_) (fun P'' D'' c' u' e' s _ _ _ _ => ?_)⟩
    · rw [e] at e'
      cases e'
      unfold wX11_net_151
      rintro _ rfl
      refine ⟨fun d => absurd rfl d, fun _ => ⟨?_, t, P, tn, bn, nn, lg, tof, tv, bv, 0, tp, nw, sz, old, ac, kb, kn, hV.L0, hX.fault hV F, hM.fault hV S1 S2 S3 S4 f⟩⟩
      rw [u1_s, pk_un (by decide), pk_un (by decide), g1, g2, show (8 : Int32) = nI 8 from rfl, pk_mul, nI_add]
      rfl
    · rw [e] at e'
      cases e'
  · have b := (top_ok (U := fun i => ub (tp i)) (n := n) rfl).2 _ _ _ e
    have z3 : u.1 0 3 = nI (47 - t) := by rw [F 0 (by omega) (by omega), u1_s, pk_un (by decide)]; exact hX.1.2.2.1
    have z2 : u.1 0 2 = nI t := by rw [F 0 (by omega) (by omega), u1_s, pk_un (by decide)]; exact hX.1.2.1
    have z1 : u.1 0 1 = 0 := by rw [F 0 (by omega) (by omega), u1_s, pk_us]
    have o1 : u.1 103 1 = nI old := by rw [F 103 (by omega) (by omega), u1_n (by decide)]; exact hX.2.2.2.2.1.2.1
    have hN : NetX D.2.2.1 (fun m => D.2.2.2.1 (D.2.2.2.2.1 m)) D.2.2.2.2.2.2.2.1 (47 - t + 4) u := by
      obtain ⟨_, _, _, _, _, hp⟩ := x
      exact hp.2.2.2.2.2.2.2.1
    refine ⟨fun _ => ?_, fun d => absurd (nI_le (a := 0) (b := c) (by omega) (by omega)) d⟩
    rw [z3, z2, nI_clamp (by omega), nI_clamp (by omega)]
    rintro _ rfl
    refine ⟨kX_t (by omega), ?_⟩
    intro p3 e3
    rw [e3]
    refine ⟨kX_t (by omega), ?_⟩
    rintro _ rfl _ rfl
    rw [show (u1 (u1 u 0 3 (nI t)) 0 2 (nI (47 - t))).1 0 2 = nI (47 - t) by rw [u1_s, pk_us], nI_clamp (by omega)]
    rintro _ rfl
    refine ⟨kX_t (by omega), c_netCopy (v0 := 0 + 88) (hN.fr v.2.1.1 (fun o q1 q2 => by rw [u1_n (by omega), u1_n (by omega)])) v.2.1.1 (fun j hj => (v.ll j hj).2) v.2.2.1.1 (by omega) (fun y yN yF => ?_)⟩
    unfold wX0_forget
    rintro _ rfl
    sorry
end SN
