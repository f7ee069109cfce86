/-! net keeps the relation -/
section SN
variable {σ τ : St}
theorem S_net (hR : Rel σ τ) (a : Int32) : wX10_net 0 a σ (fun r u => wX11_net 0 a τ (fun r2 v => r = r2 ∧ Rel u v)) := by
  obtain ⟨t, P, tn, bn, nn, lg, tof, tv, bv, L, tp, nw, sz, old, ac, kb, kn, hV, hX, hM⟩ := id hR
  obtain ⟨hL, hby⟩ := hV.2.2.1
  have ht := hX.1.1
  have no : ixB a (L + 1) = false → wX11_net 0 a τ (fun r2 v => (-1 : Int32) = r2 ∧ Rel σ v) := fun q => by
    unfold wX11_net
    rintro _ rfl
    rw [u1_s, pk_un (by decide), hM.2.2.1.1]
    exact m_within (N := L + 1) (by rw [nI_toInt (by omega)]; omega) ⟨fun d => absurd (q.symm.trans d) (by decide), fun _ => ⟨rfl, hR.fr (FX.rf σ) (FM.u0 (by decide))⟩⟩
  unfold wX10_net
  rw [hX.2.2.1.1, fa_lt, fa_le, nI_toInt (by omega), show (0 : Int32).toInt = 0 from rfl]
  refine ⟨fun q => no (by simp [ixB]; omega), fun q => ⟨fun q2 => ?_, fun q2 => no (by simp [ixB]; omega)⟩⟩
  obtain ⟨n, hn, rfl⟩ := ixB_t (x := a) (N := L + 1) (by omega) (by simp [ixB]; omega)
  rintro _ rfl _ rfl
  rw [show (u1 σ 0 1 0).1 0 3 = nI (46 - t) by rw [u1_s, pk_un (by decide)]; exact hX.1.2.2.1, nI_clamp (by omega)]
  have go : ∀ (post : Int32 → St → Prop), (∀ pl kd x u, topL (fun i => ub (tp i)) n = .inl (pl, kd) → ∀ s : St, (∀ o, 6 ≤ o → s.1 o = τ.1 o) → (∀ o, 2 ≤ o → o ≤ 5 → s.1 o 0 = τ.1 o 0) → s.1 0 2 = 0 → s.1 0 32 = τ.1 0 32 → FPM s u → u.1 0 9 = nI kd → u.1 0 10 = nI pl → wX11_net_151 post 0 x 0 u) → (∀ P D c u, topL (fun i => ub (tp i)) n = .inr (P, D, c) → ∀ s : St, s.1 0 2 = 0 → FPM s u → MD P D u → VD P D → wX11_net_151 post 0 (nI c) 1 u) → wX11_net 0 (nI n) τ post := fun post kf kt => by
    unfold wX11_net
    rintro _ rfl
    rw [u1_s, pk_un (by decide), hM.2.2.1.1]
    refine m_within (N := L + 1) (by rw [nI_toInt (by omega)]; omega) ⟨fun _ => ?_, fun d => absurd (d.symm.trans (ixB_nI hn (by omega))) (by decide)⟩
    rintro _ rfl _ rfl _ rfl _ rfl _ rfl _ rfl _ rfl _ rfl _ rfl _ rfl
    have O : (1 : Int32).toNatClampNeg = 1 := rfl
    simp only [Nat.zero_add, O]
    generalize hs : u1 (u1 (u1 (u1 (u1 (u1 (u1 (u1 (u1 (u1 (u1 τ 0 0 0) 0 2 0) 0 3 (nI n)) 0 5 0) 0 9 0) 0 12 1) 2 1 7) 3 1 0) 4 1 0) 5 1 0) 0 24 0 = s
    have A : ∀ o, o = 1 ∨ 6 ≤ o → s.1 o = τ.1 o := fun o ho => by
      subst hs
      rw [u1_n (by omega), u1_n (by omega), u1_n (by omega), u1_n (by omega), u1_n (by omega), u1_n (by omega), u1_n (by omega), u1_n (by omega), u1_n (by omega), u1_n (by omega), u1_n (by omega)]
    have B : s.1 0 2 = 0 ∧ s.1 0 3 = nI n ∧ s.1 0 5 = 0 ∧ s.1 0 9 = 0 ∧ s.1 0 12 = 1 ∧ s.1 2 1 = 7 ∧ s.1 3 1 = 0 ∧ s.1 4 1 = 0 ∧ s.1 5 1 = 0 ∧ s.1 0 24 = 0 ∧ s.1 0 32 = τ.1 0 32 ∧ s.1 2 0 = τ.1 2 0 ∧ s.1 3 0 = τ.1 3 0 ∧ s.1 4 0 = τ.1 4 0 ∧ s.1 5 0 = τ.1 5 0 := by
      subst hs
      simp [u1, rs, upd]
    obtain ⟨B2, B3, B5, B9, B12, C2, C3, C4, C5, B24, B32, E2, E3, E4, E5⟩ := B
    have S2 : ∀ o, 2 ≤ o → o ≤ 5 → s.1 o 0 = τ.1 o 0 := fun o o1 o2 => by
      rcases (show o = 2 ∨ o = 3 ∨ o = 4 ∨ o = 5 by omega) with rfl | rfl | rfl | rfl
      · exact E2
      · exact E3
      · exact E4
      · exact E5
    exact m_top rfl ⟨by omega, fun i hi => hby i (by omega), fun i hi => by rw [A 1 (Or.inl rfl)]; exact hM.2.2.1.2 i (by omega), B3⟩ B5 B9 B12 C2 C3 C4 C5 B24 (fun pl kd x u e f g1 g2 => kf pl kd x u e s (fun o ho => A o (Or.inr ho)) S2 B2 B32 f g1 g2) (fun P D c u e f m v => kt P D c u e s B2 f m v)
  refine ⟨kX_t (by omega), ?_⟩
  refine c_top (U := fun i => ub (tp i)) rfl (by omega) (fun i hi => hby i (by omega)) (fun i hi => by rw [u1_n (by decide)]; exact hX.2.2.1.2 i (by omega)) (by omega) (fun k hk => by rw [u1_n (by decide)]; exact hX.2.2.2.2.2.2 k hk) (fun pl kd u e F => ?_) (fun P' D c u e F x v => ?_)
  · have b := (top_ok (U := fun i => ub (tp i)) (n := n) rfl).1
    rw [e] at b
    have ng := flt_neg (pl := pl) (kd := kd) (by have := b.1; omega) b.2
    refine ⟨fun d => absurd d ng, fun _ => go _ (fun pl' kd' x' u' e' s S1 S2 S3 S4 f g1 g2 => ?_) (fun P'' D'' c' u' e' s _ _ _ _ => ?_)⟩
    · rw [e] at e'
      cases e'
      unfold wX11_net_151
      rintro _ rfl
      refine ⟨fun d => absurd rfl d, fun _ => ⟨?_, t, P, tn, bn, nn, lg, tof, tv, bv, 0, tp, nw, sz, old, ac, kb, kn, hV.L0, hX.fault hV F, hM.fault hV S1 S2 S3 S4 f⟩⟩
      rw [u1_s, pk_un (by decide), pk_un (by decide), g1, g2, show (8 : Int32) = nI 8 from rfl, pk_mul, nI_add]
      rfl
    · rw [e] at e'
      cases e'
  · have b := (top_ok (U := fun i => ub (tp i)) (n := n) rfl).2 _ _ _ e
    have z3 : u.1 0 3 = nI (46 - t) := by rw [F 0 (by omega) (by omega), u1_s, pk_un (by decide)]; exact hX.1.2.2.1
    have z2 : u.1 0 2 = nI t := by rw [F 0 (by omega) (by omega), u1_s, pk_un (by decide)]; exact hX.1.2.1
    have z1 : u.1 0 1 = 0 := by rw [F 0 (by omega) (by omega), u1_s, pk_us]
    have o1 : u.1 101 1 = nI old := by rw [F 101 (by omega) (by omega), u1_n (by decide)]; exact hX.2.2.2.2.1.2.1
    have hN : NetX D.2.2.1 (fun m => D.2.2.2.1 (D.2.2.2.2.1 m)) D.2.2.2.2.2.2.2.1 (46 - t + 3) u := by
      obtain ⟨_, _, _, _, _, hp⟩ := x
      exact hp.2.2.2.2.2.2.2.1
    refine ⟨fun _ => ?_, fun d => absurd (nI_le (a := 0) (b := c) (by omega) (by omega)) d⟩
    rw [z3, z2, nI_clamp (by omega), nI_clamp (by omega)]
    rintro _ rfl
    refine ⟨kX_t (by omega), ?_⟩
    intro p3 e3
    rw [e3]
    refine ⟨kX_t (by omega), ?_⟩
    rintro _ rfl _ rfl
    rw [show (u1 (u1 u 0 3 (nI t)) 0 2 (nI (46 - t))).1 0 2 = nI (46 - t) by rw [u1_s, pk_us], nI_clamp (by omega)]
    rintro _ rfl
    refine ⟨kX_t (by omega), c_netCopy (v0 := 0 + 86) (hN.fr v.2.1.1 (fun o q1 q2 => by rw [u1_n (by omega), u1_n (by omega)])) v.2.1.1 (fun j hj => (v.ll j hj).2) v.2.2.1.1 (by omega) (fun y yN yF => ?_)⟩
    unfold wX0_forget
    rintro _ rfl
    have fin : ∀ y2 : St, (∀ o, o ≠ 284 → y2.1 o = (u1 y 101 0 0).1 o) → (∀ k, k < 2 → y2.1 284 k = 0) → wX11_net 0 (nI n) τ (fun r2 v => nI c = r2 ∧ Rel y2 v) := fun y2 G hk => by
      refine go _ (fun pl' kd' x' u' e' s _ _ _ _ _ _ _ => ?_) (fun P'' D'' c' u' e' s S2 f m vd => ?_)
      · rw [e] at e'
        cases e'
      · rw [e] at e'
        cases e'
        have Y : ∀ o, o ≠ 284 → o ≠ 101 → (o < 86 ∨ 101 ≤ o) → o ≠ 0 → y2.1 o = u.1 o := fun o q1 q2 q3 q4 => by rw [G o q1, u1_n q2, yF o (by omega), u1_n q4, u1_n q4]
        have Y0 : ∀ j, y2.1 0 j = (u1 (u1 u 0 3 (nI t)) 0 2 (nI (46 - t))).1 0 j := fun j => by rw [G 0 (by decide), u1_n (by decide), yF 0 (by omega)]
        have hx' : RX (46 - t) P' D.1 D.2.1 D.2.2.1 D.2.2.2.1 D.2.2.2.2.1 D.2.2.2.2.2.1 D.2.2.2.2.2.2.1 0 tp D.2.2.2.2.2.2.2.1 0 old ac (fun _ => false) kn y2 := RX.done x v (by rw [Y0, u1_s, pk_un (by decide), u1_s, pk_un (by decide)]; exact z1) (by rw [Y0, u1_s, pk_us]) (by rw [Y0, u1_s, pk_un (by decide), u1_s, pk_us, show 46 - (46 - t) = t by omega]) (fun o ho => Y o (by omega) (by omega) (by omega) (by omega)) ((yN.fr (σ' := u1 y 101 0 0) v.2.1.1 (fun o q1 q2 => u1_n (by omega))).fr v.2.1.1 (fun o q1 q2 => G o (by omega))) (by rw [G 101 (by decide), u1_s, pk_us]) (by rw [G 101 (by decide), u1_s, pk_un (by decide), yF 101 (by omega), u1_n (by decide), u1_n (by decide)]; exact o1) hk
        unfold wX11_net_151
        rintro _ rfl
        refine ⟨fun _ => ?_, fun d => absurd d (by decide)⟩
        obtain ⟨m0, m1, m2, m3, m4, m5, m6, m7, m8, m9⟩ := m
        have K : ∀ o, o ≠ 0 → (u1 u' 0 12 0).1 o = u'.1 o := fun o ho => u1_n ho
        refine m_copies (tna := D.2.2.2.2.2.2.2.2.1) (bna := D.2.2.2.2.2.2.2.2.2.1) (nna := D.2.2.2.2.2.2.2.2.2.2) (by rw [K 2 (by decide)]; exact m1) (by rw [K 3 (by decide)]; exact m2) (by rw [K 4 (by decide)]; exact m3) (by rw [K 5 (by decide)]; exact m4) (fun j hj => by rw [K 9 (by decide), K 10 (by decide)]; exact ⟨(m5 j hj).1, (m5 j hj).2.2⟩) (fun j hj => by rw [K 11 (by decide)]; exact (m6 j hj).2) (fun j hj => by rw [K 12 (by decide)]; exact (m7 j hj).1) (by rw [u1_s, pk_un (by decide)]; exact m8) (fun e he => by rw [K 13 (by decide)]; exact m9 e he) vd (fun q fk q1 q2 q3 => ?_)
        rintro _ rfl _ rfl _ rfl
        have J : ∀ o, o ≠ 0 → o ≠ 19 → (u1 (u1 (u1 q 0 32 0) (0 + 19) (0 : Int32).toNatClampNeg (vp_nar .boolean 0)) (0 + 19) (1 : Int32).toNatClampNeg (vp_nar .boolean 0)).1 o = q.1 o := fun o w1 w2 => by rw [u1_n w2, u1_n w2, u1_n w1]
        have J0 : ∀ j, j ≠ 32 → (u1 (u1 (u1 q 0 32 0) (0 + 19) (0 : Int32).toNatClampNeg (vp_nar .boolean 0)) (0 + 19) (1 : Int32).toNatClampNeg (vp_nar .boolean 0)).1 0 j = q.1 0 j := fun j hj => by rw [u1_n (by decide), u1_n (by decide), u1_s, pk_un hj]
        refine ⟨rfl, 46 - t, P', D.1, D.2.1, D.2.2.1, D.2.2.2.1, D.2.2.2.2.1, D.2.2.2.2.2.1, D.2.2.2.2.2.2.1, 0, tp, D.2.2.2.2.2.2.2.1, 0, old, ac, fun _ => false, kn, RV.done v hV.2.2.2.2.1.2.1, hx', RM.done ?_ ?_ ?_ ?_ ?_ ?_ ?_⟩
        · unfold TabM at q1 ⊢
          rw [J 2 (by decide) (by decide), J 3 (by decide) (by decide), J 4 (by decide) (by decide), J 9 (by decide) (by decide), J 10 (by decide) (by decide), J 11 (by decide) (by decide)]
          exact q1
        · unfold NodM at q2 ⊢
          rw [J 5 (by decide) (by decide), J 12 (by decide) (by decide)]
          exact q2
        · rw [J0 2 (by decide), fk 0 (by omega), u1_s, pk_un (by decide), f.2.2.2.2.2.2 2 (by omega)]; exact S2
        · rw [J 16 (by decide) (by decide)]; exact q3
        · rw [u1_n (by decide), u1_n (by decide), u1_s, pk_us]
        · intro k hk
          show (u1 (u1 _ 19 0 _) 19 1 _).1 19 k = 0
          rw [u1_s, u1_s]
          unfold upd
          (repeat' split) <;> first | rfl | omega
        · rw [J0 12 (by decide), fk 0 (by omega), u1_s, pk_us]
    refine loop_0 (fun j i (y2 : St) => wX10_net_84 _ j 0 (nI c) (nI i) y2) (fun i y2 => (∀ o, o ≠ 284 → y2.1 o = (u1 y 101 0 0).1 o) ∧ ∀ k, k < i → y2.1 284 k = 0) 2 _ ⟨fun o _ => rfl, fun k hk => by omega⟩ ?_ ?_
    · rintro j y2 ⟨G, hk⟩
      unfold wX10_net_84
      exact ⟨fun _ => fin y2 G hk, fun d => absurd (nI_le (a := 2) (Nat.le_refl _) (by decide)) d⟩
    · rintro j i y2 hi ⟨G, hk⟩ ih
      unfold wX10_net_84
      refine ⟨fun d => absurd d (nI_ge (b := 2) hi (by decide)), fun _ => ⟨vp_in_nI hi (by decide), ?_⟩⟩
      rw [nI_clamp (by omega), nI_1]
      rintro _ rfl _ rfl
      refine ih _ ⟨fun o q1 => by rw [u1_n q1]; exact G o q1, fun k hk' => ?_⟩
      show (u1 _ 284 i _).1 284 k = 0
      rw [u1_s]
      by_cases w : k = i
      · rw [w, pk_us]; rfl
      · rw [pk_un w]; exact hk k (by omega)
end SN
