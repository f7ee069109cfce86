/-! a gate's line -/
section GA
variable {t P tn bn nn : Nat} {lg tof : Nat → Nat} {tv bv : Nat → Nat → Int32} {w : NetT} {nc : Nat} {nmv nmk nmn tna bna nna : Nat → Nat} {σ τ σ' τ' : St} {tp : Nat → Int32} {n : Nat} {U : Nat → Nat} {a : Nat} {ea eb ew : Nat → Nat} {ne K : Nat}
theorem c_gate {post : Bool → St → Prop} (hU : U = fun i => ub (tp i)) (h0 : TX tp n σ) (ha : a ≤ n) (h2 : σ.1 285 2 = nI a) (h : PrX t P tn bn nn lg tof tv bv w nc nmv nmk nmn σ) (hN : NmV tn bn nn tna bna nna nc nmv nmk nmn) (hV : PrV P tn bn nn lg tof tv bv w tna bna nna) (ht : tn < 8) (kf : ∀ pl kd u, endW U n (gatL U n P (usF tn bn nn tna bna nna) a) = .inl (pl, kd) → FPX t σ u → u.1 285 7 = fltV pl kd → post false u) (kt : ∀ nm l g b u, endW U n (gatL U n P (usF tn bn nn tna bna nna) a) = .inr ((nm, l, g), b) → FPX t σ u → PrX t P (tn + 1) bn nn (uN lg tn l) tof (setT tv tn g) bv w (nc + 1) (uN nmv nc nm) (uN nmk nc 1) (uN nmn nc tn) u → u.1 285 2 = nI b → post true u) : wX6_readGate 285 1 t σ post := by
  have hb5 := hV.1.b5
  have hn6 := hV.2.1.1
  have hP := hV.1.1
  have ht0 := h.1
  have hnc : nc < 19 := by have := hN.1; omega
  unfold wX6_readGate
  rw [h.2.2.1, show (8 : Int32) = nI 8 from rfl, nI_ltI (by omega) (by decide)]
  refine ⟨fun _ => c_new hU h0 ha h2 h hN (by omega) hb5 hn6 (by omega) (fun u f1 k1 k2 => ⟨fun q => ?_, fun q => ?_⟩), fun q => absurd ht q⟩
  · have q := of_decide_eq_true q
    obtain ⟨g2, g6⟩ := k1 q
    have hu := h.fc (by omega) hb5 hn6 f1
    rw [g6, hu.2.2.1]
    refine c_addName (kd := 1) hu (by omega) hb5 hn6 hnc (fun v F1 F2 hv => ?_)
    have fv : FPX t σ v := f1.p.tr ⟨fun o o1 o2 => F1 o (by omega) (by omega) (by omega) (by omega), by rw [F1 285 (by omega) (by omega) (by omega) (by omega)]⟩
    have hb1 := (tkE_le (U := U) ha).2
    refine c_num (lo := 1) (hi := 8) hU (h0.fp ht0 fv) hb1 (by rw [F1 285 (by omega) (by omega) (by omega) (by omega)]; exact g2) (by decide) rfl (by decide) (fun x f3 k3 k4 => ⟨fun q2 => ?_, fun q2 => ?_⟩)
    · have q2 := of_decide_eq_true q2
      obtain ⟨g2', g6'⟩ := k3 q2
      obtain ⟨_, K1, K8⟩ := num_ok q2
      have hx := hv.fc (by omega) hb5 hn6 f3
      unfold wX2_begin
      rw [g6']
      rintro _ rfl _ rfl
      have fb : ∀ o, o ≠ 286 → (u1 (u1 x (285 + 1) 0 (nI (tkV U n (tkE U n a)))) (285 + 1) 1 0).1 o = x.1 o := fun o ho => by rw [u1_n ho, u1_n ho]
      have Fb : FPX t σ (u1 (u1 x (285 + 1) 0 (nI (tkV U n (tkE U n a)))) (285 + 1) 1 0) := fv.tr (f3.p.tr ⟨fun o o1 o2 => fb o (by omega), by rw [fb 285 (by decide)]⟩)
      have gx0 : GX (tkV U n (tkE U n a)) 0 (fun _ => 0) (fun _ => 0) (fun _ => 0) (u1 (u1 x (285 + 1) 0 (nI (tkV U n (tkE U n a)))) (285 + 1) 1 0) := ⟨by show (u1 _ 286 1 0).1 286 0 = _; rw [u1_s, pk_un (by decide)]; exact congrFun u1_s 0, by show (u1 _ 286 1 0).1 286 1 = _; rw [u1_s, pk_us]; rfl, fun k hk => by omega⟩
      have pb := hx.fr (σ' := u1 (u1 x (285 + 1) 0 (nI (tkV U n (tkE U n a)))) (285 + 1) 1 0) (by omega) hb5 hn6 (fun o ho => fb o (by omega))
      rw [fb 285 (by decide), g6']
      have hc1 := (tkE_le (U := U) hb1).2
      have hhi : (if (4 : Int32) < nI (tkV U n (tkE U n a)) then (4 : Int32) else nI (tkV U n (tkE U n a))) = nI (if 4 < tkV U n (tkE U n a) then 4 else tkV U n (tkE U n a)) := by
        by_cases c : 4 < tkV U n (tkE U n a)
        · have c' : (4 : Int32) < nI (tkV U n (tkE U n a)) := (nI_ltI (a := 4) (by decide) (by omega)).mpr c
          rw [if_pos c, if_pos c']; rfl
        · have c' : ¬ (4 : Int32) < nI (tkV U n (tkE U n a)) := fun d => c ((nI_ltI (a := 4) (by decide) (by omega)).mp d)
          rw [if_neg c, if_neg c']
      rw [hhi]
      have hb4 : (if 4 < tkV U n (tkE U n a) then 4 else tkV U n (tkE U n a)) ≤ 4 ∧ (if 4 < tkV U n (tkE U n a) then 4 else tkV U n (tkE U n a)) ≤ tkV U n (tkE U n a) := by split <;> omega
      refine c_num (lo := 1) (hi := if 4 < tkV U n (tkE U n a) then 4 else tkV U n (tkE U n a)) hU (h0.fp ht0 Fb) hc1 (by rw [fb 285 (by decide)]; exact g2') (by decide) (nI_toInt (by omega)) (by omega) (fun y f4 k5 k6 => ⟨fun q3 => ?_, fun q3 => ?_⟩)
      · have q3 := of_decide_eq_true q3
        obtain ⟨y2, y6⟩ := k5 q3
        obtain ⟨_, l1, l4⟩ := num_ok q3
        have py := pb.fc (by omega) hb5 hn6 f4
        rw [py.2.2.1]
        rintro _ rfl
        refine ⟨vp_in_nI ht (by decide), ?_⟩
        rw [nI_clamp (by omega), y6]
        rintro _ rfl
        have Fz := (Fb.tr f4.p).tr (FPX.u (k := 0) (x := nI (tkV U n (tkE U n (tkE U n a)))) ht0 (o := t + 1 + 20 + 2 * tn) (by omega))
        have hd1 := (tkE_le (U := U) hc1).2
        refine c_advance hU (h0.fp ht0 Fz) hd1 (by rw [u1_n (by omega)]; exact y2) (fun z fz tkz => ⟨12 + 1, ?_⟩)
        have et : gatL U n P (usF tn bn nn tna bna nna) a = gtR P (tkV U n (tkE U n a)) (tkV U n a) (tkV U n (tkE U n (tkE U n a))) (egL U n P (tkV U n (tkE U n a)) 12 (tkE U n (tkE U n (tkE U n a))) 0 (fun _ => 0) (fun _ => 0) (fun _ => 0)) := by
          unfold gatL
          rw [if_pos q, if_pos q2, if_pos q3]
        have FF := Fz.tr (fz.c.p (t := t))
        refine c_egL (K := tkV U n (tkE U n a)) hU ht hb5 hn6 (show tkV U n (tkE U n (tkE U n a)) ≤ 4 by omega) 12 _ 0 _ _ _ z rfl hd1 (h0.fp ht0 FF) tkz ((py.tb ht hb5 hn6 (fun o o1 o2 o3 => u1_n o1)).fc (by omega) hb5 hn6 fz.c) (gx0.fr (fun o ho => by rw [fz.1 o (by omega), u1_n (by omega), f4.1 o (by omega)])) ⟨K1, K8, by omega, hP.1, hP.2.1, fun k hk => by omega⟩ (fun k hk => by omega) (by rw [fz.1 _ (by omega), u1_s, pk_us]) (fun pl kd c ec fc gc => ?_) (fun ne ea eb ew b c ec fc pc gc vc lc ac => ?_)
        · refine kf pl kd c ?_ (FF.tr fc) gc
          rw [et]
          revert ec
          generalize egL U n P (tkV U n (tkE U n a)) 12 (tkE U n (tkE U n (tkE U n a))) 0 (fun _ => 0) (fun _ => 0) (fun _ => 0) = r
          intro ec
          rcases r with f | ⟨⟨ne, ea, eb, ew⟩, d⟩
          · cases ec; rfl
          · have ec : (if endC U n d = 0 then Sum.inr ((ne, ea, eb, ew), tkE U n d) else Sum.inl (plF U n d, endC U n d)) = Sum.inl (pl, kd) := ec
            show (if endC U n d = 0 then Sum.inr (_, tkE U n d) else Sum.inl (plF U n d, endC U n d)) = _
            by_cases c : endC U n d = 0
            · rw [if_pos c] at ec; cases ec
            · rw [if_neg c] at ec ⊢; cases ec; rfl
        · have er : endW U n (gatL U n P (usF tn bn nn tna bna nna) a) = Sum.inr ((tkV U n a, tkV U n (tkE U n (tkE U n a)), fun i => nI (mtT ea eb ew ne P (2 ^ tkV U n (tkE U n a) - 1) (2 ^ tkV U n (tkE U n a) - 1 - i))), b) := by
            rw [et]
            revert ec
            generalize egL U n P (tkV U n (tkE U n a)) 12 (tkE U n (tkE U n (tkE U n a))) 0 (fun _ => 0) (fun _ => 0) (fun _ => 0) = r
            intro ec
            rcases r with f | ⟨⟨ne', ea', eb', ew'⟩, d⟩
            · cases ec
            · have ec : (if endC U n d = 0 then Sum.inr ((ne', ea', eb', ew'), tkE U n d) else Sum.inl (plF U n d, endC U n d)) = Sum.inr ((ne, ea, eb, ew), b) := ec
              show (if endC U n d = 0 then Sum.inr (_, tkE U n d) else Sum.inl (plF U n d, endC U n d)) = _
              by_cases c : endC U n d = 0
              · rw [if_pos c] at ec ⊢; cases ec; rfl
              · rw [if_neg c] at ec; cases ec
          unfold wX6_readGate_148
          rw [pc.2.1]
          refine c_mfill (l := tkV U n (tkE U n (tkE U n a))) vc gc (by omega) (by omega) (by omega) lc (fun d fd gd => ?_)
          have pd := pc.tb (σ' := d) ht hb5 hn6 (fun o o1 o2 o3 => fd o (by omega) o2)
          rw [pd.2.2.1, nI_1]
          rintro _ rfl
          have Fd : FPX t c d := ⟨fun o o1 o2 => fd o (by omega) (by omega), by rw [fd 285 (by omega) (by omega)]⟩
          exact kt _ _ _ _ _ er (FF.tr (fc.tr (Fd.tr (FPX.u ht0 (by omega))))) (pd.addT hV.2.1 ht hb5 (by rw [fd _ (by omega) (by omega)]; exact lc) gd) (by rw [u1_n (by omega), fd 285 (by omega) (by omega)]; exact ac)
      · have q3 := of_decide_eq_false q3
        refine kf _ _ y ?_ (Fb.tr f4.p) (k6 q3)
        unfold gatL
        rw [if_pos q, if_pos q2, if_neg q3]; rfl
    · have q2 := of_decide_eq_false q2
      refine kf _ _ x ?_ (fv.tr f3.p) (k4 q2)
      unfold gatL
      rw [if_pos q, if_neg q2]; rfl
  · have q := of_decide_eq_false q
    refine kf _ _ u ?_ f1.p (k2 q)
    unfold gatL
    rw [if_neg q]; rfl
def GM (ne : Nat) (ea eb ew : Nat → Nat) (τ : St) : Prop := ∀ x, x < 8 → ∀ y, y < 8 → τ.1 14 (8 * x + y) = nI (wtF ea eb ew ne x y)
theorem FPM.u14 {o i : Nat} {x : Int32} (ho : o = 14 ∨ o = 15) : FPM τ (u1 τ o i x) := ⟨fun o ho => u1_n (by omega), fun o o1 o2 => by rw [u1_n (by omega)], fun i hi => by rw [u1_n (by omega)], fun i hi => by rw [u1_n (by omega)], fun i hi => by rw [u1_n (by omega)], fun i hi => by rw [u1_n (by omega)], fun j hj => by rw [u1_n (by omega)]⟩
theorem PrM.u14 {o i : Nat} {x : Int32} (ho : o = 14 ∨ o = 15) (h : PrM P tn bn nn lg tof tv bv w tna bna nna τ) (hV : PrV P tn bn nn lg tof tv bv w tna bna nna) : PrM P tn bn nn lg tof tv bv w tna bna nna (u1 τ o i x) := h.tb (fun q q9 q10 q14 q15 q0 => u1_n (by omega)) (fun j hj => by rw [u1_n (by omega)]) (fun i hi => by rw [u1_n (by omega)]) (fun i hi => by rw [u1_n (by omega)]) (fun o ho => rfl) (fun j hj => hV.1.l4 hj)
theorem m_egL {l nm : Nat} {post : Bool → St → Prop} (hU : U = fun i => ub (tp i)) (hV : PrV P tn bn nn lg tof tv bv w tna bna nna) (ht : tn < 8) (hl : l ≤ 4) : ∀ (m c ne : Nat) (ea eb ew : Nat → Nat) (s : St), ne + m = 12 → c ≤ n → TM tp n s → TokM U n c s → s.1 0 9 = 0 → PrM P tn bn nn lg tof tv bv w tna bna nna s → GM ne ea eb ew s → GV K P ne ea eb ew → GW ne ew → s.1 9 (8 + tn) = nI l → (∀ pl kd u, egL U n P K m c ne ea eb ew = .inl (pl, kd) → FPM s u → u.1 0 9 = nI kd → u.1 0 10 = nI pl → post false u) → (∀ ne' ea' eb' ew' b u, egL U n P K m c ne ea eb ew = .inr ((ne', ea', eb', ew'), b) → FPM s u → PrM P tn bn nn lg tof tv bv w tna bna nna u → TokM U n b u → u.1 0 9 = 0 → GM ne' ea' eb' ew' u → GV K P ne' ea' eb' ew' → u.1 9 (8 + tn) = nI l → wX11_laysMatchings 0 (nI K) (nI P) u (fun s1 => ∃ j, wX11_gateLine_348 post j 0 (nI (8 + tn)) (lN nm) (nI K) (0 : Int32) s1)) → wX11_gateLine_109 post (m + 1) 0 (nI (8 + tn)) (lN nm) (nI K) (nI ne) s := by
  intro m
  induction m with
  | zero =>
    intro c ne ea eb ew s e hc hX tk h9 hpr gm gv gw hl0 kf kt
    obtain ⟨g1, g2, g3, g4, g5, g6⟩ := id gv
    have r := rk_eq1 (tkK_le (U := U) (n := n) (a := c))
    rw [egL] at kf kt
    unfold wX11_gateLine_109
    rw [tk.1, r.2.1]
    refine ⟨fun q => ?_, fun q => ?_⟩
    · rw [if_neg q] at kt
      rw [hpr.1]
      rintro _ rfl
      rw [show s.1 (0 + 2) (1 : Int32).toNatClampNeg = nI P from hpr.2.1]
      exact ⟨vp_in_nI (n := 1) (by decide) (by decide), kt _ _ _ _ _ s rfl (FPM.rf s) hpr tk h9 gm gv hl0⟩
    · rw [if_pos q] at kf
      have hv := tkV_num (U := U) (n := n) hc q
      rw [tk.2.2.1 q, nI_leI (by omega) (by omega)]
      unfold wX11_gateLine_132
      refine ⟨fun d => ?_, fun d => ?_⟩
      · rw [if_neg (by omega)] at kf
        exact m_must (b := false) (kd := 4) h9 (by simp) (by decide) (by decide) tk.2.1 (fun d => absurd d (by decide)) (fun _ s' f' g1 g2 => ⟨fun _ => kf _ _ s' rfl f'.p g1 g2, fun d => absurd d (by decide)⟩)
      · rw [if_pos (by omega)] at kf
        refine m_must (b := true) (kd := 4) h9 (by decide) (by decide) (by decide) tk.2.1 (fun _ => ⟨fun d => absurd d (by decide), fun _ => ⟨fun _ => ?_, fun q2 => absurd (nI_le (a := 12) (by omega) (by omega)) q2⟩⟩) (fun d => absurd d (by decide))
        unfold wX11_gateLine_152
        exact m_must (b := false) (kd := 5) h9 (by simp) (by decide) (by decide) tk.2.1 (fun d => absurd d (by decide)) (fun _ s' f' g1 g2 => ⟨fun d => absurd d (by decide), fun _ => kf _ _ s' rfl f'.p g1 g2⟩)
  | succ m ih =>
    intro c ne ea eb ew s e hc hX tk h9 hpr gm gv gw hl0 kf kt
    obtain ⟨g1, g2, g3, g4, g5, g6⟩ := id gv
    have r := rk_eq1 (tkK_le (U := U) (n := n) (a := c))
    rw [egL] at kf kt
    unfold wX11_gateLine_109
    rw [tk.1, r.2.1]
    refine ⟨fun q => ?_, fun q => ?_⟩
    · rw [if_neg q] at kt
      rw [hpr.1]
      rintro _ rfl
      rw [show s.1 (0 + 2) (1 : Int32).toNatClampNeg = nI P from hpr.2.1]
      exact ⟨vp_in_nI (n := 1) (by decide) (by decide), kt _ _ _ _ _ s rfl (FPM.rf s) hpr tk h9 gm gv hl0⟩
    · rw [if_pos q] at kf kt
      have hv := tkV_num (U := U) (n := n) hc q
      rw [tk.2.2.1 q, nI_leI (by omega) (by omega)]
      unfold wX11_gateLine_132
      refine ⟨fun d => ?_, fun d => ?_⟩
      · rw [if_neg (by omega)] at kf
        exact m_must (b := false) (kd := 4) h9 (by simp) (by decide) (by decide) tk.2.1 (fun d => absurd d (by decide)) (fun _ s' f' g1 g2 => ⟨fun _ => kf _ _ s' rfl f'.p g1 g2, fun d => absurd d (by decide)⟩)
      · rw [if_pos (show tkV U n c < K by omega)] at kf kt
        refine m_must (b := true) (kd := 4) h9 (by decide) (by decide) (by decide) tk.2.1 (fun _ => ⟨fun d => absurd d (by decide), fun _ => ⟨fun q2 => absurd q2 (nI_ge (b := 12) (by omega) (by omega)), fun _ => ?_⟩⟩) (fun d => absurd d (by decide))
        unfold wX11_gateLine_152
        refine m_must (b := true) (kd := 5) h9 (by decide) (by decide) (by decide) tk.2.1 (fun _ => ⟨fun _ => ?_, fun d => absurd d (by decide)⟩) (fun d => absurd d (by decide))
        rw [tk.2.2.1 q]
        rintro _ rfl
        have hd := (tkE_le (U := U) hc).2
        have r2 := rk_eq1 (tkK_le (U := U) (n := n) (a := tkE U n c))
        refine m_steps hU hX hd (tk.2.2.2.2 (by omega)) (fun u f1 t2 => ?_)
        have hu := hpr.fr f1.r
        have u9 : u.1 0 9 = 0 := by rw [f1.2.1 9 (by decide) (by decide) (by decide) (by decide)]; exact h9
        have gu : GM ne ea eb ew u := fun x hx y hy => by rw [f1.1 14 (by decide)]; exact gm x hx y hy
        rw [t2.1, r2.2.1]
        unfold wX11_gateLine_185
        refine ⟨fun q3 => ?_, fun q3 => ?_⟩
        · rw [if_neg q3] at kf
          exact m_must (b := false) (kd := 1) u9 (by simp) (by decide) (by decide) t2.2.1 (fun d => absurd d (by decide)) (fun _ s' f' g1 g2 => ⟨fun d => absurd d (by decide), fun _ => kf _ _ s' rfl (f1.r.tr f').p g1 g2⟩)
        · rw [if_pos q3] at kf kt
          have hv2 := tkV_num (U := U) (n := n) hd q3
          refine m_must (b := true) (kd := 1) u9 (by decide) (by decide) (by decide) t2.2.1 (fun _ => ⟨fun _ => ?_, fun d => absurd d (by decide)⟩) (fun d => absurd d (by decide))
          rw [t2.2.2.1 q3]
          rintro _ rfl
          have bad4 : egL U n P K (m + 1) c ne ea eb ew = egL U n P K (m + 1) c ne ea eb ew := rfl
          rw [nI_leI (by omega) (by omega)]
          refine ⟨fun d2 => ?_, fun d2 => ?_⟩
          · rw [if_neg (by omega)] at kf
            unfold wX11_gateLine_224 wX11_gateLine_229
            refine m_must (b := true) (kd := 2) u9 (by decide) (by decide) (by decide) t2.2.1 (fun _ => ⟨fun d => absurd d (by decide), fun _ => ⟨fun _ => ?_, fun q4 => absurd (nI_le (by omega) (by omega)) q4⟩⟩) (fun d => absurd d (by decide))
            unfold wX11_gateLine_255 wX11_gateLine_256
            exact m_must (b := false) (kd := 4) u9 (by simp) (by decide) (by decide) t2.2.1 (fun d => absurd d (by decide)) (fun _ s' f' g1 g2 => ⟨fun d => absurd d (by decide), fun _ => kf _ _ s' rfl (f1.r.tr f').p g1 g2⟩)
          · rw [if_pos (show tkV U n (tkE U n c) < K by omega)] at kf kt
            rw [show (8 : Int32) = nI 8 from rfl, pk_mul, nI_add]
            rintro _ rfl
            refine ⟨vp_in_nI (by omega) (by decide), ?_⟩
            have hwb := wt_le gv (tkV U n c) (tkV U n (tkE U n c))
            rw [nI_clamp (by omega), show u.1 (0 + 14) (8 * tkV U n c + tkV U n (tkE U n c)) = nI (wtF ea eb ew ne (tkV U n c) (tkV U n (tkE U n c))) from gu _ (by omega) _ (by omega), show (0 : Int32) = nI 0 from rfl, nI_eq (by omega) (by decide)]
            refine ⟨fun q4 => ?_, fun q4 => ?_⟩
            · rw [if_pos q4] at kf
              unfold wX11_gateLine_229
              exact m_must (b := false) (kd := 2) u9 (by decide) (by decide) (by decide) t2.2.1 (fun d => absurd d (by decide)) (fun _ s' f' g1 g2 => ⟨fun _ => kf _ _ s' rfl (f1.r.tr f').p g1 g2, fun d => absurd d (by decide)⟩)
            · rw [if_neg (fun d => d q4)] at kf kt
              unfold wX11_gateLine_224 wX11_gateLine_229
              refine m_must (b := true) (kd := 2) u9 (by decide) (by decide) (by decide) t2.2.1 (fun _ => ⟨fun d => absurd d (by decide), fun _ => ⟨fun q5 => absurd q5 (nI_ge (by omega) (by omega)), fun _ => ?_⟩⟩) (fun d => absurd d (by decide))
              rw [nI_eq (by omega) (by omega)]
              refine ⟨fun q5 => ?_, fun q5 => ?_⟩
              · rw [if_pos q5.symm] at kf
                unfold wX11_gateLine_255 wX11_gateLine_256
                exact m_must (b := false) (kd := 4) u9 (by simp) (by decide) (by decide) t2.2.1 (fun d => absurd d (by decide)) (fun _ s' f' g1 g2 => ⟨fun d => absurd d (by decide), fun _ => kf _ _ s' rfl (f1.r.tr f').p g1 g2⟩)
              · rw [if_neg (fun d => q5 d.symm)] at kf kt
                unfold wX11_gateLine_256
                refine m_must (b := true) (kd := 4) u9 (by decide) (by decide) (by decide) t2.2.1 (fun _ => ⟨fun _ => ?_, fun d => absurd d (by decide)⟩) (fun d => absurd d (by decide))
                have he := (tkE_le (U := U) hd).2
                refine m_steps hU (hX.fr f1.r) he (t2.2.2.2.2 (by omega)) (fun v f2 t3 => ?_)
                have F2 := f1.r.tr f2.r
                have hv' := hpr.fr F2
                have v9 : v.1 0 9 = 0 := by rw [f2.2.1 9 (by decide) (by decide) (by decide) (by decide)]; exact u9
                rw [hv'.1]
                rintro _ rfl
                rw [show v.1 (0 + 2) (1 : Int32).toNatClampNeg = nI P from hv'.2.1]
                refine ⟨vp_in_nI (n := 1) (by decide) (by decide), m_num (lo := 1) (hi := P - 1) hU (hX.fr F2) he t3 v9 (by decide) (pk_sub (a := P) (b := 1) (by omega)) (by omega) (fun y f3 k1 k2 => ⟨fun q6 => ?_, fun q6 => ?_⟩)⟩
                · have q6 := of_decide_eq_true q6
                  rw [if_pos q6] at kf kt
                  obtain ⟨t4, y9, y11⟩ := k1 q6
                  obtain ⟨n1, n2, n3⟩ := num_ok q6
                  have F3 := F2.tr f3
                  have hy := hpr.fr F3
                  rw [show (8 : Int32) = nI 8 from rfl, pk_mul, pk_mul, nI_add, nI_add, y11]
                  refine ⟨vp_in_nI (by omega) (by decide), ?_⟩
                  rintro _ rfl
                  rw [u1_n (o' := 0) (by decide), y11]
                  refine ⟨vp_in_nI (by omega) (by decide), ?_⟩
                  rw [nI_clamp (by omega), nI_clamp (by omega), nI_1]
                  rintro _ rfl _ rfl
                  have FF : FPM s _ := (F3.p.tr (FPM.u14 (o := 14) (i := 8 * tkV U n c + tkV U n (tkE U n c)) (x := nI (tkV U n (tkE U n (tkE U n c)))) (Or.inl rfl))).tr (FPM.u14 (o := 14) (i := 8 * tkV U n (tkE U n c) + tkV U n c) (x := nI (tkV U n (tkE U n (tkE U n c)))) (Or.inl rfl))
                  refine ih _ (ne + 1) _ _ _ _ (by omega) (tkE_le he).2 (hX.fp FF) ((t4.u (by decide)).u (by decide)) (by rw [u1_n (by decide), u1_n (by decide)]; exact y9) ((hy.u14 (Or.inl rfl) hV).u14 (Or.inl rfl) hV) (fun x hx z hz => ?_) (gv.add (by omega) (by omega) (by omega) (fun d => q5 d.symm) (by omega)) (gw.add n2) (by rw [u1_n (by decide), u1_n (by decide), F3.1 9 (by decide)]; exact hl0) (fun pl kd v ev fv => kf pl kd v ev (FF.tr fv)) (fun m1 m2 m3 m4 b v ev fv => kt m1 m2 m3 m4 b v ev (FF.tr fv))
                  rw [wt_add, show (0 + 14 : Nat) = 14 from rfl, u1_s, u1_s, F3.1 14 (by decide)]
                  have sy : wtF ea eb ew ne (tkV U n (tkE U n c)) (tkV U n c) = wtF ea eb ew ne (tkV U n c) (tkV U n (tkE U n c)) := sN_cg (fun k hk => by (repeat' split) <;> omega)
                  by_cases c1 : x = tkV U n (tkE U n c) ∧ z = tkV U n c
                  · rw [c1.1, c1.2, pk_us, if_pos (Or.inr ⟨rfl, rfl⟩), sy, q4, Nat.zero_add]
                  · rw [pk_un (by omega)]
                    by_cases c2 : x = tkV U n c ∧ z = tkV U n (tkE U n c)
                    · rw [c2.1, c2.2, pk_us, if_pos (Or.inl ⟨rfl, rfl⟩), q4, Nat.zero_add]
                    · rw [pk_un (by omega), if_neg (by omega), Nat.add_zero]
                      exact gm x hx z hz
                · have q6 := of_decide_eq_false q6
                  rw [if_neg q6] at kf
                  exact kf _ _ y rfl (F2.tr f3).p (k2 q6).1 (k2 q6).2
theorem m_gate {post : Bool → St → Prop} (hU : U = fun i => ub (tp i)) (h0 : TM tp n τ) (ha : a ≤ n) (tk : TokM U n a τ) (h9 : τ.1 0 9 = 0) (h : PrM P tn bn nn lg tof tv bv w tna bna nna τ) (hV : PrV P tn bn nn lg tof tv bv w tna bna nna) (ht : tn < 8) (kf : ∀ pl kd u, gatL U n P (usF tn bn nn tna bna nna) a = .inl (pl, kd) → FPM τ u → u.1 0 9 = nI kd → u.1 0 10 = nI pl → post false u) (kt : ∀ nm l g b u, gatL U n P (usF tn bn nn tna bna nna) a = .inr ((nm, l, g), b) → FPM τ u → PrM P (tn + 1) bn nn (uN lg tn l) tof (setT tv tn g) bv w (uN tna tn nm) bna nna u → TokM U n b u → u.1 0 9 = 0 → post true u) : wX11_gateLine 0 τ post := by
  have hP := hV.1.1
  unfold wX11_gateLine
  refine m_new hU h0 ha tk h9 h hV (fun u f1 k1 k2 => ⟨fun q => ?_, fun q => ?_⟩)
  · have q := of_decide_eq_true q
    obtain ⟨t1, g9, g26⟩ := k1 q
    have hu := h.fr f1
    have hb1 := (tkE_le (U := U) ha).2
    rw [hu.1]
    rintro _ rfl
    refine ⟨vp_in_nI (n := 1) (by decide) (by decide), ?_⟩
    rw [show u.1 (0 + 3) (1 : Int32).toNatClampNeg = nI tn from hu.2.2.1, show (8 : Int32) * 1 = nI 8 from rfl, nI_add, g26]
    rintro _ rfl _ rfl
    refine m_num (lo := 1) (hi := 8) hU (h0.fr f1) hb1 t1 g9 (by decide) rfl (by decide) (fun x f3 k3 k4 => ⟨fun q2 => ?_, fun q2 => ?_⟩)
    · have q2 := of_decide_eq_true q2
      obtain ⟨t3, g9', g11⟩ := k3 q2
      obtain ⟨_, K1, K8⟩ := num_ok q2
      have hx := hu.fr f3
      have hc1 := (tkE_le (U := U) hb1).2
      have hb4 : (if 4 < tkV U n (tkE U n a) then 4 else tkV U n (tkE U n a)) ≤ 4 ∧ (if 4 < tkV U n (tkE U n a) then 4 else tkV U n (tkE U n a)) ≤ tkV U n (tkE U n a) := by split <;> omega
      have key : ∀ y : Int32, y = nI (if 4 < tkV U n (tkE U n a) then 4 else tkV U n (tkE U n a)) → wX11_gateLine_64 post 0 (nI (8 + tn)) (lN (tkV U n a)) (nI (tkV U n (tkE U n a))) 0 (1 : Int32) y x := fun y ey => by
        unfold wX11_gateLine_64
        refine m_num (lo := 1) (hi := if 4 < tkV U n (tkE U n a) then 4 else tkV U n (tkE U n a)) hU (h0.fr (f1.tr f3)) hc1 t3 g9' (by decide) ey (by omega) (fun z f4 k5 k6 => ⟨fun q3 => ⟨vp_in_nI (by omega) (by decide), ?_⟩, fun q3 => ?_⟩)
        · have q3 := of_decide_eq_true q3
          obtain ⟨t4, z9, z11⟩ := k5 q3
          obtain ⟨_, l1, l4⟩ := num_ok q3
          have hz := hx.fr f4
          rw [z11, nI_clamp (by omega)]
          rintro _ rfl
          have hd1 := (tkE_le (U := U) hc1).2
          have F9 : FPM τ (u1 z (0 + 9) (8 + tn) (nI (tkV U n (tkE U n (tkE U n a))))) := ((f1.tr f3).tr f4).p.tr ⟨fun o ho => u1_n (by omega), fun o o1 o2 => by rw [u1_n (by omega)], fun i hi => by rw [show (0 + 9 : Nat) = 9 from rfl, u1_s, pk_un (by omega)], fun i hi => by rw [u1_n (by decide)], fun i hi => by rw [u1_n (by decide)], fun i hi => by rw [u1_n (by decide)], fun j hj => by rw [u1_n (by decide)]⟩
          have et : gatL U n P (usF tn bn nn tna bna nna) a = gtR P (tkV U n (tkE U n a)) (tkV U n a) (tkV U n (tkE U n (tkE U n a))) (egL U n P (tkV U n (tkE U n a)) 12 (tkE U n (tkE U n (tkE U n a))) 0 (fun _ => 0) (fun _ => 0) (fun _ => 0)) := by
            unfold gatL
            rw [if_pos q, if_pos q2, if_pos q3]
          have p9 : PrM P tn bn nn lg tof tv bv w tna bna nna (u1 z (0 + 9) (8 + tn) (nI (tkV U n (tkE U n (tkE U n a))))) := hz.tb (fun o o9 o10 o14 o15 o0 => u1_n o9) (fun j hj => by rw [u1_n (by decide)]) (fun i hi => by rw [show (0 + 9 : Nat) = 9 from rfl, u1_s, pk_un (by omega)]) (fun i hi => by rw [u1_n (by decide)]) (fun o ho => rfl) (fun j hj => hV.1.l4 hj)
          refine loop_0 (fun j i (s : St) => wX11_gateLine_85 post j 0 (nI (8 + tn)) (lN (tkV U n a)) (nI (tkV U n (tkE U n a))) (nI i) s) (fun i s => FPM τ s ∧ PrM P tn bn nn lg tof tv bv w tna bna nna s ∧ TokM U n (tkE U n (tkE U n (tkE U n a))) s ∧ s.1 0 9 = 0 ∧ s.1 9 (8 + tn) = nI (tkV U n (tkE U n (tkE U n a))) ∧ ∀ x, x < i → s.1 14 x = 0) 64 _ ⟨F9, p9, t4.u (by decide), by rw [u1_n (by decide)]; exact z9, by show (u1 z 9 _ _).1 9 _ = _; rw [u1_s, pk_us], fun x hx => by omega⟩ ?_ ?_
          · rintro j s ⟨s1, s2, s3, s4, s5, s6⟩
            unfold wX11_gateLine_85
            refine ⟨fun _ => ⟨12 + 1, ?_⟩, fun d => absurd (nI_le (a := 64) (Nat.le_refl _) (by decide)) d⟩
            refine m_egL (K := tkV U n (tkE U n a)) hU hV ht (show tkV U n (tkE U n (tkE U n a)) ≤ 4 by omega) 12 _ 0 (fun _ => 0) (fun _ => 0) (fun _ => 0) s rfl hd1 (h0.fp s1) s3 s4 s2 (fun x hx y hy => s6 _ (by omega)) ⟨K1, K8, by omega, hP.1, hP.2.1, fun k hk => by omega⟩ (fun k hk => by omega) s5 (fun pl kd c ec fc => kf pl kd c (by rw [et, ec]; rfl) (s1.tr fc)) (fun ne ea eb ew b c ec fc pc tc c9 gc vc lc => ?_)
            have er : gatL U n P (usF tn bn nn tna bna nna) a = Sum.inr ((tkV U n a, tkV U n (tkE U n (tkE U n a)), fun i => nI (mtT ea eb ew ne P (2 ^ tkV U n (tkE U n a) - 1) (2 ^ tkV U n (tkE U n a) - 1 - i))), b) := by rw [et, ec]; rfl
            have h16 := p2le (show tkV U n (tkE U n (tkE U n a)) ≤ 4 by omega)
            have hle : 2 ^ tkV U n (tkE U n (tkE U n a)) ≤ 2 ^ tkV U n (tkE U n a) := Nat.pow_le_pow_right (by decide) (by omega)
            have h256 := p2_8 K8
            refine m_lays vc gc (fun d d1 d2 d3 => ?_)
            have Fd : FPM τ d := s1.tr (fc.tr ⟨fun o ho => d1 o (by omega), fun o o1 o2 => by rw [d1 o (by omega)], fun i hi => by rw [d1 9 (by decide)], fun i hi => by rw [d1 10 (by decide)], fun i hi => by rw [d1 11 (by decide)], fun i hi => by rw [d1 12 (by decide)], fun j hj => by rw [d1 0 (by decide)]⟩)
            have pd : PrM P tn bn nn lg tof tv bv w tna bna nna d := pc.tb (fun o o9 o10 o14 o15 o0 => d1 o o15) (fun j hj => by rw [d1 0 (by decide)]) (fun i hi => by rw [d1 9 (by decide)]) (fun i hi => by rw [d1 10 (by decide)]) (fun o ho => by rw [d2]) (fun j hj => hV.1.l4 hj)
            have td : TokM U n b d := by
              obtain ⟨a1, a2, a3, a4, a5⟩ := tc
              exact ⟨by rw [d1 0 (by decide)]; exact a1, by rw [d1 0 (by decide)]; exact a2, fun c => by rw [d1 0 (by decide)]; exact a3 c, fun c => by rw [d2]; exact a4 c, fun c => by rw [d1 0 (by decide)]; exact a5 c⟩
            refine loop_0 (fun j i (s : St) => wX11_gateLine_348 post j 0 (nI (8 + tn)) (lN (tkV U n a)) (nI (tkV U n (tkE U n a))) (nI i) s) (fun i s => FPM τ s ∧ PrM P tn bn nn lg tof tv bv w tna bna nna s ∧ TokM U n b s ∧ s.1 0 9 = 0 ∧ s.1 9 (8 + tn) = nI (tkV U n (tkE U n (tkE U n a))) ∧ s.1 15 = d.1 15 ∧ ∀ x, x < i → s.1 10 (16 * (8 + tn) + x) = nI (mtT ea eb ew ne P (2 ^ tkV U n (tkE U n a) - 1) (2 ^ tkV U n (tkE U n a) - 1 - x))) (2 ^ tkV U n (tkE U n (tkE U n a))) d ⟨Fd, pd, td, by rw [d1 0 (by decide)]; exact c9, by rw [d1 9 (by decide)]; exact lc, rfl, fun x hx => by omega⟩ ?_ ?_
            · rintro j s ⟨r1, r2, r3, r4, r5, r6, r7⟩
              unfold wX11_gateLine_348
              rw [nI_clamp (by omega), show s.1 (0 + 9) (8 + tn) = nI (tkV U n (tkE U n (tkE U n a))) from r5, sh1 _ (by omega)]
              refine ⟨vp_in_nI (by omega) (by decide), fun _ => ⟨vp_in_nI (by omega) (by decide), ?_⟩, fun d => absurd (nI_le (Nat.le_refl _) (by omega)) d⟩
              rintro _ rfl
              rw [u2_1, r2.1]
              rintro _ rfl
              refine ⟨vp_in_nI (n := 1) (by decide) (by decide), vp_in_nI (n := 1) (by decide) (by decide), ?_⟩
              rw [show s.1 (0 + 3) (1 : Int32).toNatClampNeg = nI tn from r2.2.2.1, nI_1]
              rintro _ rfl
              refine kt _ _ _ _ _ er (r1.tr ⟨fun o ho => by rw [u1_n (by omega), u2_1], fun o o1 o2 => ?_, fun i hi => by rw [u1_n (by decide), u2_1], fun i hi => by rw [u1_n (by decide), u2_1], fun i hi => by rw [u1_n (by decide), u2_1], fun i hi => by rw [u1_n (by decide), u2_1], fun j hj => by rw [u1_n (by decide), u2_1]⟩) (r2.addT r5 r7) ((r3.v (by decide)).u (by decide)) (by rw [u1_n (by decide), u2_1]; exact r4)
              by_cases c : o = 3
              · subst c
                rw [u1_s, pk_un (show (0 : Nat) ≠ (1 : Int32).toNatClampNeg from by decide), u2_1]
              · rw [u1_n c, u2_1]
            · rintro j i s hi ⟨r1, r2, r3, r4, r5, r6, r7⟩ ih
              unfold wX11_gateLine_348
              rw [nI_clamp (by omega), show s.1 (0 + 9) (8 + tn) = nI (tkV U n (tkE U n (tkE U n a))) from r5, sh1 _ (by omega), sh1 _ (by omega), show nI (2 ^ tkV U n (tkE U n a)) - (1 : Int32) = nI (2 ^ tkV U n (tkE U n a) - 1) from pk_sub (a := 2 ^ tkV U n (tkE U n a)) (b := 1) (Nat.two_pow_pos _)]
              refine ⟨vp_in_nI (by omega) (by decide), fun d => absurd d (nI_ge hi (by omega)), fun _ => ?_⟩
              rw [(not_x _ K8 i (by omega)).resolve_left (by omega)]
              rintro _ rfl
              rw [show (16 : Int32) = nI 16 from rfl, pk_mul, nI_add]
              refine ⟨vp_in_nI (by omega) (by decide), vp_in_nI (by omega) (by decide), ?_⟩
              rw [nI_clamp (by omega), nI_clamp (by omega), show s.1 (0 + 15) (2 ^ tkV U n (tkE U n a) - 1 - i) = d.1 15 (2 ^ tkV U n (tkE U n a) - 1 - i) from congrFun r6 _, d3 _ (by omega), nI_1]
              rintro _ rfl _ rfl
              refine ih _ ⟨r1.tr ⟨fun o ho => u1_n (by omega), fun o o1 o2 => by rw [u1_n (by omega)], fun i hi => by rw [u1_n (by decide)], fun i hi => by rw [show (0 + 10 : Nat) = 10 from rfl, u1_s, pk_un (by omega)], fun i hi => by rw [u1_n (by decide)], fun i hi => by rw [u1_n (by decide)], fun j hj => by rw [u1_n (by decide)]⟩, r2.tb (fun o o9 o10 o14 o15 o0 => u1_n o10) (fun j hj => by rw [u1_n (by decide)]) (fun i hi => by rw [u1_n (by decide)]) (fun x hx => by rw [show (0 + 10 : Nat) = 10 from rfl, u1_s, pk_un (by omega)]) (fun o ho => rfl) (fun j hj => hV.1.l4 hj), r3.u (by decide), by rw [u1_n (by decide)]; exact r4, by rw [u1_n (by decide)]; exact r5, by rw [u1_n (by decide)]; exact r6, fun x hx => ?_⟩
              rw [show (0 + 10 : Nat) = 10 from rfl, u1_s]
              by_cases c : x = i
              · rw [c, pk_us]
              · rw [pk_un (by omega)]; exact r7 x (by omega)
          · rintro j i s hi ⟨s1, s2, s3, s4, s5, s6⟩ ih
            unfold wX11_gateLine_85
            refine ⟨fun d => absurd d (nI_ge (b := 64) hi (by decide)), fun _ => ⟨vp_in_nI hi (by decide), ?_⟩⟩
            rw [nI_clamp (by omega), nI_1]
            rintro _ rfl _ rfl
            refine ih _ ⟨s1.tr (FPM.u14 (Or.inl rfl)), s2.u14 (Or.inl rfl) hV, s3.u (by decide), by rw [u1_n (by decide)]; exact s4, by rw [u1_n (by decide)]; exact s5, fun x hx => ?_⟩
            rw [show (0 + 14 : Nat) = 14 from rfl, u1_s]
            by_cases c : x = i
            · rw [c, pk_us]
            · rw [pk_un c]; exact s6 x (by omega)
        · have q3 := of_decide_eq_false q3
          refine kf _ _ z ?_ ((f1.tr f3).tr f4).p (k6 q3).1 (k6 q3).2
          unfold gatL
          rw [if_pos q, if_pos q2, if_neg q3]
      rw [g11]
      rintro _ rfl
      refine ⟨fun d => key _ ?_, fun d => key _ ?_⟩
      · have d : 4 ≤ tkV U n (tkE U n a) := (nI_leI (a := 4) (by decide) (by omega)).mp d
        split
        · rfl
        · rw [show tkV U n (tkE U n a) = 4 by omega]; rfl
      · have d : ¬ 4 ≤ tkV U n (tkE U n a) := fun e => d ((nI_leI (a := 4) (by decide) (by omega)).mpr e)
        rw [if_neg (by omega)]
    · have q2 := of_decide_eq_false q2
      refine kf _ _ x ?_ (f1.tr f3).p (k4 q2).1 (k4 q2).2
      unfold gatL
      rw [if_pos q, if_neg q2]
  · have q := of_decide_eq_false q
    refine kf _ _ u ?_ f1.p (k2 q).1 (k2 q).2
    unfold gatL
    rw [if_neg q]
end GA
