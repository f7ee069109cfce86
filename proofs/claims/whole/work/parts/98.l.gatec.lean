/-! a gate's line, in the class -/
def egL (U : Nat → Nat) (n P K : Nat) : Nat → Nat → Nat → (Nat → Nat) → (Nat → Nat) → (Nat → Nat) → (Nat × Nat) ⊕ ((Nat × (Nat → Nat) × (Nat → Nat) × (Nat → Nat)) × Nat)
  | 0, c, ne, ea, eb, ew => if tkK U n c = 1 then (if tkV U n c < K then .inl (plF U n c, 5) else .inl (plF U n c, 4)) else .inr ((ne, ea, eb, ew), c)
  | m + 1, c, ne, ea, eb, ew => if tkK U n c = 1 then (if tkV U n c < K then
      (if tkK U n (tkE U n c) = 1 then (if tkV U n (tkE U n c) < K then
        (if wtF ea eb ew ne (tkV U n c) (tkV U n (tkE U n c)) ≠ 0 then .inl (plF U n (tkE U n c), 2) else
          (if tkV U n c = tkV U n (tkE U n c) then .inl (plF U n (tkE U n c), 4) else
            (if numC U n (tkE U n (tkE U n c)) 1 (P - 1) = 0 then egL U n P K m (tkE U n (tkE U n (tkE U n c))) (ne + 1) (uN ea ne (tkV U n c)) (uN eb ne (tkV U n (tkE U n c))) (uN ew ne (tkV U n (tkE U n (tkE U n c)))) else .inl (plF U n (tkE U n (tkE U n c)), numC U n (tkE U n (tkE U n c)) 1 (P - 1)))))
        else .inl (plF U n (tkE U n c), 4)) else .inl (plF U n (tkE U n c), 1)) else .inl (plF U n c, 4)) else .inr ((ne, ea, eb, ew), c)
def gtR (P K nm l : Nat) (r : (Nat × Nat) ⊕ ((Nat × (Nat → Nat) × (Nat → Nat) × (Nat → Nat)) × Nat)) : (Nat × Nat) ⊕ ((Nat × Nat × (Nat → Int32)) × Nat) := match r with
  | .inl f => .inl f
  | .inr ((ne, ea, eb, ew), d) => .inr ((nm, l, fun i => nI (mtT ea eb ew ne P (2 ^ K - 1) (2 ^ K - 1 - i))), d)
def gatL (U : Nat → Nat) (n P : Nat) (us : Nat → Bool) (a : Nat) : (Nat × Nat) ⊕ ((Nat × Nat × (Nat → Int32)) × Nat) :=
  if newC U n a us = 0 then (if numC U n (tkE U n a) 1 8 = 0 then (if numC U n (tkE U n (tkE U n a)) 1 (if 4 < tkV U n (tkE U n a) then 4 else tkV U n (tkE U n a)) = 0 then
    gtR P (tkV U n (tkE U n a)) (tkV U n a) (tkV U n (tkE U n (tkE U n a))) (egL U n P (tkV U n (tkE U n a)) 12 (tkE U n (tkE U n (tkE U n a))) 0 (fun _ => 0) (fun _ => 0) (fun _ => 0))
    else .inl (plF U n (tkE U n (tkE U n a)), numC U n (tkE U n (tkE U n a)) 1 (if 4 < tkV U n (tkE U n a) then 4 else tkV U n (tkE U n a)))) else .inl (plF U n (tkE U n a), numC U n (tkE U n a) 1 8)) else .inl (plF U n a, newC U n a us)
def GW (ne : Nat) (ew : Nat → Nat) : Prop := ∀ k, k < ne → 1 ≤ ew k
theorem wt_ne {ea eb ew : Nat → Nat} {x y : Nat} : ∀ {ne : Nat}, GW ne ew → (wtF ea eb ew ne x y ≠ 0 ↔ ∃ k, k < ne ∧ ((ea k = x ∧ eb k = y) ∨ (ea k = y ∧ eb k = x)))
  | 0, _ => ⟨fun h => absurd rfl h, fun ⟨k, hk, _⟩ => absurd hk (Nat.not_lt_zero k)⟩
  | ne + 1, h => by
    have ih := wt_ne (ea := ea) (eb := eb) (ew := ew) (x := x) (y := y) (ne := ne) (fun k hk => h k (by omega))
    have h1 := h ne (Nat.lt_succ_self ne)
    show wtF ea eb ew ne x y + (if (ea ne = x ∧ eb ne = y) ∨ (ea ne = y ∧ eb ne = x) then ew ne else 0) ≠ 0 ↔ _
    constructor
    · intro q
      by_cases c : (ea ne = x ∧ eb ne = y) ∨ (ea ne = y ∧ eb ne = x)
      · exact ⟨ne, Nat.lt_succ_self ne, c⟩
      · rw [if_neg c] at q
        obtain ⟨k, k1, k2⟩ := ih.mp q
        exact ⟨k, by omega, k2⟩
    · rintro ⟨k, k1, k2⟩
      by_cases c : k = ne
      · subst c
        rw [if_pos k2]
        omega
      · have := ih.mpr ⟨k, by omega, k2⟩
        exact fun d => this (by omega)
theorem wt_add {ea eb ew : Nat → Nat} {a b v ne x y : Nat} : wtF (uN ea ne a) (uN eb ne b) (uN ew ne v) (ne + 1) x y = wtF ea eb ew ne x y + (if (a = x ∧ b = y) ∨ (a = y ∧ b = x) then v else 0) := by
  unfold wtF
  rw [sN, uN_s, uN_s, uN_s]
  congr 1
  refine sN_cg (fun k hk => ?_)
  rw [uN_n (by omega), uN_n (by omega), uN_n (by omega)]
section GC
variable {t P tn bn nn : Nat} {lg tof : Nat → Nat} {tv bv : Nat → Nat → Int32} {w : NetT} {nc : Nat} {nmv nmk nmn tna bna nna : Nat → Nat} {σ τ σ' τ' : St} {tp : Nat → Int32} {n : Nat} {U : Nat → Nat} {a : Nat} {ea eb ew : Nat → Nat} {ne K : Nat}
theorem GV.add {a b v : Nat} (h : GV K P ne ea eb ew) (hn : ne < 12) (ha : a < K) (hb : b < K) (hab : a ≠ b) (hv : v < P) : GV K P (ne + 1) (uN ea ne a) (uN eb ne b) (uN ew ne v) := by
  obtain ⟨g1, g2, g3, g4, g5, g6⟩ := h
  refine ⟨g1, g2, by omega, g4, g5, fun k hk => ?_⟩
  by_cases c : k = ne
  · rw [c, uN_s, uN_s, uN_s]; exact ⟨ha, hb, hab, hv⟩
  · rw [uN_n c, uN_n c, uN_n c]; exact g6 k (by omega)
theorem GW.add {v : Nat} (h : GW ne ew) (hv : 1 ≤ v) : GW (ne + 1) (uN ew ne v) := fun k hk => by
  by_cases c : k = ne
  · rw [c, uN_s]; exact hv
  · rw [uN_n c]; exact h k (by omega)
theorem c_num' {lo hi : Nat} {x : Int32} {post : Bool → St → Prop} (hU : U = fun i => ub (tp i)) (h0 : TX tp n σ) (ha : a ≤ n) (h2 : σ.1 285 2 = nI a) (hlo : lo < 2 ^ 31) (hx : x.toInt = (hi : Int)) (hhi : hi < 2 ^ 31) (k : ∀ u, FC σ u → TokX U n a u → (numC U n a lo hi ≠ 0 → u.1 285 7 = fltV (plF U n a) (numC U n a lo hi)) → post (decide (numC U n a lo hi = 0)) u) : wX6_takeNumber 285 1 (nI lo) x σ post := by
  unfold wX6_takeNumber
  refine c_advance hU h0 ha h2 (fun u f1 tk => c_isNum h0.1 ha tk hlo hx hhi (fun v f2 g7 gn => ?_))
  obtain ⟨a1, a2, a3, a4⟩ := tk
  exact k v (f1.c.tr f2) ⟨by rw [g7 4 (by decide)]; exact a1, by rw [g7 5 (by decide)]; exact a2, fun c => by rw [g7 6 (by decide)]; exact a3 c, fun c => by rw [g7 2 (by decide)]; exact a4 c⟩ gn
theorem c_hasEdge {a b : Nat} {post : Bool → St → Prop} (hG : GV K P ne ea eb ew) (hW : GW ne ew) (h : GX K ne ea eb ew σ) (ha : a < K) (hb : b < K) (k : post (decide (wtF ea eb ew ne a b ≠ 0)) σ) : wX2_hasEdge 286 (nI a) (nI b) σ post := by
  obtain ⟨g1, g2, g3, g4, g5, g6⟩ := hG
  obtain ⟨m1, m2⟩ := mk_lt a (by omega) b (by omega)
  unfold wX2_hasEdge
  rw [m2]
  rintro _ rfl
  refine loop_0 (fun j i (_ : Unit) => wX2_hasEdge_11 post j 286 (nI (mkF a b)) (nI i) σ) (fun i _ => ∀ k, k < i → ¬ ((ea k = a ∧ eb k = b) ∨ (ea k = b ∧ eb k = a))) ne () (fun k hk => by omega) ?_ ?_
  · rintro j _ hI
    unfold wX2_hasEdge_11
    rw [h.2.1]
    refine ⟨fun _ => ?_, fun q => absurd (nI_le (Nat.le_refl _) (by omega)) q⟩
    have e : ¬ (wtF ea eb ew ne a b ≠ 0) := fun q => by
      obtain ⟨k, k1, k2⟩ := (wt_ne hW).mp q
      exact hI k k1 k2
    rw [decide_eq_false e] at k; exact k
  · rintro j i _ hi hI ih
    obtain ⟨a1, a2, a3, a4⟩ := g6 i hi
    have e := (mk_inj a (by omega) b (by omega) (ea i) (by omega) (eb i) (by omega)).resolve_left a3
    obtain ⟨n1, n2⟩ := mk_lt (ea i) (by omega) (eb i) (by omega)
    unfold wX2_hasEdge_11
    rw [h.2.1, nI_clamp (by omega), show σ.1 (286 + 1) i = nI (mkF (ea i) (eb i)) from (h.2.2 i hi).1, nI_eq (by omega) (by omega), nI_1]
    refine ⟨fun q => absurd q (nI_ge hi (by omega)), fun _ => ⟨vp_in_nI (by omega) (by decide), fun c => ?_, fun c => ?_⟩⟩
    · rintro _ rfl
      refine ih () (fun k hk => ?_)
      by_cases c2 : k = i
      · subst c2
        rw [decide_eq_false (fun d => c d.symm)] at e
        simp at e
        omega
      · exact hI k (by omega)
    · rw [decide_eq_true c.symm] at e
      simp at e
      rw [decide_eq_true ((wt_ne hW).mpr ⟨i, hi, by omega⟩)] at k
      exact k
theorem GX.fr (h : GX K ne ea eb ew σ) (f : ∀ o, (o = 286 ∨ o = 287 ∨ o = 288) → σ'.1 o = σ.1 o) : GX K ne ea eb ew σ' := ⟨by rw [f _ (by omega)]; exact h.1, by rw [f _ (by omega)]; exact h.2.1, fun k hk => by rw [f _ (by omega), f _ (by omega)]; exact h.2.2 k hk⟩
theorem c_addEdge {a b v : Nat} {post : St → Prop} (hG : GV K P ne ea eb ew) (h : GX K ne ea eb ew σ) (hn : ne < 12) (ha : a < K) (hb : b < K) (k : ∀ u, (∀ o, o ≠ 286 → o ≠ 287 → o ≠ 288 → u.1 o = σ.1 o) → GX K (ne + 1) (uN ea ne a) (uN eb ne b) (uN ew ne v) u → post u) : wX2_addEdge 286 (nI a) (nI b) (nI v) σ post := by
  obtain ⟨g1, g2, g3, g4, g5, g6⟩ := hG
  obtain ⟨m1, m2⟩ := mk_lt a (by omega) b (by omega)
  unfold wX2_addEdge
  rw [h.2.1, m2]
  refine ⟨fun q => absurd q (nI_ge (a := ne) (b := 12) hn (by decide)), fun _ => ⟨vp_in_nI hn (by decide), ?_⟩⟩
  rintro _ rfl
  rw [nI_clamp (by omega), u1_n (o' := 286) (by decide), h.2.1]
  refine ⟨vp_in_nI hn (by decide), ?_⟩
  rintro _ rfl
  rw [nI_clamp (by omega), u1_n (o' := 286) (by decide), u1_n (o' := 286) (by decide), h.2.1, nI_1]
  rintro _ rfl
  refine k _ (fun o o1 o2 o3 => by rw [u1_n o1, u1_n o3, u1_n o2]) ⟨by rw [u1_s, pk_un (by decide), u1_n (by decide), u1_n (by decide)]; exact h.1, by rw [u1_s, pk_us], fun k hk => ?_⟩
  have e1 : (u1 (u1 (u1 σ (286 + 1) ne (nI (mkF a b))) (286 + 2) ne (nI v)) 286 1 (nI (ne + 1))).1 287 = upd (σ.1 287) ne (nI (mkF a b)) := by rw [u1_n (by decide), u1_n (by decide)]; exact u1_s
  have e2 : (u1 (u1 (u1 σ (286 + 1) ne (nI (mkF a b))) (286 + 2) ne (nI v)) 286 1 (nI (ne + 1))).1 288 = upd (σ.1 288) ne (nI v) := by
    rw [u1_n (by decide)]
    show (u1 _ 288 ne (nI v)).1 288 = _
    rw [u1_s, u1_n (by decide)]
  rw [e1, e2]
  by_cases c : k = ne
  · rw [c, pk_us, pk_us, uN_s, uN_s, uN_s]; exact ⟨rfl, rfl⟩
  · rw [pk_un c, pk_un c, uN_n c, uN_n c, uN_n c]; exact h.2.2 k (by omega)
theorem c_egL {l : Nat} {post : Bool → St → Prop} (hU : U = fun i => ub (tp i)) (ht : tn < 8) (hb : bn ≤ 5) (hn : nn ≤ 6) (hl : l ≤ 4) : ∀ (m c ne : Nat) (ea eb ew : Nat → Nat) (s : St), ne + m = 12 → c ≤ n → TX tp n s → TokX U n c s → PrX t P tn bn nn lg tof tv bv w nc nmv nmk nmn s → GX K ne ea eb ew s → GV K P ne ea eb ew → GW ne ew → s.1 (t + 1 + 20 + 2 * tn) 0 = nI l → (∀ pl kd u, endW U n (egL U n P K m c ne ea eb ew) = .inl (pl, kd) → FPX t s u → u.1 285 7 = fltV pl kd → post false u) → (∀ ne' ea' eb' ew' b u, endW U n (egL U n P K m c ne ea eb ew) = .inr ((ne', ea', eb', ew'), b) → FPX t s u → PrX t P tn bn nn lg tof tv bv w nc nmv nmk nmn u → GX K ne' ea' eb' ew' u → GV K P ne' ea' eb' ew' → u.1 (t + 1 + 20 + 2 * tn) 0 = nI l → u.1 285 2 = nI b → wX6_readGate_148 post 285 t (t + 1 + 20 + 2 * tn) u) → wX6_readGate_108 post (m + 1) 285 1 t (t + 1 + 20 + 2 * tn) (nI ne) s := by
  intro m
  induction m with
  | zero =>
    intro c ne ea eb ew s e hc hX tk hpr gx gv gw hl0 kf kt
    obtain ⟨g1, g2, g3, g4, g5, g6⟩ := id gv
    have hk := tkK_le (U := U) (n := n) (a := c)
    rw [egL] at kf kt
    unfold wX6_readGate_108
    rw [show (12 : Int32) = nI 12 from rfl, nI_ltI (by decide) (by omega), tk.1, show (2 : Int32) = nI 2 from rfl, nI_eq (by omega) (by decide), hpr.2.1]
    refine ⟨fun q => absurd q (by omega), fun _ => ⟨fun q => ?_, fun q => ?_⟩⟩
    · rw [if_neg (by omega)] at kt
      exact kt _ _ _ _ _ s (by show (if endC U n c = 0 then _ else _) = _; rw [if_pos (by unfold endC; rw [if_pos q])]) (FPX.rf t s) hpr gx gv hl0 (tk.2.2.2 (by omega))
    · unfold wX6_readEdge
      simp only [Nat.reduceAdd]
      rw [gx.1]
      refine c_isNum hX.1 hc tk (lo := 0) (hi := K - 1) (by decide) (by rw [pred_toInt (by omega)]; omega) (by omega) (fun u f1 g7 gn => ⟨fun q2 => ?_, fun q2 => ⟨fun d => absurd d (by decide), fun _ => ?_⟩⟩)
      · have q2 := num_ok (of_decide_eq_true q2)
        rw [if_pos q2.1, if_pos (show tkV U n c < K by omega)] at kf
        rw [f1.1 286 (by decide), gx.2.1, show (12 : Int32) = nI 12 from rfl, nI_ltI (by omega) (by decide)]
        refine ⟨fun d => absurd d (by omega), fun _ => c_fail (U := U) (n := n) (a := c) (kd := 5) (by rw [g7 5 (by decide)]; exact tk.2.1) (fun v f2 _ gv => ⟨fun d => absurd d (by decide), fun _ => kf _ _ v rfl (f1.tr f2).p gv⟩)⟩
      · have q2 := of_decide_eq_false q2
        refine kf _ _ u ?_ f1.p (gn q2)
        by_cases c1 : tkK U n c = 1
        · have e4 : ¬ tkV U n c < K := fun d => q2 (by unfold numC; rw [if_pos c1, if_pos (by omega)])
          rw [if_pos c1, if_neg e4, show numC U n c 0 (K - 1) = 4 by unfold numC; rw [if_pos c1, if_neg (by omega)]]; rfl
        · rw [if_neg c1, show numC U n c 0 (K - 1) = 1 by unfold numC; rw [if_neg c1]]
          show (if endC U n c = 0 then _ else _) = _
          rw [show endC U n c = 1 by unfold endC; rw [if_neg q]]; rfl
  | succ m ih =>
    intro c ne ea eb ew s e hc hX tk hpr gx gv gw hl0 kf kt
    obtain ⟨g1, g2, g3, g4, g5, g6⟩ := id gv
    have hk := tkK_le (U := U) (n := n) (a := c)
    have ht0 := hpr.1
    rw [egL] at kf kt
    unfold wX6_readGate_108
    rw [show (12 : Int32) = nI 12 from rfl, nI_ltI (by decide) (by omega), tk.1, show (2 : Int32) = nI 2 from rfl, nI_eq (by omega) (by decide), hpr.2.1]
    refine ⟨fun q => absurd q (by omega), fun _ => ⟨fun q => ?_, fun q => ?_⟩⟩
    · rw [if_neg (by omega)] at kt
      exact kt _ _ _ _ _ s (by show (if endC U n c = 0 then _ else _) = _; rw [if_pos (by unfold endC; rw [if_pos q])]) (FPX.rf t s) hpr gx gv hl0 (tk.2.2.2 (by omega))
    · unfold wX6_readEdge
      simp only [Nat.reduceAdd]
      rw [gx.1]
      refine c_isNum hX.1 hc tk (lo := 0) (hi := K - 1) (by decide) (by rw [pred_toInt (by omega)]; omega) (by omega) (fun u f1 g7 gn => ⟨fun q2 => ?_, fun q2 => ⟨fun d => absurd d (by decide), fun _ => ?_⟩⟩)
      · have q2 := num_ok (of_decide_eq_true q2)
        rw [if_pos q2.1, if_pos (show tkV U n c < K by omega)] at kf kt
        have hd := (tkE_le (U := U) hc).2
        rw [f1.1 286 (by decide), gx.2.1, gx.1, show (12 : Int32) = nI 12 from rfl, nI_ltI (by omega) (by decide)]
        refine ⟨fun _ => ?_, fun d => absurd d (by omega)⟩
        rw [g7 6 (by decide), tk.2.2.1 (by omega)]
        rintro _ rfl
        refine c_num' hU (hX.fc f1) hd (by rw [g7 2 (by decide)]; exact tk.2.2.2 (by omega)) (lo := 0) (hi := K - 1) (by decide) (by rw [pred_toInt (by omega)]; omega) (by omega) (fun v f2 tk2 gn2 => ⟨fun q3 => ?_, fun q3 => ⟨fun d => absurd d (by decide), fun _ => ?_⟩⟩)
        · have q3 := num_ok (of_decide_eq_true q3)
          rw [if_pos q3.1, if_pos (show tkV U n (tkE U n c) < K by omega)] at kf kt
          rw [tk2.2.2.1 (by omega)]
          rintro _ rfl
          have F2 := f1.tr f2
          have gx2 : GX K ne ea eb ew v := gx.fr (fun o ho => F2.1 o (by omega))
          have hbad : wtF ea eb ew ne (tkV U n c) (tkV U n (tkE U n c)) ≠ 0 → wX6_fail 285 (2 : Int32) v (fun r6 s7 => (r6 = true → wX6_advance 285 1 s7 (fun s2 => ∀ x1 : Int32, x1 = nI ne + (1 : Int32) → wX6_readGate_108 post (m + 1) 285 1 t (t + 1 + 20 + 2 * tn) x1 s2)) ∧ (r6 = false → post false s7)) := fun q4 => by
            rw [if_pos q4] at kf
            exact c_fail (U := U) (n := n) (a := tkE U n c) (kd := 2) tk2.2.1 (fun y f3 _ gy => ⟨fun d => absurd d (by decide), fun _ => kf _ _ y rfl (F2.tr f3).p gy⟩)
          refine c_hasEdge gv gw gx2 (by omega) (by omega) ⟨fun q4 => ?_, fun q4 => hbad (of_decide_eq_true q4)⟩
          have q4 := of_decide_eq_false q4
          rw [if_neg q4] at kf kt
          rw [nI_eq (by omega) (by omega)]
          refine ⟨fun q5 => ?_, fun q5 => ?_⟩
          · rw [if_neg q5] at kf kt
            have he := (tkE_le (U := U) hd).2
            refine c_num' hU (hX.fc F2) he (tk2.2.2.2 (by omega)) (lo := 1) (hi := P - 1) (by decide) (by rw [pred_toInt (by omega)]; omega) (by omega) (fun y f3 tk3 gn3 => ⟨fun q6 => ?_, fun q6 => ⟨fun d => absurd d (by decide), fun _ => ?_⟩⟩)
            · have q6' := of_decide_eq_true q6
              have q6 := num_ok q6'
              rw [if_pos q6'] at kf kt
              have F3 := F2.tr f3
              rw [tk3.2.2.1 (by omega)]
              refine c_addEdge gv (gx.fr (fun o ho => F3.1 o (by omega))) (by omega) (by omega) (by omega) (fun z fz gz => ⟨fun _ => ?_, fun d => absurd d (by decide)⟩)
              have hf := (tkE_le (U := U) he).2
              have Fz : FPX t s z := F3.p.tr ⟨fun o o1 o2 => fz o (by omega) (by omega) (by omega), by rw [fz 285 (by decide) (by decide) (by decide)]⟩
              have pz : PrX t P tn bn nn lg tof tv bv w nc nmv nmk nmn z := (hpr.fc (by omega) hb hn F3).fr (by omega) hb hn (fun o ho => fz o (by omega) (by omega) (by omega))
              refine c_advance hU (hX.fp ht0 Fz) hf (by rw [fz 285 (by decide) (by decide) (by decide)]; exact tk3.2.2.2 (by omega)) (fun x fx tkx => ?_)
              rw [nI_1]
              rintro _ rfl
              have FF := Fz.tr (fx.c.p (t := t))
              refine ih _ (ne + 1) _ _ _ x (by omega) hf (hX.fp ht0 FF) tkx (pz.fc (by omega) hb hn fx.c) (gz.fr (fun o ho => fx.1 o (by omega))) (gv.add (by omega) (by omega) (by omega) q5 (by omega)) (gw.add q6.2.1) (by rw [fx.1 _ (by omega), fz _ (by omega) (by omega) (by omega), F3.1 _ (by omega)]; exact hl0) (fun pl kd v ev fv => kf pl kd v ev (FF.tr fv)) (fun n1 n2 n3 n4 b v ev fv => kt n1 n2 n3 n4 b v ev (FF.tr fv))
            · have q6 := of_decide_eq_false q6
              rw [if_neg q6] at kf
              exact kf _ _ y rfl (F2.tr f3).p (gn3 q6)
          · rw [if_pos q5] at kf
            exact c_fail (U := U) (n := n) (a := tkE U n c) (kd := 4) tk2.2.1 (fun y f3 _ gy => ⟨fun d => absurd d (by decide), fun _ => kf _ _ y rfl (F2.tr f3).p gy⟩)
        · have q3 := of_decide_eq_false q3
          refine kf _ _ v ?_ (f1.tr f2).p (gn2 q3)
          by_cases c1 : tkK U n (tkE U n c) = 1
          · have e4 : ¬ tkV U n (tkE U n c) < K := fun d => q3 (by unfold numC; rw [if_pos c1, if_pos (by omega)])
            rw [if_pos c1, if_neg e4, show numC U n (tkE U n c) 0 (K - 1) = 4 by unfold numC; rw [if_pos c1, if_neg (by omega)]]; rfl
          · rw [if_neg c1, show numC U n (tkE U n c) 0 (K - 1) = 1 by unfold numC; rw [if_neg c1]]; rfl
      · have q2 := of_decide_eq_false q2
        refine kf _ _ u ?_ f1.p (gn q2)
        by_cases c1 : tkK U n c = 1
        · have e4 : ¬ tkV U n c < K := fun d => q2 (by unfold numC; rw [if_pos c1, if_pos (by omega)])
          rw [if_pos c1, if_neg e4, show numC U n c 0 (K - 1) = 4 by unfold numC; rw [if_pos c1, if_neg (by omega)]]; rfl
        · rw [if_neg c1, show numC U n c 0 (K - 1) = 1 by unfold numC; rw [if_neg c1]]
          show (if endC U n c = 0 then _ else _) = _
          rw [show endC U n c = 1 by unfold endC; rw [if_neg q]]; rfl
end GC
