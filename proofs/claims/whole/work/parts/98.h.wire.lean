/-! the reference's node line; a wire's line -/
section WI
variable {t P tn bn nn : Nat} {lg tof : Nat → Nat} {tv bv : Nat → Nat → Int32} {w : NetT} {nc : Nat} {nmv nmk nmn tna bna nna : Nat → Nat} {σ τ σ' τ' : St} {tp : Nat → Int32} {n : Nat} {U : Nat → Nat} {a : Nat} {F : Nat → Nat} {m kd : Nat}
theorem fd_lt {na : Nat → Nat} {W : Nat} (hm : m ≤ 8) : ((if nF na m W < m then nI (nF na m W) else (-1 : Int32)) < 0) ↔ ¬ nF na m W < m := by
  by_cases c : nF na m W < m
  · rw [if_pos c]
    refine ⟨fun h => ?_, fun h => absurd c h⟩
    rw [fa_lt, nI_toInt (by omega)] at h
    have z : (0 : Int32).toInt = 0 := rfl
    omega
  · rw [if_neg c]
    exact ⟨fun _ => c, fun h => by decide⟩
theorem PrM.addN {k nm : Nat} (h : PrM P tn bn nn lg tof tv bv w tna bna nna τ) (e : τ.1 12 (6 + nn) = nI k) : PrM P tn bn (nn + 1) lg (uN tof nn k) tv bv (addNd w nn (tv k)) tna bna (uN nna nn nm) (u1 (u2 τ 8 (6 + nn) (lN nm)) 5 1 (nI (nn + 1))) := by
  obtain ⟨h0, h1, h2, h3, h4, h5, h6, h7, h8, h9⟩ := h
  have F : ∀ o, o ≠ 5 → (u1 (u2 τ 8 (6 + nn) (lN nm)) 5 1 (nI (nn + 1))).1 o = τ.1 o := fun o ho => by rw [u1_n ho, u2_1]
  have G : ∀ o, o ≠ 8 → (u1 (u2 τ 8 (6 + nn) (lN nm)) 5 1 (nI (nn + 1))).2 o = τ.2 o := fun o ho => by rw [u1_2, u2_n ho]
  refine ⟨by rw [F 0 (by decide)]; exact h0, by rw [F 2 (by decide)]; exact h1, by rw [F 3 (by decide)]; exact h2, by rw [F 4 (by decide)]; exact h3, by rw [u1_s, pk_us], fun j hj => by rw [F 9 (by decide), F 10 (by decide), G 6 (by decide)]; exact h5 j hj, fun j hj => by rw [F 11 (by decide), G 7 (by decide)]; exact h6 j hj, fun j hj => ?_, by rw [F 0 (by decide)]; exact h8, fun e he => by rw [F 13 (by decide)]; exact h9 e he⟩
  rw [F 12 (by decide), u1_2, u2_s]
  by_cases c : j = nn
  · subst c
    rw [uN_s, uN_s, pk_uLs]
    exact ⟨e, rfl⟩
  · rw [uN_n c, uN_n c, pk_uLn (by omega)]
    exact h7 j (by omega)
theorem PrM.b12 {i : Nat} {x : Int32} (h : PrM P tn bn nn lg tof tv bv w tna bna nna τ) (hi : 6 + nn ≤ i) : PrM P tn bn nn lg tof tv bv w tna bna nna (u1 τ 12 i x) := by
  obtain ⟨h0, h1, h2, h3, h4, h5, h6, h7, h8, h9⟩ := h
  have F : ∀ o, o ≠ 12 → (u1 τ 12 i x).1 o = τ.1 o := fun o ho => u1_n ho
  exact ⟨by rw [F 0 (by decide)]; exact h0, by rw [F 2 (by decide)]; exact h1, by rw [F 3 (by decide)]; exact h2, by rw [F 4 (by decide)]; exact h3, by rw [F 5 (by decide)]; exact h4, fun j hj => by rw [F 9 (by decide), F 10 (by decide), u1_2]; exact h5 j hj, fun j hj => by rw [F 11 (by decide), u1_2]; exact h6 j hj, fun j hj => ⟨by rw [u1_s, pk_un (by omega)]; exact (h7 j hj).1, by rw [u1_2]; exact (h7 j hj).2⟩, by rw [F 0 (by decide)]; exact h8, fun e he => by rw [F 13 (by decide)]; exact h9 e he⟩
theorem FPM.u12 {i : Nat} {x : Int32} (hi : 6 ≤ i) : FPM τ (u1 τ 12 i x) := ⟨fun o ho => u1_n (by omega), fun o o1 o2 => by rw [u1_n (by omega)], fun i hi => by rw [u1_n (by decide)], fun i hi => by rw [u1_n (by decide)], fun i hi => by rw [u1_n (by decide)], fun j hj => by rw [u1_s, pk_un (by omega)], fun j hj => by rw [u1_n (by decide)]⟩
theorem m_node {post : Bool → St → Prop} (hU : U = fun i => ub (tp i)) (h0 : TM tp n τ) (ha : a ≤ n) (tk : TokM U n a τ) (h9 : τ.1 0 9 = 0) (h : PrM P tn bn nn lg tof tv bv w tna bna nna τ) (hV : PrV P tn bn nn lg tof tv bv w tna bna nna) (hn : nn < 6) (kf : ∀ pl kd u, nodL U n (usF tn bn nn tna bna nna) (nF tna tn) tn a = .inl (pl, kd) → FPM τ u → u.1 0 9 = nI kd → u.1 0 10 = nI pl → post false u) (kt : ∀ nm k b u, nodL U n (usF tn bn nn tna bna nna) (nF tna tn) tn a = .inr ((nm, k), b) → FPM τ u → PrM P tn bn (nn + 1) lg (uN tof nn k) tv bv (addNd w nn (tv k)) tna bna (uN nna nn nm) u → TokM U n b u → u.1 0 9 = 0 → post true u) : wX11_nodeLine 0 τ post := by
  have hU2 : ∀ i, U i < 256 := fun i => by rw [hU]; exact ub_lt _
  have ht8 := hV.1.t8
  unfold wX11_nodeLine
  refine m_new hU h0 ha tk h9 h hV (fun u f1 k1 k2 => ⟨fun q => ?_, fun q => ?_⟩)
  · have q := of_decide_eq_true q
    obtain ⟨t1, g9, g26⟩ := k1 q
    have hu := h.fr f1
    have hb1 := (tkE_le (U := U) ha).2
    have hk := tkK_le (U := U) (n := n) (a := tkE U n a)
    have en : nodL U n (usF tn bn nn tna bna nna) (nF tna tn) tn a = (if knC U n (tkE U n a) (fun W => decide (nF tna tn W < tn)) = 0 then .inr ((tkV U n a, nF tna tn (tkV U n (tkE U n a))), tkE U n (tkE U n a)) else .inl (plF U n (tkE U n a), knC U n (tkE U n a) (fun W => decide (nF tna tn W < tn)))) := by unfold nodL; rw [if_pos q]
    rw [g26]
    rintro _ rfl
    refine m_isName hU hb1 t1 (m_must (kd := 1) g9 (b2i_0 _) (by decide) (by decide) t1.2.1 (fun c => ⟨fun d => absurd d (by decide), fun _ => ?_⟩) (fun c s f g1 g2 => ⟨fun _ => ?_, fun d => absurd d (by decide)⟩))
    · have c := of_decide_eq_true c
      have hv := tkV_word hU2 hb1 c.2
      have h8 := t1.2.2.2.1 c.2
      have e1 : knC U n (tkE U n a) (fun W => decide (nF tna tn W < tn)) = if decide (nF tna tn (tkV U n (tkE U n a)) < tn) = true then 0 else 3 := by unfold knC; rw [if_pos c]
      refine m_tableNamed hu ht8 hV.2.2.2.2.1 hv h8 ?_
      rw [fd_lt ht8]
      refine ⟨fun d => ?_, fun d => ?_⟩
      · unfold wX11_nodeLine_39
        refine m_must (b := false) (kd := 3) g9 (by simp) (by decide) (by decide) t1.2.1 (fun d => absurd d (by decide)) (fun _ s f g1 g2 => ⟨fun d => absurd d (by decide), fun _ => ?_⟩)
        rw [decide_eq_false d, if_neg (by decide)] at e1
        refine kf _ 3 s ?_ (f1.p.tr f.p) g1 g2
        rw [en, e1]; rfl
      · have d := Classical.not_not.mp d
        rw [decide_eq_true d, if_pos rfl] at e1
        rw [if_pos e1] at en
        unfold wX11_nodeLine_39
        refine m_must (b := true) (kd := 3) g9 (by decide) (by decide) (by decide) t1.2.1 (fun _ => ⟨fun _ => ?_, fun d => absurd d (by decide)⟩) (fun d => absurd d (by decide))
        rw [hu.1]
        rintro _ rfl
        refine ⟨vp_in_nI (n := 1) (by decide) (by decide), m_tableNamed hu ht8 hV.2.2.2.2.1 hv h8 ?_⟩
        rw [show u.1 (0 + 5) (1 : Int32).toNatClampNeg = nI nn from hu.2.2.2.2.1, show (6 : Int32) * 1 = nI 6 from rfl, nI_add, if_pos d, nI_clamp (by omega)]
        refine ⟨vp_in_nI (by omega) (by decide), ?_⟩
        rintro _ rfl
        have F1 := f1.p.tr (FPM.u12 (τ := u) (i := 6 + nn) (x := nI (nF tna tn (tkV U n (tkE U n a)))) (by omega))
        refine m_steps hU (h0.fp F1) (tkE_le hb1).2 (by rw [u1_n (by decide)]; exact t1.2.2.2.2 (by omega)) (fun s f t2 => ?_)
        have ps := (hu.b12 (i := 6 + nn) (x := nI (nF tna tn (tkV U n (tkE U n a)))) (by omega)).fr f.r
        rw [ps.1]
        rintro _ rfl
        refine ⟨vp_in_nI (n := 1) (by decide) (by decide), ?_⟩
        rw [show s.1 (0 + 5) (1 : Int32).toNatClampNeg = nI nn from ps.2.2.2.2.1, show (6 : Int32) * 1 = nI 6 from rfl, nI_add, nI_clamp (by omega)]
        refine ⟨vp_in_nI (by omega) (by decide), ?_⟩
        rintro _ rfl
        rw [u2_1, ps.1]
        rintro _ rfl
        refine ⟨vp_in_nI (n := 1) (by decide) (by decide), vp_in_nI (n := 1) (by decide) (by decide), ?_⟩
        rw [show s.1 (0 + 5) (1 : Int32).toNatClampNeg = nI nn from ps.2.2.2.2.1, nI_1]
        rintro _ rfl
        refine kt _ _ _ _ en ((F1.tr f.r.p).tr ⟨fun o ho => by rw [u1_n (by omega), u2_1], fun o o1 o2 => ?_, fun i hi => by rw [u1_n (by decide), u2_1], fun i hi => by rw [u1_n (by decide), u2_1], fun i hi => by rw [u1_n (by decide), u2_1], fun i hi => by rw [u1_n (by decide), u2_1], fun j hj => by rw [u1_n (by decide), u2_1]⟩) (ps.addN (by rw [f.r.1 12 (by decide), show (0 + 12 : Nat) = 12 from rfl, u1_s, pk_us])) ((t2.v (by decide)).u (by decide)) (by rw [u1_n (by decide), u2_1, f.2.1 9 (by decide) (by decide) (by decide) (by decide), u1_n (by decide)]; exact g9)
        by_cases c : o = 5
        · subst c
          rw [u1_s, pk_un (by decide), u2_1]
        · rw [u1_n c, u2_1]
    · have c := of_decide_eq_false c
      have e1 : knC U n (tkE U n a) (fun W => decide (nF tna tn W < tn)) = 1 := by unfold knC; rw [if_neg c]
      refine kf _ 1 s ?_ (f1.p.tr f.p) g1 g2
      rw [en, e1]; rfl
  · have q := of_decide_eq_false q
    refine kf _ _ u ?_ f1.p (k2 q).1 (k2 q).2
    unfold nodL
    rw [if_neg q]
def legL (U : Nat → Nat) (n : Nat) (F : Nat → Nat) (m : Nat) (ls : Nat → Nat) (v3 : Int32) (wi : Nat → Bool) (a : Nat) : (Nat × Nat) ⊕ (Nat × Nat) :=
  if knC U n a (fun W => decide (F W < m)) = 0 then (if numC U n (tkE U n a) 0 (ls (F (tkV U n a)) - 1) = 0 then (if (decide (nI (4 * F (tkV U n a) + tkV U n (tkE U n a)) = v3) || wi (4 * F (tkV U n a) + tkV U n (tkE U n a))) = true then .inl (plF U n (tkE U n a), 2) else .inr (4 * F (tkV U n a) + tkV U n (tkE U n a), tkE U n (tkE U n a))) else .inl (plF U n (tkE U n a), numC U n (tkE U n a) 0 (ls (F (tkV U n a)) - 1))) else .inl (plF U n a, knC U n a (fun W => decide (F W < m)))
def wirL (U : Nat → Nat) (n : Nat) (F : Nat → Nat) (m : Nat) (ls : Nat → Nat) (wi : Nat → Bool) (a : Nat) : (Nat × Nat) ⊕ ((Nat × Nat) × Nat) := match legL U n F m ls (-1) wi a with
  | .inl f => .inl f
  | .inr (x, b) => match legL U n F m ls (nI x) wi b with
    | .inl f => .inl f
    | .inr (y, c) => .inr ((x, y), c)
theorem legL_ok {ls : Nat → Nat} {v3 : Int32} {wi : Nat → Bool} {x b : Nat} (ha : a ≤ n) (hl : ∀ j, j < m → 1 ≤ ls j ∧ ls j ≤ 4) (h : legL U n F m ls v3 wi a = .inr (x, b)) : b ≤ n ∧ x / 4 < m ∧ x % 4 < ls (x / 4) ∧ ¬ nI x = v3 ∧ wi x = false := by
  unfold legL at h
  split at h
  · rename_i q
    split at h
    · rename_i q2
      split at h
      · exact absurd h (by simp)
      · rename_i q3
        cases h
        have k1 := of_decide_eq_true (kn_ok q).2
        have k2 := hl _ k1
        have k3 := num_ok q2
        have e : (4 * F (tkV U n a) + tkV U n (tkE U n a)) / 4 = F (tkV U n a) := by omega
        refine ⟨(tkE_le (tkE_le ha).2).2, by omega, by rw [e]; omega, ?_⟩
        simp only [Bool.or_eq_true, decide_eq_true_eq, not_or, Bool.not_eq_true] at q3
        exact q3
    · exact absurd h (by simp)
  · exact absurd h (by simp)
theorem c_leg {v3 : Int32} {post : Bool → St → Prop} (hU : U = fun i => ub (tp i)) (h0 : TX tp n σ) (ha : a ≤ n) (h2 : σ.1 285 2 = nI a) (h : PrX t P tn bn nn lg tof tv bv w nc nmv nmk nmn σ) (hN : NmV tn bn nn tna bna nna nc nmv nmk nmn) (hV : PrV P tn bn nn lg tof tv bv w tna bna nna) (kf : ∀ pl kd u, legL U n (nF nna nn) nn (fun j => lg (tof j)) v3 (wiB w.2.1 (2 * w.1)) a = .inl (pl, kd) → FC σ u → u.1 285 7 = fltV pl kd → post false u) (kt : ∀ x b u, legL U n (nF nna nn) nn (fun j => lg (tof j)) v3 (wiB w.2.1 (2 * w.1)) a = .inr (x, b) → FC σ u → u.1 285 2 = nI b → u.1 285 6 = nI x → post true u) : wX6_takeLeg 285 1 t v3 σ post := by
  have ht8 := hV.1.t8
  have hb5 := hV.1.b5
  have hn6 := hV.2.1.1
  have ht0 := h.1
  have hnc : nc ≤ 19 := by have := hN.1; omega
  unfold wX6_takeLeg
  refine c_known (kd := 4) hU h0 ha h2 h (hN.kh4 hnc) (by decide) (by omega) ht8 hb5 hn6 (fun u f1 k1 k2 => ⟨fun q => ?_, fun q => ?_⟩)
  · have q := of_decide_eq_true q
    obtain ⟨g2, g6, hlt⟩ := k1 q
    have hu := h.fc ht8 hb5 hn6 f1
    have hb1 := (tkE_le (U := U) ha).2
    have hl : 1 ≤ lg (tof (nF nna nn (tkV U n a))) ∧ lg (tof (nF nna nn (tkV U n a))) ≤ 4 := ⟨(hV.1.2.2.2.1 _ (hV.2.1.2 _ hlt)).1, (hV.1.2.2.2.1 _ (hV.2.1.2 _ hlt)).2.1⟩
    rw [g6]
    rintro _ rfl
    refine ⟨vp_in_nI (by omega) (by decide), ?_⟩
    have hl0 : u.1 (t + 3 + 1 + 2 + 2 * nF nna nn (tkV U n a)) 0 = nI (lg (tof (nF nna nn (tkV U n a)))) := (hu.2.2.2.2.2.2.2.1.2.2.2 _ hlt).1
    rw [nI_clamp (by omega), hl0]
    unfold wX6_takeNumber
    refine c_advance hU (h0.fc f1) hb1 g2 (fun s f2 tk => c_isNum h0.1 hb1 tk (lo := 0) (hi := lg (tof (nF nna nn (tkV U n a))) - 1) (by decide) (by rw [pred_toInt (by omega)]; omega) (by omega) (fun v f3 g7 gn => ?_))
    have FF : FC σ v := f1.tr (f2.c.tr f3)
    have hv := h.fc ht8 hb5 hn6 FF
    refine ⟨fun q2 => ?_, fun q2 => ?_⟩
    · have q2 := of_decide_eq_true q2
      have k3 := num_ok q2
      have el : legL U n (nF nna nn) nn (fun j => lg (tof j)) v3 (wiB w.2.1 (2 * w.1)) a = if (decide (nI (4 * nF nna nn (tkV U n a) + tkV U n (tkE U n a)) = v3) || wiB w.2.1 (2 * w.1) (4 * nF nna nn (tkV U n a) + tkV U n (tkE U n a))) = true then .inl (plF U n (tkE U n a), 2) else .inr (4 * nF nna nn (tkV U n a) + tkV U n (tkE U n a), tkE U n (tkE U n a)) := by unfold legL; rw [if_pos q, if_pos q2]
      rw [g7 6 (by decide), tk.2.2.1 (by omega), show (4 : Int32) = nI 4 from rfl, pk_mul, nI_add, Nat.add_comm]
      rintro _ rfl
      rw [u1_s, pk_us]
      have hz := hv.fc ht8 hb5 hn6 (FC.u (j := 6) (x := nI (4 * nF nna nn (tkV U n a) + tkV U n (tkE U n a))) (by omega))
      have Fz := FF.tr (FC.u (j := 6) (x := nI (4 * nF nna nn (tkV U n a) + tkV U n (tkE U n a))) (by omega))
      have bad : legL U n (nF nna nn) nn (fun j => lg (tof j)) v3 (wiB w.2.1 (2 * w.1)) a = .inl (plF U n (tkE U n a), 2) → wX6_takeLeg_79 post 285 (u1 v 285 6 (nI (4 * nF nna nn (tkV U n a) + tkV U n (tkE U n a)))) := fun e => by
        unfold wX6_takeLeg_79
        exact c_fail (U := U) (n := n) (a := tkE U n a) (kd := 2) (by rw [u1_s, pk_un (by decide), g7 5 (by decide)]; exact tk.2.1) (fun d fd _ gd => kf _ _ d e (Fz.tr fd) gd)
      refine ⟨fun c => bad (by rw [el, decide_eq_true c]; rfl), fun c => c_wired hz.2.2.2.2.2.2.2.1 hV.2.2.1.1 (fun e he => by have := hV.2.2.1.lt hn6 he; omega) (by omega) ⟨fun d => ?_, fun d => bad (by rw [el, d, Bool.or_true, if_pos rfl])⟩⟩
      rw [d, decide_eq_false c] at el
      exact kt _ _ _ el Fz (by rw [u1_s, pk_un (by decide), g7 2 (by decide)]; exact tk.2.2.2 (by omega)) (by rw [u1_s, pk_us])
    · have q2 := of_decide_eq_false q2
      refine kf _ _ v ?_ FF (gn q2)
      unfold legL
      rw [if_pos q, if_neg q2]
  · have q := of_decide_eq_false q
    refine kf _ _ u ?_ f1 (k2 q)
    unfold legL
    rw [if_neg q]
theorem pX_addW {x y : Nat} (h : PrX t P tn bn nn lg tof tv bv w nc nmv nmk nmn σ) (hn : nn ≤ 6) (ht : tn ≤ 8) (hb : bn ≤ 5) : PrX t P tn bn nn lg tof tv bv (addN w x y) nc nmv nmk nmn (u1 (u1 (u1 σ (t + 3 + 2) (2 * w.1) (nI x)) (t + 3 + 2) (2 * w.1 + 1) (nI y)) (t + 3) 1 (nI (w.1 + 1))) := by
  obtain ⟨h0, h1, h2, h3, h4, h5, h6, ⟨n1, n2, n3, n4⟩, h8, h9, h10⟩ := h
  have F : ∀ o, o ≠ t + 3 → o ≠ t + 3 + 2 → (u1 (u1 (u1 σ (t + 3 + 2) (2 * w.1) (nI x)) (t + 3 + 2) (2 * w.1 + 1) (nI y)) (t + 3) 1 (nI (w.1 + 1))).1 o = σ.1 o := fun o o1 o2 => by rw [u1_n o1, u1_n o2, u1_n o2]
  refine ⟨h0, by rw [F _ (by omega) (by omega)]; exact h1, by rw [F _ (by omega) (by omega)]; exact h2, by rw [F _ (by omega) (by omega)]; exact h3, by rw [F _ (by omega) (by omega)]; exact h4, fun j hj => ⟨by rw [F _ (by omega) (by omega)]; exact (h5 j hj).1, fun i hi => by rw [F _ (by omega) (by omega)]; exact (h5 j hj).2 i hi⟩, fun j hj k hk => by rw [F _ (by omega) (by omega)]; exact h6 j hj k hk, ⟨by rw [u1_s, pk_un (by decide), u1_n (by omega), u1_n (by omega)]; exact n1, by rw [u1_s, pk_us]; rfl, fun z hz => ?_, fun j hj => ⟨by rw [F _ (by omega) (by omega)]; exact (n4 j hj).1, fun i hi => by rw [F _ (by omega) (by omega)]; exact (n4 j hj).2 i hi⟩⟩, trivial, fun k hk => by rw [F _ (by omega) (by omega), F _ (by omega) (by omega), F _ (by omega) (by omega)]; exact h9 k hk, fun k hk => by rw [F _ (by omega) (by omega)]; exact h10 k hk⟩
  have hz : z < 2 * (w.1 + 1) := hz
  rw [u1_n (by omega), u1_s, u1_s]
  show _ = nI (if z = 2 * w.1 then _ else if z = 2 * w.1 + 1 then _ else w.2.1 z)
  by_cases f1 : z = 2 * w.1 + 1
  · rw [if_neg (by omega), if_pos f1, f1, pk_us]
  · rw [pk_un f1]
    by_cases f2 : z = 2 * w.1
    · rw [if_pos f2, f2, pk_us]
    · rw [pk_un f2, if_neg f2, if_neg f1]; exact n3 z (by omega)
theorem c_wire {post : Bool → St → Prop} (hU : U = fun i => ub (tp i)) (h0 : TX tp n σ) (ha : a ≤ n) (h2 : σ.1 285 2 = nI a) (h : PrX t P tn bn nn lg tof tv bv w nc nmv nmk nmn σ) (hN : NmV tn bn nn tna bna nna nc nmv nmk nmn) (hV : PrV P tn bn nn lg tof tv bv w tna bna nna) (hw : w.1 < 10) (kf : ∀ pl kd u, endW U n (wirL U n (nF nna nn) nn (fun j => lg (tof j)) (wiB w.2.1 (2 * w.1)) a) = .inl (pl, kd) → FPX t σ u → u.1 285 7 = fltV pl kd → post false u) (kt : ∀ x y b u, endW U n (wirL U n (nF nna nn) nn (fun j => lg (tof j)) (wiB w.2.1 (2 * w.1)) a) = .inr ((x, y), b) → FPX t σ u → PrX t P tn bn nn lg tof tv bv (addN w x y) nc nmv nmk nmn u → u.1 285 2 = nI b → post true u) : wX6_readWire 285 1 t σ post := by
  have ht8 := hV.1.t8
  have hb5 := hV.1.b5
  have hn6 := hV.2.1.1
  have ht0 := h.1
  have hll : ∀ j, j < nn → 1 ≤ lg (tof j) ∧ lg (tof j) ≤ 4 := fun j hj => ⟨(hV.1.2.2.2.1 _ (hV.2.1.2 _ hj)).1, (hV.1.2.2.2.1 _ (hV.2.1.2 _ hj)).2.1⟩
  unfold wX6_readWire
  rw [h.2.2.2.2.2.2.2.1.2.1, show (10 : Int32) = nI 10 from rfl, nI_ltI (by omega) (by decide)]
  refine ⟨fun _ => c_leg hU h0 ha h2 h hN hV (fun pl kd u e1 f1 g1 => ⟨fun d => absurd d (by decide), fun _ => ?_⟩) (fun x b u e1 f1 g2 g6 => ⟨fun _ => ?_, fun d => absurd d (by decide)⟩), fun q => absurd hw q⟩
  · refine kf pl kd u ?_ f1.p g1
    unfold wirL
    rw [e1]; rfl
  obtain ⟨b1, b2⟩ := legL_ok ha hll e1
  rw [g6]
  rintro _ rfl
  have hu := h.fc ht8 hb5 hn6 f1
  refine c_leg hU (h0.fc f1) b1 g2 hu hN hV (fun pl kd v e2 f2 g1 => ⟨fun d => absurd d (by decide), fun _ => ?_⟩) (fun y c v e2 f2 v2 v6 => ⟨fun _ => ?_, fun d => absurd d (by decide)⟩)
  · refine kf pl kd v ?_ (f1.tr f2).p g1
    unfold wirL
    rw [e1]
    show endW U n (match legL U n (nF nna nn) nn (fun j => lg (tof j)) (nI x) (wiB w.2.1 (2 * w.1)) b with
    | .inl f => Sum.inl f
    | .inr (y, c) => Sum.inr ((x, y), c)) = _
    rw [e2]; rfl
  obtain ⟨c1, c2⟩ := legL_ok b1 hll e2
  have hv := hu.fc ht8 hb5 hn6 f2
  have ew : wirL U n (nF nna nn) nn (fun j => lg (tof j)) (wiB w.2.1 (2 * w.1)) a = .inr ((x, y), c) := by
    unfold wirL
    rw [e1]
    show (match legL U n (nF nna nn) nn (fun j => lg (tof j)) (nI x) (wiB w.2.1 (2 * w.1)) b with
    | .inl f => Sum.inl f
    | .inr (y, c) => Sum.inr ((x, y), c)) = _
    rw [e2]
  unfold wX4_addWire
  have vw := hv.2.2.2.2.2.2.2.1.2.1
  rw [v6, vw, show (10 : Int32) = nI 10 from rfl, show (2 : Int32) = nI 2 from rfl, pk_mul]
  refine ⟨fun d => absurd d (nI_ge hw (by decide)), fun _ => ⟨vp_in_nI (by omega) (by decide), ?_⟩⟩
  rintro _ rfl
  rw [u1_n (o' := t + 3) (by omega), vw, pk_mul, nI_1]
  refine ⟨vp_in_nI (by omega) (by decide), ?_⟩
  rintro _ rfl
  rw [u1_n (o' := t + 3) (by omega), u1_n (o' := t + 3) (by omega), vw, nI_1]
  rintro _ rfl
  rw [nI_clamp (by omega), nI_clamp (by omega)]
  have pz := pX_addW (x := x) (y := y) hv hn6 ht8 hb5
  have fz := (((f1.tr f2).p (t := t)).tr (FPX.u (k := 2 * w.1) (x := nI x) ht0 (o := t + 3 + 2) (by omega))).tr ((FPX.u (k := 2 * w.1 + 1) (x := nI y) ht0 (o := t + 3 + 2) (by omega)).tr (FPX.u (k := 1) (x := nI (w.1 + 1)) ht0 (o := t + 3) (by omega)))
  refine c_end hU (h0.fp ht0 fz) c1 (by rw [u1_n (by omega), u1_n (by omega), u1_n (by omega)]; exact v2) (fun d f4 k5 k6 => ?_)
  by_cases cc : endC U n c = 0
  · have := kt _ _ _ d (by
      rw [ew]
      show (if _ then _ else _) = _
      rw [if_pos cc]) (fz.tr f4.p) (pz.fc ht8 hb5 hn6 f4) (k5 cc)
    rw [cc]; exact this
  · have := kf _ _ d (by
      rw [ew]
      show (if _ then _ else _) = _
      rw [if_neg cc]) (fz.tr f4.p) (k6 cc)
    rw [decide_eq_false cc]; exact this
theorem m_wloop {x : Nat} {v3 v40 : Int32} {post : Bool → St → Prop} (hw : τ.1 0 24 = nI w.1) (hw10 : w.1 ≤ 10) (he : ∀ e, e < 2 * w.1 → τ.1 13 e = nI (w.2.1 e)) (hlt : ∀ e, e < 2 * w.1 → w.2.1 e < 24) (h29 : τ.1 0 29 = nI x) (hx : x < 2 ^ 31) (h40 : v40 = 0 ∨ v40 = 1) (K : ∀ v4 : Int32, (v4 = 0 ↔ (v40 = 0 ∨ wiB w.2.1 (2 * w.1) x = true)) → (v3 = 0 → wX11_takesEnd_186 post 0 v3 0 τ) ∧ (¬ v3 = 0 → (v4 = 0 → wX11_takesEnd_191 post 0 v3 0 (0 : Int32) τ) ∧ (¬ v4 = 0 → wX11_takesEnd_186 post 0 v3 0 τ))) : wX11_takesEnd_130 post 0 v3 v40 τ := by
  unfold wX11_takesEnd_130
  refine loop_0 (fun j i (v4 : Int32) => wX11_takesEnd_135 post j 0 v3 v4 (nI i) τ) (fun i v4 => (v4 = 0 ↔ (v40 = 0 ∨ wiB w.2.1 i x = true)) ∧ (v4 = 0 ∨ v4 = 1)) (2 * w.1) v40 ⟨by simp [wiB], h40⟩ ?_ ?_
  · rintro j v4 ⟨hI, _⟩
    unfold wX11_takesEnd_135
    rw [hw, show (2 : Int32) = nI 2 from rfl, pk_mul]
    exact ⟨fun _ => K v4 hI, fun q => absurd (nI_le (Nat.le_refl _) (by omega)) q⟩
  · rintro j i v4 hi ⟨hI, hI2⟩ ih
    have hl := hlt i hi
    unfold wX11_takesEnd_135 wX11_takesEnd_167
    rw [hw, show (2 : Int32) = nI 2 from rfl, pk_mul, nI_clamp (by omega), show τ.1 (0 + 13) i = nI (w.2.1 i) from he i hi, h29, nI_eq (by omega) hx, nI_1]
    refine ⟨fun q => absurd q (nI_ge hi (by omega)), fun _ => ⟨vp_in_nI (by omega) (by decide), fun c => ?_, fun c => ?_⟩⟩
    · rintro _ rfl _ rfl
      refine ih _ ⟨?_, Or.inl (by rcases hI2 with e | e <;> rw [e] <;> rfl)⟩
      have e1 : wiB w.2.1 (i + 1) x = true := wiB_iff.mpr ⟨i, Nat.lt_succ_self _, c⟩
      rw [e1]
      refine ⟨fun _ => Or.inr rfl, fun _ => by rcases hI2 with e | e <;> rw [e] <;> rfl⟩
    · rintro _ rfl _ rfl
      have e1 : (v4 &&& 1) = v4 := by rcases hI2 with e | e <;> rw [e] <;> rfl
      rw [e1]
      refine ih _ ⟨?_, hI2⟩
      rw [hI, wiB, decide_eq_false c, Bool.or_false]
theorem m_leg {v3 : Int32} {post : Bool → St → Prop} (hU : U = fun i => ub (tp i)) (h0 : TM tp n τ) (ha : a ≤ n) (tk : TokM U n a τ) (h9 : τ.1 0 9 = 0) (h : PrM P tn bn nn lg tof tv bv w tna bna nna τ) (hV : PrV P tn bn nn lg tof tv bv w tna bna nna) (kf : ∀ pl kd u, legL U n (nF nna nn) nn (fun j => lg (tof j)) v3 (wiB w.2.1 (2 * w.1)) a = .inl (pl, kd) → FR τ u → u.1 0 9 = nI kd → u.1 0 10 = nI pl → post false u) (kt : ∀ x b u, legL U n (nF nna nn) nn (fun j => lg (tof j)) v3 (wiB w.2.1 (2 * w.1)) a = .inr (x, b) → FR τ u → TokM U n b u → u.1 0 9 = 0 → u.1 0 29 = nI x → post true u) : wX11_takesEnd 0 v3 τ post := by
  have hU2 : ∀ i, U i < 256 := fun i => by rw [hU]; exact ub_lt _
  have hn6 := hV.2.1.1
  have ht8 := hV.1.t8
  have hk := tkK_le (U := U) (n := n) (a := tkE U n a)
  have hb1 := (tkE_le (U := U) ha).2
  unfold wX11_takesEnd
  refine m_isName hU ha tk (m_must (kd := 1) h9 (b2i_0 _) (by decide) (by decide) tk.2.1 (fun c => ⟨fun _ => ?_, fun d => absurd d (by decide)⟩) (fun c s f g1 g2 => ⟨fun d => absurd d (by decide), fun _ => ?_⟩))
  · have c := of_decide_eq_true c
    have hv := tkV_word hU2 ha c.2
    have h8 := tk.2.2.2.1 c.2
    have e1 : knC U n a (fun W => decide (nF nna nn W < nn)) = if decide (nF nna nn (tkV U n a) < nn) = true then 0 else 3 := by unfold knC; rw [if_pos c]
    refine m_nodeNamed h hn6 hV.2.2.2.2.2.2 hv h8 ?_
    rw [fd_lt (by omega)]
    refine ⟨fun d => ?_, fun d => ?_⟩
    · unfold wX11_takesEnd_29
      refine m_must (b := false) (kd := 3) h9 (by simp) (by decide) (by decide) tk.2.1 (fun d => absurd d (by decide)) (fun _ s f g1 g2 => ⟨fun d => absurd d (by decide), fun _ => ?_⟩)
      rw [decide_eq_false d, if_neg (by decide)] at e1
      refine kf _ 3 s ?_ f g1 g2
      unfold legL
      rw [e1]; rfl
    · have hlt := Classical.not_not.mp d
      rw [decide_eq_true hlt, if_pos rfl] at e1
      have hl : 1 ≤ lg (tof (nF nna nn (tkV U n a))) ∧ lg (tof (nF nna nn (tkV U n a))) ≤ 4 := ⟨(hV.1.2.2.2.1 _ (hV.2.1.2 _ hlt)).1, (hV.1.2.2.2.1 _ (hV.2.1.2 _ hlt)).2.1⟩
      have htl := hV.2.1.2 _ hlt
      have el : legL U n (nF nna nn) nn (fun j => lg (tof j)) v3 (wiB w.2.1 (2 * w.1)) a = if numC U n (tkE U n a) 0 (lg (tof (nF nna nn (tkV U n a))) - 1) = 0 then (if (decide (nI (4 * nF nna nn (tkV U n a) + tkV U n (tkE U n a)) = v3) || wiB w.2.1 (2 * w.1) (4 * nF nna nn (tkV U n a) + tkV U n (tkE U n a))) = true then .inl (plF U n (tkE U n a), 2) else .inr (4 * nF nna nn (tkV U n a) + tkV U n (tkE U n a), tkE U n (tkE U n a))) else .inl (plF U n (tkE U n a), numC U n (tkE U n a) 0 (lg (tof (nF nna nn (tkV U n a))) - 1)) := by unfold legL; rw [if_pos e1]
      rw [if_pos hlt]
      unfold wX11_takesEnd_29
      refine m_must (b := true) (kd := 3) h9 (by decide) (by decide) (by decide) tk.2.1 (fun _ => ⟨fun _ => ?_, fun d => absurd d (by decide)⟩) (fun d => absurd d (by decide))
      refine m_steps hU h0 hb1 (tk.2.2.2.2 (by omega)) (fun s f t2 => ?_)
      have hs := h.fr f.r
      have s9 : s.1 0 9 = 0 := by rw [f.2.1 9 (by decide) (by decide) (by decide) (by decide)]; exact h9
      have r := rk_eq1 hk
      rw [t2.1]
      unfold wX11_takesEnd_56
      refine ⟨fun c2 => ?_, fun c2 => ?_⟩
      · refine m_must (b := false) (kd := 1) s9 (by simp) (by decide) (by decide) t2.2.1 (fun d => absurd d (by decide)) (fun _ s' f' g1 g2 => ⟨fun d => absurd d (by decide), fun _ => ?_⟩)
        have e2 : numC U n (tkE U n a) 0 (lg (tof (nF nna nn (tkV U n a))) - 1) = 1 := by unfold numC; rw [if_neg (fun d => c2 (r.2.1.mpr d))]
        refine kf _ 1 s' ?_ (f.r.tr f') g1 g2
        rw [el, e2]; rfl
      · have c2 := r.2.1.mp c2
        have v7 := t2.2.2.1 c2
        have hv2 := tkV_num (U := U) (n := n) hb1 c2
        refine m_must (b := true) (kd := 1) s9 (by decide) (by decide) (by decide) t2.2.1 (fun _ => ⟨fun _ => ?_, fun d => absurd d (by decide)⟩) (fun d => absurd d (by decide))
        rw [v7, show (4 : Int32) = nI 4 from rfl, pk_mul, nI_add]
        rintro _ rfl
        have F2 : FR s (u1 s 0 29 (nI (4 * nF nna nn (tkV U n a) + tkV U n (tkE U n a)))) := FR.u (by omega)
        have FF := f.r.tr F2
        have p2 := hs.fr F2
        have t3 : TokM U n (tkE U n a) (u1 s 0 29 (nI (4 * nF nna nn (tkV U n a) + tkV U n (tkE U n a)))) := by
          obtain ⟨a1, a2, a3, a4, a5⟩ := t2
          exact ⟨by rw [u1_s, pk_un (by decide)]; exact a1, by rw [u1_s, pk_un (by decide)]; exact a2, fun c => by rw [u1_s, pk_un (by decide)]; exact a3 c, fun c => by rw [u1_2]; exact a4 c, fun c => by rw [u1_s, pk_un (by decide)]; exact a5 c⟩
        have z9 : (u1 s 0 29 (nI (4 * nF nna nn (tkV U n a) + tkV U n (tkE U n a)))).1 0 9 = 0 := by rw [u1_s, pk_un (by decide)]; exact s9
        rw [p2.1, show (6 : Int32) * 1 = nI 6 from rfl, nI_add]
        rintro _ rfl
        refine ⟨vp_in_nI (by omega) (by decide), ?_⟩
        rw [nI_clamp (by omega), show (u1 s 0 29 (nI (4 * nF nna nn (tkV U n a) + tkV U n (tkE U n a)))).1 (0 + 12) (6 + nF nna nn (tkV U n a)) = nI (tof (nF nna nn (tkV U n a))) from (p2.2.2.2.2.2.2.2.1 _ hlt).1, show (8 : Int32) * 1 = nI 8 from rfl, nI_add]
        rintro _ rfl
        refine ⟨vp_in_nI (by omega) (by decide), ?_⟩
        rw [nI_clamp (by omega), show (u1 s 0 29 (nI (4 * nF nna nn (tkV U n a) + tkV U n (tkE U n a)))).1 (0 + 9) (8 + tof (nF nna nn (tkV U n a))) = nI (lg (tof (nF nna nn (tkV U n a)))) from (p2.2.2.2.2.2.1 _ htl).1, t3.2.2.1 c2, nI_leI (by omega) (by omega)]
        have w9 : ∀ v3' v40 : Int32, (v40 = 0 ∨ v40 = 1) → (∀ v4 : Int32, (v4 = 0 ↔ (v40 = 0 ∨ wiB w.2.1 (2 * w.1) (4 * nF nna nn (tkV U n a) + tkV U n (tkE U n a)) = true)) → (v3' = 0 → wX11_takesEnd_186 post 0 v3' 0 (u1 s 0 29 (nI (4 * nF nna nn (tkV U n a) + tkV U n (tkE U n a))))) ∧ (¬ v3' = 0 → (v4 = 0 → wX11_takesEnd_191 post 0 v3' 0 (0 : Int32) (u1 s 0 29 (nI (4 * nF nna nn (tkV U n a) + tkV U n (tkE U n a))))) ∧ (¬ v4 = 0 → wX11_takesEnd_186 post 0 v3' 0 (u1 s 0 29 (nI (4 * nF nna nn (tkV U n a) + tkV U n (tkE U n a))))))) → wX11_takesEnd_130 post 0 v3' v40 (u1 s 0 29 (nI (4 * nF nna nn (tkV U n a) + tkV U n (tkE U n a)))) := fun v3' v40 h40 K => m_wloop p2.2.2.2.2.2.2.2.2.1 hV.2.2.1.1 p2.2.2.2.2.2.2.2.2.2 (fun e he => hV.2.2.1.lt hn6 he) (by rw [u1_s, pk_us]) (by omega) h40 K
        refine ⟨fun d1 => ?_, fun d1 => ?_⟩
        · have e2 : numC U n (tkE U n a) 0 (lg (tof (nF nna nn (tkV U n a))) - 1) = 4 := by unfold numC; rw [if_pos c2, if_neg (by omega)]
          have bad : wX11_takesEnd_186 post 0 0 0 (u1 s 0 29 (nI (4 * nF nna nn (tkV U n a) + tkV U n (tkE U n a)))) := by
            unfold wX11_takesEnd_186 wX11_takesEnd_191
            refine m_must (b := true) (kd := 2) z9 (by decide) (by decide) (by decide) t3.2.1 (fun _ => ⟨fun d => absurd d (by decide), fun _ => ?_⟩) (fun d => absurd d (by decide))
            refine m_must (b := false) (kd := 4) z9 (by simp) (by decide) (by decide) t3.2.1 (fun d => absurd d (by decide)) (fun _ s' f' g1 g2 => ⟨fun d => absurd d (by decide), fun _ => ?_⟩)
            refine kf _ 4 s' ?_ (FF.tr f') g1 g2
            rw [el, e2]; rfl
          unfold wX11_takesEnd_116
          exact ⟨fun _ => w9 _ _ (Or.inl rfl) (fun v4 _ => ⟨fun _ => bad, fun q => absurd rfl q⟩), fun _ => w9 _ _ (Or.inr rfl) (fun v4 _ => ⟨fun _ => bad, fun q => absurd rfl q⟩)⟩
        · have e2 : numC U n (tkE U n a) 0 (lg (tof (nF nna nn (tkV U n a))) - 1) = 0 := by unfold numC; rw [if_pos c2, if_pos (by omega)]
          rw [if_pos e2] at el
          have bad : (decide (nI (4 * nF nna nn (tkV U n a) + tkV U n (tkE U n a)) = v3) || wiB w.2.1 (2 * w.1) (4 * nF nna nn (tkV U n a) + tkV U n (tkE U n a))) = true → wX11_takesEnd_191 post 0 1 0 0 (u1 s 0 29 (nI (4 * nF nna nn (tkV U n a) + tkV U n (tkE U n a)))) := fun q => by
            rw [if_pos q] at el
            unfold wX11_takesEnd_191
            refine m_must (b := false) (kd := 2) z9 (by simp) (by decide) (by decide) t3.2.1 (fun d => absurd d (by decide)) (fun _ s' f' g1 g2 => ⟨fun _ => ?_, fun d => absurd d (by decide)⟩)
            exact kf _ 2 s' el (FF.tr f') g1 g2
          have good : ¬ (decide (nI (4 * nF nna nn (tkV U n a) + tkV U n (tkE U n a)) = v3) || wiB w.2.1 (2 * w.1) (4 * nF nna nn (tkV U n a) + tkV U n (tkE U n a))) = true → wX11_takesEnd_186 post 0 1 0 (u1 s 0 29 (nI (4 * nF nna nn (tkV U n a) + tkV U n (tkE U n a)))) := fun q => by
            rw [if_neg q] at el
            unfold wX11_takesEnd_186 wX11_takesEnd_191
            refine m_must (b := true) (kd := 2) z9 (by decide) (by decide) (by decide) t3.2.1 (fun _ => ⟨fun d => absurd d (by decide), fun _ => ?_⟩) (fun d => absurd d (by decide))
            refine m_must (b := true) (kd := 4) z9 (by decide) (by decide) (by decide) t3.2.1 (fun _ => ⟨fun _ => ?_, fun d => absurd d (by decide)⟩) (fun d => absurd d (by decide))
            refine m_steps hU (h0.fr FF) (tkE_le hb1).2 (t3.2.2.2.2 (by omega)) (fun y fy ty => ?_)
            exact kt _ _ y el (FF.tr fy.r) ty (by rw [fy.2.1 9 (by decide) (by decide) (by decide) (by decide)]; exact z9) (by rw [fy.2.1 29 (by decide) (by decide) (by decide) (by decide), u1_s, pk_us])
          unfold wX11_takesEnd_116
          rw [u1_s, pk_us]
          refine ⟨fun c3 => w9 _ _ (Or.inl rfl) (fun v4 h4 => ⟨fun q => absurd q (by decide), fun _ => ⟨fun _ => bad (by rw [decide_eq_true c3]; rfl), fun q => absurd (h4.mpr (Or.inl rfl)) q⟩⟩), fun c3 => w9 _ _ (Or.inr rfl) (fun v4 h4 => ⟨fun q => absurd q (by decide), fun _ => ⟨fun q => bad ?_, fun q => good ?_⟩⟩)⟩
          · rcases h4.mp q with d | d
            · exact absurd d (by decide)
            · rw [d, Bool.or_true]
          · rw [decide_eq_false c3, Bool.false_or]
            exact fun d => q (h4.mpr (Or.inr d))
  · have c := of_decide_eq_false c
    have e1 : knC U n a (fun W => decide (nF nna nn W < nn)) = 1 := by unfold knC; rw [if_neg c]
    refine kf _ 1 s ?_ f g1 g2
    unfold legL
    rw [e1]; rfl
end WI
