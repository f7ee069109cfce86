/-! a base's line -/
def basL (U : Nat → Nat) (n P : Nat) (us : Nat → Bool) (a : Nat) : (Nat × Nat) ⊕ ((Nat × (Nat → Int32)) × Nat) :=
  if newC U n a us = 0 then (match tvL U n P 3 (tkE U n a) 0 (fun _ => 0) with
    | .inl f => .inl f
    | .inr (f, b) => if numC U n b 0 (P - 1) = 0 then (if md (f 0 * nI (tkV U n b) - f 1 * f 2) P = 0 then .inl (plF U n b, 4) else .inr ((tkV U n a, upd f 3 (nI (tkV U n b))), tkE U n b)) else .inl (plF U n b, numC U n b 0 (P - 1))) else .inl (plF U n a, newC U n a us)
section BA
variable {t P tn bn nn : Nat} {lg tof : Nat → Nat} {tv bv : Nat → Nat → Int32} {w : NetT} {nc : Nat} {nmv nmk nmn tna bna nna : Nat → Nat} {σ τ σ' τ' : St} {tp : Nat → Int32} {n : Nat} {U : Nat → Nat} {a : Nat}
theorem PrX.fx (h : PrX t P tn bn nn lg tof tv bv w nc nmv nmk nmn σ) (ht : tn ≤ 8) (hb : bn ≤ 5) (hn : nn ≤ 6) (f : ∀ o, ((t ≤ o ∧ o < t + 42) ∨ o = 290) → ¬ (t + 37 + bn ≤ o ∧ o < t + 42) → ¬ (t + 6 + 2 * nn ≤ o ∧ o < t + 18) → σ'.1 o = σ.1 o) : PrX t P tn bn nn lg tof tv bv w nc nmv nmk nmn σ' := by
  obtain ⟨h0, h1, h2, h3, h4, h5, h6, ⟨n1, n2, n3, n4⟩, h8, h9, h10⟩ := h
  exact ⟨h0, by rw [f _ (by omega) (by omega) (by omega)]; exact h1, by rw [f _ (by omega) (by omega) (by omega)]; exact h2, by rw [f _ (by omega) (by omega) (by omega)]; exact h3, by rw [f _ (by omega) (by omega) (by omega)]; exact h4, fun j hj => ⟨by rw [f _ (by omega) (by omega) (by omega)]; exact (h5 j hj).1, fun i hi => by rw [f _ (by omega) (by omega) (by omega)]; exact (h5 j hj).2 i hi⟩, fun j hj k hk => by rw [f _ (by omega) (by omega) (by omega)]; exact h6 j hj k hk, ⟨by rw [f _ (by omega) (by omega) (by omega)]; exact n1, by rw [f _ (by omega) (by omega) (by omega)]; exact n2, fun e he => by rw [f _ (by omega) (by omega) (by omega)]; exact n3 e he, fun j hj => ⟨by rw [f _ (by omega) (by omega) (by omega)]; exact (n4 j hj).1, fun i hi => by rw [f _ (by omega) (by omega) (by omega)]; exact (n4 j hj).2 i hi⟩⟩, trivial, fun k hk => by rw [f _ (by omega) (by omega) (by omega), f _ (by omega) (by omega) (by omega), f _ (by omega) (by omega) (by omega)]; exact h9 k hk, fun k hk => by rw [f _ (by omega) (by omega) (by omega)]; exact h10 k hk⟩
theorem PrX.addB {g : Nat → Int32} (h : PrX t P tn bn nn lg tof tv bv w nc nmv nmk nmn σ) (hn : nn ≤ 6) (ht : tn ≤ 8) (hb : bn < 5) (e : ∀ k, k < 4 → σ.1 (t + 2 + 35 + 1 * bn) k = g k) : PrX t P tn (bn + 1) nn lg tof tv (setT bv bn g) w nc nmv nmk nmn (u1 σ t 3 (nI (bn + 1))) := by
  obtain ⟨h0, h1, h2, h3, h4, h5, h6, h7, h8, h9, h10⟩ := h
  have F : ∀ o, o ≠ t → (u1 σ t 3 (nI (bn + 1))).1 o = σ.1 o := fun o ho => u1_n ho
  have G : ∀ j, j ≠ 3 → (u1 σ t 3 (nI (bn + 1))).1 t j = σ.1 t j := fun j hj => by rw [u1_s, pk_un hj]
  refine ⟨h0, by rw [G 0 (by decide)]; exact h1, by rw [G 1 (by decide)]; exact h2, by rw [u1_s, pk_us], by rw [G 6 (by decide)]; exact h4, fun j hj => ⟨by rw [F _ (by omega)]; exact (h5 j hj).1, fun i hi => by rw [F _ (by omega)]; exact (h5 j hj).2 i hi⟩, fun j hj k hk => ?_, h7.fr hn (fun o h1 h2 => F o (by omega)), trivial, fun k hk => by rw [F _ (by omega), F _ (by omega), F _ (by omega)]; exact h9 k hk, fun k hk => by rw [F _ (by omega)]; exact h10 k hk⟩
  rw [F _ (by omega)]
  by_cases c : j = bn
  · subst c
    rw [setT_s]; exact e k hk
  · rw [setT_n c]; exact h6 j (by omega) k hk
theorem c_bstep {i b : Nat} {f : Nat → Int32} {s : St} {post : Bool → St → Prop} (hU : U = fun i => ub (tp i)) (hP3 : 3 ≤ P) (hP97 : P ≤ 97) (ht : tn ≤ 8) (hb : bn < 5) (hn : nn ≤ 6) (hX : TX tp n s) (ha : b ≤ n) (h2 : s.1 285 2 = nI b) (h : PrX t P tn bn nn lg tof tv bv w nc nmv nmk nmn s) (hf : ∀ x, x < i → s.1 (t + 2 + 35 + 1 * bn) x = f x) (kf : numC U n b 0 (P - 1) ≠ 0 → ∀ u, FPX t s u → u.1 285 7 = fltV (plF U n b) (numC U n b 0 (P - 1)) → post false u) (kt : numC U n b 0 (P - 1) = 0 → ∀ u, u.1 285 6 = nI (tkV U n b) → FPX t s (u1 u (t + 2 + 35 + 1 * bn) i (nI (tkV U n b))) → TX tp n (u1 u (t + 2 + 35 + 1 * bn) i (nI (tkV U n b))) → (u1 u (t + 2 + 35 + 1 * bn) i (nI (tkV U n b))).1 285 2 = nI (tkE U n b) → PrX t P tn bn nn lg tof tv bv w nc nmv nmk nmn (u1 u (t + 2 + 35 + 1 * bn) i (nI (tkV U n b))) → (∀ x, x < i + 1 → (u1 u (t + 2 + 35 + 1 * bn) i (nI (tkV U n b))).1 (t + 2 + 35 + 1 * bn) x = upd f i (nI (tkV U n b)) x) → ((u1 u (t + 2 + 35 + 1 * bn) i (nI (tkV U n b))).1 285 5 = u.1 285 5) → u.1 285 5 = nI (plF U n b) → post true u) : wX6_takeNumber 285 1 (0 : Int32) (s.1 t 0 - (1 : Int32)) s post := by
  have h0 := h.1
  rw [h.2.1]
  unfold wX6_takeNumber
  refine c_advance hU hX ha h2 (fun u f1 tk => c_isNum hX.1 ha tk (lo := 0) (hi := P - 1) (by decide) (by rw [pred_toInt (by omega)]; omega) (by omega) (fun v f2 g7 gn => ?_))
  have F : FC s v := f1.c.tr f2
  by_cases q : numC U n b 0 (P - 1) = 0
  · rw [q]
    have k1 := num_ok q
    refine kt q v (by rw [g7 6 (by decide)]; exact tk.2.2.1 (by omega)) (F.p.tr (FPX.u h0 (by omega))) (hX.fp h0 (F.p.tr (FPX.u h0 (by omega)))) (by rw [u1_n (by omega), g7 2 (by decide)]; exact tk.2.2.2 (by omega)) ((h.fc (by omega) (by omega) hn F).fx (by omega) (by omega) hn (fun o o1 o2 o3 => u1_n (by omega))) (fun x hx => ?_) (by rw [u1_n (by omega)]) (by rw [g7 5 (by decide)]; exact tk.2.1)
    rw [u1_s]
    unfold upd
    split
    · rfl
    · rw [F.1 _ (by omega)]; exact hf x (by omega)
  · rw [decide_eq_false q]
    exact kf q v F.p (gn q)
theorem c_base {post : Bool → St → Prop} (hU : U = fun i => ub (tp i)) (h0 : TX tp n σ) (ha : a ≤ n) (h2 : σ.1 285 2 = nI a) (h : PrX t P tn bn nn lg tof tv bv w nc nmv nmk nmn σ) (hN : NmV tn bn nn tna bna nna nc nmv nmk nmn) (hV : PrV P tn bn nn lg tof tv bv w tna bna nna) (hb : bn < 5) (kf : ∀ pl kd u, endW U n (basL U n P (usF tn bn nn tna bna nna) a) = .inl (pl, kd) → FPX t σ u → u.1 285 7 = fltV pl kd → post false u) (kt : ∀ nm g b u, endW U n (basL U n P (usF tn bn nn tna bna nna) a) = .inr ((nm, g), b) → FPX t σ u → PrX t P tn (bn + 1) nn lg tof tv (setT bv bn g) w (nc + 1) (uN nmv nc nm) (uN nmk nc 3) (uN nmn nc bn) u → u.1 285 2 = nI b → post true u) : wX6_readBase 285 1 t σ post := by
  have ht8 := hV.1.t8
  have hn6 := hV.2.1.1
  have hP := hV.1.1
  have ht0 := h.1
  have hnc : nc < 19 := by have := hN.1; omega
  unfold wX6_readBase
  rw [h.2.2.2.1, show (5 : Int32) = nI 5 from rfl, nI_ltI (by omega) (by decide)]
  refine ⟨fun _ => c_new hU h0 ha h2 h hN (by omega) (by omega) hn6 (by omega) (fun u f1 k1 k2 => ⟨fun q => ?_, fun q => ?_⟩), fun q => absurd hb q⟩
  · have q := of_decide_eq_true q
    obtain ⟨g2, g6⟩ := k1 q
    have hu := h.fc (by omega) (by omega) hn6 f1
    rw [g6, hu.2.2.2.1]
    refine c_addName (kd := 3) hu (by omega) (by omega) hn6 hnc (fun v F1 F2 hv => ?_)
    have fv : FPX t σ v := f1.p.tr ⟨fun o o1 o2 => F1 o (by omega) (by omega) (by omega) (by omega), by rw [F1 285 (by omega) (by omega) (by omega) (by omega)]⟩
    have hb1 := (tkE_le (U := U) ha).2
    rw [hv.2.2.2.1]
    rintro _ rfl
    refine ⟨vp_in_nI hb (by decide), ?_⟩
    rw [nI_clamp (by omega)]
    have eb : basL U n P (usF tn bn nn tna bna nna) a = (match tvL U n P 3 (tkE U n a) 0 (fun _ => 0) with
    | .inl f => .inl f
    | .inr (f, b) => if numC U n b 0 (P - 1) = 0 then (if md (f 0 * nI (tkV U n b) - f 1 * f 2) P = 0 then .inl (plF U n b, 4) else .inr ((tkV U n a, upd f 3 (nI (tkV U n b))), tkE U n b)) else .inl (plF U n b, numC U n b 0 (P - 1))) := by unfold basL; rw [if_pos q]
    refine c_bstep (i := 0) (f := fun _ => 0) hU hP.1 hP.2.1 ht8 hb hn6 (h0.fp ht0 fv) hb1 (by rw [F1 285 (by omega) (by omega) (by omega) (by omega)]; exact g2) hv (fun x hx => by omega) (fun q1 x fx gx => ⟨fun d => absurd d (by decide), fun _ => ?_⟩) (fun q1 x gx fx TXx hx2 px vx _ _ => ⟨fun _ => ?_, fun d => absurd d (by decide)⟩)
    · refine kf _ _ x ?_ (fv.tr fx) gx
      rw [eb, tvL, if_neg q1]; rfl
    rw [gx]
    rintro _ rfl
    refine c_bstep (i := 1) hU hP.1 hP.2.1 ht8 hb hn6 TXx (tkE_le hb1).2 hx2 px vx (fun q2 y fy gy => ⟨fun d => absurd d (by decide), fun _ => ?_⟩) (fun q2 y gy fy TXy hy2 py vy _ _ => ⟨fun _ => ?_, fun d => absurd d (by decide)⟩)
    · refine kf _ _ y ?_ (fv.tr (fx.tr fy)) gy
      rw [eb, tvL, if_pos q1, tvL, if_neg q2]; rfl
    rw [gy]
    rintro _ rfl
    refine c_bstep (i := 2) hU hP.1 hP.2.1 ht8 hb hn6 TXy (tkE_le (tkE_le hb1).2).2 hy2 py vy (fun q3 z fz gz => ⟨fun d => absurd d (by decide), fun _ => ?_⟩) (fun q3 z gz fz TXz hz2 pz vz _ _ => ⟨fun _ => ?_, fun d => absurd d (by decide)⟩)
    · refine kf _ _ z ?_ (fv.tr (fx.tr (fy.tr fz))) gz
      rw [eb, tvL, if_pos q1, tvL, if_pos q2, tvL, if_neg q3]; rfl
    rw [gz]
    rintro _ rfl
    have hb4 := (tkE_le (U := U) (tkE_le (U := U) (tkE_le (U := U) hb1).2).2).2
    have e3 := eb
    rw [tvL, if_pos q1, tvL, if_pos q2, tvL, if_pos q3, tvL] at e3
    refine c_bstep (i := 3) hU hP.1 hP.2.1 ht8 hb hn6 TXz hb4 hz2 pz vz (fun q4 c fc gc => ⟨fun d => absurd d (by decide), fun _ => ?_⟩) (fun q4 c gc fc TXc hc2 pc vc p1 p2 => ⟨fun _ => ?_, fun d => absurd d (by decide)⟩)
    · refine kf _ _ c ?_ (fv.tr (fx.tr (fy.tr (fz.tr fc)))) gc
      rw [e3]
      show endW U n (if _ then _ else _) = _
      rw [if_neg q4]; rfl
    rw [gc]
    rintro _ rfl
    have FF := fv.tr (fx.tr (fy.tr (fz.tr fc)))
    unfold wX1_determinant
    rw [vc 0 (by decide), vc 1 (by decide), vc 2 (by decide), vc 3 (by decide), pc.2.1]
    refine c_mod (by omega) (by omega) ?_
    rw [pk_us, pk_un (k := 3) (j := 0) (by decide), pk_un (k := 3) (j := 1) (by decide), pk_un (k := 3) (j := 2) (by decide)]
    refine ⟨fun q5 => ?_, fun q5 => ?_⟩
    · rw [pc.2.2.2.1, nI_1]
      rintro _ rfl
      have pd := pc.addB hn6 ht8 hb (fun k hk => vc k hk)
      have fd := FF.tr (FPX.u (k := 3) (x := nI (bn + 1)) ht0 (o := t) (by omega))
      refine c_end hU (h0.fp ht0 fd) (tkE_le hb4).2 (by rw [u1_n (by omega)]; exact hc2) (fun d f4 k5 k6 => ?_)
      by_cases cc : endC U n (tkE U n (tkE U n (tkE U n (tkE U n (tkE U n a))))) = 0
      · have := kt _ _ _ d (by
          rw [e3]
          show endW U n (if _ then _ else _) = _
          rw [if_pos q4, if_neg q5]
          show (if _ then _ else _) = _
          rw [if_pos cc]) (fd.tr f4.p) (pd.fc (by omega) (by omega) hn6 f4) (k5 cc)
        rw [cc]; exact this
      · have := kf _ _ d (by
          rw [e3]
          show endW U n (if _ then _ else _) = _
          rw [if_pos q4, if_neg q5]
          show (if _ then _ else _) = _
          rw [if_neg cc]) (fd.tr f4.p) (k6 cc)
        rw [decide_eq_false cc]; exact this
    · refine c_fail (U := U) (n := n) (a := tkE U n (tkE U n (tkE U n (tkE U n a)))) (kd := 4) (by rw [p1]; exact p2) (fun d fd _ gd => ?_)
      refine kf _ _ d ?_ (FF.tr fd.p) gd
      rw [e3]
      show endW U n (if _ then _ else _) = _
      rw [if_pos q4, if_pos q5]; rfl
  · have q := of_decide_eq_false q
    refine kf _ _ u ?_ f1.p (k2 q)
    unfold basL
    rw [if_neg q]; rfl
theorem PrM.addB {nm : Nat} {g : Nat → Int32} (h : PrM P tn bn nn lg tof tv bv w tna bna nna τ) (e : ∀ k, k < 4 → τ.1 11 (4 * (5 + bn) + k) = g k) : PrM P tn (bn + 1) nn lg tof tv (setT bv bn g) w tna (uN bna bn nm) nna (u1 (u2 τ 7 (5 + bn) (lN nm)) 4 1 (nI (bn + 1))) := by
  obtain ⟨h0, h1, h2, h3, h4, h5, h6, h7, h8, h9⟩ := h
  have F : ∀ o, o ≠ 4 → (u1 (u2 τ 7 (5 + bn) (lN nm)) 4 1 (nI (bn + 1))).1 o = τ.1 o := fun o ho => by rw [u1_n ho, u2_1]
  have G : ∀ o, o ≠ 7 → (u1 (u2 τ 7 (5 + bn) (lN nm)) 4 1 (nI (bn + 1))).2 o = τ.2 o := fun o ho => by rw [u1_2, u2_n ho]
  refine ⟨by rw [F 0 (by decide)]; exact h0, by rw [F 2 (by decide)]; exact h1, by rw [F 3 (by decide)]; exact h2, by rw [u1_s, pk_us], by rw [F 5 (by decide)]; exact h4, fun j hj => by rw [F 9 (by decide), F 10 (by decide), G 6 (by decide)]; exact h5 j hj, fun j hj => ?_, fun j hj => by rw [F 12 (by decide), G 8 (by decide)]; exact h7 j hj, by rw [F 0 (by decide)]; exact h8, fun e he => by rw [F 13 (by decide)]; exact h9 e he⟩
  rw [F 11 (by decide), u1_2, u2_s]
  by_cases c : j = bn
  · subst c
    rw [uN_s, setT_s, pk_uLs]
    exact ⟨rfl, e⟩
  · rw [uN_n c, setT_n c, pk_uLn (by omega)]
    exact h6 j (by omega)
theorem PrM.b11 {i : Nat} {x : Int32} (h : PrM P tn bn nn lg tof tv bv w tna bna nna τ) (hi : 4 * (5 + bn) ≤ i) : PrM P tn bn nn lg tof tv bv w tna bna nna (u1 τ 11 i x) := by
  obtain ⟨h0, h1, h2, h3, h4, h5, h6, h7, h8, h9⟩ := h
  have F : ∀ o, o ≠ 11 → (u1 τ 11 i x).1 o = τ.1 o := fun o ho => u1_n ho
  refine ⟨by rw [F 0 (by decide)]; exact h0, by rw [F 2 (by decide)]; exact h1, by rw [F 3 (by decide)]; exact h2, by rw [F 4 (by decide)]; exact h3, by rw [F 5 (by decide)]; exact h4, fun j hj => by rw [F 9 (by decide), F 10 (by decide), u1_2]; exact h5 j hj, fun j hj => ⟨by rw [u1_2]; exact (h6 j hj).1, fun k hk => by rw [u1_s, pk_un (by omega)]; exact (h6 j hj).2 k hk⟩, fun j hj => by rw [F 12 (by decide), u1_2]; exact h7 j hj, by rw [F 0 (by decide)]; exact h8, fun e he => by rw [F 13 (by decide)]; exact h9 e he⟩
theorem FPM.u11 {i : Nat} {x : Int32} (hi : 20 ≤ i) : FPM τ (u1 τ 11 i x) := ⟨fun o ho => u1_n (by omega), fun o o1 o2 => by rw [u1_n (by omega)], fun i hi => by rw [u1_n (by decide)], fun i hi => by rw [u1_n (by decide)], fun j hj => by rw [u1_s, pk_un (by omega)], fun i hi => by rw [u1_n (by decide)], fun j hj => by rw [u1_n (by decide)]⟩
theorem TokM.u {b o k : Nat} {x : Int32} (ho : o ≠ 0) (h : TokM U n b τ) : TokM U n b (u1 τ o k x) := by
  obtain ⟨a1, a2, a3, a4, a5⟩ := h
  exact ⟨by rw [u1_n ho.symm]; exact a1, by rw [u1_n ho.symm]; exact a2, fun c => by rw [u1_n ho.symm]; exact a3 c, fun c => by rw [u1_2]; exact a4 c, fun c => by rw [u1_n ho.symm]; exact a5 c⟩
theorem TokM.v {b o k : Nat} {x : Int64} (ho : o ≠ 0) (h : TokM U n b τ) : TokM U n b (u2 τ o k x) := by
  obtain ⟨a1, a2, a3, a4, a5⟩ := h
  exact ⟨by rw [u2_1]; exact a1, by rw [u2_1]; exact a2, fun c => by rw [u2_1]; exact a3 c, fun c => by rw [u2_n ho.symm]; exact a4 c, fun c => by rw [u2_1]; exact a5 c⟩
theorem m_bvL {nm : Nat} {post : Bool → St → Prop} (hU : U = fun i => ub (tp i)) (hV : PrV P tn bn nn lg tof tv bv w tna bna nna) (hb : bn < 5) : ∀ (m a i : Nat) (f : Nat → Int32) (s : St), i + m = 3 → a ≤ n → TM tp n s → TokM U n a s → s.1 0 9 = 0 → PrM P tn bn nn lg tof tv bv w tna bna nna s → (∀ x, x < i → s.1 11 (4 * (5 + bn) + x) = f x) → (∀ pl kd u, tvL U n P m a i f = .inl (pl, kd) → FPM s u → u.1 0 9 = nI kd → u.1 0 10 = nI pl → post false u) → (∀ g b u, tvL U n P m a i f = .inr (g, b) → b ≤ n → FPM s u → PrM P tn bn nn lg tof tv bv w tna bna nna u → TokM U n b u → u.1 0 9 = 0 → (∀ x, x < 3 → u.1 11 (4 * (5 + bn) + x) = g x) → (¬ (u.1 0 6) = (2 : Int32) → wX11_baseLine_100 post 0 (nI (5 + bn)) (lN nm) (nI P) 0 (0 : Int32) u) ∧ ((u.1 0 6) = (2 : Int32) → wX11_baseLine_100 post 0 (nI (5 + bn)) (lN nm) (nI P) 0 (1 : Int32) u)) → wX11_baseLine_45 post (m + 1) 0 (nI (5 + bn)) (lN nm) (nI P) (nI i) s := by
  have hP := hV.1.1
  intro m
  induction m with
  | zero =>
    intro a i f s e ha hX htk h9 hpr hv kf kt
    unfold wX11_baseLine_45
    exact ⟨fun _ => kt f a s rfl ha (FPM.rf s) hpr htk h9 (fun x hx => hv x (by omega)), fun q => absurd (nI_le (a := 3) (b := i) (by omega) (by omega)) q⟩
  | succ m ih =>
    intro a i f s e ha hX htk h9 hpr hv kf kt
    rw [tvL] at kf kt
    unfold wX11_baseLine_45
    refine ⟨fun q => absurd q (nI_ge (a := i) (b := 3) (by omega) (by omega)), fun _ => m_num (hi := P - 1) hU hX ha htk h9 (lo := 0) (by decide) (pk_sub (a := P) (b := 1) (by omega)) (by omega) (fun u f1 k1 k2 => ⟨fun q => ?_, fun q => ?_⟩)⟩
    · have q := of_decide_eq_true q
      rw [if_pos q] at kf kt
      obtain ⟨g1, g9, g11⟩ := k1 q
      rw [show (4 : Int32) = nI 4 from rfl, pk_mul, nI_add, g11, nI_1]
      refine ⟨vp_in_nI (by omega) (by decide), ?_⟩
      rintro _ rfl _ rfl
      rw [nI_clamp (by omega)]
      have F := f1.p.tr (FPM.u11 (i := 4 * (5 + bn) + i) (x := nI (tkV U n a)) (by omega))
      refine ih (tkE U n a) (i + 1) _ _ (by omega) (tkE_le ha).2 (hX.fp F) (g1.u (by decide)) (by rw [u1_n (by decide)]; exact g9) ((hpr.fr f1).b11 (by omega)) (fun x hx => ?_) (fun pl kd v ev fv => kf pl kd v ev (F.tr fv)) (fun g b v ev hb fv => kt g b v ev hb (F.tr fv))
      rw [show (0 + 11 : Nat) = 11 from rfl, u1_s]
      by_cases c : x = i
      · rw [c, pk_us, pk_us]
      · rw [pk_un (by omega), pk_un c, f1.1 11 (by decide)]; exact hv x (by omega)
    · have q := of_decide_eq_false q
      rw [if_neg q] at kf
      exact kf _ _ u rfl f1.p (k2 q).1 (k2 q).2
theorem m_base {post : Bool → St → Prop} (hU : U = fun i => ub (tp i)) (h0 : TM tp n τ) (ha : a ≤ n) (tk : TokM U n a τ) (h9 : τ.1 0 9 = 0) (h : PrM P tn bn nn lg tof tv bv w tna bna nna τ) (hV : PrV P tn bn nn lg tof tv bv w tna bna nna) (hb : bn < 5) (kf : ∀ pl kd u, basL U n P (usF tn bn nn tna bna nna) a = .inl (pl, kd) → FPM τ u → u.1 0 9 = nI kd → u.1 0 10 = nI pl → post false u) (kt : ∀ nm g b u, basL U n P (usF tn bn nn tna bna nna) a = .inr ((nm, g), b) → FPM τ u → PrM P tn (bn + 1) nn lg tof tv (setT bv bn g) w tna (uN bna bn nm) nna u → TokM U n b u → u.1 0 9 = 0 → post true u) : wX11_baseLine 0 τ post := by
  have hP := hV.1.1
  unfold wX11_baseLine
  refine m_new hU h0 ha tk h9 h hV (fun u f1 k1 k2 => ⟨fun q => ?_, fun q => ?_⟩)
  · have q := of_decide_eq_true q
    obtain ⟨t1, g9, g26⟩ := k1 q
    have hu := h.fr f1
    have hb1 := (tkE_le (U := U) ha).2
    rw [hu.1]
    rintro _ rfl
    refine ⟨vp_in_nI (n := 1) (by decide) (by decide), ?_⟩
    rw [show u.1 (0 + 4) (1 : Int32).toNatClampNeg = nI bn from hu.2.2.2.1, show (5 : Int32) * 1 = nI 5 from rfl, nI_add, g26]
    rintro _ rfl _ rfl _ rfl
    refine ⟨vp_in_nI (n := 1) (by decide) (by decide), ?_⟩
    rw [show u.1 (0 + 2) (1 : Int32).toNatClampNeg = nI P from hu.2.1]
    rintro _ rfl
    refine ⟨3 + 1, ?_⟩
    have eb : basL U n P (usF tn bn nn tna bna nna) a = (match tvL U n P 3 (tkE U n a) 0 (fun _ => 0) with
    | .inl f => .inl f
    | .inr (f, b) => if numC U n b 0 (P - 1) = 0 then (if md (f 0 * nI (tkV U n b) - f 1 * f 2) P = 0 then .inl (plF U n b, 4) else .inr ((tkV U n a, upd f 3 (nI (tkV U n b))), tkE U n b)) else .inl (plF U n b, numC U n b 0 (P - 1))) := by unfold basL; rw [if_pos q]
    refine m_bvL hU hV hb 3 (tkE U n a) 0 (fun _ => 0) u rfl hb1 (h0.fr f1) t1 g9 hu (fun x hx => by omega) (fun pl kd y ey fy => kf pl kd y (by rw [eb, ey]) (f1.p.tr fy)) (fun g b y ey hbn fy py ty y9 vy => ?_)
    have eb : basL U n P (usF tn bn nn tna bna nna) a = if numC U n b 0 (P - 1) = 0 then (if md (g 0 * nI (tkV U n b) - g 1 * g 2) P = 0 then .inl (plF U n b, 4) else .inr ((tkV U n a, upd g 3 (nI (tkV U n b))), tkE U n b)) else .inl (plF U n b, numC U n b 0 (P - 1)) := by rw [eb, ey]
    have r := rk_eq1 (tkK_le (U := U) (n := n) (a := b))
    have FF : FPM τ y := f1.p.tr fy
    rw [ty.1]
    refine ⟨fun c => ?_, fun c => ?_⟩
    · unfold wX11_baseLine_100
      refine m_must (b := false) (kd := 1) y9 (by simp) (by decide) (by decide) ty.2.1 (fun d => absurd d (by decide)) (fun _ s f g1 g2 => ⟨fun _ => ?_, fun d => absurd d (by decide)⟩)
      have e1 : numC U n b 0 (P - 1) = 1 := by unfold numC; rw [if_neg (fun d => c (r.2.1.mpr d))]
      refine kf (plF U n b) 1 s ?_ (FF.tr f.p) g1 g2
      rw [eb, e1, if_neg (by decide)]
    · have c := r.2.1.mp c
      have v7 := ty.2.2.1 c
      unfold wX11_baseLine_100
      refine m_must (b := true) (kd := 1) y9 (by simp) (by decide) (by decide) ty.2.1 (fun _ => ⟨fun d => absurd d (by decide), fun _ => ?_⟩) (fun d => absurd d (by decide))
      have hv := tkV_num (U := U) (n := n) hbn c
      have bad : basL U n P (usF tn bn nn tna bna nna) a = .inl (plF U n b, 4) → wX11_baseLine_165 post 0 (nI (5 + bn)) (lN (tkV U n a)) 0 y := fun e => by
        unfold wX11_baseLine_165 wX11_baseLine_166
        exact m_must (b := false) (kd := 4) y9 (by simp) (by decide) (by decide) ty.2.1 (fun d => absurd d (by decide)) (fun _ s f g1 g2 => ⟨fun d => absurd d (by decide), fun _ => kf _ _ s e (FF.tr f.p) g1 g2⟩)
      rw [v7]
      rw [fa_le, nI_toInt (by omega), nI_toInt (by omega)]
      refine ⟨fun d => bad ?_, fun d => ?_⟩
      · have e1 : numC U n b 0 (P - 1) = 4 := by unfold numC; rw [if_pos c, if_neg (by omega)]
        rw [eb, e1, if_neg (by decide)]
      · have e1 : numC U n b 0 (P - 1) = 0 := by unfold numC; rw [if_pos c, if_pos (by omega)]
        rw [e1, if_pos rfl] at eb
        rw [show (4 : Int32) = nI 4 from rfl, pk_mul, show (1 : Int32) = nI 1 from rfl, show (2 : Int32) = nI 2 from rfl, nI_add, nI_add]
        rintro _ rfl
        refine ⟨vp_in_nI (by omega) (by decide), ?_⟩
        rintro _ rfl
        refine ⟨vp_in_nI (by omega) (by decide), ?_⟩
        rintro _ rfl
        refine ⟨vp_in_nI (by omega) (by decide), ?_⟩
        rw [nI_clamp (by omega), nI_clamp (by omega), nI_clamp (by omega), show y.1 (0 + 11) (4 * (5 + bn)) = g 0 from vy 0 (by decide), show y.1 (0 + 11) (4 * (5 + bn) + 1) = g 1 from vy 1 (by decide), show y.1 (0 + 11) (4 * (5 + bn) + 2) = g 2 from vy 2 (by decide)]
        refine m_mod (by omega) (by omega) ⟨fun z => bad (by rw [eb, if_pos z]), fun z => ?_⟩
        rw [if_neg z] at eb
        unfold wX11_baseLine_166
        refine m_must (b := true) (kd := 4) y9 (by decide) (by decide) (by decide) ty.2.1 (fun _ => ⟨fun _ => ?_, fun d => absurd d (by decide)⟩) (fun d => absurd d (by decide))
        rw [show (4 : Int32) = nI 4 from rfl, pk_mul, show (3 : Int32) = nI 3 from rfl, nI_add, v7]
        refine ⟨vp_in_nI (by omega) (by decide), ?_⟩
        rintro _ rfl
        rw [nI_clamp (by omega)]
        have F1 := FF.tr (FPM.u11 (τ := y) (i := 4 * (5 + bn) + 3) (x := nI (tkV U n b)) (by omega))
        refine m_steps hU (h0.fp F1) (tkE_le hbn).2 (by rw [u1_n (by decide)]; exact ty.2.2.2.2 (by omega)) (fun s f t2 => ?_)
        have ps := (py.b11 (i := 4 * (5 + bn) + 3) (x := nI (tkV U n b)) (by omega)).fr f.r
        refine ⟨vp_in_nI (by omega) (by decide), ?_⟩
        rintro _ rfl
        rw [u2_1, ps.1]
        rintro _ rfl
        refine ⟨vp_in_nI (n := 1) (by decide) (by decide), vp_in_nI (n := 1) (by decide) (by decide), ?_⟩
        rw [show s.1 (0 + 4) (1 : Int32).toNatClampNeg = nI bn from ps.2.2.2.1, show (1 : Int32) = nI 1 from rfl, nI_add, nI_clamp (by omega), nI_clamp (by omega)]
        rintro _ rfl
        refine kt _ _ _ _ eb ((F1.tr f.r.p).tr ⟨fun o ho => by rw [u1_n (by omega), u2_1], fun o o1 o2 => ?_, fun i hi => by rw [u1_n (by decide), u2_1], fun i hi => by rw [u1_n (by decide), u2_1], fun i hi => by rw [u1_n (by decide), u2_1], fun i hi => by rw [u1_n (by decide), u2_1], fun j hj => by rw [u1_n (by decide), u2_1]⟩) (ps.addB (fun k hk => ?_)) ((t2.v (by decide)).u (by decide)) (by rw [u1_n (by decide), u2_1, f.2.1 9 (by decide) (by decide) (by decide) (by decide), u1_n (by decide)]; exact y9)
        · by_cases c : o = 4
          · subst c
            rw [u1_s, pk_un (by decide), u2_1]
          · rw [u1_n c, u2_1]
        · rw [f.r.1 11 (by decide), show (0 + 11 : Nat) = 11 from rfl, u1_s]
          by_cases c : k = 3
          · rw [c, pk_us, pk_us]
          · rw [pk_un (by omega), pk_un c]; exact vy k (by omega)
  · have q := of_decide_eq_false q
    refine kf _ _ u ?_ f1.p (k2 q).1 (k2 q).2
    unfold basL
    rw [if_neg q]
end BA
