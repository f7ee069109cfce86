/-! a table's line, a base's -/
def endW {X : Type} (U : Nat → Nat) (n : Nat) (r : (Nat × Nat) ⊕ (X × Nat)) : (Nat × Nat) ⊕ (X × Nat) := match r with
  | .inl f => .inl f
  | .inr (x, b) => if endC U n b = 0 then .inr (x, tkE U n b) else .inl (plF U n b, endC U n b)
def tvL (U : Nat → Nat) (n P : Nat) : Nat → Nat → Nat → (Nat → Int32) → (Nat × Nat) ⊕ ((Nat → Int32) × Nat)
  | 0, a, _, f => .inr (f, a)
  | m + 1, a, i, f => if numC U n a 0 (P - 1) = 0 then tvL U n P m (tkE U n a) (i + 1) (upd f i (nI (tkV U n a))) else .inl (plF U n a, numC U n a 0 (P - 1))
def tabL (U : Nat → Nat) (n P : Nat) (us : Nat → Bool) (a : Nat) : (Nat × Nat) ⊕ ((Nat × Nat × (Nat → Int32)) × Nat) :=
  if newC U n a us = 0 then (if numC U n (tkE U n a) 1 4 = 0 then (match tvL U n P (2 ^ tkV U n (tkE U n a)) (tkE U n (tkE U n a)) 0 (fun _ => 0) with
    | .inl f => .inl f
    | .inr (f, b) => .inr ((tkV U n a, tkV U n (tkE U n a), f), b)) else .inl (plF U n (tkE U n a), numC U n (tkE U n a) 1 4)) else .inl (plF U n a, newC U n a us)
def setT (tv : Nat → Nat → Int32) (j : Nat) (f : Nat → Int32) : Nat → Nat → Int32 := fun i => if i = j then f else tv i
theorem setT_s {tv : Nat → Nat → Int32} {j : Nat} {f : Nat → Int32} : setT tv j f j = f := if_pos rfl
theorem setT_n {tv : Nat → Nat → Int32} {j i : Nat} {f : Nat → Int32} (h : i ≠ j) : setT tv j f i = tv i := if_neg h
theorem tvL_ok {U : Nat → Nat} {n P : Nat} (hP : P < 2 ^ 31) : ∀ (m a i : Nat) (f g : Nat → Int32) (b : Nat), a ≤ n → 0 < P → (∀ x, x < i → Sm P (f x)) → tvL U n P m a i f = .inr (g, b) → b ≤ n ∧ (∀ x, x < i + m → Sm P (g x))
  | 0, a, i, f, g, b, ha, _, hf, e => by
    rw [tvL] at e
    cases e
    exact ⟨ha, fun x hx => hf x (by omega)⟩
  | m + 1, a, i, f, g, b, ha, h0, hf, e => by
    rw [tvL] at e
    by_cases c : numC U n a 0 (P - 1) = 0
    · rw [if_pos c] at e
      obtain ⟨k1, k2, k3⟩ := num_ok c
      have := tvL_ok hP m (tkE U n a) (i + 1) _ g b (tkE_le ha).2 h0 (fun x hx => by
        unfold upd
        split
        · exact Sm_nI (by omega) hP
        · exact hf x (by omega)) e
      exact ⟨this.1, fun x hx => this.2 x (by omega)⟩
    · rw [if_neg c] at e
      exact absurd e (by simp)
theorem NetX.nl {nn : Nat} {nl nl' : Nat → Nat} {w : NetT} {N : Nat} {σ : St} (h : NetX nn nl w N σ) (e : ∀ j, j < nn → nl' j = nl j) : NetX nn nl' w N σ := ⟨h.1, h.2.1, h.2.2.1, fun j hj => by rw [e j hj]; exact h.2.2.2 j hj⟩
theorem NetV.nl {P nn : Nat} {nl nl' : Nat → Nat} {w : NetT} (h : NetV P nn nl w) (e : ∀ j, j < nn → nl' j = nl j) : NetV P nn nl' w := ⟨h.1, fun x hx => by rw [e _ (h.2.1 x hx).1]; exact h.2.1 x hx, h.2.2.1, fun j hj => by rw [e j hj]; exact h.2.2.2 j hj⟩
theorem TX.fp {tp : Nat → Int32} {n t : Nat} {σ s : St} (h : TX tp n σ) (ht : t = 2 ∨ t = 44) (f : FPX t σ s) : TX tp n s := ⟨h.1, h.2.1, fun i hi => by rw [f.1 1 (by omega) (by omega)]; exact h.2.2.1 i hi, by rw [f.2]; exact h.2.2.2⟩
theorem TM.fp {tp : Nat → Int32} {n : Nat} {τ s : St} (h : TM tp n τ) (f : FPM τ s) : TM tp n s := ⟨h.1, h.2.1, fun i hi => by rw [f.1 1 (by omega)]; exact h.2.2.1 i hi, by rw [f.2.2.2.2.2.2 3 (by omega)]; exact h.2.2.2⟩
section TB
variable {t P tn bn nn : Nat} {lg tof : Nat → Nat} {tv bv : Nat → Nat → Int32} {w : NetT} {nc : Nat} {nmv nmk nmn tna bna nna : Nat → Nat} {σ τ σ' τ' : St} {tp : Nat → Int32} {n : Nat} {U : Nat → Nat} {a : Nat}
theorem PrX.addT {l : Nat} {g : Nat → Int32} (h : PrX t P tn bn nn lg tof tv bv w nc nmv nmk nmn σ) (hV : NodV tn nn tof) (ht : tn < 8) (hb : bn ≤ 5) (e1 : σ.1 (t + 1 + 20 + 2 * tn) 0 = nI l) (e2 : ∀ x, x < 2 ^ l → σ.1 (t + 1 + 20 + 2 * tn + 1) x = g x) : PrX t P (tn + 1) bn nn (uN lg tn l) tof (setT tv tn g) bv w nc nmv nmk nmn (u1 σ t 1 (nI (tn + 1))) := by
  obtain ⟨h0, h1, h2, h3, h4, h5, h6, h7, h8, h9, h10⟩ := h
  have hn := hV.1
  have F : ∀ o, o ≠ t → (u1 σ t 1 (nI (tn + 1))).1 o = σ.1 o := fun o ho => u1_n ho
  have G : ∀ j, j ≠ 1 → (u1 σ t 1 (nI (tn + 1))).1 t j = σ.1 t j := fun j hj => by rw [u1_s, pk_un hj]
  refine ⟨h0, by rw [G 0 (by decide)]; exact h1, by rw [u1_s, pk_us], by rw [G 3 (by decide)]; exact h3, by rw [G 6 (by decide)]; exact h4, fun j hj => ?_, fun j hj k hk => by rw [F _ (by omega)]; exact h6 j hj k hk, (h7.nl (fun j hj => ?_)).fr hn (fun o h1 h2 => F o (by omega)), trivial, fun k hk => by rw [F _ (by omega), F _ (by omega), F _ (by omega)]; exact h9 k hk, fun k hk => by rw [F _ (by omega)]; exact h10 k hk⟩
  · rw [F _ (by omega), F _ (by omega)]
    by_cases e : j = tn
    · subst e
      rw [uN_s, setT_s]
      exact ⟨e1, e2⟩
    · rw [uN_n e, setT_n e]
      exact h5 j (by omega)
  · have := hV.2 j hj
    show uN lg tn l (tof j) = lg (tof j)
    rw [uN_n (by omega)]
theorem PrX.tb (h : PrX t P tn bn nn lg tof tv bv w nc nmv nmk nmn σ) (ht : tn < 8) (hb : bn ≤ 5) (hn : nn ≤ 6) (f : ∀ o, o ≠ t + 1 + 20 + 2 * tn → o ≠ t + 1 + 20 + 2 * tn + 1 → (o < 285 ∨ 290 ≤ o) → σ'.1 o = σ.1 o) : PrX t P tn bn nn lg tof tv bv w nc nmv nmk nmn σ' := by
  obtain ⟨h0, h1, h2, h3, h4, h5, h6, h7, h8, h9, h10⟩ := h
  exact ⟨h0, by rw [f _ (by omega) (by omega) (by omega)]; exact h1, by rw [f _ (by omega) (by omega) (by omega)]; exact h2, by rw [f _ (by omega) (by omega) (by omega)]; exact h3, by rw [f _ (by omega) (by omega) (by omega)]; exact h4, fun j hj => ⟨by rw [f _ (by omega) (by omega) (by omega)]; exact (h5 j hj).1, fun i hi => by rw [f _ (by omega) (by omega) (by omega)]; exact (h5 j hj).2 i hi⟩, fun j hj k hk => by rw [f _ (by omega) (by omega) (by omega)]; exact h6 j hj k hk, h7.fr hn (fun o h1 h2 => f o (by omega) (by omega) (by omega)), trivial, fun k hk => by rw [f _ (by omega) (by omega) (by omega), f _ (by omega) (by omega) (by omega), f _ (by omega) (by omega) (by omega)]; exact h9 k hk, fun k hk => by rw [f _ (by omega) (by omega) (by omega)]; exact h10 k hk⟩
theorem c_tvL {l : Nat} {post : Bool → St → Prop} (hU : U = fun i => ub (tp i)) (hP3 : 3 ≤ P) (hP97 : P ≤ 97) (hl : l ≤ 4) (ht : tn < 8) (hb : bn ≤ 5) (hn : nn ≤ 6) : ∀ (m a i : Nat) (f : Nat → Int32) (s : St), i + m = 2 ^ l → a ≤ n → TX tp n s → s.1 285 2 = nI a → PrX t P tn bn nn lg tof tv bv w nc nmv nmk nmn s → s.1 (t + 1 + 20 + 2 * tn) 0 = nI l → (∀ x, x < i → s.1 (t + 1 + 20 + 2 * tn + 1) x = f x) → (∀ pl kd u, tvL U n P m a i f = .inl (pl, kd) → FPX t s u → u.1 285 7 = fltV pl kd → post false u) → (∀ g b u, tvL U n P m a i f = .inr (g, b) → FPX t s u → PrX t P tn bn nn lg tof tv bv w nc nmv nmk nmn u → u.1 (t + 1 + 20 + 2 * tn) 0 = nI l → (∀ x, x < 2 ^ l → u.1 (t + 1 + 20 + 2 * tn + 1) x = g x) → u.1 285 2 = nI b → b ≤ n → wX6_takeEnd 285 1 (u1 u t 1 (nI (tn + 1))) post) → wX6_readTable_72 post (m + 1) 285 1 t (t + 1 + 20 + 2 * tn) (nI i) s := by
  have h16 := p2le hl
  intro m
  induction m with
  | zero =>
    intro a i f s e ha hX h2 hpr hl0 hv kf kt
    unfold wX6_readTable_72
    refine s_size hl0 hl ⟨fun _ => ?_, fun q => absurd (nI_le (by omega) (by omega)) q⟩
    rw [hpr.2.2.1, nI_1]
    rintro _ rfl
    exact kt f a s rfl (FPX.rf t s) hpr hl0 (fun x hx => hv x (by omega)) h2 ha
  | succ m ih =>
    intro a i f s e ha hX h2 hpr hl0 hv kf kt
    have h0 := hpr.1
    rw [tvL] at kf kt
    unfold wX6_readTable_72
    refine s_size hl0 hl ⟨fun q => absurd q (nI_ge (by omega) (by omega)), fun _ => ?_⟩
    rw [hpr.2.1]
    refine c_num (hi := P - 1) hU hX ha h2 (lo := 0) (by decide) (by rw [pred_toInt (by omega)]; omega) (by omega) (fun u f1 k1 k2 => ⟨fun q => ⟨vp_in_nI (by omega) (by decide), ?_⟩, fun q => ?_⟩)
    · have q := of_decide_eq_true q
      rw [if_pos q] at kf kt
      obtain ⟨g2, g6⟩ := k1 q
      rw [nI_clamp (by omega), g6, nI_1]
      rintro _ rfl _ rfl
      have fu : FPX t s (u1 u (t + 1 + 20 + 2 * tn + 1) i (nI (tkV U n a))) := f1.p.tr (FPX.u h0 (by omega))
      refine ih (tkE U n a) (i + 1) _ _ (by omega) (tkE_le ha).2 (hX.fp h0 fu) (by rw [u1_n (by omega)]; exact g2) (hpr.tb ht hb hn (fun o o1 o2 o3 => by rw [u1_n o2, f1.1 o (by omega)])) (by rw [u1_n (by omega), f1.1 _ (by omega)]; exact hl0) (fun x hx => ?_) (fun pl kd v ev fv gv => kf pl kd v ev (fu.tr fv) gv) (fun g b v ev fv => kt g b v ev (fu.tr fv))
      rw [u1_s]
      unfold upd
      split
      · rfl
      · rw [f1.1 _ (by omega)]; exact hv x (by omega)
    · have q := of_decide_eq_false q
      rw [if_neg q] at kf
      exact kf _ _ u rfl f1.p (k2 q)
theorem c_table {post : Bool → St → Prop} (hU : U = fun i => ub (tp i)) (h0 : TX tp n σ) (ha : a ≤ n) (h2 : σ.1 285 2 = nI a) (h : PrX t P tn bn nn lg tof tv bv w nc nmv nmk nmn σ) (hN : NmV tn bn nn tna bna nna nc nmv nmk nmn) (hV : PrV P tn bn nn lg tof tv bv w tna bna nna) (ht : tn < 8) (kf : ∀ pl kd u, endW U n (tabL U n P (usF tn bn nn tna bna nna) a) = .inl (pl, kd) → FPX t σ u → u.1 285 7 = fltV pl kd → post false u) (kt : ∀ nm l g b u, endW U n (tabL U n P (usF tn bn nn tna bna nna) a) = .inr ((nm, l, g), b) → FPX t σ u → PrX t P (tn + 1) bn nn (uN lg tn l) tof (setT tv tn g) bv w (nc + 1) (uN nmv nc nm) (uN nmk nc 1) (uN nmn nc tn) u → u.1 285 2 = nI b → post true u) : wX6_readTable 285 1 t σ post := by
  have hU2 : ∀ i, U i < 256 := fun i => by rw [hU]; exact ub_lt _
  have hb5 := hV.1.b5
  have hn6 := hV.2.1.1
  have hP := hV.1.1
  have ht0 := h.1
  have hnc : nc < 19 := by have := hN.1; omega
  unfold wX6_readTable
  rw [h.2.2.1, show (8 : Int32) = nI 8 from rfl, nI_ltI (by omega) (by decide)]
  refine ⟨fun _ => c_new hU h0 ha h2 h hN (by omega) hb5 hn6 (by omega) (fun u f1 k1 k2 => ⟨fun q => ?_, fun q => ?_⟩), fun q => absurd ht q⟩
  · have q := of_decide_eq_true q
    obtain ⟨g2, g6⟩ := k1 q
    have hu := h.fc (by omega) hb5 hn6 f1
    rw [g6, hu.2.2.1]
    refine c_addName (kd := 1) hu (by omega) hb5 hn6 hnc (fun v F1 F2 hv => ?_)
    have fv : FPX t σ v := f1.p.tr ⟨fun o o1 o2 => F1 o (by omega) (by omega) (by omega) (by omega), by rw [F1 285 (by omega) (by omega) (by omega) (by omega)]⟩
    have hb1 := (tkE_le (U := U) ha).2
    refine c_num (lo := 1) (hi := 4) hU (h0.fp ht0 fv) hb1 (by rw [F1 285 (by omega) (by omega) (by omega) (by omega)]; exact g2) (by decide) rfl (by decide) (fun x f3 k3 k4 => ⟨fun q2 => ?_, fun q2 => ?_⟩)
    · have q2 := of_decide_eq_true q2
      obtain ⟨g2', g6'⟩ := k3 q2
      obtain ⟨_, l1, l4⟩ := num_ok q2
      have hx := hv.fc (by omega) hb5 hn6 f3
      rw [hx.2.2.1]
      rintro _ rfl
      refine ⟨vp_in_nI ht (by decide), ?_⟩
      rw [nI_clamp (by omega), g6']
      rintro _ rfl
      have fx : FPX t σ (u1 x (t + 1 + 20 + 2 * tn) 0 (nI (tkV U n (tkE U n a)))) := fv.tr (f3.p.tr (FPX.u ht0 (by omega)))
      refine ⟨2 ^ tkV U n (tkE U n a) + 1, ?_⟩
      have et : tabL U n P (usF tn bn nn tna bna nna) a = (match tvL U n P (2 ^ tkV U n (tkE U n a)) (tkE U n (tkE U n a)) 0 (fun _ => 0) with
        | .inl f => .inl f
        | .inr (f, b) => .inr ((tkV U n a, tkV U n (tkE U n a), f), b)) := by unfold tabL; rw [if_pos q, if_pos q2]
      refine c_tvL hU hP.1 hP.2.1 l4 ht hb5 hn6 (2 ^ tkV U n (tkE U n a)) (tkE U n (tkE U n a)) 0 (fun _ => 0) _ (Nat.zero_add _) (tkE_le hb1).2 (h0.fp ht0 fx) (by rw [u1_n (by omega)]; exact g2') (hx.tb ht hb5 hn6 (fun o o1 o2 o3 => by rw [u1_n o1])) (by rw [u1_s, pk_us]) (fun z hz => by omega) (fun pl kd y ey fy gy => ?_) (fun g b y ey fy py ly vy ay by_ => ?_)
      · refine kf pl kd y ?_ (fx.tr fy) gy
        rw [et, ey]; rfl
      · have pz := py.addT hV.2.1 ht hb5 ly vy
        have fz : FPX t σ (u1 y t 1 (nI (tn + 1))) := fx.tr (fy.tr (FPX.u ht0 (by omega)))
        refine c_end hU (h0.fp ht0 fz) by_ (by rw [u1_n (by omega)]; exact ay) (fun z f4 k5 k6 => ?_)
        have ee : endW U n (tabL U n P (usF tn bn nn tna bna nna) a) = if endC U n b = 0 then .inr ((tkV U n a, tkV U n (tkE U n a), g), tkE U n b) else .inl (plF U n b, endC U n b) := by rw [et, ey]; rfl
        by_cases c : endC U n b = 0
        · rw [if_pos c] at ee
          have := kt _ _ _ _ z ee (fz.tr f4.p) (pz.fc (by omega) hb5 hn6 f4) (k5 c)
          rw [c]; exact this
        · rw [if_neg c] at ee
          have := kf _ _ z ee (fz.tr f4.p) (k6 c)
          rw [decide_eq_false c]; exact this
    · have q2 := of_decide_eq_false q2
      refine kf _ _ x ?_ (fv.tr f3.p) (k4 q2)
      unfold tabL
      rw [if_pos q, if_neg q2]; rfl
  · have q := of_decide_eq_false q
    refine kf _ _ u ?_ f1.p (k2 q)
    unfold tabL
    rw [if_neg q]; rfl
theorem PrM.addT {l nm : Nat} {g : Nat → Int32} (h : PrM P tn bn nn lg tof tv bv w tna bna nna τ) (e1 : τ.1 9 (8 + tn) = nI l) (e2 : ∀ x, x < 2 ^ l → τ.1 10 (16 * (8 + tn) + x) = g x) : PrM P (tn + 1) bn nn (uN lg tn l) tof (setT tv tn g) bv w (uN tna tn nm) bna nna (u1 (u2 τ 6 (8 + tn) (lN nm)) 3 1 (nI (tn + 1))) := by
  obtain ⟨h0, h1, h2, h3, h4, h5, h6, h7, h8, h9⟩ := h
  have F : ∀ o, o ≠ 3 → (u1 (u2 τ 6 (8 + tn) (lN nm)) 3 1 (nI (tn + 1))).1 o = τ.1 o := fun o ho => by rw [u1_n ho, u2_1]
  have G : ∀ o, o ≠ 6 → (u1 (u2 τ 6 (8 + tn) (lN nm)) 3 1 (nI (tn + 1))).2 o = τ.2 o := fun o ho => by rw [u1_2, u2_n ho]
  refine ⟨by rw [F 0 (by decide)]; exact h0, by rw [F 2 (by decide)]; exact h1, by rw [u1_s, pk_us], by rw [F 4 (by decide)]; exact h3, by rw [F 5 (by decide)]; exact h4, fun j hj => ?_, fun j hj => by rw [F 11 (by decide), G 7 (by decide)]; exact h6 j hj, fun j hj => by rw [F 12 (by decide), G 8 (by decide)]; exact h7 j hj, by rw [F 0 (by decide)]; exact h8, fun e he => by rw [F 13 (by decide)]; exact h9 e he⟩
  rw [F 9 (by decide), F 10 (by decide), u1_2, u2_s]
  by_cases e : j = tn
  · subst e
    rw [uN_s, uN_s, setT_s, pk_uLs]
    exact ⟨e1, rfl, e2⟩
  · rw [uN_n e, uN_n e, setT_n e, pk_uLn (by omega)]
    exact h5 j (by omega)
theorem PrM.tb (h : PrM P tn bn nn lg tof tv bv w tna bna nna τ) (f1 : ∀ o, o ≠ 9 → o ≠ 10 → o ≠ 14 → o ≠ 15 → o ≠ 0 → τ'.1 o = τ.1 o) (f0 : ∀ j, (j = 12 ∨ j = 24) → τ'.1 0 j = τ.1 0 j) (f9 : ∀ i, i < 8 + tn → τ'.1 9 i = τ.1 9 i) (f10 : ∀ i, i < 16 * (8 + tn) → τ'.1 10 i = τ.1 10 i) (g : ∀ o, o ≠ 0 → τ'.2 o = τ.2 o) (hl : ∀ j, j < tn → lg j ≤ 4) : PrM P tn bn nn lg tof tv bv w tna bna nna τ' := by
  obtain ⟨h0, h1, h2, h3, h4, h5, h6, h7, h8, h9⟩ := h
  refine ⟨by rw [f0 12 (by omega)]; exact h0, by rw [f1 2 (by decide) (by decide) (by decide) (by decide) (by decide)]; exact h1, by rw [f1 3 (by decide) (by decide) (by decide) (by decide) (by decide)]; exact h2, by rw [f1 4 (by decide) (by decide) (by decide) (by decide) (by decide)]; exact h3, by rw [f1 5 (by decide) (by decide) (by decide) (by decide) (by decide)]; exact h4, fun j hj => ?_, fun j hj => by rw [f1 11 (by decide) (by decide) (by decide) (by decide) (by decide), g 7 (by decide)]; exact h6 j hj, fun j hj => by rw [f1 12 (by decide) (by decide) (by decide) (by decide) (by decide), g 8 (by decide)]; exact h7 j hj, by rw [f0 24 (by omega)]; exact h8, fun e he => by rw [f1 13 (by decide) (by decide) (by decide) (by decide) (by decide)]; exact h9 e he⟩
  rw [g 6 (by decide), f9 _ (by omega)]
  refine ⟨(h5 j hj).1, (h5 j hj).2.1, fun i hi => ?_⟩
  have := lt16 _ (hl j hj) i hi
  rw [f10 _ (by omega)]
  exact (h5 j hj).2.2 i hi
theorem m_tvL {l nm : Nat} {post : Bool → St → Prop} (hU : U = fun i => ub (tp i)) (hV : PrV P tn bn nn lg tof tv bv w tna bna nna) (hl : l ≤ 4) (ht : tn < 8) : ∀ (m a i : Nat) (f : Nat → Int32) (s : St), i + m = 2 ^ l → a ≤ n → TM tp n s → TokM U n a s → s.1 0 9 = 0 → PrM P tn bn nn lg tof tv bv w tna bna nna s → s.1 9 (8 + tn) = nI l → (∀ x, x < i → s.1 10 (16 * (8 + tn) + x) = f x) → (∀ pl kd u, tvL U n P m a i f = .inl (pl, kd) → FPM s u → u.1 0 9 = nI kd → u.1 0 10 = nI pl → post false u) → (∀ g b u, tvL U n P m a i f = .inr (g, b) → FPM s u → PrM P (tn + 1) bn nn (uN lg tn l) tof (setT tv tn g) bv w (uN tna tn nm) bna nna u → TokM U n b u → u.1 0 9 = 0 → post true u) → wX11_tableLine_56 post (m + 1) 0 (nI (8 + tn)) (lN nm) (nI i) s := by
  have h16 := p2le hl
  have hP := hV.1.1
  intro m
  induction m with
  | zero =>
    intro a i f s e ha hX htk h9 hpr hl0 hv kf kt
    unfold wX11_tableLine_56
    simp only [Nat.zero_add]
    rw [nI_clamp (by omega), hl0, sh1 _ (by omega)]
    refine ⟨vp_in_nI (by omega) (by decide), fun _ => ⟨vp_in_nI (by omega) (by decide), ?_⟩, fun q => absurd (nI_le (by omega) (by omega)) q⟩
    rintro _ rfl
    rw [u2_1, hpr.1]
    rintro _ rfl
    refine ⟨vp_in_nI (n := 1) (by decide) (by decide), vp_in_nI (n := 1) (by decide) (by decide), ?_⟩
    rw [show s.1 3 (1 : Int32).toNatClampNeg = nI tn from hpr.2.2.1, nI_1]
    rintro _ rfl
    refine kt f a _ rfl ⟨fun o ho => by rw [u1_n (by omega), u2_1], fun o o1 o2 => ?_, fun i hi => by rw [u1_n (by decide), u2_1], fun i hi => by rw [u1_n (by decide), u2_1], fun i hi => by rw [u1_n (by decide), u2_1], fun i hi => by rw [u1_n (by decide), u2_1], fun j hj => by rw [u1_n (by decide), u2_1]⟩ (hpr.addT hl0 (fun x hx => hv x (by omega))) ?_ (by rw [u1_n (by decide), u2_1]; exact h9)
    · by_cases c : o = 3
      · subst c
        rw [u1_s, pk_un (show (0 : Nat) ≠ (1 : Int32).toNatClampNeg from by decide), u2_1]
      · rw [u1_n c, u2_1]
    · obtain ⟨a1, a2, a3, a4, a5⟩ := htk
      refine ⟨by rw [u1_n (by decide), u2_1]; exact a1, by rw [u1_n (by decide), u2_1]; exact a2, fun c => by rw [u1_n (by decide), u2_1]; exact a3 c, fun c => by rw [u1_2, u2_n (by decide)]; exact a4 c, fun c => by rw [u1_n (by decide), u2_1]; exact a5 c⟩
  | succ m ih =>
    intro a i f s e ha hX htk h9 hpr hl0 hv kf kt
    rw [tvL] at kf kt
    unfold wX11_tableLine_56
    simp only [Nat.zero_add]
    rw [nI_clamp (by omega), hl0, sh1 _ (by omega), hpr.1]
    refine ⟨vp_in_nI (by omega) (by decide), fun q => absurd q (nI_ge (by omega) (by omega)), fun _ => ?_⟩
    rintro _ rfl
    rw [show s.1 2 (1 : Int32).toNatClampNeg = nI P from hpr.2.1]
    refine ⟨vp_in_nI (n := 1) (by decide) (by decide), m_num (hi := P - 1) hU hX ha htk h9 (lo := 0) (by decide) (pk_sub (a := P) (b := 1) (by omega)) (by omega) (fun u f1 k1 k2 => ⟨fun q => ?_, fun q => ?_⟩)⟩
    · have q := of_decide_eq_true q
      rw [if_pos q] at kf kt
      obtain ⟨g1, g9, g11⟩ := k1 q
      rw [show (16 : Int32) = nI 16 from rfl, pk_mul, nI_add, g11, nI_1]
      refine ⟨vp_in_nI (by omega) (by decide), ?_⟩
      rintro _ rfl _ rfl
      rw [nI_clamp (by omega)]
      have fu : FPM u (u1 u 10 (16 * (8 + tn) + i) (nI (tkV U n a))) := ⟨fun o ho => u1_n (by omega), fun o o1 o2 => by rw [u1_n (by omega)], fun i hi => by rw [u1_n (by decide)], fun i hi => by rw [u1_s, pk_un (by omega)], fun i hi => by rw [u1_n (by decide)], fun i hi => by rw [u1_n (by decide)], fun j hj => by rw [u1_n (by decide)]⟩
      have F := f1.p.tr fu
      obtain ⟨a1, a2, a3, a4, a5⟩ := g1
      refine ih (tkE U n a) (i + 1) _ _ (by omega) (tkE_le ha).2 (hX.fp F) ⟨by rw [u1_n (by decide)]; exact a1, by rw [u1_n (by decide)]; exact a2, fun c => by rw [u1_n (by decide)]; exact a3 c, fun c => by rw [u1_2]; exact a4 c, fun c => by rw [u1_n (by decide)]; exact a5 c⟩ (by rw [u1_n (by decide)]; exact g9) ((hpr.fr f1).tb (fun o o9 o10 o14 o15 o0 => u1_n o10) (fun j hj => by rw [u1_n (by decide)]) (fun i hi => by rw [u1_n (by decide)]) (fun x hx => by rw [u1_s, pk_un (by omega)]) (fun o ho => rfl) (fun j hj => hV.1.l4 hj)) (by rw [u1_n (by decide), f1.1 9 (by decide)]; exact hl0) (fun x hx => ?_) (fun pl kd v ev fv => kf pl kd v ev (F.tr fv)) (fun g b v ev fv => kt g b v ev (F.tr fv))
      rw [u1_s]
      by_cases c : x = i
      · rw [c, pk_us, pk_us]
      · rw [pk_un (by omega), pk_un c, f1.1 10 (by decide)]; exact hv x (by omega)
    · have q := of_decide_eq_false q
      rw [if_neg q] at kf
      exact kf _ _ u rfl f1.p (k2 q).1 (k2 q).2
theorem m_table {post : Bool → St → Prop} (hU : U = fun i => ub (tp i)) (h0 : TM tp n τ) (ha : a ≤ n) (tk : TokM U n a τ) (h9 : τ.1 0 9 = 0) (h : PrM P tn bn nn lg tof tv bv w tna bna nna τ) (hV : PrV P tn bn nn lg tof tv bv w tna bna nna) (ht : tn < 8) (kf : ∀ pl kd u, tabL U n P (usF tn bn nn tna bna nna) a = .inl (pl, kd) → FPM τ u → u.1 0 9 = nI kd → u.1 0 10 = nI pl → post false u) (kt : ∀ nm l g b u, tabL U n P (usF tn bn nn tna bna nna) a = .inr ((nm, l, g), b) → FPM τ u → PrM P (tn + 1) bn nn (uN lg tn l) tof (setT tv tn g) bv w (uN tna tn nm) bna nna u → TokM U n b u → u.1 0 9 = 0 → post true u) : wX11_tableLine 0 τ post := by
  unfold wX11_tableLine
  refine m_new hU h0 ha tk h9 h hV (fun u f1 k1 k2 => ⟨fun q => ?_, fun q => ?_⟩)
  · have q := of_decide_eq_true q
    obtain ⟨t1, g9, g26⟩ := k1 q
    have hu := h.fr f1
    have hb1 := (tkE_le (U := U) ha).2
    rw [hu.1]
    rintro _ rfl
    refine ⟨vp_in_nI (n := 1) (by decide) (by decide), ?_⟩
    rw [show u.1 (0 + 3) (1 : Int32).toNatClampNeg = nI tn from hu.2.2.1, show (8 : Int32) * 1 = nI 8 from rfl, nI_add, g26]
    rintro _ rfl _ rfl
    refine m_num (lo := 1) (hi := 4) hU (h0.fr f1) hb1 t1 g9 (by decide) rfl (by decide) (fun x f3 k3 k4 => ⟨fun q2 => ⟨vp_in_nI (by omega) (by decide), ?_⟩, fun q2 => ?_⟩)
    · have q2 := of_decide_eq_true q2
      obtain ⟨t3, g9', g11⟩ := k3 q2
      obtain ⟨_, l1, l4⟩ := num_ok q2
      have hx := hu.fr f3
      rw [g11, nI_clamp (by omega)]
      rintro _ rfl
      have fx : FPM τ (u1 x (0 + 9) (8 + tn) (nI (tkV U n (tkE U n a)))) := (f1.p.tr f3.p).tr ⟨fun o ho => u1_n (by omega), fun o o1 o2 => by rw [u1_n (by omega)], fun i hi => by rw [show (0 + 9 : Nat) = 9 from rfl, u1_s, pk_un (by omega)], fun i hi => by rw [u1_n (by decide)], fun i hi => by rw [u1_n (by decide)], fun i hi => by rw [u1_n (by decide)], fun j hj => by rw [u1_n (by decide)]⟩
      refine ⟨2 ^ tkV U n (tkE U n a) + 1, ?_⟩
      have et : tabL U n P (usF tn bn nn tna bna nna) a = (match tvL U n P (2 ^ tkV U n (tkE U n a)) (tkE U n (tkE U n a)) 0 (fun _ => 0) with
        | .inl f => .inl f
        | .inr (f, b) => .inr ((tkV U n a, tkV U n (tkE U n a), f), b)) := by unfold tabL; rw [if_pos q, if_pos q2]
      obtain ⟨a1, a2, a3, a4, a5⟩ := t3
      refine m_tvL hU hV l4 ht (2 ^ tkV U n (tkE U n a)) (tkE U n (tkE U n a)) 0 (fun _ => 0) _ (Nat.zero_add _) (tkE_le hb1).2 (h0.fp fx) ⟨by rw [u1_n (by decide)]; exact a1, by rw [u1_n (by decide)]; exact a2, fun c => by rw [u1_n (by decide)]; exact a3 c, fun c => by rw [u1_2]; exact a4 c, fun c => by rw [u1_n (by decide)]; exact a5 c⟩ (by rw [u1_n (by decide)]; exact g9') (hx.tb (fun o o9 o10 o14 o15 o0 => u1_n o9) (fun j hj => by rw [u1_n (by decide)]) (fun i hi => by rw [show (0 + 9 : Nat) = 9 from rfl, u1_s, pk_un (by omega)]) (fun i hi => by rw [u1_n (by decide)]) (fun o ho => rfl) (fun j hj => hV.1.l4 hj)) (by rw [show (0 + 9 : Nat) = 9 from rfl, u1_s, pk_us]) (fun z hz => by omega) (fun pl kd y ey fy => kf pl kd y (by rw [et, ey]) (fx.tr fy)) (fun g b y ey fy => kt _ _ g b y (by rw [et, ey]) (fx.tr fy))
    · have q2 := of_decide_eq_false q2
      refine kf _ _ x ?_ (f1.p.tr f3.p) (k4 q2).1 (k4 q2).2
      unfold tabL
      rw [if_pos q, if_neg q2]
  · have q := of_decide_eq_false q
    refine kf _ _ u ?_ f1.p (k2 q).1 (k2 q).2
    unfold tabL
    rw [if_neg q]
end TB
