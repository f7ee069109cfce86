/-! a node's line, a wire's -/
def KH (nc : Nat) (nmv nmk nmn : Nat → Nat) (kd : Nat) (F : Nat → Nat) (m : Nat) : Prop := nc ≤ 19 ∧ (∀ k, k < nc → nmv k < 2 ^ 30 ∧ nmk k ≤ 4) ∧ ∀ W, (∀ i, i < nc → nmv i = W → nmk i = kd → nmn i = F W ∧ F W < m) ∧ ((∀ i, i < nc → ¬ (nmv i = W ∧ nmk i = kd)) → ¬ F W < m)
def nodL (U : Nat → Nat) (n : Nat) (us : Nat → Bool) (F : Nat → Nat) (m a : Nat) : (Nat × Nat) ⊕ ((Nat × Nat) × Nat) :=
  if newC U n a us = 0 then (if knC U n (tkE U n a) (fun W => decide (F W < m)) = 0 then .inr ((tkV U n a, F (tkV U n (tkE U n a))), tkE U n (tkE U n a)) else .inl (plF U n (tkE U n a), knC U n (tkE U n a) (fun W => decide (F W < m)))) else .inl (plF U n a, newC U n a us)
def addNd (w : NetT) (nn : Nat) (g : Nat → Int32) : NetT := (w.1, w.2.1, setT w.2.2 nn g)
section ND
variable {t P tn bn nn : Nat} {lg tof : Nat → Nat} {tv bv : Nat → Nat → Int32} {w : NetT} {nc : Nat} {nmv nmk nmn tna bna nna : Nat → Nat} {σ τ σ' τ' : St} {tp : Nat → Int32} {n : Nat} {U : Nat → Nat} {a : Nat} {F : Nat → Nat} {m kd : Nat}
theorem kn_ok {U : Nat → Nat} {n a : Nat} {fd : Nat → Bool} (h : knC U n a fd = 0) : tkK U n a = 0 ∧ fd (tkV U n a) = true := by
  unfold knC at h
  split at h
  · split at h
    · exact ⟨by omega, by assumption⟩
    · omega
  · omega
theorem new_ok {U : Nat → Nat} {n a : Nat} {us : Nat → Bool} (h : newC U n a us = 0) : tkK U n a = 0 ∧ us (tkV U n a) = false := by
  unfold newC at h
  split at h
  · split at h
    · omega
    · rename_i q
      exact ⟨by omega, by simpa using q⟩
  · omega
theorem NmV.same (h : NmV tn bn nn tna bna nna nc nmv nmk nmn) {i k : Nat} (hi : i < nc) (hk : k < nc) (e : nmv i = nmv k) : i = k := by
  rcases Nat.lt_trichotomy i k with q | q | q
  · exact absurd e (h.2.2.2.2.2.1 i k q hk)
  · exact q
  · exact absurd e.symm (h.2.2.2.2.2.1 k i q hi)
theorem NmV.k4 (h : NmV tn bn nn tna bna nna nc nmv nmk nmn) : ∀ k, k < nc → nmv k < 2 ^ 30 ∧ nmk k ≤ 4 := fun k hk => ⟨h.2.2.2.2.2.2 k hk, by rcases h.2.1 k hk with q | q | q <;> omega⟩
theorem NmV.kh1 (h : NmV tn bn nn tna bna nna nc nmv nmk nmn) (hnc : nc ≤ 19) : KH nc nmv nmk nmn 1 (nF tna tn) tn := by
  refine ⟨hnc, h.k4, fun W => ⟨fun i hi e1 e2 => ?_, fun hno q => ?_⟩⟩
  · have q1 : nmn i < tn ∧ tna (nmn i) = nmv i := by rcases h.2.1 i hi with q | q | q <;> omega
    have q2 : nF tna tn W < tn := nF_lt.mpr ⟨nmn i, q1.1, q1.2.trans e1⟩
    obtain ⟨k, k1, k2, k3⟩ := h.2.2.1 _ q2
    have q3 : tna (nmn k) = nmv k := by rcases h.2.1 k k1 with q | q | q <;> omega
    rw [k3, nF_yes q2] at q3
    have := h.same hi k1 (by rw [e1, q3])
    subst this
    exact ⟨k3, q2⟩
  · obtain ⟨k, k1, k2, k3⟩ := h.2.2.1 _ q
    have q3 : tna (nmn k) = nmv k := by rcases h.2.1 k k1 with q | q | q <;> omega
    rw [k3, nF_yes q] at q3
    exact hno k k1 ⟨q3.symm, k2⟩
theorem NmV.kh4 (h : NmV tn bn nn tna bna nna nc nmv nmk nmn) (hnc : nc ≤ 19) : KH nc nmv nmk nmn 4 (nF nna nn) nn := by
  refine ⟨hnc, h.k4, fun W => ⟨fun i hi e1 e2 => ?_, fun hno q => ?_⟩⟩
  · have q1 : nmn i < nn ∧ nna (nmn i) = nmv i := by rcases h.2.1 i hi with q | q | q <;> omega
    have q2 : nF nna nn W < nn := nF_lt.mpr ⟨nmn i, q1.1, q1.2.trans e1⟩
    obtain ⟨k, k1, k2, k3⟩ := h.2.2.2.2.1 _ q2
    have q3 : nna (nmn k) = nmv k := by rcases h.2.1 k k1 with q | q | q <;> omega
    rw [k3, nF_yes q2] at q3
    have := h.same hi k1 (by rw [e1, q3])
    subst this
    exact ⟨k3, q2⟩
  · obtain ⟨k, k1, k2, k3⟩ := h.2.2.2.2.1 _ q
    have q3 : nna (nmn k) = nmv k := by rcases h.2.1 k k1 with q | q | q <;> omega
    rw [k3, nF_yes q] at q3
    exact hno k k1 ⟨q3.symm, k2⟩
theorem KH.add {W kd' x : Nat} (h : KH nc nmv nmk nmn kd F m) (hn : nc < 19) (hW : W < 2 ^ 30) (hk : kd' ≤ 4) (hne : kd' ≠ kd) : KH (nc + 1) (uN nmv nc W) (uN nmk nc kd') (uN nmn nc x) kd F m := by
  obtain ⟨h1, h2, h3⟩ := h
  refine ⟨hn, fun k k1 => ?_, fun V => ⟨fun i hi e1 e2 => ?_, fun hno => ?_⟩⟩
  · by_cases e : k = nc
    · rw [e, uN_s, uN_s]; exact ⟨hW, hk⟩
    · rw [uN_n e, uN_n e]; exact h2 k (by omega)
  · by_cases e : i = nc
    · rw [e, uN_s] at e2; omega
    · rw [uN_n e] at e1 e2 ⊢
      exact (h3 V).1 i (by omega) e1 e2
  · refine (h3 V).2 (fun i hi q => hno i (by omega) ?_)
    rw [uN_n (by omega), uN_n (by omega)]; exact q
theorem c_known {post : Bool → St → Prop} (hU : U = fun i => ub (tp i)) (h0 : TX tp n σ) (ha : a ≤ n) (h2 : σ.1 285 2 = nI a) (h : PrX t P tn bn nn lg tof tv bv w nc nmv nmk nmn σ) (hK : KH nc nmv nmk nmn kd F m) (hkd : kd ≤ 4) (hm : m ≤ 8) (ht8 : tn ≤ 8) (hb5 : bn ≤ 5) (hn6 : nn ≤ 6) (k : ∀ u, FC σ u → (knC U n a (fun W => decide (F W < m)) = 0 → u.1 285 2 = nI (tkE U n a) ∧ u.1 285 6 = nI (F (tkV U n a)) ∧ F (tkV U n a) < m) → (knC U n a (fun W => decide (F W < m)) ≠ 0 → u.1 285 7 = fltV (plF U n a) (knC U n a (fun W => decide (F W < m)))) → post (decide (knC U n a (fun W => decide (F W < m)) = 0)) u) : wX6_takeKnownName 285 1 t (nI kd) σ post := by
  have hU2 : ∀ i, U i < 256 := fun i => by rw [hU]; exact ub_lt _
  have hk := tkK_le (U := U) (n := n) (a := a)
  unfold wX6_takeKnownName wX6_takeKnownName_20
  refine c_advance hU h0 ha h2 (fun s f tk => ?_)
  have hs := h.fc ht8 hb5 hn6 f.c
  have bad : ¬ (kwT U n a = 6 ∧ tkK U n a = 0) → wX6_fail 285 (1 : Int32) s (fun r1 s1 => post r1 s1) := fun c => by
    have e : knC U n a (fun W => decide (F W < m)) = 1 := by unfold knC; rw [if_neg c]
    refine c_fail (kd := 1) tk.2.1 (fun u f1 f2 f3 => ?_)
    have k := k u (f.c.tr f1) (fun d => by omega) (fun _ => by rw [e]; exact f3)
    rw [e] at k
    exact k
  rw [tk.1, show (0 : Int32) = nI 0 from rfl, nI_eq (by omega) (by decide)]
  refine ⟨fun c => bad (fun d => c d.2), fun c => c_keyword hU ha hs.2.2.2.2.2.2.2.2.2.2 tk ⟨fun d => ?_, fun d => bad (fun e => ?_)⟩⟩
  · have hw6 : kwT U n a = 6 := by
      apply Classical.byContradiction
      intro q
      rw [if_neg q] at d
      have := congrArg Int32.toInt d
      rw [nI_toInt (by have := kwT_le (U := U) (n := n) (a := a); omega)] at this
      have z : (-1 : Int32).toInt = -1 := rfl
      omega
    have hv := tkV_word hU2 ha c
    have e : knC U n a (fun W => decide (F W < m)) = if decide (F (tkV U n a) < m) = true then 0 else 3 := by unfold knC; rw [if_pos ⟨hw6, c⟩]
    rw [tk.2.2.1 (by omega)]
    obtain ⟨K1, K2⟩ := hK.2.2 (tkV U n a)
    refine c_numberOf hs hK.1 hv (fun k hk => (hK.2.1 k hk).1) hkd (fun k hk => (hK.2.1 k hk).2) (fun i hi e1 e2 => ?_) (fun hno => ?_)
    · obtain ⟨g1, g2⟩ := K1 i hi e1 e2
      have e0 : knC U n a (fun W => decide (F W < m)) = 0 := by rw [e, decide_eq_true g2]; rfl
      rintro _ rfl
      rw [u1_s, pk_us, g1]
      refine ⟨fun _ => ?_, fun q => ?_⟩
      · have k := k (u1 s 285 6 (nI (F (tkV U n a)))) (f.c.tr (FC.u (by omega))) (fun _ => ⟨by rw [u1_s, pk_un (by decide)]; exact tk.2.2.2 (by omega), by rw [u1_s, pk_us], g2⟩) (fun x => absurd e0 x)
        rw [e0] at k
        exact k
      · exfalso
        have := congrArg Int32.toInt q
        rw [nI_toInt (by omega)] at this
        have z : (-1 : Int32).toInt = -1 := rfl
        omega
    · have g2 := K2 hno
      have e0 : knC U n a (fun W => decide (F W < m)) = 3 := by rw [e, decide_eq_false g2]; rfl
      rintro _ rfl
      rw [u1_s, pk_us]
      refine ⟨fun q => absurd rfl q, fun _ => c_fail (U := U) (n := n) (a := a) (kd := 3) (by rw [u1_s, pk_un (by decide)]; exact tk.2.1) (fun u f1 f2 f3 => ⟨fun _ => ?_, fun x => absurd x (by decide)⟩)⟩
      have k := k u ((f.c.tr (FC.u (by omega))).tr f1) (fun d => by omega) (fun _ => by rw [e0]; exact f3)
      rw [e0] at k
      exact k
  · rw [if_pos e.1] at d
    exact d rfl
theorem PrX.addN {k : Nat} (h : PrX t P tn bn nn lg tof tv bv w nc nmv nmk nmn σ) (hn : nn < 6) (ht : tn ≤ 8) (hb : bn ≤ 5) (hl : lg k ≤ 4) (e1 : σ.1 (t + 3 + 1 + 2 + 2 * nn) 0 = nI (lg k)) (e2 : ∀ i, i < 2 ^ lg k → σ.1 (t + 3 + 1 + 2 + 2 * nn + 1) i = tv k i) : PrX t P tn bn (nn + 1) lg (uN tof nn k) tv bv (addNd w nn (tv k)) nc nmv nmk nmn (u1 σ (t + 3) 0 (nI (nn + 1))) := by
  obtain ⟨h0, h1, h2, h3, h4, h5, h6, ⟨n1, n2, n3, n4⟩, h8, h9, h10⟩ := h
  have F : ∀ o, o ≠ t + 3 → (u1 σ (t + 3) 0 (nI (nn + 1))).1 o = σ.1 o := fun o ho => u1_n ho
  refine ⟨h0, by rw [F _ (by omega)]; exact h1, by rw [F _ (by omega)]; exact h2, by rw [F _ (by omega)]; exact h3, by rw [F _ (by omega)]; exact h4, fun j hj => ⟨by rw [F _ (by omega)]; exact (h5 j hj).1, fun i hi => by rw [F _ (by omega)]; exact (h5 j hj).2 i hi⟩, fun j hj k hk => by rw [F _ (by omega)]; exact h6 j hj k hk, ⟨by rw [u1_s, pk_us], by rw [u1_s, pk_un (by decide)]; exact n2, fun e he => by rw [F _ (by omega)]; exact n3 e he, fun j hj => ?_⟩, trivial, fun k hk => by rw [F _ (by omega), F _ (by omega), F _ (by omega)]; exact h9 k hk, fun k hk => by rw [F _ (by omega)]; exact h10 k hk⟩
  rw [F _ (by omega), F _ (by omega)]
  show σ.1 _ 0 = nI (lg (uN tof nn k j)) ∧ ∀ i, i < 2 ^ lg (uN tof nn k j) → σ.1 _ i = setT w.2.2 nn (tv k) j i
  by_cases c : j = nn
  · subst c
    rw [uN_s, setT_s]; exact ⟨e1, e2⟩
  · rw [uN_n c, setT_n c]; exact n4 j (by omega)
theorem c_node {post : Bool → St → Prop} (hU : U = fun i => ub (tp i)) (h0 : TX tp n σ) (ha : a ≤ n) (h2 : σ.1 285 2 = nI a) (h : PrX t P tn bn nn lg tof tv bv w nc nmv nmk nmn σ) (hN : NmV tn bn nn tna bna nna nc nmv nmk nmn) (hV : PrV P tn bn nn lg tof tv bv w tna bna nna) (hn : nn < 6) (kf : ∀ pl kd u, endW U n (nodL U n (usF tn bn nn tna bna nna) (nF tna tn) tn a) = .inl (pl, kd) → FPX t σ u → u.1 285 7 = fltV pl kd → post false u) (kt : ∀ nm k b u, endW U n (nodL U n (usF tn bn nn tna bna nna) (nF tna tn) tn a) = .inr ((nm, k), b) → FPX t σ u → PrX t P tn bn (nn + 1) lg (uN tof nn k) tv bv (addNd w nn (tv k)) (nc + 1) (uN nmv nc nm) (uN nmk nc 4) (uN nmn nc nn) u → u.1 285 2 = nI b → post true u) : wX6_readNode 285 1 t σ post := by
  have hU2 : ∀ i, U i < 256 := fun i => by rw [hU]; exact ub_lt _
  have ht8 := hV.1.t8
  have hb5 := hV.1.b5
  have ht0 := h.1
  have hnc : nc < 19 := by have := hN.1; omega
  unfold wX6_readNode
  rw [h.2.2.2.2.2.2.2.1.1, show (6 : Int32) = nI 6 from rfl, nI_ltI (by omega) (by decide)]
  refine ⟨fun _ => c_new hU h0 ha h2 h hN (by omega) (by omega) (by omega) (by omega) (fun u f1 k1 k2 => ⟨fun q => ?_, fun q => ?_⟩), fun q => absurd hn q⟩
  · have q := of_decide_eq_true q
    obtain ⟨g2, g6⟩ := k1 q
    have hu := h.fc (by omega) (by omega) (by omega) f1
    rw [g6, hu.2.2.2.2.2.2.2.1.1]
    refine c_addName (kd := 4) hu (by omega) (by omega) (by omega) hnc (fun v F1 F2 hv => ?_)
    have fv : FPX t σ v := f1.p.tr ⟨fun o o1 o2 => F1 o (by omega) (by omega) (by omega) (by omega), by rw [F1 285 (by omega) (by omega) (by omega) (by omega)]⟩
    have hb1 := (tkE_le (U := U) ha).2
    have hW := tkV_word hU2 ha (new_ok q).1
    have en : nodL U n (usF tn bn nn tna bna nna) (nF tna tn) tn a = (if knC U n (tkE U n a) (fun W => decide (nF tna tn W < tn)) = 0 then .inr ((tkV U n a, nF tna tn (tkV U n (tkE U n a))), tkE U n (tkE U n a)) else .inl (plF U n (tkE U n a), knC U n (tkE U n a) (fun W => decide (nF tna tn W < tn)))) := by unfold nodL; rw [if_pos q]
    refine c_known (kd := 1) hU (h0.fp ht0 fv) hb1 (by rw [F1 285 (by omega) (by omega) (by omega) (by omega)]; exact g2) hv ((hN.kh1 (by omega)).add hnc hW (by decide) (by decide)) (by decide) ht8 ht8 hb5 (by omega) (fun x f3 k3 k4 => ⟨fun q2 => ?_, fun q2 => ?_⟩)
    · have q2 := of_decide_eq_true q2
      rw [if_pos q2] at en
      obtain ⟨g2', g6', hlt⟩ := k3 q2
      have hx := hv.fc (by omega) hb5 (by omega) f3
      have fx := fv.tr f3.p (t := t)
      rw [g6']
      rintro _ rfl
      refine ⟨vp_in_nI (by omega) (by decide), ?_⟩
      rw [nI_clamp (by omega)]
      unfold wX4_addNode
      rw [hx.2.2.2.2.2.2.2.1.1]
      refine ⟨fun d => absurd d (nI_ge (a := nn) (b := 6) hn (by decide)), fun _ => ?_⟩
      rintro _ rfl
      refine ⟨vp_in_nI hn (by decide), ?_⟩
      rw [nI_clamp (by omega)]
      have hl := hV.1.l4 hlt
      refine s_copyFrom (by omega) (fun y y0 y1 yF _ => ?_)
      rw [yF (t + 3) (by omega) (by omega), hx.2.2.2.2.2.2.2.1.1, nI_1]
      rintro _ rfl
      have fy : FPX t x y := ⟨fun o o1 o2 => yF o (by omega) (by omega), by rw [yF 285 (by omega) (by omega)]⟩
      have py := (hx.fx (σ' := y) (by omega) hb5 (by omega) (fun o o1 o2 o3 => yF o (by omega) (by omega))).addN (k := nF tna tn (tkV U n (tkE U n a))) hn ht8 hb5 hl (by rw [y0]; exact (hx.2.2.2.2.2.1 _ hlt).1) (fun i hi => by rw [y1 i (lt16 _ hl i hi)]; exact (hx.2.2.2.2.2.1 _ hlt).2 i hi)
      have fz := (fx.tr fy).tr (FPX.u (k := 0) (x := nI (nn + 1)) ht0 (o := t + 3) (by omega))
      refine c_end hU (h0.fp ht0 fz) (tkE_le hb1).2 (by rw [u1_n (by omega), yF 285 (by omega) (by omega)]; exact g2') (fun d f4 k5 k6 => ?_)
      by_cases cc : endC U n (tkE U n (tkE U n a)) = 0
      · have := kt _ _ _ d (by
          rw [en]
          show (if _ then _ else _) = _
          rw [if_pos cc]) (fz.tr f4.p) (py.fc (by omega) hb5 (by omega) f4) (k5 cc)
        rw [cc]; exact this
      · have := kf _ _ d (by
          rw [en]
          show (if _ then _ else _) = _
          rw [if_neg cc]) (fz.tr f4.p) (k6 cc)
        rw [decide_eq_false cc]; exact this
    · have q2 := of_decide_eq_false q2
      refine kf _ _ x ?_ (fv.tr f3.p) (k4 q2)
      rw [en, if_neg q2]; rfl
  · have q := of_decide_eq_false q
    refine kf _ _ u ?_ f1.p (k2 q)
    unfold nodL
    rw [if_neg q]; rfl
end ND
