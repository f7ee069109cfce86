/-! one line, whichever it is -/
abbrev PD : Type := Nat × Nat × Nat × (Nat → Nat) × (Nat → Nat) × (Nat → Nat → Int32) × (Nat → Nat → Int32) × NetT × (Nat → Nat) × (Nat → Nat) × (Nat → Nat)
def VD (P : Nat) (D : PD) : Prop := PrV P D.1 D.2.1 D.2.2.1 D.2.2.2.1 D.2.2.2.2.1 D.2.2.2.2.2.1 D.2.2.2.2.2.2.1 D.2.2.2.2.2.2.2.1 D.2.2.2.2.2.2.2.2.1 D.2.2.2.2.2.2.2.2.2.1 D.2.2.2.2.2.2.2.2.2.2
def MD (P : Nat) (D : PD) (τ : St) : Prop := PrM P D.1 D.2.1 D.2.2.1 D.2.2.2.1 D.2.2.2.2.1 D.2.2.2.2.2.1 D.2.2.2.2.2.2.1 D.2.2.2.2.2.2.2.1 D.2.2.2.2.2.2.2.2.1 D.2.2.2.2.2.2.2.2.2.1 D.2.2.2.2.2.2.2.2.2.2 τ
def XD (t P : Nat) (D : PD) (σ : St) : Prop := ∃ (nc : Nat) (nmv nmk nmn : Nat → Nat), NmV D.1 D.2.1 D.2.2.1 D.2.2.2.2.2.2.2.2.1 D.2.2.2.2.2.2.2.2.2.1 D.2.2.2.2.2.2.2.2.2.2 nc nmv nmk nmn ∧ PrX t P D.1 D.2.1 D.2.2.1 D.2.2.2.1 D.2.2.2.2.1 D.2.2.2.2.2.1 D.2.2.2.2.2.2.1 D.2.2.2.2.2.2.2.1 nc nmv nmk nmn σ
def mpW {X : Type} (f : X → PD) (r : (Nat × Nat) ⊕ (X × Nat)) : (Nat × Nat) ⊕ (PD × Nat) := match r with
  | .inl e => .inl e
  | .inr (x, b) => .inr (f x, b)
def usD (D : PD) : Nat → Bool := usF D.1 D.2.1 D.2.2.1 D.2.2.2.2.2.2.2.2.1 D.2.2.2.2.2.2.2.2.2.1 D.2.2.2.2.2.2.2.2.2.2
def dT (D : PD) (x : Nat × Nat × (Nat → Int32)) : PD := (D.1 + 1, D.2.1, D.2.2.1, uN D.2.2.2.1 D.1 x.2.1, D.2.2.2.2.1, setT D.2.2.2.2.2.1 D.1 x.2.2, D.2.2.2.2.2.2.1, D.2.2.2.2.2.2.2.1, uN D.2.2.2.2.2.2.2.2.1 D.1 x.1, D.2.2.2.2.2.2.2.2.2.1, D.2.2.2.2.2.2.2.2.2.2)
def dB (D : PD) (x : Nat × (Nat → Int32)) : PD := (D.1, D.2.1 + 1, D.2.2.1, D.2.2.2.1, D.2.2.2.2.1, D.2.2.2.2.2.1, setT D.2.2.2.2.2.2.1 D.2.1 x.2, D.2.2.2.2.2.2.2.1, D.2.2.2.2.2.2.2.2.1, uN D.2.2.2.2.2.2.2.2.2.1 D.2.1 x.1, D.2.2.2.2.2.2.2.2.2.2)
def dN (D : PD) (x : Nat × Nat) : PD := (D.1, D.2.1, D.2.2.1 + 1, D.2.2.2.1, uN D.2.2.2.2.1 D.2.2.1 x.2, D.2.2.2.2.2.1, D.2.2.2.2.2.2.1, addNd D.2.2.2.2.2.2.2.1 D.2.2.1 (D.2.2.2.2.2.1 x.2), D.2.2.2.2.2.2.2.2.1, D.2.2.2.2.2.2.2.2.2.1, uN D.2.2.2.2.2.2.2.2.2.2 D.2.2.1 x.1)
def dW (D : PD) (x : Nat × Nat) : PD := (D.1, D.2.1, D.2.2.1, D.2.2.2.1, D.2.2.2.2.1, D.2.2.2.2.2.1, D.2.2.2.2.2.2.1, addN D.2.2.2.2.2.2.2.1 x.1 x.2, D.2.2.2.2.2.2.2.2.1, D.2.2.2.2.2.2.2.2.2.1, D.2.2.2.2.2.2.2.2.2.2)
def lT (U : Nat → Nat) (n P : Nat) (D : PD) (a : Nat) : (Nat × Nat) ⊕ (PD × Nat) := if D.1 < 8 then mpW (dT D) (endW U n (tabL U n P (usD D) (tkE U n a))) else .inl (plF U n a, 5)
def lG (U : Nat → Nat) (n P : Nat) (D : PD) (a : Nat) : (Nat × Nat) ⊕ (PD × Nat) := if D.1 < 8 then mpW (dT D) (endW U n (gatL U n P (usD D) (tkE U n a))) else .inl (plF U n a, 5)
def lB (U : Nat → Nat) (n P : Nat) (D : PD) (a : Nat) : (Nat × Nat) ⊕ (PD × Nat) := if D.2.1 < 5 then mpW (dB D) (endW U n (basL U n P (usD D) (tkE U n a))) else .inl (plF U n a, 5)
def lN' (U : Nat → Nat) (n : Nat) (D : PD) (a : Nat) : (Nat × Nat) ⊕ (PD × Nat) := if D.2.2.1 < 6 then mpW (dN D) (endW U n (nodL U n (usD D) (nF D.2.2.2.2.2.2.2.2.1 D.1) D.1 (tkE U n a))) else .inl (plF U n a, 5)
def lW (U : Nat → Nat) (n : Nat) (D : PD) (a : Nat) : (Nat × Nat) ⊕ (PD × Nat) := if D.2.2.2.2.2.2.2.1.1 < 10 then mpW (dW D) (endW U n (wirL U n (nF D.2.2.2.2.2.2.2.2.2.2 D.2.2.1) D.2.2.1 (fun j => D.2.2.2.1 (D.2.2.2.2.1 j)) (wiB D.2.2.2.2.2.2.2.1.2.1 (2 * D.2.2.2.2.2.2.2.1.1)) (tkE U n a))) else .inl (plF U n a, 5)
def linL (U : Nat → Nat) (n P : Nat) (D : PD) (a : Nat) : (Nat × Nat) ⊕ (PD × Nat) :=
  if kwT U n a = 1 then lT U n P D a else if kwT U n a = 2 then lG U n P D a else if kwT U n a = 3 then lB U n P D a else if kwT U n a = 4 then lN' U n D a else if kwT U n a = 5 then lW U n D a else .inl (plF U n a, 1)
section LI
variable {t P : Nat} {σ τ σ' τ' : St} {tp : Nat → Int32} {n : Nat} {U : Nat → Nat} {a : Nat} {D : PD}
theorem mp_ok {X : Type} {f : X → PD} {r : (Nat × Nat) ⊕ (X × Nat)} {D' : PD} {b : Nat} (h : mpW f (endW U n r) = .inr (D', b)) : ∃ x c, r = .inr (x, c) ∧ tkK U n c = 2 ∧ b = tkE U n c ∧ D' = f x ∧ endW U n r = .inr (x, b) := by
  cases e : endW U n r with
  | inl q => rw [e] at h; cases h
  | inr q =>
    obtain ⟨x, d⟩ := q
    rw [e] at h
    cases h
    obtain ⟨c, c1, c2, c3⟩ := end_ok e
    exact ⟨x, c, c1, c2, c3, rfl, rfl⟩
theorem kw_0 (h : kwT U n a ≠ 6) : tkK U n a = 0 := by
  unfold kwT at h
  split at h
  · assumption
  · exact absurd rfl h
theorem VD.ll (hV : VD P D) : ∀ j, j < D.2.2.1 → 1 ≤ D.2.2.2.1 (D.2.2.2.2.1 j) ∧ D.2.2.2.1 (D.2.2.2.2.1 j) ≤ 4 := fun j hj => ⟨(hV.1.2.2.2.1 _ (hV.2.1.2 _ hj)).1, (hV.1.2.2.2.1 _ (hV.2.1.2 _ hj)).2.1⟩
theorem lin_ok {D' : PD} {b : Nat} (hU : U = fun i => ub (tp i)) (ha : a ≤ n) (hV : VD P D) (h : linL U n P D a = .inr (D', b)) : a < b ∧ b ≤ n ∧ VD P D' := by
  have h1 := tkE_le (U := U) ha
  have hP : 3 ≤ P ∧ P ≤ 97 := ⟨hV.1.1.1, hV.1.1.2.1⟩
  have fin : ∀ c, kwT U n a ≠ 6 → tkE U n a ≤ c → c ≤ n → b = tkE U n c → a < b ∧ b ≤ n := fun c hk h2 h3 e => by
    have := tkE_gt (U := U) ha (by rw [kw_0 hk]; decide)
    have := tkE_le (U := U) h3
    omega
  unfold linL at h
  by_cases q1 : kwT U n a = 1
  · rw [if_pos q1] at h
    unfold lT at h
    by_cases q : D.1 < 8
    · rw [if_pos q] at h
      obtain ⟨⟨nm, l, g⟩, c, c1, c2, c3, c4, _⟩ := mp_ok h
      obtain ⟨r1, r2, r3, r4, r5, r6, r7⟩ := tab_ok hU hP h1.2 c1
      obtain ⟨f1, f2⟩ := fin c (by omega) r2 r1 c3
      rw [c4]
      exact ⟨f1, f2, PrV.addT hV q r5 r6 r7 r3⟩
    · rw [if_neg q] at h; cases h
  rw [if_neg q1] at h
  by_cases q2 : kwT U n a = 2
  · rw [if_pos q2] at h
    unfold lG at h
    by_cases q : D.1 < 8
    · rw [if_pos q] at h
      obtain ⟨⟨nm, l, g⟩, c, c1, c2, c3, c4, _⟩ := mp_ok h
      obtain ⟨r1, r2, r3, r4, r5, r6, r7⟩ := gat_ok hU hP h1.2 c1
      obtain ⟨f1, f2⟩ := fin c (by omega) r2 r1 c3
      rw [c4]
      exact ⟨f1, f2, PrV.addT hV q r5 r6 r7 r3⟩
    · rw [if_neg q] at h; cases h
  rw [if_neg q2] at h
  by_cases q3 : kwT U n a = 3
  · rw [if_pos q3] at h
    unfold lB at h
    by_cases q : D.2.1 < 5
    · rw [if_pos q] at h
      obtain ⟨⟨nm, g⟩, c, c1, c2, c3, c4, _⟩ := mp_ok h
      obtain ⟨r1, r2, r3, r4, r5, r6⟩ := bas_ok hU hP h1.2 c1
      obtain ⟨f1, f2⟩ := fin c (by omega) r2 r1 c3
      rw [c4]
      exact ⟨f1, f2, PrV.addB hV q r5 r6 r3⟩
    · rw [if_neg q] at h; cases h
  rw [if_neg q3] at h
  by_cases q4 : kwT U n a = 4
  · rw [if_pos q4] at h
    unfold lN' at h
    by_cases q : D.2.2.1 < 6
    · rw [if_pos q] at h
      obtain ⟨⟨nm, k⟩, c, c1, c2, c3, c4, _⟩ := mp_ok h
      obtain ⟨r1, r2, r3, r4, r5⟩ := nod_ok hU h1.2 c1
      obtain ⟨f1, f2⟩ := fin c (by omega) r2 r1 c3
      rw [c4]
      exact ⟨f1, f2, PrV.addN hV q r5 r3⟩
    · rw [if_neg q] at h; cases h
  rw [if_neg q4] at h
  by_cases q5 : kwT U n a = 5
  · rw [if_pos q5] at h
    unfold lW at h
    by_cases q : D.2.2.2.2.2.2.2.1.1 < 10
    · rw [if_pos q] at h
      obtain ⟨⟨x, y⟩, c, c1, c2, c3, c4, _⟩ := mp_ok h
      obtain ⟨r1, r2, r3, r4, r5, r6, r7⟩ := wir_ok h1.2 hV.2.1.1 hV.ll c1
      obtain ⟨f1, f2⟩ := fin c (by omega) r2 r1 c3
      rw [c4]
      exact ⟨f1, f2, pV_addW hV q r3 r4 r5 r6 r7⟩
    · rw [if_neg q] at h; cases h
  rw [if_neg q5] at h
  cases h
theorem cl_table {post : Bool → St → Prop} (hU : U = fun i => ub (tp i)) (hX : TX tp n σ) (ha : a ≤ n) (tk : TokX U n a σ) (hk : kwT U n a ≠ 6) (h : XD t P D σ) (hV : VD P D) (kf : ∀ pl kd u, lT U n P D a = .inl (pl, kd) → FPX t σ u → u.1 285 7 = fltV pl kd → post false u) (kt : ∀ D' b u, lT U n P D a = .inr (D', b) → FPX t σ u → XD t P D' u → u.1 285 2 = nI b → post true u) : wX6_readTable 285 1 t σ post := by
  have h1 := tkE_le (U := U) ha
  have hP : 3 ≤ P ∧ P ≤ 97 := ⟨hV.1.1.1, hV.1.1.2.1⟩
  have h2 : σ.1 285 2 = nI (tkE U n a) := tk.2.2.2 (by rw [kw_0 hk]; decide)
  obtain ⟨nc, nmv, nmk, nmn, hN, hp⟩ := h
  unfold lT at kf kt
  by_cases q : D.1 < 8
  · rw [if_pos q] at kf kt
    refine c_table hU hX h1.2 h2 hp hN hV q (fun pl kd u e => kf pl kd u (congrArg (mpW (dT D)) e)) (fun nm l g b u e f p at_ => ?_)
    obtain ⟨c, c1, c2, c3⟩ := end_ok e
    obtain ⟨r1, r2, r3, r4, r5, r6, r7⟩ := tab_ok hU hP h1.2 c1
    exact kt (dT D (nm, l, g)) b u (congrArg (mpW (dT D)) e) f ⟨_, _, _, _, hN.addT r4 r3, p⟩ at_
  · rw [if_neg q] at kf
    unfold wX6_readTable
    rw [hp.2.2.1, show (8 : Int32) = nI 8 from rfl, nI_ltI (by have := hV.1.2.1; omega) (by decide)]
    exact ⟨fun d => absurd d q, fun _ => c_fail (U := U) (n := n) (a := a) (kd := 5) tk.2.1 (fun u f _ g => kf _ _ u rfl f.p g)⟩
theorem cl_gate {post : Bool → St → Prop} (hU : U = fun i => ub (tp i)) (hX : TX tp n σ) (ha : a ≤ n) (tk : TokX U n a σ) (hk : kwT U n a ≠ 6) (h : XD t P D σ) (hV : VD P D) (kf : ∀ pl kd u, lG U n P D a = .inl (pl, kd) → FPX t σ u → u.1 285 7 = fltV pl kd → post false u) (kt : ∀ D' b u, lG U n P D a = .inr (D', b) → FPX t σ u → XD t P D' u → u.1 285 2 = nI b → post true u) : wX6_readGate 285 1 t σ post := by
  have h1 := tkE_le (U := U) ha
  have hP : 3 ≤ P ∧ P ≤ 97 := ⟨hV.1.1.1, hV.1.1.2.1⟩
  have h2 : σ.1 285 2 = nI (tkE U n a) := tk.2.2.2 (by rw [kw_0 hk]; decide)
  obtain ⟨nc, nmv, nmk, nmn, hN, hp⟩ := h
  unfold lG at kf kt
  by_cases q : D.1 < 8
  · rw [if_pos q] at kf kt
    refine c_gate hU hX h1.2 h2 hp hN hV q (fun pl kd u e => kf pl kd u (congrArg (mpW (dT D)) e)) (fun nm l g b u e f p at_ => ?_)
    obtain ⟨c, c1, c2, c3⟩ := end_ok e
    obtain ⟨r1, r2, r3, r4, r5, r6, r7⟩ := gat_ok hU hP h1.2 c1
    exact kt (dT D (nm, l, g)) b u (congrArg (mpW (dT D)) e) f ⟨_, _, _, _, hN.addT r4 r3, p⟩ at_
  · rw [if_neg q] at kf
    unfold wX6_readGate
    rw [hp.2.2.1, show (8 : Int32) = nI 8 from rfl, nI_ltI (by have := hV.1.2.1; omega) (by decide)]
    exact ⟨fun d => absurd d q, fun _ => c_fail (U := U) (n := n) (a := a) (kd := 5) tk.2.1 (fun u f _ g => kf _ _ u rfl f.p g)⟩
theorem cl_base {post : Bool → St → Prop} (hU : U = fun i => ub (tp i)) (hX : TX tp n σ) (ha : a ≤ n) (tk : TokX U n a σ) (hk : kwT U n a ≠ 6) (h : XD t P D σ) (hV : VD P D) (kf : ∀ pl kd u, lB U n P D a = .inl (pl, kd) → FPX t σ u → u.1 285 7 = fltV pl kd → post false u) (kt : ∀ D' b u, lB U n P D a = .inr (D', b) → FPX t σ u → XD t P D' u → u.1 285 2 = nI b → post true u) : wX6_readBase 285 1 t σ post := by
  have h1 := tkE_le (U := U) ha
  have hP : 3 ≤ P ∧ P ≤ 97 := ⟨hV.1.1.1, hV.1.1.2.1⟩
  have h2 : σ.1 285 2 = nI (tkE U n a) := tk.2.2.2 (by rw [kw_0 hk]; decide)
  obtain ⟨nc, nmv, nmk, nmn, hN, hp⟩ := h
  unfold lB at kf kt
  by_cases q : D.2.1 < 5
  · rw [if_pos q] at kf kt
    refine c_base hU hX h1.2 h2 hp hN hV q (fun pl kd u e => kf pl kd u (congrArg (mpW (dB D)) e)) (fun nm g b u e f p at_ => ?_)
    obtain ⟨c, c1, c2, c3⟩ := end_ok e
    obtain ⟨r1, r2, r3, r4, r5, r6⟩ := bas_ok hU hP h1.2 c1
    exact kt (dB D (nm, g)) b u (congrArg (mpW (dB D)) e) f ⟨_, _, _, _, hN.addB r4 r3, p⟩ at_
  · rw [if_neg q] at kf
    unfold wX6_readBase
    rw [hp.2.2.2.1, show (5 : Int32) = nI 5 from rfl, nI_ltI (by have := hV.1.2.2.1; omega) (by decide)]
    exact ⟨fun d => absurd d q, fun _ => c_fail (U := U) (n := n) (a := a) (kd := 5) tk.2.1 (fun u f _ g => kf _ _ u rfl f.p g)⟩
theorem cl_node {post : Bool → St → Prop} (hU : U = fun i => ub (tp i)) (hX : TX tp n σ) (ha : a ≤ n) (tk : TokX U n a σ) (hk : kwT U n a ≠ 6) (h : XD t P D σ) (hV : VD P D) (kf : ∀ pl kd u, lN' U n D a = .inl (pl, kd) → FPX t σ u → u.1 285 7 = fltV pl kd → post false u) (kt : ∀ D' b u, lN' U n D a = .inr (D', b) → FPX t σ u → XD t P D' u → u.1 285 2 = nI b → post true u) : wX6_readNode 285 1 t σ post := by
  have h1 := tkE_le (U := U) ha
  have hP : 3 ≤ P ∧ P ≤ 97 := ⟨hV.1.1.1, hV.1.1.2.1⟩
  have h2 : σ.1 285 2 = nI (tkE U n a) := tk.2.2.2 (by rw [kw_0 hk]; decide)
  obtain ⟨nc, nmv, nmk, nmn, hN, hp⟩ := h
  unfold lN' at kf kt
  by_cases q : D.2.2.1 < 6
  · rw [if_pos q] at kf kt
    refine c_node hU hX h1.2 h2 hp hN hV q (fun pl kd u e => kf pl kd u (congrArg (mpW (dN D)) e)) (fun nm k b u e f p at_ => ?_)
    obtain ⟨c, c1, c2, c3⟩ := end_ok e
    obtain ⟨r1, r2, r3, r4, r5⟩ := nod_ok hU h1.2 c1
    exact kt (dN D (nm, k)) b u (congrArg (mpW (dN D)) e) f ⟨_, _, _, _, hN.addN r4 r3, p⟩ at_
  · rw [if_neg q] at kf
    unfold wX6_readNode
    rw [hp.2.2.2.2.2.2.2.1.1, show (6 : Int32) = nI 6 from rfl, nI_ltI (by have := hV.2.1.1; omega) (by decide)]
    exact ⟨fun d => absurd d q, fun _ => c_fail (U := U) (n := n) (a := a) (kd := 5) tk.2.1 (fun u f _ g => kf _ _ u rfl f.p g)⟩
theorem cl_wire {post : Bool → St → Prop} (hU : U = fun i => ub (tp i)) (hX : TX tp n σ) (ha : a ≤ n) (tk : TokX U n a σ) (hk : kwT U n a ≠ 6) (h : XD t P D σ) (hV : VD P D) (kf : ∀ pl kd u, lW U n D a = .inl (pl, kd) → FPX t σ u → u.1 285 7 = fltV pl kd → post false u) (kt : ∀ D' b u, lW U n D a = .inr (D', b) → FPX t σ u → XD t P D' u → u.1 285 2 = nI b → post true u) : wX6_readWire 285 1 t σ post := by
  have h1 := tkE_le (U := U) ha
  have hP : 3 ≤ P ∧ P ≤ 97 := ⟨hV.1.1.1, hV.1.1.2.1⟩
  have h2 : σ.1 285 2 = nI (tkE U n a) := tk.2.2.2 (by rw [kw_0 hk]; decide)
  obtain ⟨nc, nmv, nmk, nmn, hN, hp⟩ := h
  unfold lW at kf kt
  by_cases q : D.2.2.2.2.2.2.2.1.1 < 10
  · rw [if_pos q] at kf kt
    refine c_wire hU hX h1.2 h2 hp hN hV q (fun pl kd u e => kf pl kd u (congrArg (mpW (dW D)) e)) (fun x y b u e f p at_ => ?_)
    obtain ⟨c, c1, c2, c3⟩ := end_ok e
    skip
    exact kt (dW D (x, y)) b u (congrArg (mpW (dW D)) e) f ⟨_, _, _, _, hN, p⟩ at_
  · rw [if_neg q] at kf
    unfold wX6_readWire
    rw [hp.2.2.2.2.2.2.2.1.2.1, show (10 : Int32) = nI 10 from rfl, nI_ltI (by have := hV.2.2.1.1; omega) (by decide)]
    exact ⟨fun d => absurd d q, fun _ => c_fail (U := U) (n := n) (a := a) (kd := 5) tk.2.1 (fun u f _ g => kf _ _ u rfl f.p g)⟩
end LI
