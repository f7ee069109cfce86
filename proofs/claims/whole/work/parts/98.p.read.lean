/-! one line, in the reference; all lines -/
section LM
variable {t P : Nat} {σ τ σ' τ' u : St} {tp : Nat → Int32} {n : Nat} {U : Nat → Nat} {a : Nat} {D : PD}
theorem m_247 {X : Type} {x : X} {b : Nat} {post : Bool → St → Prop} (hU : U = fun i => ub (tp i)) (hT : TM tp n u) (hb : b ≤ n) (tb : TokM U n b u) (u9 : u.1 0 9 = 0) (kf : ∀ v, endW U n (Sum.inr (x, b)) = .inl (plF U n b, 1) → FR u v → v.1 0 9 = nI 1 → v.1 0 10 = nI (plF U n b) → post false v) (kt : ∀ v, endW U n (Sum.inr (x, b)) = .inr (x, tkE U n b) → FR u v → TokM U n (tkE U n b) v → v.1 0 9 = 0 → post true v) : wX11_lineHere_247 post 0 (b2i true) u := by
  have r := rk_eq1 (tkK_le (U := U) (n := n) (a := b))
  unfold wX11_lineHere_247 wX11_lineHere_266
  rw [tb.1, r.2.2.1]
  refine ⟨fun q => absurd q (by decide), fun _ => ⟨fun q => ?_, fun q => ?_⟩⟩
  · refine m_must (b := false) (kd := 1) u9 (by simp) (by decide) (by decide) tb.2.1 (fun d => absurd d (by decide)) (fun _ s f g1 g2 => ⟨fun d => absurd d (by decide), fun _ => kf s ?_ f g1 g2⟩)
    show (if endC U n b = 0 then _ else _) = _
    rw [show endC U n b = 1 by unfold endC; rw [if_neg q]]; rfl
  · refine m_must (b := true) (kd := 1) u9 (by simp) (by decide) (by decide) tb.2.1 (fun _ => ⟨fun _ => ?_, fun d => absurd d (by decide)⟩) (fun d => absurd d (by decide))
    refine m_steps hU hT (tkE_le hb).2 (tb.2.2.2.2 (by omega)) (fun s f t2 => kt s ?_ f.r t2 (by rw [f.2.1 9 (by decide) (by decide) (by decide) (by decide)]; exact u9))
    show (if endC U n b = 0 then _ else _) = _
    rw [show endC U n b = 0 by unfold endC; rw [if_pos q]]; rfl
theorem ml_table {post : Bool → St → Prop} (hU : U = fun i => ub (tp i)) (h0 : TM tp n τ) (ha : a ≤ n) (tk : TokM U n a τ) (h9 : τ.1 0 9 = 0) (hk : kwT U n a ≠ 6) (h : MD P D τ) (hV : VD P D) (kf : ∀ pl kd u, lT U n P D a = .inl (pl, kd) → FPM τ u → u.1 0 9 = nI kd → u.1 0 10 = nI pl → post false u) (kt : ∀ D' b u, lT U n P D a = .inr (D', b) → FPM τ u → MD P D' u → TokM U n b u → u.1 0 9 = 0 → post true u) : wX11_lineHere_66 post 0 (0 : Int32) τ := by
  have h1 := tkE_le (U := U) ha
  have hP : 3 ≤ P ∧ P ≤ 97 := ⟨hV.1.1.1, hV.1.1.2.1⟩
  unfold lT at kf kt
  have k0 : ¬ D.1 < 8 → wX11_lineHere_180 post 0 (0 : Int32) (0 : Int32) τ := fun q => by
    rw [if_neg q] at kf
    unfold wX11_lineHere_180
    exact m_must (b := false) (kd := 5) h9 (by simp) (by decide) (by decide) tk.2.1 (fun d => absurd d (by decide)) (fun _ s f g1 g2 => ⟨fun d => absurd d (by decide), fun _ => kf _ _ s rfl f.p g1 g2⟩)
  have k1 : D.1 < 8 → wX11_lineHere_180 post 0 (0 : Int32) (1 : Int32) τ := fun q => by
    rw [if_pos q] at kf kt
    unfold wX11_lineHere_180
    refine m_must (b := true) (kd := 5) h9 (by decide) (by decide) (by decide) tk.2.1 (fun _ => ⟨fun _ => ?_, fun d => absurd d (by decide)⟩) (fun d => absurd d (by decide))
    refine m_steps hU h0 h1.2 (tk.2.2.2.2 (by rw [kw_0 hk]; decide)) (fun s f t2 => ?_)
    have s9 : s.1 0 9 = 0 := by rw [f.2.1 9 (by decide) (by decide) (by decide) (by decide)]; exact h9
    refine ⟨fun d => absurd rfl d, fun _ => ?_⟩
    refine m_table hU (h0.fr f.r) h1.2 t2 s9 (PrM.fr h f.r) hV q (fun pl kd u e f2 g1 g2 => ?_) (fun nm l g b u e f2 p tb u9 => ?_)
    · unfold wX11_lineHere_247
      exact ⟨fun _ => kf pl kd u (congrArg (fun r => mpW (dT D) (endW U n r)) e) (f.r.p.tr f2) g1 g2, fun d => absurd rfl d⟩
    · obtain ⟨r1, _⟩ := tab_ok hU hP h1.2 e
      refine m_247 (x := (nm, l, g)) hU (h0.fp (f.r.p.tr f2)) r1 tb u9 (fun v ev fv g1 g2 => kf _ _ v ?_ ((f.r.p.tr f2).tr fv.p) g1 g2) (fun v ev fv tv v9 => kt (dT D (nm, l, g)) _ v ?_ ((f.r.p.tr f2).tr fv.p) (PrM.fr p fv) tv v9)
      · exact (congrArg (fun r => mpW (dT D) (endW U n r)) e).trans (congrArg (mpW (dT D)) ev)
      · exact (congrArg (fun r => mpW (dT D) (endW U n r)) e).trans (congrArg (mpW (dT D)) ev)
  unfold wX11_lineHere_66 wX11_lineHere_77
  refine ⟨fun d => absurd d (by decide), fun _ => ?_⟩
  refine m_must (b := true) (kd := 1) h9 (by decide) (by decide) (by decide) tk.2.1 (fun _ => ⟨fun _ => ?_, fun d => absurd d (by decide)⟩) (fun d => absurd d (by decide))
  refine ⟨fun d => absurd d (by decide), fun _ => ?_⟩
  · rw [h.1]
    rintro _ rfl
    rw [show τ.1 (0 + 3) (1 : Int32).toNatClampNeg = nI (D.1) from h.2.2.1, show (8 : Int32) = nI 8 from rfl, nI_leI (by decide) (by have := hV.1.2.1; omega)]
    exact ⟨vp_in_nI (n := 1) (by decide) (by decide), fun d => k0 (by omega), fun d => k1 (by omega)⟩
theorem ml_gate {post : Bool → St → Prop} (hU : U = fun i => ub (tp i)) (h0 : TM tp n τ) (ha : a ≤ n) (tk : TokM U n a τ) (h9 : τ.1 0 9 = 0) (hk : kwT U n a ≠ 6) (h : MD P D τ) (hV : VD P D) (kf : ∀ pl kd u, lG U n P D a = .inl (pl, kd) → FPM τ u → u.1 0 9 = nI kd → u.1 0 10 = nI pl → post false u) (kt : ∀ D' b u, lG U n P D a = .inr (D', b) → FPM τ u → MD P D' u → TokM U n b u → u.1 0 9 = 0 → post true u) : wX11_lineHere_66 post 0 (1 : Int32) τ := by
  have h1 := tkE_le (U := U) ha
  have hP : 3 ≤ P ∧ P ≤ 97 := ⟨hV.1.1.1, hV.1.1.2.1⟩
  unfold lG at kf kt
  have k0 : ¬ D.1 < 8 → wX11_lineHere_180 post 0 (1 : Int32) (0 : Int32) τ := fun q => by
    rw [if_neg q] at kf
    unfold wX11_lineHere_180
    exact m_must (b := false) (kd := 5) h9 (by simp) (by decide) (by decide) tk.2.1 (fun d => absurd d (by decide)) (fun _ s f g1 g2 => ⟨fun d => absurd d (by decide), fun _ => kf _ _ s rfl f.p g1 g2⟩)
  have k1 : D.1 < 8 → wX11_lineHere_180 post 0 (1 : Int32) (1 : Int32) τ := fun q => by
    rw [if_pos q] at kf kt
    unfold wX11_lineHere_180
    refine m_must (b := true) (kd := 5) h9 (by decide) (by decide) (by decide) tk.2.1 (fun _ => ⟨fun _ => ?_, fun d => absurd d (by decide)⟩) (fun d => absurd d (by decide))
    refine m_steps hU h0 h1.2 (tk.2.2.2.2 (by rw [kw_0 hk]; decide)) (fun s f t2 => ?_)
    have s9 : s.1 0 9 = 0 := by rw [f.2.1 9 (by decide) (by decide) (by decide) (by decide)]; exact h9
    refine ⟨fun _ => ⟨fun d => absurd rfl d, fun _ => ?_⟩, fun d => absurd d (by decide)⟩
    refine m_gate hU (h0.fr f.r) h1.2 t2 s9 (PrM.fr h f.r) hV q (fun pl kd u e f2 g1 g2 => ?_) (fun nm l g b u e f2 p tb u9 => ?_)
    · unfold wX11_lineHere_247
      exact ⟨fun _ => kf pl kd u (congrArg (fun r => mpW (dT D) (endW U n r)) e) (f.r.p.tr f2) g1 g2, fun d => absurd rfl d⟩
    · obtain ⟨r1, _⟩ := gat_ok hU hP h1.2 e
      refine m_247 (x := (nm, l, g)) hU (h0.fp (f.r.p.tr f2)) r1 tb u9 (fun v ev fv g1 g2 => kf _ _ v ?_ ((f.r.p.tr f2).tr fv.p) g1 g2) (fun v ev fv tv v9 => kt (dT D (nm, l, g)) _ v ?_ ((f.r.p.tr f2).tr fv.p) (PrM.fr p fv) tv v9)
      · exact (congrArg (fun r => mpW (dT D) (endW U n r)) e).trans (congrArg (mpW (dT D)) ev)
      · exact (congrArg (fun r => mpW (dT D) (endW U n r)) e).trans (congrArg (mpW (dT D)) ev)
  unfold wX11_lineHere_66 wX11_lineHere_77
  refine ⟨fun d => absurd d (by decide), fun _ => ?_⟩
  refine m_must (b := true) (kd := 1) h9 (by decide) (by decide) (by decide) tk.2.1 (fun _ => ⟨fun _ => ?_, fun d => absurd d (by decide)⟩) (fun d => absurd d (by decide))
  refine ⟨fun d => absurd d (by decide), fun _ => ?_⟩
  · rw [h.1]
    rintro _ rfl
    rw [show τ.1 (0 + 3) (1 : Int32).toNatClampNeg = nI (D.1) from h.2.2.1, show (8 : Int32) = nI 8 from rfl, nI_leI (by decide) (by have := hV.1.2.1; omega)]
    exact ⟨vp_in_nI (n := 1) (by decide) (by decide), fun d => k0 (by omega), fun d => k1 (by omega)⟩
theorem ml_base {post : Bool → St → Prop} (hU : U = fun i => ub (tp i)) (h0 : TM tp n τ) (ha : a ≤ n) (tk : TokM U n a τ) (h9 : τ.1 0 9 = 0) (hk : kwT U n a ≠ 6) (h : MD P D τ) (hV : VD P D) (kf : ∀ pl kd u, lB U n P D a = .inl (pl, kd) → FPM τ u → u.1 0 9 = nI kd → u.1 0 10 = nI pl → post false u) (kt : ∀ D' b u, lB U n P D a = .inr (D', b) → FPM τ u → MD P D' u → TokM U n b u → u.1 0 9 = 0 → post true u) : wX11_lineHere_66 post 0 (2 : Int32) τ := by
  have h1 := tkE_le (U := U) ha
  have hP : 3 ≤ P ∧ P ≤ 97 := ⟨hV.1.1.1, hV.1.1.2.1⟩
  unfold lB at kf kt
  have k0 : ¬ D.2.1 < 5 → wX11_lineHere_180 post 0 (2 : Int32) (0 : Int32) τ := fun q => by
    rw [if_neg q] at kf
    unfold wX11_lineHere_180
    exact m_must (b := false) (kd := 5) h9 (by simp) (by decide) (by decide) tk.2.1 (fun d => absurd d (by decide)) (fun _ s f g1 g2 => ⟨fun d => absurd d (by decide), fun _ => kf _ _ s rfl f.p g1 g2⟩)
  have k1 : D.2.1 < 5 → wX11_lineHere_180 post 0 (2 : Int32) (1 : Int32) τ := fun q => by
    rw [if_pos q] at kf kt
    unfold wX11_lineHere_180
    refine m_must (b := true) (kd := 5) h9 (by decide) (by decide) (by decide) tk.2.1 (fun _ => ⟨fun _ => ?_, fun d => absurd d (by decide)⟩) (fun d => absurd d (by decide))
    refine m_steps hU h0 h1.2 (tk.2.2.2.2 (by rw [kw_0 hk]; decide)) (fun s f t2 => ?_)
    have s9 : s.1 0 9 = 0 := by rw [f.2.1 9 (by decide) (by decide) (by decide) (by decide)]; exact h9
    refine ⟨fun _ => ⟨fun _ => ⟨fun d => absurd rfl d, fun _ => ?_⟩, fun d => absurd d (by decide)⟩, fun d => absurd d (by decide)⟩
    refine m_base hU (h0.fr f.r) h1.2 t2 s9 (PrM.fr h f.r) hV q (fun pl kd u e f2 g1 g2 => ?_) (fun nm g b u e f2 p tb u9 => ?_)
    · unfold wX11_lineHere_247
      exact ⟨fun _ => kf pl kd u (congrArg (fun r => mpW (dB D) (endW U n r)) e) (f.r.p.tr f2) g1 g2, fun d => absurd rfl d⟩
    · obtain ⟨r1, _⟩ := bas_ok hU hP h1.2 e
      refine m_247 (x := (nm, g)) hU (h0.fp (f.r.p.tr f2)) r1 tb u9 (fun v ev fv g1 g2 => kf _ _ v ?_ ((f.r.p.tr f2).tr fv.p) g1 g2) (fun v ev fv tv v9 => kt (dB D (nm, g)) _ v ?_ ((f.r.p.tr f2).tr fv.p) (PrM.fr p fv) tv v9)
      · exact (congrArg (fun r => mpW (dB D) (endW U n r)) e).trans (congrArg (mpW (dB D)) ev)
      · exact (congrArg (fun r => mpW (dB D) (endW U n r)) e).trans (congrArg (mpW (dB D)) ev)
  unfold wX11_lineHere_66 wX11_lineHere_77
  refine ⟨fun d => absurd d (by decide), fun _ => ?_⟩
  refine m_must (b := true) (kd := 1) h9 (by decide) (by decide) (by decide) tk.2.1 (fun _ => ⟨fun _ => ?_, fun d => absurd d (by decide)⟩) (fun d => absurd d (by decide))
  refine ⟨fun _ => ⟨fun d => absurd rfl d, fun _ => ?_⟩, fun d => absurd (by decide) d⟩
  · rw [h.1]
    rintro _ rfl
    rw [show τ.1 (0 + 4) (1 : Int32).toNatClampNeg = nI (D.2.1) from h.2.2.2.1, show (5 : Int32) = nI 5 from rfl, nI_leI (by decide) (by have := hV.1.2.2.1; omega)]
    exact ⟨vp_in_nI (n := 1) (by decide) (by decide), fun d => k0 (by omega), fun d => k1 (by omega)⟩
theorem ml_node {post : Bool → St → Prop} (hU : U = fun i => ub (tp i)) (h0 : TM tp n τ) (ha : a ≤ n) (tk : TokM U n a τ) (h9 : τ.1 0 9 = 0) (hk : kwT U n a ≠ 6) (h : MD P D τ) (hV : VD P D) (kf : ∀ pl kd u, lN' U n D a = .inl (pl, kd) → FPM τ u → u.1 0 9 = nI kd → u.1 0 10 = nI pl → post false u) (kt : ∀ D' b u, lN' U n D a = .inr (D', b) → FPM τ u → MD P D' u → TokM U n b u → u.1 0 9 = 0 → post true u) : wX11_lineHere_66 post 0 (3 : Int32) τ := by
  have h1 := tkE_le (U := U) ha
  have hP : 3 ≤ P ∧ P ≤ 97 := ⟨hV.1.1.1, hV.1.1.2.1⟩
  unfold lN' at kf kt
  have k0 : ¬ D.2.2.1 < 6 → wX11_lineHere_180 post 0 (3 : Int32) (0 : Int32) τ := fun q => by
    rw [if_neg q] at kf
    unfold wX11_lineHere_180
    exact m_must (b := false) (kd := 5) h9 (by simp) (by decide) (by decide) tk.2.1 (fun d => absurd d (by decide)) (fun _ s f g1 g2 => ⟨fun d => absurd d (by decide), fun _ => kf _ _ s rfl f.p g1 g2⟩)
  have k1 : D.2.2.1 < 6 → wX11_lineHere_180 post 0 (3 : Int32) (1 : Int32) τ := fun q => by
    rw [if_pos q] at kf kt
    unfold wX11_lineHere_180
    refine m_must (b := true) (kd := 5) h9 (by decide) (by decide) (by decide) tk.2.1 (fun _ => ⟨fun _ => ?_, fun d => absurd d (by decide)⟩) (fun d => absurd d (by decide))
    refine m_steps hU h0 h1.2 (tk.2.2.2.2 (by rw [kw_0 hk]; decide)) (fun s f t2 => ?_)
    have s9 : s.1 0 9 = 0 := by rw [f.2.1 9 (by decide) (by decide) (by decide) (by decide)]; exact h9
    refine ⟨fun _ => ⟨fun _ => ⟨fun _ => ⟨fun d => absurd rfl d, fun _ => ?_⟩, fun d => absurd d (by decide)⟩, fun d => absurd d (by decide)⟩, fun d => absurd d (by decide)⟩
    refine m_node hU (h0.fr f.r) h1.2 t2 s9 (PrM.fr h f.r) hV q (fun pl kd u e f2 g1 g2 => ?_) (fun nm k b u e f2 p tb u9 => ?_)
    · unfold wX11_lineHere_247
      exact ⟨fun _ => kf pl kd u (congrArg (fun r => mpW (dN D) (endW U n r)) e) (f.r.p.tr f2) g1 g2, fun d => absurd rfl d⟩
    · obtain ⟨r1, _⟩ := nod_ok hU h1.2 e
      refine m_247 (x := (nm, k)) hU (h0.fp (f.r.p.tr f2)) r1 tb u9 (fun v ev fv g1 g2 => kf _ _ v ?_ ((f.r.p.tr f2).tr fv.p) g1 g2) (fun v ev fv tv v9 => kt (dN D (nm, k)) _ v ?_ ((f.r.p.tr f2).tr fv.p) (PrM.fr p fv) tv v9)
      · exact (congrArg (fun r => mpW (dN D) (endW U n r)) e).trans (congrArg (mpW (dN D)) ev)
      · exact (congrArg (fun r => mpW (dN D) (endW U n r)) e).trans (congrArg (mpW (dN D)) ev)
  unfold wX11_lineHere_66 wX11_lineHere_77
  refine ⟨fun d => absurd d (by decide), fun _ => ?_⟩
  refine m_must (b := true) (kd := 1) h9 (by decide) (by decide) (by decide) tk.2.1 (fun _ => ⟨fun _ => ?_, fun d => absurd d (by decide)⟩) (fun d => absurd d (by decide))
  refine ⟨fun _ => ⟨fun _ => ⟨fun d => absurd rfl d, fun _ => ?_⟩, fun d => absurd d (by decide)⟩, fun d => absurd (by decide) d⟩
  · rw [h.1]
    rintro _ rfl
    rw [show τ.1 (0 + 5) (1 : Int32).toNatClampNeg = nI (D.2.2.1) from h.2.2.2.2.1, show (6 : Int32) = nI 6 from rfl, nI_leI (by decide) (by have := hV.2.1.1; omega)]
    exact ⟨vp_in_nI (n := 1) (by decide) (by decide), fun d => k0 (by omega), fun d => k1 (by omega)⟩
theorem ml_wire {post : Bool → St → Prop} (hU : U = fun i => ub (tp i)) (h0 : TM tp n τ) (ha : a ≤ n) (tk : TokM U n a τ) (h9 : τ.1 0 9 = 0) (hk : kwT U n a ≠ 6) (h : MD P D τ) (hV : VD P D) (kf : ∀ pl kd u, lW U n D a = .inl (pl, kd) → FPM τ u → u.1 0 9 = nI kd → u.1 0 10 = nI pl → post false u) (kt : ∀ D' b u, lW U n D a = .inr (D', b) → FPM τ u → MD P D' u → TokM U n b u → u.1 0 9 = 0 → post true u) : wX11_lineHere_66 post 0 (4 : Int32) τ := by
  have h1 := tkE_le (U := U) ha
  have hP : 3 ≤ P ∧ P ≤ 97 := ⟨hV.1.1.1, hV.1.1.2.1⟩
  unfold lW at kf kt
  have k0 : ¬ D.2.2.2.2.2.2.2.1.1 < 10 → wX11_lineHere_180 post 0 (4 : Int32) (0 : Int32) τ := fun q => by
    rw [if_neg q] at kf
    unfold wX11_lineHere_180
    exact m_must (b := false) (kd := 5) h9 (by simp) (by decide) (by decide) tk.2.1 (fun d => absurd d (by decide)) (fun _ s f g1 g2 => ⟨fun d => absurd d (by decide), fun _ => kf _ _ s rfl f.p g1 g2⟩)
  have k1 : D.2.2.2.2.2.2.2.1.1 < 10 → wX11_lineHere_180 post 0 (4 : Int32) (1 : Int32) τ := fun q => by
    rw [if_pos q] at kf kt
    unfold wX11_lineHere_180
    refine m_must (b := true) (kd := 5) h9 (by decide) (by decide) (by decide) tk.2.1 (fun _ => ⟨fun _ => ?_, fun d => absurd d (by decide)⟩) (fun d => absurd d (by decide))
    refine m_steps hU h0 h1.2 (tk.2.2.2.2 (by rw [kw_0 hk]; decide)) (fun s f t2 => ?_)
    have s9 : s.1 0 9 = 0 := by rw [f.2.1 9 (by decide) (by decide) (by decide) (by decide)]; exact h9
    refine ⟨fun _ => ⟨fun _ => ⟨fun _ => ⟨fun _ => ?_, fun d => absurd d (by decide)⟩, fun d => absurd d (by decide)⟩, fun d => absurd d (by decide)⟩, fun d => absurd d (by decide)⟩
    refine m_wire hU (h0.fr f.r) h1.2 t2 s9 (PrM.fr h f.r) hV q (fun pl kd u e f2 g1 g2 => ?_) (fun x y b u e f2 p tb u9 => ?_)
    · unfold wX11_lineHere_247
      exact ⟨fun _ => kf pl kd u (congrArg (fun r => mpW (dW D) (endW U n r)) e) (f.r.p.tr f2) g1 g2, fun d => absurd rfl d⟩
    · obtain ⟨r1, _⟩ := wir_ok h1.2 hV.2.1.1 hV.ll e
      refine m_247 (x := (x, y)) hU (h0.fp (f.r.p.tr f2)) r1 tb u9 (fun v ev fv g1 g2 => kf _ _ v ?_ ((f.r.p.tr f2).tr fv.p) g1 g2) (fun v ev fv tv v9 => kt (dW D (x, y)) _ v ?_ ((f.r.p.tr f2).tr fv.p) (PrM.fr p fv) tv v9)
      · exact (congrArg (fun r => mpW (dW D) (endW U n r)) e).trans (congrArg (mpW (dW D)) ev)
      · exact (congrArg (fun r => mpW (dW D) (endW U n r)) e).trans (congrArg (mpW (dW D)) ev)
  unfold wX11_lineHere_66 wX11_lineHere_77
  refine ⟨fun d => absurd d (by decide), fun _ => ?_⟩
  refine m_must (b := true) (kd := 1) h9 (by decide) (by decide) (by decide) tk.2.1 (fun _ => ⟨fun _ => ?_, fun d => absurd d (by decide)⟩) (fun d => absurd d (by decide))
  refine ⟨fun _ => ⟨fun _ => ⟨fun _ => ?_, fun d => absurd d (by decide)⟩, fun d => absurd d (by decide)⟩, fun d => absurd (by decide) d⟩
  · rw [h.2.2.2.2.2.2.2.2.1, show (10 : Int32) = nI 10 from rfl, nI_leI (by decide) (by have := hV.2.2.1.1; omega)]
    exact ⟨fun d => k0 (by omega), fun d => k1 (by omega)⟩
theorem m_line {post : Bool → St → Prop} (hU : U = fun i => ub (tp i)) (h0 : TM tp n τ) (ha : a ≤ n) (tk : TokM U n a τ) (h9 : τ.1 0 9 = 0) (h : MD P D τ) (hV : VD P D) (kf : ∀ pl kd u, linL U n P D a = .inl (pl, kd) → FPM τ u → u.1 0 9 = nI kd → u.1 0 10 = nI pl → post false u) (kt : ∀ D' b u, linL U n P D a = .inr (D', b) → FPM τ u → MD P D' u → TokM U n b u → u.1 0 9 = 0 → post true u) : wX11_lineHere 0 τ post := by
  unfold linL at kf kt
  unfold wX11_lineHere
  refine m_is hU ha (by decide) tk ⟨fun q1 => ?_, fun q1 => ?_⟩
  · have q1 := of_decide_eq_false q1
    rw [if_neg q1] at kf kt
    refine m_is hU ha (by decide) tk ⟨fun q2 => ?_, fun q2 => ?_⟩
    · have q2 := of_decide_eq_false q2
      rw [if_neg q2] at kf kt
      refine m_is hU ha (by decide) tk ⟨fun q3 => ?_, fun q3 => ?_⟩
      · have q3 := of_decide_eq_false q3
        rw [if_neg q3] at kf kt
        refine m_is hU ha (by decide) tk ⟨fun q4 => ?_, fun q4 => ?_⟩
        · have q4 := of_decide_eq_false q4
          rw [if_neg q4] at kf kt
          refine m_is hU ha (by decide) tk ⟨fun q5 => ?_, fun q5 => ?_⟩
          · have q5 := of_decide_eq_false q5
            rw [if_neg q5] at kf
            unfold wX11_lineHere_66 wX11_lineHere_77
            refine ⟨fun _ => ?_, fun d => absurd (by decide) d⟩
            exact m_must (b := false) (kd := 1) h9 (by simp) (by decide) (by decide) tk.2.1 (fun d => absurd d (by decide)) (fun _ s f g1 g2 => ⟨fun d => absurd d (by decide), fun _ => kf _ _ s rfl f.p g1 g2⟩)
          · have q5 := of_decide_eq_true q5
            rw [if_pos q5] at kf kt
            exact ml_wire hU h0 ha tk h9 (by omega) h hV kf kt
        · have q4 := of_decide_eq_true q4
          rw [if_pos q4] at kf kt
          exact ml_node hU h0 ha tk h9 (by omega) h hV kf kt
      · have q3 := of_decide_eq_true q3
        rw [if_pos q3] at kf kt
        exact ml_base hU h0 ha tk h9 (by omega) h hV kf kt
    · have q2 := of_decide_eq_true q2
      rw [if_pos q2] at kf kt
      exact ml_gate hU h0 ha tk h9 (by omega) h hV kf kt
  · have q1 := of_decide_eq_true q1
    rw [if_pos q1] at kf kt
    exact ml_table hU h0 ha tk h9 (by omega) h hV kf kt
def rdL (U : Nat → Nat) (n P : Nat) : Nat → Nat → PD → Nat → (Nat × Nat) ⊕ (PD × Nat)
  | 0, _, D, c => .inr (D, c)
  | m + 1, a, D, c => if tkK U n a = 3 then .inr (D, c) else (match linL U n P D a with
    | .inl f => .inl f
    | .inr (D', b) => rdL U n P m b D' (c + 1))
theorem m_read {post : Int32 → St → Prop} (hU : U = fun i => ub (tp i)) : ∀ (m a : Nat) (D : PD) (c : Nat) (s : St), n - a < m → a ≤ n → TM tp n s → TokM U n a s → s.1 0 9 = 0 → MD P D s → VD P D → (∀ pl kd x u, rdL U n P m a D c = .inl (pl, kd) → FPM s u → u.1 0 9 = nI kd → u.1 0 10 = nI pl → wX11_net_151 post 0 x 0 u) → (∀ D' c' u, rdL U n P m a D c = .inr (D', c') → FPM s u → MD P D' u → VD P D' → wX11_net_151 post 0 (nI c') 1 u) → wX11_net_129 post (m + 1) 0 (nI c) (1 : Int32) s := by
  intro m
  induction m with
  | zero => intro a D c s hm; omega
  | succ m ih =>
    intro a D c s hm ha hT tk h9 h hV kf kt
    have r := rk_eq1 (tkK_le (U := U) (n := n) (a := a))
    rw [rdL] at kf kt
    unfold wX11_net_129
    rw [tk.1, r.2.2.2]
    refine ⟨fun d => absurd d (by decide), fun _ => ⟨fun q => ?_, fun q => ?_⟩⟩
    · rw [if_pos q] at kt
      exact kt D c s rfl (FPM.rf s) h hV
    · rw [if_neg q] at kf kt
      refine m_line hU hT ha tk h9 h hV (fun pl kd u e f g1 g2 => ?_) (fun D' b u e f p tb u9 => ?_)
      · rintro _ rfl
        unfold wX11_net_129
        refine ⟨fun _ => kf pl kd _ u ?_ f g1 g2, fun d => absurd rfl d⟩
        rw [e]
      · rintro _ rfl
        obtain ⟨l1, l2, l3⟩ := lin_ok hU ha hV e
        rw [nI_1]
        exact ih b D' (c + 1) u (by omega) l2 (hT.fp f) tb u9 p l3 (fun pl kd x v ev fv => kf pl kd x v (by rw [e]; exact ev) (f.tr fv)) (fun D'' c' v ev fv => kt D'' c' v (by rw [e]; exact ev) (f.tr fv))
theorem c_read {post : Int32 → St → Prop} (hU : U = fun i => ub (tp i)) : ∀ (m a : Nat) (D : PD) (c v5 : Nat) (s : St), n - a < m → a ≤ n → v5 ≤ a → TX tp n s → TokX U n a s → XD t P D s → VD P D → (∀ pl kd u, rdL U n P m a D c = .inl (pl, kd) → FPX t s u → post (fltV pl kd) u) → (∀ D' c' u, rdL U n P m a D c = .inr (D', c') → FPX t s u → XD t P D' u → VD P D' → post (nI c') u) → wX6_read_64 post m 285 1 t (nI c) (nI v5) s := by
  intro m
  induction m with
  | zero => intro a D c v5 s hm; omega
  | succ m ih =>
    intro a D c v5 s hm ha h5 hT tk h hV kf kt
    have hk := tkK_le (U := U) (n := n) (a := a)
    have hkw := kwT_le (U := U) (n := n) (a := a)
    have hn := hT.1
    obtain ⟨nc, nmv, nmk, nmn, hN, hp⟩ := id h
    have ht0 := hp.1
    rw [rdL] at kf kt
    unfold wX6_read_64
    rw [tk.1, show (3 : Int32) = nI 3 from rfl, nI_eq (by omega) (by decide)]
    refine ⟨fun d => absurd ((nI_ltI (a := 700) (by decide) (by omega)).mp d) (by omega), fun _ => ⟨fun q => ?_, fun q => ?_⟩⟩
    · rw [if_pos q] at kt
      exact kt D c s rfl (FPX.rf t s) h hV
    · rw [if_neg q] at kf kt
      have bad : ∀ pl kd u, linL U n P D a = .inl (pl, kd) → FPX t s u → u.1 285 7 = fltV pl kd → wX6_read_182 post (wX6_read_64 post m) 285 1 t (nI c) (nI v5) (b2i false) u := fun pl kd u e f g => by
        unfold wX6_read_182
        refine ⟨fun d => absurd rfl d, fun _ => ?_⟩
        rw [g]
        exact kf pl kd u (by rw [e]) f
      have good : ∀ D' b u, linL U n P D a = .inr (D', b) → FPX t s u → XD t P D' u → u.1 285 2 = nI b → wX6_read_182 post (wX6_read_64 post m) 285 1 t (nI c) (nI v5) (b2i true) u := fun D' b u e f p g => by
        obtain ⟨l1, l2, l3⟩ := lin_ok hU ha hV e
        unfold wX6_read_182
        refine ⟨fun _ => ?_, fun d => absurd d (by decide)⟩
        rintro _ rfl
        refine c_advance hU (hT.fp ht0 f) l2 g (fun v fv tv => ?_)
        rintro _ rfl
        rw [nI_1, nI_1]
        obtain ⟨nc', nmv', nmk', nmn', hN', hp'⟩ := p
        exact ih b D' (c + 1) (v5 + 1) v (by omega) l2 (by omega) (hT.fp ht0 (f.tr fv.c.p)) tv ⟨nc', nmv', nmk', nmn', hN', hp'.fc l3.1.2.1 l3.1.2.2.1 l3.2.1.1 fv.c⟩ l3 (fun pl kd x ev fx => kf pl kd x (by rw [e]; exact ev) (f.tr (fv.c.p.tr fx))) (fun D'' c' x ev fx => kt D'' c' x (by rw [e]; exact ev) (f.tr (fv.c.p.tr fx)))
      unfold linL at bad good
      refine c_keyword hU ha hp.2.2.2.2.2.2.2.2.2.2 tk ?_
      have kq : ∀ j, j < 6 → ((if kwT U n a = 6 then (-1 : Int32) else nI (kwT U n a)) = nI j ↔ kwT U n a = j) := fun j hj => by
        by_cases d : kwT U n a = 6
        · rw [if_pos d]
          refine ⟨fun e => ?_, fun e => by omega⟩
          have := congrArg Int32.toInt e
          rw [nI_toInt (by omega)] at this
          have z : (-1 : Int32).toInt = -1 := rfl
          omega
        · rw [if_neg d, nI_eq (by omega) (by omega)]
      have kq1 : (if kwT U n a = 6 then (-1 : Int32) else nI (kwT U n a)) = (1 : Int32) ↔ kwT U n a = 1 := kq 1 (by decide)
      have kq2 : (if kwT U n a = 6 then (-1 : Int32) else nI (kwT U n a)) = (2 : Int32) ↔ kwT U n a = 2 := kq 2 (by decide)
      have kq4 : (if kwT U n a = 6 then (-1 : Int32) else nI (kwT U n a)) = (4 : Int32) ↔ kwT U n a = 4 := kq 4 (by decide)
      have kq5 : (if kwT U n a = 6 then (-1 : Int32) else nI (kwT U n a)) = (5 : Int32) ↔ kwT U n a = 5 := kq 5 (by decide)
      rw [kq1, kq2, kq 3 (by decide), kq4, kq5]
      refine ⟨fun q1 => ?_, fun q1 => ⟨fun q2 => ?_, fun q2 => ⟨fun q3 => ?_, fun q3 => ⟨fun q4 => ?_, fun q4 => ⟨fun q5 => ?_, fun q5 => ?_⟩⟩⟩⟩⟩
      · rw [if_pos q1] at bad good
        exact cl_table hU hT ha tk (by omega) h hV bad good
      · rw [if_neg q1, if_pos q2] at bad good
        exact cl_gate hU hT ha tk (by omega) h hV bad good
      · rw [if_neg q1, if_neg q2, if_pos q3] at bad good
        exact cl_base hU hT ha tk (by omega) h hV bad good
      · rw [if_neg q1, if_neg q2, if_neg q3, if_pos q4] at bad good
        exact cl_node hU hT ha tk (by omega) h hV bad good
      · rw [if_neg q1, if_neg q2, if_neg q3, if_neg q4, if_pos q5] at bad good
        exact cl_wire hU hT ha tk (by omega) h hV bad good
      · rw [if_neg q1, if_neg q2, if_neg q3, if_neg q4, if_neg q5] at bad
        exact c_fail (U := U) (n := n) (a := a) (kd := 1) tk.2.1 (fun u f _ g => bad _ _ u rfl f.p g)
end LM
