/-! units of a line, on both sides -/
def PK (k : Nat) : Nat := [6591876, 21006725, 231045, 67173, 474245, 763461].getD k 0
theorem pk_PK : ∀ k, k < 6 → pk k = nI (PK k) := by decide
theorem spl_PK : ∀ k, k < 6 → spl k = lN (PK k) := by decide
theorem PK_lt : ∀ k, k < 6 → PK k < 2 ^ 30 := by decide
theorem PK_inj : ∀ k, k < 6 → ∀ k', k' < 6 → PK k = PK k' → k = k' := by decide
def kwF (W : Nat) : Nat := fa_first (fun k => decide (PK k = W)) 6
def kwT (U : Nat → Nat) (n a : Nat) : Nat := if tkK U n a = 0 then kwF (tkV U n a) else 6
theorem kwF_at {k W : Nat} (hk : k < 6) : PK k = W ↔ kwF W = k := by
  unfold kwF
  constructor
  · intro e
    have hle : fa_first (fun k => decide (PK k = W)) 6 ≤ k := by
      apply Nat.le_of_not_lt
      intro q
      have := fa_first_no _ _ _ q
      simp [e] at this
    have hy := of_decide_eq_true (fa_first_yes (fun k => decide (PK k = W)) 6 (by omega))
    exact PK_inj _ (by omega) _ hk (hy.trans e.symm)
  · intro e
    have hy := of_decide_eq_true (fa_first_yes (fun k => decide (PK k = W)) 6 (by omega))
    rw [e] at hy
    exact hy
def numC (U : Nat → Nat) (n a lo hi : Nat) : Nat := if tkK U n a = 1 then (if lo ≤ tkV U n a ∧ tkV U n a ≤ hi then 0 else 4) else 1
def newC (U : Nat → Nat) (n a : Nat) (us : Nat → Bool) : Nat := if kwT U n a = 6 ∧ tkK U n a = 0 then (if us (tkV U n a) then 2 else 0) else 1
def knC (U : Nat → Nat) (n a : Nat) (fd : Nat → Bool) : Nat := if kwT U n a = 6 ∧ tkK U n a = 0 then (if fd (tkV U n a) then 0 else 3) else 1
def endC (U : Nat → Nat) (n a : Nat) : Nat := if tkK U n a = 2 then 0 else 1
def fltV (pl kd : Nat) : Int32 := (-2 : Int32) - (nI (8 * pl + kd))
def FC (σ s : St) : Prop := (∀ o, o ≠ 285 → s.1 o = σ.1 o) ∧ ∀ j, j ≠ 2 → j ≠ 4 → j ≠ 5 → j ≠ 6 → j ≠ 7 → s.1 285 j = σ.1 285 j
theorem FC.rf (σ : St) : FC σ σ := ⟨fun _ _ => rfl, fun _ _ _ _ _ _ => rfl⟩
theorem FC.tr {a b c : St} (h : FC a b) (h2 : FC b c) : FC a c := ⟨fun o ho => by rw [h2.1 o ho, h.1 o ho], fun j h3 h4 h5 h6 h7 => by rw [h2.2 j h3 h4 h5 h6 h7, h.2 j h3 h4 h5 h6 h7]⟩
theorem FA.c {a b : St} (h : FA a b) : FC a b := ⟨h.1, fun j h2 h4 h5 h6 _ => h.2 j h2 h4 h5 h6⟩
theorem FC.u {σ : St} {j : Nat} {x : Int32} (h : j = 2 ∨ j = 4 ∨ j = 5 ∨ j = 6 ∨ j = 7) : FC σ (u1 σ 285 j x) := ⟨fun o ho => u1_n ho, fun i h2 h4 h5 h6 h7 => by rw [u1_s, pk_un (by omega)]⟩
theorem TX.fc {tp : Nat → Int32} {n : Nat} {σ s : St} (h : TX tp n σ) (f : FC σ s) : TX tp n s := ⟨h.1, h.2.1, fun i hi => by rw [f.1 1 (by decide)]; exact h.2.2.1 i hi, by rw [f.2 3 (by decide) (by decide) (by decide) (by decide) (by decide)]; exact h.2.2.2⟩
def FR (τ s : St) : Prop := (∀ o, o ≠ 0 → s.1 o = τ.1 o) ∧ (∀ j, (j < 4 ∨ j = 8 ∨ 12 ≤ j) → j ≠ 29 → s.1 0 j = τ.1 0 j) ∧ (∀ o, o ≠ 0 → s.2 o = τ.2 o)
theorem FR.rf (τ : St) : FR τ τ := ⟨fun _ _ => rfl, fun _ _ _ => rfl, fun _ _ => rfl⟩
theorem FR.tr {a b c : St} (h : FR a b) (h2 : FR b c) : FR a c := ⟨fun o ho => by rw [h2.1 o ho, h.1 o ho], fun j h3 h4 => by rw [h2.2.1 j h3 h4, h.2.1 j h3 h4], fun o ho => by rw [h2.2.2 o ho, h.2.2 o ho]⟩
theorem FS.r {a b : St} (h : FS a b) : FR a b := ⟨h.1, fun j h1 h2 => h.2.1 j (by omega) (by omega) (by omega) (by omega), h.2.2.1⟩
theorem FR.u {τ : St} {j : Nat} {x : Int32} (h : (4 ≤ j ∧ j ≤ 7) ∨ j = 9 ∨ j = 10 ∨ j = 11 ∨ j = 29) : FR τ (u1 τ 0 j x) := ⟨fun o ho => u1_n ho, fun i h1 h2 => by rw [u1_s, pk_un (by omega)], fun _ _ => rfl⟩
theorem FR.v {τ : St} {j : Nat} {x : Int64} : FR τ (u2 τ 0 j x) := ⟨fun _ _ => rfl, fun _ _ _ => rfl, fun o ho => u2_n ho⟩
theorem TM.fr {tp : Nat → Int32} {n : Nat} {τ s : St} (h : TM tp n τ) (f : FR τ s) : TM tp n s := ⟨h.1, h.2.1, fun i hi => by rw [f.1 1 (by decide)]; exact h.2.2.1 i hi, by rw [f.2.1 3 (by omega) (by decide)]; exact h.2.2.2⟩
section UN
variable {tp : Nat → Int32} {n : Nat} {U : Nat → Nat} {σ τ : St} {a : Nat}
theorem c_fail {kd : Nat} {post : Bool → St → Prop} (h5 : σ.1 285 5 = nI (plF U n a)) (k : ∀ u, FC σ u → (∀ j, j ≠ 7 → u.1 285 j = σ.1 285 j) → u.1 285 7 = fltV (plF U n a) kd → post false u) : wX6_fail 285 (nI kd) σ post := by
  unfold wX6_fail
  rw [h5, show (8 : Int32) = nI 8 from rfl, pk_mul, nI_add]
  rintro _ rfl
  exact k _ (FC.u (by decide)) (fun j hj => by rw [u1_s, pk_un hj]) (by rw [u1_s, pk_us]; rfl)
theorem c_isNum {lo hi : Nat} {x : Int32} {post : Bool → St → Prop} (hn : n ≤ 700) (ha : a ≤ n) (h : TokX U n a σ) (hlo : lo < 2 ^ 31) (hx : x.toInt = (hi : Int)) (hhi : hi < 2 ^ 31) (k : ∀ u, FC σ u → (∀ j, j ≠ 7 → u.1 285 j = σ.1 285 j) → (numC U n a lo hi ≠ 0 → u.1 285 7 = fltV (plF U n a) (numC U n a lo hi)) → post (decide (numC U n a lo hi = 0)) u) : wX6_isNumber 285 (nI lo) x σ post := by
  have hx2 : x = nI hi := Int32.toInt_inj.mp (by rw [hx, nI_toInt hhi])
  subst hx2
  have hk := tkK_le (U := U) (n := n) (a := a)
  unfold wX6_isNumber wX6_isNumber_30
  rw [h.1, show (1 : Int32) = nI 1 from rfl, nI_eq (by omega) (by decide)]
  refine ⟨fun q => ?_, fun q => ?_⟩
  · have hv := tkV_num ha q
    rw [h.2.2.1 (by omega), nI_ltI (by omega) hlo, nI_leI (by omega) hhi]
    have bad : numC U n a lo hi = 4 → wX6_fail 285 (4 : Int32) σ (fun r1 s1 => (r1 = false → post false s1) ∧ (r1 = true → post true s1)) := fun e => by
      refine c_fail (kd := 4) h.2.1 (fun u f1 f2 f3 => ⟨fun _ => ?_, fun c => absurd c (by decide)⟩)
      have k := k u f1 f2 (fun _ => by rw [e]; exact f3)
      rw [e] at k
      exact k
    have e : numC U n a lo hi = if lo ≤ tkV U n a ∧ tkV U n a ≤ hi then 0 else 4 := by unfold numC; rw [if_pos q]
    refine ⟨fun c => bad (by rw [e, if_neg (by omega)]), fun c => ⟨fun c2 => ?_, fun c2 => bad (by rw [e, if_neg (by omega)])⟩⟩
    have e0 : numC U n a lo hi = 0 := by rw [e, if_pos (by omega)]
    have k := k σ (FC.rf σ) (fun _ _ => rfl) (fun d => absurd e0 d)
    rw [e0] at k
    exact k
  · have e : numC U n a lo hi = 1 := by unfold numC; rw [if_neg q]
    refine c_fail (kd := 1) h.2.1 (fun u f1 f2 f3 => ?_)
    have k := k u f1 f2 (fun _ => by rw [e]; exact f3)
    rw [e] at k
    exact k
theorem num_ok {lo hi : Nat} (h : numC U n a lo hi = 0) : tkK U n a = 1 ∧ lo ≤ tkV U n a ∧ tkV U n a ≤ hi := by
  unfold numC at h
  by_cases c : tkK U n a = 1
  · rw [if_pos c] at h
    by_cases d : lo ≤ tkV U n a ∧ tkV U n a ≤ hi
    · exact ⟨c, d⟩
    · rw [if_neg d] at h; omega
  · rw [if_neg c] at h; omega
theorem c_num {lo hi : Nat} {x : Int32} {post : Bool → St → Prop} (hU : U = fun i => ub (tp i)) (h0 : TX tp n σ) (ha : a ≤ n) (h2 : σ.1 285 2 = nI a) (hlo : lo < 2 ^ 31) (hx : x.toInt = (hi : Int)) (hhi : hi < 2 ^ 31) (k : ∀ u, FC σ u → (numC U n a lo hi = 0 → u.1 285 2 = nI (tkE U n a) ∧ u.1 285 6 = nI (tkV U n a)) → (numC U n a lo hi ≠ 0 → u.1 285 7 = fltV (plF U n a) (numC U n a lo hi)) → post (decide (numC U n a lo hi = 0)) u) : wX6_takeNumber 285 1 (nI lo) x σ post := by
  unfold wX6_takeNumber
  refine c_advance hU h0 ha h2 (fun s f t => c_isNum h0.1 ha t hlo hx hhi (fun u f1 f2 f3 => k u (f.c.tr f1) (fun e => ?_) f3))
  obtain ⟨k1, _⟩ := num_ok e
  exact ⟨by rw [f2 2 (by decide)]; exact t.2.2.2 (by omega), by rw [f2 6 (by decide)]; exact t.2.2.1 (by omega)⟩
theorem c_end {post : Bool → St → Prop} (hU : U = fun i => ub (tp i)) (h0 : TX tp n σ) (ha : a ≤ n) (h2 : σ.1 285 2 = nI a) (k : ∀ u, FC σ u → (endC U n a = 0 → u.1 285 2 = nI (tkE U n a)) → (endC U n a ≠ 0 → u.1 285 7 = fltV (plF U n a) (endC U n a)) → post (decide (endC U n a = 0)) u) : wX6_takeEnd 285 1 σ post := by
  unfold wX6_takeEnd
  refine c_advance hU h0 ha h2 (fun s f t => ?_)
  have hk := tkK_le (U := U) (n := n) (a := a)
  rw [t.1, show (2 : Int32) = nI 2 from rfl, nI_eq (by omega) (by decide)]
  refine ⟨fun q => ?_, fun q => c_fail (kd := 1) t.2.1 (fun u f1 f2 f3 => ⟨fun _ => ?_, fun c => absurd c (by decide)⟩)⟩
  · have e : endC U n a = 0 := by unfold endC; rw [if_pos q]
    have k := k s f.c (fun _ => t.2.2.2 (by omega)) (fun c => absurd e c)
    rw [e] at k
    exact k
  · have e : endC U n a = 1 := by unfold endC; rw [if_neg q]
    have k := k u (f.c.tr f1) (fun c => by omega) (fun _ => by rw [e]; exact f3)
    rw [e] at k
    exact k
theorem c_keyword {post : Int32 → St → Prop} (hU : U = fun i => ub (tp i)) (ha : a ≤ n) (hk : ∀ k, k < 6 → σ.1 290 k = pk k) (t : TokX U n a σ) (k : post (if kwT U n a = 6 then -1 else nI (kwT U n a)) σ) : wX6_keyword 285 σ post := by
  have hU2 : ∀ i, U i < 256 := fun i => by rw [hU]; exact ub_lt _
  have hk4 := tkK_le (U := U) (n := n) (a := a)
  unfold wX6_keyword
  rw [t.1, show (0 : Int32) = nI 0 from rfl, nI_eq (by omega) (by decide)]
  refine ⟨fun q => ?_, fun q => ?_⟩
  · have e : kwT U n a = 6 := by unfold kwT; rw [if_neg q]
    rw [if_pos e] at k
    exact k
  · have hv := tkV_word hU2 ha q
    have e : kwT U n a = kwF (tkV U n a) := by unfold kwT; rw [if_pos q]
    have hle : kwF (tkV U n a) ≤ 6 := fa_first_le _ _
    rw [e] at k
    refine loop_0 (fun j i (_ : Unit) => wX6_keyword_9 post j 285 (nI i) σ) (fun i _ => i ≤ kwF (tkV U n a)) 6 () (Nat.zero_le _) ?_ ?_
    · rintro j _ hI
      unfold wX6_keyword_9
      rw [if_pos (by omega)] at k
      exact ⟨fun _ => k, fun q => absurd (nI_le (Nat.le_refl _) (by decide)) q⟩
    · rintro j i _ hi hI ih
      unfold wX6_keyword_9
      have hp := PK_lt i hi
      rw [nI_clamp (by omega), show σ.1 (285 + 5) i = pk i from hk i hi, pk_PK i hi, t.2.2.1 (by omega), nI_eq (by omega) (by omega), kwF_at hi]
      refine ⟨fun q => absurd q (nI_ge hi (by decide)), fun _ => ⟨vp_in_nI hi (by decide), fun c => ?_, fun c => ?_⟩⟩
      · rintro _ rfl
        rw [nI_1]
        exact ih () (by omega)
      · rw [if_neg (by omega), c] at k
        exact k
theorem m_must {v kd : Nat} {x : Int32} {b : Bool} {post : Bool → St → Prop} (h9 : τ.1 0 9 = 0) (hx : (x = 0) ↔ b = false) (hk0 : 0 < kd) (hk5 : kd ≤ 5) (h4 : τ.1 0 4 = nI v) (k1 : b = true → post true τ) (k2 : b = false → ∀ s, FR τ s → s.1 0 9 = nI kd → s.1 0 10 = nI v → post false s) : wX11_must 0 x (nI kd) τ post := by
  unfold wX11_must wX11_must_24
  rw [h9]
  refine ⟨fun c => absurd rfl c, fun _ => ⟨fun c => ⟨fun d => absurd rfl d, fun _ => k1 ?_⟩, fun c => ?_⟩⟩
  · cases b with
    | true => rfl
    | false => exact absurd (hx.mpr rfl) c
  · rintro _ rfl
    rw [u1_s, pk_un (by decide), h4]
    rintro _ rfl
    have e : (u1 (u1 τ 0 9 (nI kd)) 0 10 (nI v)).1 0 9 = nI kd := by rw [u1_s, pk_un (by decide), u1_s, pk_us]
    rw [e]
    exact ⟨fun _ => k2 (hx.mp c) _ ((FR.u (by decide)).tr (FR.u (by decide))) e (by rw [u1_s, pk_us]), fun d => absurd d (nI_ne0 hk0 (by omega))⟩
theorem rk_eq1 {k : Nat} (h : k ≤ 4) : (nI (rkF k) = (1 : Int32) ↔ k = 0) ∧ (nI (rkF k) = (2 : Int32) ↔ k = 1) ∧ (nI (rkF k) = (3 : Int32) ↔ k = 2) ∧ (nI (rkF k) = (0 : Int32) ↔ k = 3) := by
  have : ∀ k, k ≤ 4 → (nI (rkF k) = (1 : Int32) ↔ k = 0) ∧ (nI (rkF k) = (2 : Int32) ↔ k = 1) ∧ (nI (rkF k) = (3 : Int32) ↔ k = 2) ∧ (nI (rkF k) = (0 : Int32) ↔ k = 3) := by decide
  exact this k h
theorem m_winI {v lo hi : Nat} {x : Int32} {post : Bool → St → Prop} (hv : v < 2 ^ 31) (hl : lo < 2 ^ 31) (hh : hi < 2 ^ 31) (hx : x = nI hi) (k : post (inU lo hi v) τ) : wX11_within (nI v).toInt64 (nI lo).toInt64 x.toInt64 τ post := by
  rw [hx, nI_l hl, nI_l hh]
  exact m_win hv hl hh k
theorem m_num {lo hi : Nat} {x : Int32} {post : Bool → St → Prop} (hU : U = fun i => ub (tp i)) (h0 : TM tp n τ) (ha : a ≤ n) (t : TokM U n a τ) (h9 : τ.1 0 9 = 0) (hlo : lo < 2 ^ 31) (hx : x = nI hi) (hhi : hi < 2 ^ 31) (k : ∀ u, FR τ u → (numC U n a lo hi = 0 → TokM U n (tkE U n a) u ∧ u.1 0 9 = 0 ∧ u.1 0 11 = nI (tkV U n a)) → (numC U n a lo hi ≠ 0 → u.1 0 9 = nI (numC U n a lo hi) ∧ u.1 0 10 = nI (plF U n a)) → post (decide (numC U n a lo hi = 0)) u) : wX11_takesNumber 0 (nI lo) x τ post := by
  have hn := h0.1
  have hk := tkK_le (U := U) (n := n) (a := a)
  have main : ∀ y : Int32, ((y = 0) ↔ decide (tkK U n a = 1) = false) → wX11_takesNumber_14 post 0 (nI lo) x 0 y τ := by
    intro y hy
    unfold wX11_takesNumber_14
    refine m_must (kd := 1) h9 hy (by decide) (by decide) t.2.1 (fun c => ⟨fun d => absurd d (by decide), fun _ => ?_⟩) (fun c s f g1 g2 => ⟨fun _ => ?_, fun d => absurd d (by decide)⟩)
    · have c := of_decide_eq_true c
      have hv := tkV_num ha c
      have e : numC U n a lo hi = if lo ≤ tkV U n a ∧ tkV U n a ≤ hi then 0 else 4 := by unfold numC; rw [if_pos c]
      rw [t.2.2.1 c]
      refine m_winI (by omega) hlo hhi hx ?_
      refine m_must (kd := 4) h9 (b2i_0 _) (by decide) (by decide) t.2.1 (fun d => ⟨fun _ => ?_, fun d => absurd d (by decide)⟩) (fun d s f g1 g2 => ⟨fun d => absurd d (by decide), fun _ => ?_⟩)
      · have d := inU_iff.mp d
        have e0 : numC U n a lo hi = 0 := by rw [e, if_pos d]
        rintro _ rfl
        refine m_steps hU (h0.fr (FR.u (by decide))) (tkE_le ha).2 (by rw [u1_s, pk_un (by decide)]; exact t.2.2.2.2 (by omega)) (fun s f t2 => ?_)
        have k := k s ((FR.u (by decide)).tr f.r) (fun _ => ⟨t2, by rw [f.2.1 9 (by decide) (by decide) (by decide) (by decide), u1_s, pk_un (by decide)]; exact h9, by rw [f.2.1 11 (by decide) (by decide) (by decide) (by decide), u1_s, pk_us]; exact t.2.2.1 c⟩) (fun d => absurd e0 d)
        rw [e0] at k
        exact k
      · have d := inU_no.mp d
        have e0 : numC U n a lo hi = 4 := by rw [e, if_neg (by omega)]
        have k := k s f (fun d => by omega) (fun _ => by rw [e0]; exact ⟨g1, g2⟩)
        rw [e0] at k
        exact k
    · have c := of_decide_eq_false c
      have e0 : numC U n a lo hi = 1 := by unfold numC; rw [if_neg c]
      have k := k s f (fun d => by omega) (fun _ => by rw [e0]; exact ⟨g1, g2⟩)
      rw [e0] at k
      exact k
  unfold wX11_takesNumber
  rw [t.1, (rk_eq1 hk).2.1]
  exact ⟨fun c => main 0 (by simp [c]), fun c => main 1 (by simp [c])⟩
theorem m_is {j : Nat} {post : Bool → St → Prop} (hU : U = fun i => ub (tp i)) (ha : a ≤ n) (hj : j < 6) (t : TokM U n a τ) (k : post (decide (kwT U n a = j)) τ) : wX11_is 0 j τ post := by
  have hU2 : ∀ i, U i < 256 := fun i => by rw [hU]; exact ub_lt _
  have hk := tkK_le (U := U) (n := n) (a := a)
  unfold wX11_is
  rw [show decide (τ.1 0 6 = 1 ∧ τ.2 0 8 = spl j) = decide (kwT U n a = j) from ?_]
  · exact k
  · apply decide_eq_decide.mpr
    rw [t.1, (rk_eq1 hk).1]
    unfold kwT
    by_cases c : tkK U n a = 0
    · rw [if_pos c, t.2.2.2.1 c, spl_PK j hj]
      have hv := tkV_word hU2 ha c
      have hp := PK_lt j hj
      rw [lN_eq (by omega) (by omega), ← kwF_at hj]
      constructor
      · rintro ⟨_, h⟩; exact h.symm
      · intro h; exact ⟨c, h.symm⟩
    · rw [if_neg c]
      constructor
      · rintro ⟨h, _⟩; exact absurd h c
      · intro h; omega
theorem kwT_le : kwT U n a ≤ 6 := by
  unfold kwT
  split
  · exact fa_first_le _ _
  · omega
theorem m_isName {post : Bool → St → Prop} (hU : U = fun i => ub (tp i)) (ha : a ≤ n) (t : TokM U n a τ) (k : post (decide (kwT U n a = 6 ∧ tkK U n a = 0)) τ) : wX11_isName 0 τ post := by
  have hk := tkK_le (U := U) (n := n) (a := a)
  have hw := kwT_le (U := U) (n := n) (a := a)
  have e : ∀ b, b = decide (kwT U n a = 6 ∧ tkK U n a = 0) → post b τ := fun b hb => by rw [hb]; exact k
  have F : ∀ i, kwT U n a = i → i < 6 → post false τ := fun i h1 h2 => e _ (by simp; omega)
  unfold wX11_isName
  rw [t.1, (rk_eq1 hk).1]
  refine ⟨fun c => e _ (by simp [c]), fun c => m_is hU ha (by decide) t ⟨fun d => F 0 (of_decide_eq_true d) (by decide), fun d0 => m_is hU ha (by decide) t ⟨fun d => F 1 (of_decide_eq_true d) (by decide), fun d1 => m_is hU ha (by decide) t ⟨fun d => F 2 (of_decide_eq_true d) (by decide), fun d2 => m_is hU ha (by decide) t ⟨fun d => F 3 (of_decide_eq_true d) (by decide), fun d3 => m_is hU ha (by decide) t ⟨fun d => F 4 (of_decide_eq_true d) (by decide), fun d4 => m_is hU ha (by decide) t ⟨fun d => F 5 (of_decide_eq_true d) (by decide), fun d5 => e _ ?_⟩⟩⟩⟩⟩⟩⟩
  have d0 := of_decide_eq_false d0
  have d1 := of_decide_eq_false d1
  have d2 := of_decide_eq_false d2
  have d3 := of_decide_eq_false d3
  have d4 := of_decide_eq_false d4
  have d5 := of_decide_eq_false d5
  simp [c]
  omega
end UN
