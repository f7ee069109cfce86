/-! the field's line -/
def prB (v : Nat) : Bool := decide (∀ f, f < v → f < 2 ∨ v % f ≠ 0)
theorem pr_inv' : ∀ P, P < 98 → (P < 3 ∨ prB P = false) ∨ ∀ x, x < P → x = 0 ∨ (0 < x ^ (P - 2) % P ∧ x * (x ^ (P - 2) % P) % P = 1) := by decide +kernel
theorem pr_inv (P : Nat) (h : P < 98) (h3 : 3 ≤ P) (hp : prB P = true) (x : Nat) (hx : x < P) (h0 : 0 < x) : 0 < x ^ (P - 2) % P ∧ x * (x ^ (P - 2) % P) % P = 1 := by
  rcases pr_inv' P h with (q | q) | q
  · omega
  · rw [hp] at q; exact absurd q (by decide)
  · rcases q x hx with q | q
    · omega
    · exact q
def pr2 (v i : Nat) : Bool := decide (∀ f, f < i → f < 2 ∨ v % f ≠ 0)
theorem pr_sq' : ∀ v, v < 98 → ∀ i, i < 11 → (i * i ≤ v ∨ v < 2) ∨ (pr2 v i = false ∨ prB v = true) := by decide +kernel
theorem pr_sq (v : Nat) (h : v < 98) (i : Nat) (hi : i < 11) (h1 : v < i * i) (h2 : ∀ f, f < i → f < 2 ∨ v % f ≠ 0) (h3 : 2 ≤ v) : prB v = true := by
  have e : pr2 v i = true := decide_eq_true h2
  rcases pr_sq' v h i hi with (q | q) | (q | q)
  · omega
  · omega
  · rw [e] at q; exact absurd q (by decide)
  · exact q
def fldL (U : Nat → Nat) (n a : Nat) : (Nat × Nat) ⊕ (Nat × Nat) :=
  if tkK U n (tkE U n a) = 1 then (if 3 ≤ tkV U n (tkE U n a) ∧ tkV U n (tkE U n a) ≤ 97 ∧ prB (tkV U n (tkE U n a)) = true then (if endC U n (tkE U n (tkE U n a)) = 0 then .inr (tkV U n (tkE U n a), tkE U n (tkE U n (tkE U n a))) else .inl (plF U n (tkE U n (tkE U n a)), endC U n (tkE U n (tkE U n a)))) else .inl (plF U n (tkE U n a), 4)) else .inl (plF U n (tkE U n a), 1)
theorem c_prime {v : Nat} {σ : St} {post : Bool → St → Prop} (h3 : 3 ≤ v) (h97 : v ≤ 97) (k : post (prB v) σ) : wX6_isPrime (nI v) σ post := by
  unfold wX6_isPrime
  refine ⟨v - 2 + 1, loop_i (fun j i (_ : Unit) => wX6_isPrime_2 post j (nI v) (nI i) σ) (fun i _ => 2 ≤ i ∧ ∀ f, f < i → f < 2 ∨ v % f ≠ 0) v ?_ ?_ _ 2 () (by omega) (by omega) ⟨Nat.le_refl _, fun f hf => Or.inl hf⟩⟩
  · rintro j _ ⟨_, hI⟩
    unfold wX6_isPrime_2
    rw [show (1 : Int32) = nI 1 from rfl, nI_leI (by omega) (by omega), nI_leI (by omega) (by omega)]
    refine ⟨fun _ => ⟨fun d => absurd d (by omega), fun _ => ?_⟩, fun d => absurd (Nat.le_refl _) d⟩
    have e : prB v = true := decide_eq_true hI
    rw [e] at k; exact k
  · rintro j i _ hi ⟨h2, hI⟩ ih
    unfold wX6_isPrime_2
    rw [nI_leI (by omega) (by omega), pk_rem (by omega) (by omega) (by omega), show (0 : Int32) = nI 0 from rfl, nI_eq (by omega) (by decide), nI_eq (Nat.lt_of_le_of_lt (Nat.mod_le _ _) (by omega)) (by decide), nI_1]
    refine ⟨fun d => absurd d (by omega), fun _ => ⟨by omega, fun c => ?_, fun c => ?_⟩⟩
    · rintro _ rfl
      refine ih () ⟨by omega, fun f hf => ?_⟩
      by_cases e : f = i
      · rw [e]; exact Or.inr c
      · exact hI f (by omega)
    · have e : prB v = false := decide_eq_false (fun q => by
        rcases q i hi with q | q
        · omega
        · exact q c)
      rw [e] at k; exact k
theorem m_prime {v : Nat} {σ : St} {post : Bool → St → Prop} (h3 : 3 ≤ v) (h97 : v ≤ 97) (k : post (prB v) σ) : wX11_isPrime (nI v) σ post := by
  unfold wX11_isPrime
  refine ⟨9, loop_i (fun j i (_ : Unit) => wX11_isPrime_2 post j (nI v) (nI i) σ) (fun i _ => 2 ≤ i ∧ ∀ f, f < i → f < 2 ∨ v % f ≠ 0) 10 ?_ ?_ _ 2 () (by omega) (by omega) ⟨Nat.le_refl _, fun f hf => Or.inl hf⟩⟩
  · rintro j _ ⟨_, hI⟩
    unfold wX11_isPrime_2
    rw [pk_mul, nI_ltI (by omega) (by omega)]
    refine ⟨fun d => ?_, fun d => absurd (by omega) d⟩
    rw [pr_sq v (by omega) 10 (by decide) d hI (by omega)] at k; exact k
  · rintro j i _ hi ⟨h2, hI⟩ ih
    have hii : i * i ≤ 81 := Nat.mul_le_mul (show i ≤ 9 by omega) (show i ≤ 9 by omega)
    have hi2 : 2 * i ≤ i * i := Nat.mul_le_mul h2 (Nat.le_refl _)
    unfold wX11_isPrime_2
    rw [pk_mul, nI_ltI (by omega) (by omega), pk_rem (by omega) (by omega) (by omega), show (0 : Int32) = nI 0 from rfl, nI_eq (by omega) (by decide), nI_eq (Nat.lt_of_le_of_lt (Nat.mod_le _ _) (by omega)) (by decide), nI_1]
    refine ⟨fun d => ?_, fun d => ⟨by omega, fun c => ?_, fun c => ?_⟩⟩
    · rw [pr_sq v (by omega) i (by omega) d hI (by omega)] at k; exact k
    · rintro _ rfl
      refine ih () ⟨by omega, fun f hf => ?_⟩
      by_cases e : f = i
      · rw [e]; exact Or.inr c
      · exact hI f (by omega)
    · have e : prB v = false := decide_eq_false (fun q => by
        rcases q i (by omega) with q | q
        · omega
        · exact q c)
      rw [e] at k; exact k
def D0 : PD := (0, 0, 0, fun _ => 0, fun _ => 0, fun _ _ => 0, fun _ _ => 0, (0, fun _ => 0, fun _ _ => 0), fun _ => 0, fun _ => 0, fun _ => 0)
def PrP (P : Nat) : Prop := 3 ≤ P ∧ P ≤ 97 ∧ prB P = true
theorem VD_0 {P : Nat} (h : PrP P) : VD P D0 := by
  refine ⟨⟨⟨h.1, h.2.1, fun x x1 x2 => ?_⟩, Nat.zero_le _, Nat.zero_le _, fun j hj => absurd hj (Nat.not_lt_zero j), fun j hj => absurd hj (Nat.not_lt_zero j)⟩, ⟨Nat.zero_le _, fun j hj => absurd hj (Nat.not_lt_zero j)⟩, ⟨Nat.zero_le _, fun e he => absurd he (Nat.not_lt_zero e), fun e e' h1 h2 => absurd h2 (Nat.not_lt_zero e'), fun j hj => absurd hj (Nat.not_lt_zero j)⟩, fun j hj => absurd hj (Nat.not_lt_zero j), fun j hj => absurd hj (Nat.not_lt_zero j), fun j hj => absurd hj (Nat.not_lt_zero j), fun j hj => absurd hj (Nat.not_lt_zero j)⟩
  obtain ⟨y1, y2⟩ := pr_inv P (by have := h.2.1; omega) h.1 h.2.2 x x2 x1
  exact ⟨_, y1, Nat.mod_lt _ (by have := h.1; omega), y2⟩
theorem PrP_7 : PrP 7 := by unfold PrP; decide
section FL
variable {t P : Nat} {σ τ σ' τ' u : St} {tp : Nat → Int32} {n : Nat} {U : Nat → Nat} {a : Nat} {D : PD}
theorem fld_ok {b : Nat} (ha : a ≤ n) (h : fldL U n a = .inr (P, b)) : PrP P ∧ b ≤ n ∧ a ≤ b := by
  have h1 := tkE_le (U := U) ha
  have h2 := tkE_le (U := U) h1.2
  have h3 := tkE_le (U := U) h2.2
  unfold fldL at h
  split at h
  · split at h
    · rename_i q
      split at h
      · cases h
        exact ⟨q, h3.2, by omega⟩
      · cases h
    · cases h
  · cases h
theorem PrX.setP {v : Nat} {tn bn nn : Nat} {lg tof : Nat → Nat} {tv bv : Nat → Nat → Int32} {w : NetT} {nc : Nat} {nmv nmk nmn : Nat → Nat} (h : PrX t P tn bn nn lg tof tv bv w nc nmv nmk nmn σ) (ht : tn ≤ 8) (hb : bn ≤ 5) (hn : nn ≤ 6) : PrX t v tn bn nn lg tof tv bv w nc nmv nmk nmn (u1 σ t 0 (nI v)) := by
  obtain ⟨h0, h1, h2, h3, h4, h5, h6, h7, h8, h9, h10⟩ := h
  have F : ∀ o, o ≠ t → (u1 σ t 0 (nI v)).1 o = σ.1 o := fun o ho => u1_n ho
  have G : ∀ j, j ≠ 0 → (u1 σ t 0 (nI v)).1 t j = σ.1 t j := fun j hj => by rw [u1_s, pk_un hj]
  exact ⟨h0, by rw [u1_s, pk_us], by rw [G 1 (by decide)]; exact h2, by rw [G 3 (by decide)]; exact h3, by rw [G 6 (by decide)]; exact h4, fun j hj => ⟨by rw [F _ (by omega)]; exact (h5 j hj).1, fun i hi => by rw [F _ (by omega)]; exact (h5 j hj).2 i hi⟩, fun j hj k hk => by rw [F _ (by omega)]; exact h6 j hj k hk, h7.fr hn (fun o h1 h2 => F o (by omega)), trivial, fun k hk => by rw [F _ (by omega), F _ (by omega), F _ (by omega)]; exact h9 k hk, fun k hk => by rw [F _ (by omega)]; exact h10 k hk⟩
theorem c_field {post : Bool → St → Prop} (hU : U = fun i => ub (tp i)) (hX : TX tp n σ) (ha : a ≤ n) (tk : TokX U n a σ) (hk : kwT U n a ≠ 6) (h : XD t P D0 σ) (kf : ∀ pl kd u, fldL U n a = .inl (pl, kd) → FPX t σ u → u.1 285 7 = fltV pl kd → post false u) (kt : ∀ v b u, fldL U n a = .inr (v, b) → FPX t σ u → XD t v D0 u → u.1 285 2 = nI b → post true u) : wX6_readField 285 1 t σ post := by
  have h1 := tkE_le (U := U) ha
  have h2 : σ.1 285 2 = nI (tkE U n a) := tk.2.2.2 (by rw [kw_0 hk]; decide)
  obtain ⟨nc, nmv, nmk, nmn, hN, hp⟩ := h
  have ht0 := hp.1
  unfold fldL at kf kt
  unfold wX6_readField
  refine c_num' (lo := 3) (hi := 97) hU hX h1.2 h2 (by decide) rfl (by decide) (fun u f tk2 gn => ⟨fun q => ?_, fun q => ?_⟩)
  · have q := num_ok (of_decide_eq_true q)
    rw [if_pos q.1] at kf kt
    rw [tk2.2.2.1 (by omega)]
    refine c_prime q.2.1 q.2.2 ⟨fun c => ?_, fun c => ?_⟩
    · rw [if_pos ⟨q.2.1, q.2.2, c⟩] at kf kt
      rw [tk2.2.2.1 (by omega)]
      rintro _ rfl
      have fz := (f.p (t := t)).tr (FPX.u (k := 0) (x := nI (tkV U n (tkE U n a))) ht0 (o := t) (by omega))
      have pz := (hp.fc (Nat.zero_le _) (Nat.zero_le _) (Nat.zero_le _) f).setP (v := tkV U n (tkE U n a)) (Nat.zero_le _) (Nat.zero_le _) (Nat.zero_le _)
      refine c_end hU (hX.fp ht0 fz) (tkE_le h1.2).2 (by rw [u1_n (by omega)]; exact tk2.2.2.2 (by omega)) (fun d f4 k5 k6 => ?_)
      by_cases cc : endC U n (tkE U n (tkE U n a)) = 0
      · rw [if_pos cc] at kt
        have := kt _ _ d rfl (fz.tr f4.p) ⟨nc, nmv, nmk, nmn, hN, pz.fc (Nat.zero_le _) (Nat.zero_le _) (Nat.zero_le _) f4⟩ (k5 cc)
        rw [cc]; exact this
      · rw [if_neg cc] at kf
        have := kf _ _ d rfl (fz.tr f4.p) (k6 cc)
        rw [decide_eq_false cc]; exact this
    · rw [if_neg (fun d => by rw [d.2.2] at c; exact absurd c (by decide))] at kf
      exact c_fail (U := U) (n := n) (a := tkE U n a) (kd := 4) tk2.2.1 (fun d fd _ gd => kf _ _ d rfl (f.tr fd).p gd)
  · have q := of_decide_eq_false q
    refine kf _ _ u ?_ f.p (gn q)
    by_cases c : tkK U n (tkE U n a) = 1
    · have e : ¬ (3 ≤ tkV U n (tkE U n a) ∧ tkV U n (tkE U n a) ≤ 97) := fun d => q (by unfold numC; rw [if_pos c, if_pos d])
      rw [if_pos c, if_neg (fun d => e ⟨d.1, d.2.1⟩), show numC U n (tkE U n a) 3 97 = 4 by unfold numC; rw [if_pos c, if_neg e]]
    · rw [if_neg c, show numC U n (tkE U n a) 3 97 = 1 by unfold numC; rw [if_neg c]]
end FL
