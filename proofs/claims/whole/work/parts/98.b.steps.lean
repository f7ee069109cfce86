/-! the reference takes a token -/
theorem u2_1 {σ : St} {o k : Nat} {x : Int64} : (u2 σ o k x).1 = σ.1 := rfl
theorem u2_s {σ : St} {o k : Nat} {x : Int64} : (u2 σ o k x).2 o = vp_updL (σ.2 o) k x := by simp [u2, rs]
theorem u2_n {σ : St} {o k o' : Nat} {x : Int64} (h : o' ≠ o) : (u2 σ o k x).2 o' = σ.2 o' := by simp [u2, rs, h]
def rkF (k : Nat) : Nat := if k = 0 then 1 else if k = 1 then 2 else if k = 2 then 3 else if k = 3 then 0 else 4
def TM (tp : Nat → Int32) (n : Nat) (τ : St) : Prop := n ≤ 700 ∧ (∀ i, i < n → byR (tp i)) ∧ (∀ i, i < n → τ.1 1 i = tp i) ∧ τ.1 0 3 = nI n
def TokM (U : Nat → Nat) (n b : Nat) (τ : St) : Prop := τ.1 0 6 = nI (rkF (tkK U n b)) ∧ τ.1 0 4 = nI (plF U n b) ∧ (tkK U n b = 1 → τ.1 0 7 = nI (tkV U n b)) ∧ (tkK U n b = 0 → τ.2 0 8 = lN (tkV U n b)) ∧ (tkK U n b < 4 → τ.1 0 5 = nI (tkE U n b))
def FS (τ s : St) : Prop := (∀ o, o ≠ 0 → s.1 o = τ.1 o) ∧ (∀ j, j ≠ 4 → j ≠ 5 → j ≠ 6 → j ≠ 7 → s.1 0 j = τ.1 0 j) ∧ (∀ o, o ≠ 0 → s.2 o = τ.2 o) ∧ ∀ j, j ≠ 8 → s.2 0 j = τ.2 0 j
theorem FS.rf (τ : St) : FS τ τ := ⟨fun _ _ => rfl, fun _ _ _ _ _ => rfl, fun _ _ => rfl, fun _ _ => rfl⟩
theorem FS.tr {a b c : St} (h : FS a b) (h2 : FS b c) : FS a c := ⟨fun o ho => by rw [h2.1 o ho, h.1 o ho], fun j h3 h4 h5 h6 => by rw [h2.2.1 j h3 h4 h5 h6, h.2.1 j h3 h4 h5 h6], fun o ho => by rw [h2.2.2.1 o ho, h.2.2.1 o ho], fun j hj => by rw [h2.2.2.2 j hj, h.2.2.2 j hj]⟩
theorem FS.u {τ : St} {j : Nat} {x : Int32} (h : j = 4 ∨ j = 5 ∨ j = 6 ∨ j = 7) : FS τ (u1 τ 0 j x) := ⟨fun o ho => u1_n ho, fun i h2 h4 h5 h6 => by rw [u1_s, pk_un (by omega)], fun _ _ => rfl, fun _ _ => rfl⟩
theorem FS.v {τ : St} {x : Int64} : FS τ (u2 τ 0 8 x) := ⟨fun _ _ => rfl, fun _ _ _ _ _ => rfl, fun o ho => u2_n ho, fun j hj => by rw [u2_s, pk_uLn hj]⟩
theorem TM.fs {tp : Nat → Int32} {n : Nat} {τ s : St} (h : TM tp n τ) (f : FS τ s) : TM tp n s := ⟨h.1, h.2.1, fun i hi => by rw [f.1 1 (by decide)]; exact h.2.2.1 i hi, by rw [f.2.1 3 (by decide) (by decide) (by decide) (by decide)]; exact h.2.2.2⟩
theorem lshl5 {a : Nat} (h : a < 2 ^ 30) : lN a <<< ((5 : Int32).toInt64 &&& 63) = lN (2 ^ 5 * a) := by
  apply Int64.toBitVec_inj.1
  show BitVec.ofNat 64 a <<< 5 = BitVec.ofNat 64 (2 ^ 5 * a)
  apply BitVec.eq_of_toNat_eq
  rw [BitVec.toNat_shiftLeft, BitVec.toNat_ofNat, BitVec.toNat_ofNat, Nat.shiftLeft_eq, Nat.mod_eq_of_lt (show a < 2 ^ 64 by omega), Nat.mul_comm]
theorem m_win {u lo hi : Nat} {τ : St} {post : Bool → St → Prop} (hu : u < 2 ^ 31) (hl : lo < 2 ^ 31) (hh : hi < 2 ^ 31) (k : post (inU lo hi u) τ) : wX11_within (nI u).toInt64 (lN lo) (lN hi) τ post := by
  unfold wX11_within
  rw [nI_l hu, lg_cmp_lt, lg_cmp_gt, lN_lt hu hl, lN_lt hh hu]
  have e : ∀ b, b = inU lo hi u → post b τ := fun b hb => by rw [hb]; exact k
  exact ⟨fun q => e _ ((inU_no.mpr (by omega)).symm), fun q => ⟨fun q2 => e _ ((inU_no.mpr (by omega)).symm), fun q2 => e _ ((inU_iff.mpr (by omega)).symm)⟩⟩
theorem m_win1 {lo hi : Nat} {τ : St} {post : Bool → St → Prop} (hl : lo < 2 ^ 31) (k : post false τ) : wX11_within (-1 : Int32).toInt64 (lN lo) (lN hi) τ post := by
  unfold wX11_within
  rw [lg_cmp_lt, fa_lt64, lN_toInt hl, Int32.toInt_toInt64, show (-1 : Int32).toInt = -1 from rfl]
  exact ⟨fun _ => k, fun q => absurd (by omega) q⟩
section TR
variable {tp : Nat → Int32} {n : Nat} {U : Nat → Nat}
theorem m_see {q : Nat} {s : St} {post : Int32 → St → Prop} (hU : U = fun i => ub (tp i)) (h : TM tp n s) (hq : q ≤ n) (k1 : q < n → post (nI (U q)) s) (k2 : n ≤ q → post (-1) s) : wX11_see 0 (nI q) s post := by
  have hn := h.1
  unfold wX11_see
  rw [h.2.2.2, nI_leI (by omega) (by omega)]
  refine ⟨fun c => k2 c, fun c => ⟨vp_in_nI (by omega) (by decide), ?_⟩⟩
  rw [nI_clamp (by omega), show s.1 (0 + 1) q = tp q from h.2.2.1 q (by omega), by_and]
  have k1 := k1 (by omega)
  rw [hU] at k1
  exact k1
theorem m_digits {p : Nat} {s0 : St} {post : St → Prop} (hU : U = fun i => ub (tp i)) (h0 : TM tp n s0) (hp : p < n) (h4 : s0.1 0 4 = nI p) (h5 : s0.1 0 5 = nI p) (h7 : s0.1 0 7 = 0) (k : ∀ s, FS s0 s → s.1 0 6 = nI (rkF (if dgE U n p - p ≤ 2 then 1 else 4)) → s.1 0 4 = nI p → s.1 0 5 = nI (dgE U n p) → (dgE U n p - p ≤ 2 → s.1 0 7 = nI (nvF U p (dgE U n p - p))) → post s) : ∃ j, wX11_steps_265 post j 0 s0 := by
  have hn := h0.1
  have hU2 : ∀ i, U i < 256 := fun i => by rw [hU]; exact ub_lt _
  have hd := dgE_le (U := U) (show p ≤ n by omega)
  have hm : ∀ m q s, q + m = n → p ≤ q → FS s0 s → s.1 0 4 = nI p → s.1 0 5 = nI q → (q - p ≤ 2 → s.1 0 7 = nI (nvF U p (q - p))) → dgE U n p = pvF (fun i => !inU 48 57 (U i)) m q → wX11_steps_265 post (m + 1) 0 s := by
    have fin : ∀ q s, q = dgE U n p → FS s0 s → s.1 0 4 = nI p → s.1 0 5 = nI q → (q - p ≤ 2 → s.1 0 7 = nI (nvF U p (q - p))) → ((3 : Int32) ≤ ((s.1 0 5) - (s.1 0 4)) → wX11_steps_361 post 0 (4 : Int32) s) ∧ (¬ (3 : Int32) ≤ ((s.1 0 5) - (s.1 0 4)) → wX11_steps_361 post 0 (2 : Int32) s) := by
      intro q s e f g4 g5 g7
      subst e
      unfold wX11_steps_361
      rw [g4, g5, pk_sub hd.1, show (3 : Int32) = nI 3 from rfl, nI_leI (by decide) (by omega)]
      have mk : ∀ x : Nat, x = rkF (if dgE U n p - p ≤ 2 then 1 else 4) → post (u1 s 0 6 (nI x)) := fun x hx => by
        refine k _ (f.tr (FS.u (by decide))) (by rw [u1_s, pk_us, hx]) (by rw [u1_s, pk_un (by decide)]; exact g4) (by rw [u1_s, pk_un (by decide)]; exact g5) (fun c => by rw [u1_s, pk_un (by decide)]; exact g7 c)
      refine ⟨fun c => ?_, fun c => ?_⟩
      · rintro _ rfl
        exact mk 4 (by rw [if_neg (by omega)]; rfl)
      · rintro _ rfl
        exact mk 2 (by rw [if_pos (by omega)]; rfl)
    intro m
    induction m with
    | zero =>
      intro q s e hpq f g4 g5 g7 hf
      rw [pvF] at hf
      unfold wX11_steps_265
      rw [g5]
      refine m_see hU (h0.fs f) (by omega) (fun c => by omega) (fun _ => m_win1 (lo := 48) (hi := 57) (by decide) ⟨fun _ => ?_, fun c => absurd c (by decide)⟩)
      exact fin q s hf.symm f g4 g5 g7
    | succ m ih =>
      intro q s e hpq f g4 g5 g7 hf
      rw [pvF] at hf
      have hUq := hU2 q
      unfold wX11_steps_265
      rw [g5]
      refine m_see hU (h0.fs f) (by omega) (fun _ => m_win (lo := 48) (hi := 57) (by omega) (by decide) (by decide) ⟨fun c => ?_, fun c => ?_⟩) (fun c => by omega)
      · rw [c, if_pos (by decide)] at hf
        exact fin q s hf.symm f g4 g5 g7
      · rw [c, if_neg (by decide)] at hf
        have ci := inU_iff.mp c
        have go : ∀ x : Int32, (q + 1 - p ≤ 2 → x = nI (nvF U p (q + 1 - p))) → wX11_steps_326 post (wX11_steps_265 post (m + 1)) 0 0 x s := fun x hx => by
          unfold wX11_steps_326
          rintro _ rfl
          rw [u1_s, pk_un (by decide), g5, nI_1]
          rintro _ rfl
          exact ih (q + 1) _ (by omega) (by omega) (f.tr ((FS.u (by decide)).tr (FS.u (by decide)))) (by rw [u1_s, pk_un (by decide), u1_s, pk_un (by decide)]; exact g4) (by rw [u1_s, pk_us]) (fun c2 => by rw [u1_s, pk_un (by decide), u1_s, pk_us]; exact hx c2) hf
        rw [g4, g5, pk_sub hpq, show (2 : Int32) = nI 2 from rfl, nI_leI (by decide) (by omega)]
        refine ⟨fun c2 => go _ (fun c3 => by omega), fun c2 => m_see hU (h0.fs f) (by omega) (fun _ => go _ (fun c3 => ?_)) (fun c3 => by omega)⟩
        rw [g7 (by omega), show (10 : Int32) = nI 10 from rfl, pk_mul, nI_add, show (48 : Int32) = nI 48 from rfl, pk_sub (by omega), show q + 1 - p = (q - p) + 1 by omega, nvF, show p + (q - p) = q by omega]
        congr 1
        omega
  exact ⟨n - p + 1, hm (n - p) p s0 (by omega) (Nat.le_refl _) (FS.rf s0) h4 h5 (fun _ => by rw [h7, Nat.sub_self]; rfl) rfl⟩
theorem m_letters {p : Nat} {s0 : St} {post : St → Prop} (hU : U = fun i => ub (tp i)) (h0 : TM tp n s0) (hp : p < n) (h4 : s0.1 0 4 = nI p) (h5 : s0.1 0 5 = nI p) (h8 : s0.2 0 8 = 0) (k : ∀ s, FS s0 s → s.1 0 6 = nI (rkF (if ltE U n p - p ≤ 6 then 0 else 4)) → s.1 0 4 = nI p → s.1 0 5 = nI (ltE U n p) → (ltE U n p - p ≤ 6 → s.2 0 8 = lN (wvF U p (ltE U n p - p))) → post s) : ∃ j, wX11_steps_138 post j 0 s0 := by
  have hn := h0.1
  have hU2 : ∀ i, U i < 256 := fun i => by rw [hU]; exact ub_lt _
  have hd := ltE_le (U := U) (show p ≤ n by omega)
  have hm : ∀ m q s, q + m = n → p ≤ q → FS s0 s → s.1 0 4 = nI p → s.1 0 5 = nI q → (q - p ≤ 6 → s.2 0 8 = lN (wvF U p (q - p)) ∧ wvF U p (q - p) < 2 ^ (5 * (q - p))) → ltE U n p = pvF (fun i => !inU 97 122 (U i)) m q → wX11_steps_138 post (m + 1) 0 s := by
    have fin : ∀ q s, q = ltE U n p → FS s0 s → s.1 0 4 = nI p → s.1 0 5 = nI q → (q - p ≤ 6 → s.2 0 8 = lN (wvF U p (q - p)) ∧ wvF U p (q - p) < 2 ^ (5 * (q - p))) → ((7 : Int32) ≤ ((s.1 0 5) - (s.1 0 4)) → wX11_steps_237 post 0 (4 : Int32) s) ∧ (¬ (7 : Int32) ≤ ((s.1 0 5) - (s.1 0 4)) → wX11_steps_237 post 0 (1 : Int32) s) := by
      intro q s e f g4 g5 g7
      subst e
      unfold wX11_steps_237
      rw [g4, g5, pk_sub hd.1, show (7 : Int32) = nI 7 from rfl, nI_leI (by decide) (by omega)]
      have mk : ∀ x : Nat, x = rkF (if ltE U n p - p ≤ 6 then 0 else 4) → post (u1 s 0 6 (nI x)) := fun x hx => by
        refine k _ (f.tr (FS.u (by decide))) (by rw [u1_s, pk_us, hx]) (by rw [u1_s, pk_un (by decide)]; exact g4) (by rw [u1_s, pk_un (by decide)]; exact g5) (fun c => by rw [u1_2]; exact (g7 c).1)
      refine ⟨fun c => ?_, fun c => ?_⟩
      · rintro _ rfl
        exact mk 4 (by rw [if_neg (by omega)]; rfl)
      · rintro _ rfl
        exact mk 1 (by rw [if_pos (by omega)]; rfl)
    intro m
    induction m with
    | zero =>
      intro q s e hpq f g4 g5 g7 hf
      rw [pvF] at hf
      unfold wX11_steps_138
      rw [g5]
      refine m_see hU (h0.fs f) (by omega) (fun c => by omega) (fun _ => m_win1 (lo := 97) (hi := 122) (by decide) ⟨fun _ => ?_, fun c => absurd c (by decide)⟩)
      exact fin q s hf.symm f g4 g5 g7
    | succ m ih =>
      intro q s e hpq f g4 g5 g7 hf
      rw [pvF] at hf
      have hUq := hU2 q
      unfold wX11_steps_138
      rw [g5]
      refine m_see hU (h0.fs f) (by omega) (fun _ => m_win (lo := 97) (hi := 122) (by omega) (by decide) (by decide) ⟨fun c => ?_, fun c => ?_⟩) (fun c => by omega)
      · rw [c, if_pos (by decide)] at hf
        exact fin q s hf.symm f g4 g5 g7
      · rw [c, if_neg (by decide)] at hf
        have ci := inU_iff.mp c
        have go : ∀ x : Int64, (q + 1 - p ≤ 6 → x = lN (wvF U p (q + 1 - p)) ∧ wvF U p (q + 1 - p) < 2 ^ (5 * (q + 1 - p))) → wX11_steps_201 post (wX11_steps_138 post (m + 1)) 0 0 x s := fun x hx => by
          unfold wX11_steps_201
          rintro _ rfl
          rw [u2_1, g5, nI_1]
          rintro _ rfl
          exact ih (q + 1) _ (by omega) (by omega) (f.tr (FS.v.tr (FS.u (by decide)))) (by rw [u1_s, pk_un (by decide), u2_1]; exact g4) (by rw [u1_s, pk_us]) (fun c2 => by rw [u1_2, u2_s, pk_uLs]; exact hx c2) hf
        rw [g4, g5, pk_sub hpq, show (6 : Int32) = nI 6 from rfl, nI_leI (by decide) (by omega)]
        refine ⟨fun c2 => go _ (fun c3 => by omega), fun c2 => m_see hU (h0.fs f) (by omega) (fun _ => go _ (fun c3 => ?_)) (fun c3 => by omega)⟩
        obtain ⟨g71, g72⟩ := g7 (by omega)
        have h25 : 2 ^ (5 * (q - p)) ≤ 2 ^ 25 := Nat.pow_le_pow_right (by decide) (by omega)
        rw [g71, show q + 1 - p = (q - p) + 1 by omega, wvF, show p + (q - p) = q by omega]
        refine ⟨?_, ?_⟩
        · rw [lshl5 (by omega), nI_l (by omega), show (96 : Int64) = lN 96 from rfl, lN_sub (by omega), fb_or_sumL _ (show U q - 96 < 2 ^ 5 by omega)]
        · rw [show 5 * (q - p + 1) = 5 * (q - p) + 5 by omega, Nat.pow_add]
          have e2 : 2 ^ (5 * (q - p)) * 2 ^ 5 = 32 * 2 ^ (5 * (q - p)) := by rw [Nat.mul_comm]
          omega
  exact ⟨n - p + 1, hm (n - p) p s0 (by omega) (Nat.le_refl _) (FS.rf s0) h4 h5 (fun _ => ⟨by rw [h8, Nat.sub_self]; rfl, by rw [Nat.sub_self]; show 0 < 2 ^ (5 * 0); decide⟩) rfl⟩
theorem m_steps {a : Nat} {s0 : St} {post : St → Prop} (hU : U = fun i => ub (tp i)) (h0 : TM tp n s0) (ha : a ≤ n) (h5 : s0.1 0 5 = nI a) (k : ∀ s, FS s0 s → TokM U n a s → post s) : wX11_steps 0 s0 post := by
  have hn := h0.1
  have hU2 : ∀ i, U i < 256 := fun i => by rw [hU]; exact ub_lt _
  have hpl := plF_le (U := U) ha
  unfold wX11_steps
  rw [h5]
  rintro _ rfl
  have fin : ∀ s, FS s0 s → s.1 0 4 = nI (plF U n a) → (post' : Int32 → St → Prop) → (post' = fun r3 s3 => ∀ s4 : St, s4 = u1 s3 0 5 ((s3.1 0 4) + (1 : Int32)) → ∀ s5 : St, s5 = u1 s4 0 6 (4 : Int32) → ∀ s6 : St, s6 = u1 s5 0 7 (0 : Int32) → ∀ s7 : St, s7 = u2 s6 0 8 (0 : Int64) → (¬ r3 = (-1 : Int32) → (¬ r3 = (59 : Int32) → wX11_within (r3.toInt64) (97 : Int64) (122 : Int64) s7 (fun r4 s8 => (r4 = false → wX11_within (r3.toInt64) (48 : Int64) (57 : Int64) s8 (fun r5 s9 => (r5 = false → post s9) ∧ (r5 = true → ∀ s10 : St, s10 = u1 s9 0 5 (s9.1 0 4) → ∃ j, wX11_steps_265 post j 0 s10))) ∧ (r4 = true → ∀ s11 : St, s11 = u1 s8 0 5 (s8.1 0 4) → ∃ j, wX11_steps_138 post j 0 s11))) ∧ (r3 = (59 : Int32) → ∀ s12 : St, s12 = u1 s7 0 6 (3 : Int32) → post s12)) ∧ (r3 = (-1 : Int32) → ∀ s13 : St, s13 = u1 s7 0 5 (s7.1 0 4) → ∀ s14 : St, s14 = u1 s13 0 6 (0 : Int32) → post s14)) → wX11_see 0 (s.1 0 4) s post' := by
    intro s f g4 post' hp'
    rw [hp', g4]
    have H : ∀ r3 : Int32, (n ≤ plF U n a ∧ r3 = -1 ∨ plF U n a < n ∧ r3 = nI (U (plF U n a))) → (fun (r3 : Int32) (s3 : St) => ∀ s4 : St, s4 = u1 s3 0 5 ((s3.1 0 4) + (1 : Int32)) → ∀ s5 : St, s5 = u1 s4 0 6 (4 : Int32) → ∀ s6 : St, s6 = u1 s5 0 7 (0 : Int32) → ∀ s7 : St, s7 = u2 s6 0 8 (0 : Int64) → (¬ r3 = (-1 : Int32) → (¬ r3 = (59 : Int32) → wX11_within (r3.toInt64) (97 : Int64) (122 : Int64) s7 (fun r4 s8 => (r4 = false → wX11_within (r3.toInt64) (48 : Int64) (57 : Int64) s8 (fun r5 s9 => (r5 = false → post s9) ∧ (r5 = true → ∀ s10 : St, s10 = u1 s9 0 5 (s9.1 0 4) → ∃ j, wX11_steps_265 post j 0 s10))) ∧ (r4 = true → ∀ s11 : St, s11 = u1 s8 0 5 (s8.1 0 4) → ∃ j, wX11_steps_138 post j 0 s11))) ∧ (r3 = (59 : Int32) → ∀ s12 : St, s12 = u1 s7 0 6 (3 : Int32) → post s12)) ∧ (r3 = (-1 : Int32) → ∀ s13 : St, s13 = u1 s7 0 5 (s7.1 0 4) → ∀ s14 : St, s14 = u1 s13 0 6 (0 : Int32) → post s14)) r3 s := by
      intro r3 hr
      rw [g4, nI_1]
      rintro _ rfl _ rfl _ rfl _ rfl
      have F : FS s0 (u2 (u1 (u1 (u1 s 0 5 (nI (plF U n a + 1))) 0 6 4) 0 7 0) 0 8 0) := f.tr ((FS.u (by decide)).tr ((FS.u (by decide)).tr ((FS.u (by decide)).tr FS.v)))
      have e4 : (u2 (u1 (u1 (u1 s 0 5 (nI (plF U n a + 1))) 0 6 4) 0 7 0) 0 8 0).1 0 4 = nI (plF U n a) := by rw [u2_1, u1_s, pk_un (by decide), u1_s, pk_un (by decide), u1_s, pk_un (by decide)]; exact g4
      have e5 : (u2 (u1 (u1 (u1 s 0 5 (nI (plF U n a + 1))) 0 6 4) 0 7 0) 0 8 0).1 0 5 = nI (plF U n a + 1) := by rw [u2_1, u1_s, pk_un (by decide), u1_s, pk_un (by decide), u1_s, pk_us]
      have e6 : (u2 (u1 (u1 (u1 s 0 5 (nI (plF U n a + 1))) 0 6 4) 0 7 0) 0 8 0).1 0 6 = 4 := by rw [u2_1, u1_s, pk_un (by decide), u1_s, pk_us]
      have e7 : (u2 (u1 (u1 (u1 s 0 5 (nI (plF U n a + 1))) 0 6 4) 0 7 0) 0 8 0).1 0 7 = 0 := by rw [u2_1, u1_s, pk_us]
      have e8 : (u2 (u1 (u1 (u1 s 0 5 (nI (plF U n a + 1))) 0 6 4) 0 7 0) 0 8 0).2 0 8 = 0 := by rw [u2_s, pk_uLs]
      generalize u2 (u1 (u1 (u1 s 0 5 (nI (plF U n a + 1))) 0 6 4) 0 7 0) 0 8 0 = s1 at *
      have hs := h0.fs F
      rcases hr with ⟨hr1, rfl⟩ | ⟨hr1, rfl⟩
      · refine ⟨fun c => absurd rfl c, fun _ => ?_⟩
        rintro _ rfl _ rfl
        have ek : tkK U n a = 3 := by unfold tkK; rw [if_pos hr1]
        refine k _ (F.tr ((FS.u (by decide)).tr (FS.u (by decide)))) ⟨by rw [u1_s, pk_us, ek]; rfl, by rw [u1_s, pk_un (by decide), u1_s, pk_un (by decide)]; exact e4, fun c => by omega, fun c => by omega, fun _ => ?_⟩
        rw [u1_s, pk_un (by decide), u1_s, pk_us, e4]
        unfold tkE
        rw [if_pos hr1]
      · have hUp := hU2 (plF U n a)
        have hnp : ¬ n ≤ plF U n a := by omega
        refine ⟨fun _ => ?_, fun c => ?_⟩
        · rw [show (59 : Int32) = nI 59 from rfl, nI_eq (by omega) (by decide)]
          refine ⟨fun c => ?_, fun c => ?_⟩
          · refine m_win (lo := 97) (hi := 122) (by omega) (by decide) (by decide) ⟨fun d => m_win (lo := 48) (hi := 57) (by omega) (by decide) (by decide) ⟨fun d2 => ?_, fun d2 => ?_⟩, fun d => ?_⟩
            · have ek : tkK U n a = 4 := by
                unfold tkK
                rw [if_neg hnp, if_neg c, if_neg (by rw [d2]; decide), if_neg (by rw [d]; decide)]
              exact k s1 F ⟨by rw [e6, ek]; rfl, e4, fun c => by omega, fun c => by omega, fun c => by omega⟩
            · rw [e4]
              rintro _ rfl
              refine m_digits hU (hs.fs (FS.u (by decide))) hr1 (by rw [u1_s, pk_un (by decide)]; exact e4) (by rw [u1_s, pk_us]) (by rw [u1_s, pk_un (by decide)]; exact e7) (fun s2 f2 r1 r2 r3 r4 => k s2 (F.tr ((FS.u (by decide)).tr f2)) ⟨?_, r2, fun h1 => ?_, fun h1 => ?_, fun h1 => ?_⟩)
              · rw [r1]
                unfold tkK
                rw [if_neg hnp, if_neg c, if_pos d2]
              · unfold tkK at h1
                rw [if_neg hnp, if_neg c, if_pos d2] at h1
                rw [r4 (by split at h1 <;> omega)]
                unfold tkV
                rw [if_pos d2]
              · unfold tkK at h1
                rw [if_neg hnp, if_neg c, if_pos d2] at h1
                split at h1 <;> omega
              · rw [r3]
                unfold tkE
                rw [if_neg hnp, if_neg c, if_pos d2]
            · have d2 : inU 48 57 (U (plF U n a)) = false := inU_no.mpr (by have := inU_iff.mp d; omega)
              have d3 : ¬ inU 48 57 (U (plF U n a)) = true := by rw [d2]; decide
              rw [e4]
              rintro _ rfl
              refine m_letters hU (hs.fs (FS.u (by decide))) hr1 (by rw [u1_s, pk_un (by decide)]; exact e4) (by rw [u1_s, pk_us]) (by rw [u1_2]; exact e8) (fun s2 f2 r1 r2 r3 r4 => k s2 (F.tr ((FS.u (by decide)).tr f2)) ⟨?_, r2, fun h1 => ?_, fun h1 => ?_, fun h1 => ?_⟩)
              · rw [r1]
                unfold tkK
                rw [if_neg hnp, if_neg c, if_neg d3, if_pos d]
              · unfold tkK at h1
                rw [if_neg hnp, if_neg c, if_neg d3, if_pos d] at h1
                split at h1 <;> omega
              · unfold tkK at h1
                rw [if_neg hnp, if_neg c, if_neg d3, if_pos d] at h1
                rw [r4 (by split at h1 <;> omega)]
                unfold tkV
                rw [if_neg d3]
              · rw [r3]
                unfold tkE
                rw [if_neg hnp, if_neg c, if_neg d3]
          · rintro _ rfl
            have ek : tkK U n a = 2 := by unfold tkK; rw [if_neg hnp, if_pos c]
            refine k _ (F.tr (FS.u (by decide))) ⟨by rw [u1_s, pk_us, ek]; rfl, by rw [u1_s, pk_un (by decide)]; exact e4, fun c => by omega, fun c => by omega, fun _ => ?_⟩
            rw [u1_s, pk_un (by decide), e5]
            unfold tkE
            rw [if_neg hnp, if_pos c]
        · have := congrArg Int32.toInt c
          rw [nI_toInt (by omega)] at this
          have z : (-1 : Int32).toInt = -1 := rfl
          omega
    exact m_see hU (h0.fs f) hpl.2 (fun c => H _ (Or.inr ⟨c, rfl⟩)) (fun c => H _ (Or.inl ⟨c, rfl⟩))
  have hm : ∀ m q s, q + m = n → FS s0 s → s.1 0 4 = nI q → plF U n a = pvF (fun i => !(decide (U i = 32) || decide (U i = 10))) m q → wX11_steps_8 post (m + 1) 0 s := by
    intro m
    induction m with
    | zero =>
      intro q s e f g4 hf
      rw [pvF] at hf
      unfold wX11_steps_8
      have G := fin s f (by rw [g4, hf]) _ rfl
      rw [g4] at G ⊢
      refine m_see hU (h0.fs f) (by omega) (fun c => by omega) (fun _ => ⟨fun c => absurd c (by decide), fun _ => ?_⟩)
      rw [g4]
      refine m_see hU (h0.fs f) (by omega) (fun c => by omega) (fun _ => ⟨fun _ => ?_, fun c => absurd c (by decide)⟩)
      rw [g4]
      exact G
    | succ m ih =>
      intro q s e f g4 hf
      rw [pvF] at hf
      have hUq := hU2 q
      have next : (decide (U q = 32) || decide (U q = 10)) = true → wX11_steps_34 post (wX11_steps_8 post (m + 1)) 0 s := fun c => by
        rw [c, if_neg (by decide)] at hf
        unfold wX11_steps_34
        rw [g4, nI_1]
        rintro _ rfl
        exact ih (q + 1) _ (by omega) (f.tr (FS.u (by decide))) (by rw [u1_s, pk_us]) hf
      have G : ¬ U q = 32 → ¬ U q = 10 → plF U n a = q := fun c d => by rw [hf, if_pos (by simp [c, d])]
      unfold wX11_steps_8
      rw [g4]
      refine m_see hU (h0.fs f) (by omega) (fun _ => ?_) (fun c => by omega)
      rw [show (32 : Int32) = nI 32 from rfl, nI_eq (by omega) (by decide)]
      refine ⟨fun c => next (by simp [c]), fun c => ?_⟩
      rw [g4]
      refine m_see hU (h0.fs f) (by omega) (fun _ => ?_) (fun c => by omega)
      rw [show (10 : Int32) = nI 10 from rfl, nI_eq (by omega) (by decide)]
      refine ⟨fun d => ?_, fun d => next (by simp [d])⟩
      exact fin s f (by rw [g4, G c d]) _ rfl
  exact ⟨n - a + 1, hm (n - a) a _ (by omega) (FS.u (by decide)) (by rw [u1_s, pk_us]) rfl⟩
end TR
