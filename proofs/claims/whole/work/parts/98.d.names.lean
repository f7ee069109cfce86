/-! what is read: the class's spare text, the reference's second bench; names -/
def uN (f : Nat → Nat) (k v : Nat) : Nat → Nat := fun i => if i = k then v else f i
theorem uN_s {f : Nat → Nat} {k v : Nat} : uN f k v k = v := if_pos rfl
theorem uN_n {f : Nat → Nat} {k v i : Nat} (h : i ≠ k) : uN f k v i = f i := if_neg h
def nF (na : Nat → Nat) (m W : Nat) : Nat := fa_first (fun j => decide (na j = W)) m
def usF (tn bn nn : Nat) (tna bna nna : Nat → Nat) (W : Nat) : Bool := decide (nF tna tn W < tn) || (decide (nF bna bn W < bn) || decide (nF nna nn W < nn))
theorem nF_le {na : Nat → Nat} {m W : Nat} : nF na m W ≤ m := fa_first_le _ _
theorem nF_yes {na : Nat → Nat} {m W : Nat} (h : nF na m W < m) : na (nF na m W) = W := of_decide_eq_true (fa_first_yes (fun j => decide (na j = W)) m h)
theorem nF_lt {na : Nat → Nat} {m W : Nat} : nF na m W < m ↔ ∃ j, j < m ∧ na j = W := by
  constructor
  · intro h; exact ⟨_, h, nF_yes h⟩
  · rintro ⟨j, hj, e⟩
    apply Nat.lt_of_le_of_lt _ hj
    apply Nat.le_of_not_lt
    intro q
    have := fa_first_no _ _ _ q
    simp [e] at this
def NmV (tn bn nn : Nat) (tna bna nna : Nat → Nat) (nc : Nat) (nmv nmk nmn : Nat → Nat) : Prop :=
  nc = tn + bn + nn ∧ (∀ k, k < nc → (nmk k = 1 ∧ nmn k < tn ∧ tna (nmn k) = nmv k) ∨ (nmk k = 3 ∧ nmn k < bn ∧ bna (nmn k) = nmv k) ∨ (nmk k = 4 ∧ nmn k < nn ∧ nna (nmn k) = nmv k)) ∧ (∀ j, j < tn → ∃ k, k < nc ∧ nmk k = 1 ∧ nmn k = j) ∧ (∀ j, j < bn → ∃ k, k < nc ∧ nmk k = 3 ∧ nmn k = j) ∧ (∀ j, j < nn → ∃ k, k < nc ∧ nmk k = 4 ∧ nmn k = j) ∧ (∀ k k', k < k' → k' < nc → nmv k ≠ nmv k') ∧ ∀ k, k < nc → nmv k < 2 ^ 30
def PrX (t P tn bn nn : Nat) (lg tof : Nat → Nat) (tv bv : Nat → Nat → Int32) (w : NetT) (nc : Nat) (nmv nmk nmn : Nat → Nat) (σ : St) : Prop :=
  (t = 2 ∨ t = 44) ∧ σ.1 t 0 = nI P ∧ σ.1 t 1 = nI tn ∧ σ.1 t 3 = nI bn ∧ σ.1 t 6 = nI nc ∧ (∀ j, j < tn → σ.1 (t + 1 + 20 + 2 * j) 0 = nI (lg j) ∧ ∀ i, i < 2 ^ lg j → σ.1 (t + 1 + 20 + 2 * j + 1) i = tv j i) ∧ (∀ j, j < bn → ∀ k, k < 4 → σ.1 (t + 2 + 35 + 1 * j) k = bv j k) ∧ NetX nn (fun n => lg (tof n)) w (t + 3) σ ∧ True ∧ (∀ k, k < nc → σ.1 (t + 18) k = nI (nmv k) ∧ σ.1 (t + 19) k = nI (nmk k) ∧ σ.1 (t + 20) k = nI (nmn k)) ∧ ∀ k, k < 6 → σ.1 290 k = pk k
def PrM (P tn bn nn : Nat) (lg tof : Nat → Nat) (tv bv : Nat → Nat → Int32) (w : NetT) (tna bna nna : Nat → Nat) (τ : St) : Prop :=
  τ.1 0 12 = 1 ∧ τ.1 2 1 = nI P ∧ τ.1 3 1 = nI tn ∧ τ.1 4 1 = nI bn ∧ τ.1 5 1 = nI nn ∧ (∀ j, j < tn → τ.1 9 (8 + j) = nI (lg j) ∧ τ.2 6 (8 + j) = lN (tna j) ∧ ∀ i, i < 2 ^ lg j → τ.1 10 (16 * (8 + j) + i) = tv j i) ∧ (∀ j, j < bn → τ.2 7 (5 + j) = lN (bna j) ∧ ∀ k, k < 4 → τ.1 11 (4 * (5 + j) + k) = bv j k) ∧ (∀ m, m < nn → τ.1 12 (6 + m) = nI (tof m) ∧ τ.2 8 (6 + m) = lN (nna m)) ∧ τ.1 0 24 = nI w.1 ∧ ∀ e, e < 2 * w.1 → τ.1 13 e = nI (w.2.1 e)
def PrV (P tn bn nn : Nat) (lg tof : Nat → Nat) (tv bv : Nat → Nat → Int32) (w : NetT) (tna bna nna : Nat → Nat) : Prop :=
  TabV P tn bn lg tv bv ∧ NodV tn nn tof ∧ NetV P nn (fun n => lg (tof n)) w ∧ (∀ m, m < nn → ∀ i, i < 2 ^ lg (tof m) → w.2.2 m i = tv (tof m) i) ∧ (∀ j, j < tn → tna j < 2 ^ 30) ∧ (∀ j, j < bn → bna j < 2 ^ 30) ∧ ∀ j, j < nn → nna j < 2 ^ 30
def FPX (t : Nat) (σ s : St) : Prop := (∀ o, (o < t ∨ t + 42 ≤ o) → (o < 285 ∨ 290 ≤ o) → s.1 o = σ.1 o) ∧ s.1 285 3 = σ.1 285 3
theorem FPX.rf (t : Nat) (σ : St) : FPX t σ σ := ⟨fun _ _ _ => rfl, rfl⟩
theorem FPX.tr {t : Nat} {a b c : St} (h : FPX t a b) (h2 : FPX t b c) : FPX t a c := ⟨fun o h3 h4 => by rw [h2.1 o h3 h4, h.1 o h3 h4], by rw [h2.2, h.2]⟩
theorem FC.p {t : Nat} {a b : St} (h : FC a b) : FPX t a b := ⟨fun o h1 h2 => h.1 o (by omega), h.2 3 (by decide) (by decide) (by decide) (by decide) (by decide)⟩
theorem FPX.u {t o k : Nat} {σ : St} {x : Int32} (ht : t = 2 ∨ t = 44) (h : (t ≤ o ∧ o < t + 42) ∨ (286 ≤ o ∧ o ≤ 289)) : FPX t σ (u1 σ o k x) := ⟨fun q h1 h2 => u1_n (by omega), by rw [u1_n (by omega)]⟩
def FPM (τ s : St) : Prop := (∀ o, (o = 1 ∨ (16 ≤ o ∧ o ≤ 19)) → s.1 o = τ.1 o) ∧ (∀ o, 2 ≤ o → o ≤ 5 → s.1 o 0 = τ.1 o 0) ∧ (∀ i, i < 8 → s.1 9 i = τ.1 9 i) ∧ (∀ i, i < 128 → s.1 10 i = τ.1 10 i) ∧ (∀ i, i < 20 → s.1 11 i = τ.1 11 i) ∧ (∀ i, i < 6 → s.1 12 i = τ.1 12 i) ∧ ∀ j, (j = 2 ∨ j = 3 ∨ j = 32) → s.1 0 j = τ.1 0 j
theorem FPM.rf (τ : St) : FPM τ τ := ⟨fun _ _ => rfl, fun _ _ _ => rfl, fun _ _ => rfl, fun _ _ => rfl, fun _ _ => rfl, fun _ _ => rfl, fun _ _ => rfl⟩
theorem FPM.tr {a b c : St} (h : FPM a b) (g : FPM b c) : FPM a c := ⟨fun o ho => by rw [g.1 o ho, h.1 o ho], fun o h1 h2 => by rw [g.2.1 o h1 h2, h.2.1 o h1 h2], fun i hi => by rw [g.2.2.1 i hi, h.2.2.1 i hi], fun i hi => by rw [g.2.2.2.1 i hi, h.2.2.2.1 i hi], fun i hi => by rw [g.2.2.2.2.1 i hi, h.2.2.2.2.1 i hi], fun i hi => by rw [g.2.2.2.2.2.1 i hi, h.2.2.2.2.2.1 i hi], fun j hj => by rw [g.2.2.2.2.2.2 j hj, h.2.2.2.2.2.2 j hj]⟩
theorem FR.p {a b : St} (h : FR a b) : FPM a b := ⟨fun o ho => h.1 o (by omega), fun o h1 h2 => by rw [h.1 o (by omega)], fun i hi => by rw [h.1 9 (by decide)], fun i hi => by rw [h.1 10 (by decide)], fun i hi => by rw [h.1 11 (by decide)], fun i hi => by rw [h.1 12 (by decide)], fun j hj => h.2.1 j (by omega) (by omega)⟩
section NM
variable {t P tn bn nn : Nat} {lg tof : Nat → Nat} {tv bv : Nat → Nat → Int32} {w : NetT} {nc : Nat} {nmv nmk nmn tna bna nna : Nat → Nat} {σ τ σ' τ' : St} {tp : Nat → Int32} {n : Nat} {U : Nat → Nat} {a : Nat}
theorem PrX.fr (h : PrX t P tn bn nn lg tof tv bv w nc nmv nmk nmn σ) (ht : tn ≤ 8) (hb : bn ≤ 5) (hn : nn ≤ 6) (f : ∀ o, (t ≤ o ∧ o < t + 42) ∨ o = 290 → σ'.1 o = σ.1 o) : PrX t P tn bn nn lg tof tv bv w nc nmv nmk nmn σ' := by
  obtain ⟨h0, h1, h2, h3, h4, h5, h6, h7, h8, h9, h10⟩ := h
  exact ⟨h0, by rw [f _ (by omega)]; exact h1, by rw [f _ (by omega)]; exact h2, by rw [f _ (by omega)]; exact h3, by rw [f _ (by omega)]; exact h4, fun j hj => ⟨by rw [f _ (by omega)]; exact (h5 j hj).1, fun i hi => by rw [f _ (by omega)]; exact (h5 j hj).2 i hi⟩, fun j hj k hk => by rw [f _ (by omega)]; exact h6 j hj k hk, h7.fr hn (fun o h1 h2 => f o (by omega)), trivial, fun k hk => by rw [f _ (by omega), f _ (by omega), f _ (by omega)]; exact h9 k hk, fun k hk => by rw [f _ (by omega)]; exact h10 k hk⟩
theorem PrX.fc (h : PrX t P tn bn nn lg tof tv bv w nc nmv nmk nmn σ) (ht : tn ≤ 8) (hb : bn ≤ 5) (hn : nn ≤ 6) (f : FC σ σ') : PrX t P tn bn nn lg tof tv bv w nc nmv nmk nmn σ' := by
  have h0 := h.1
  exact h.fr ht hb hn (fun o ho => f.1 o (by omega))
theorem PrM.fr (h : PrM P tn bn nn lg tof tv bv w tna bna nna τ) (f : FR τ τ') : PrM P tn bn nn lg tof tv bv w tna bna nna τ' := by
  unfold PrM at *
  rw [f.2.1 12 (by omega) (by decide), f.2.1 24 (by omega) (by decide), f.1 2 (by decide), f.1 3 (by decide), f.1 4 (by decide), f.1 5 (by decide), f.1 9 (by decide), f.1 10 (by decide), f.1 11 (by decide), f.1 12 (by decide), f.1 13 (by decide), f.2.2 6 (by decide), f.2.2 7 (by decide), f.2.2 8 (by decide)]
  exact h
theorem NmV.us (h : NmV tn bn nn tna bna nna nc nmv nmk nmn) {W : Nat} : (∃ k, k < nc ∧ nmv k = W) ↔ usF tn bn nn tna bna nna W = true := by
  obtain ⟨h0, h1, h2, h3, h4, h5, h6⟩ := h
  unfold usF
  simp only [Bool.or_eq_true, decide_eq_true_eq, nF_lt]
  constructor
  · rintro ⟨k, hk, e⟩
    rcases h1 k hk with ⟨_, b, c⟩ | ⟨_, b, c⟩ | ⟨_, b, c⟩
    · exact Or.inl ⟨_, b, c.trans e⟩
    · exact Or.inr (Or.inl ⟨_, b, c.trans e⟩)
    · exact Or.inr (Or.inr ⟨_, b, c.trans e⟩)
  · rintro (⟨j, hj, e⟩ | ⟨j, hj, e⟩ | ⟨j, hj, e⟩)
    · obtain ⟨k, k1, k2, k3⟩ := h2 j hj
      refine ⟨k, k1, ?_⟩
      rcases h1 k k1 with ⟨a, b, c⟩ | ⟨a, b, c⟩ | ⟨a, b, c⟩
      · rw [k3] at c; rw [← c]; exact e
      · omega
      · omega
    · obtain ⟨k, k1, k2, k3⟩ := h3 j hj
      refine ⟨k, k1, ?_⟩
      rcases h1 k k1 with ⟨a, b, c⟩ | ⟨a, b, c⟩ | ⟨a, b, c⟩
      · omega
      · rw [k3] at c; rw [← c]; exact e
      · omega
    · obtain ⟨k, k1, k2, k3⟩ := h4 j hj
      refine ⟨k, k1, ?_⟩
      rcases h1 k k1 with ⟨a, b, c⟩ | ⟨a, b, c⟩ | ⟨a, b, c⟩
      · omega
      · omega
      · rw [k3] at c; rw [← c]; exact e
theorem c_hasName {W : Nat} {post : Bool → St → Prop} (h : PrX t P tn bn nn lg tof tv bv w nc nmv nmk nmn σ) (hN : NmV tn bn nn tna bna nna nc nmv nmk nmn) (hnc : nc ≤ 19) (hW : W < 2 ^ 30) (k : post (usF tn bn nn tna bna nna W) σ) : wX9_hasName t (nI W) σ post := by
  have h4 := h.2.2.2.2.1
  have hnm := h.2.2.2.2.2.2.2.2.2.1
  have h6 := hN.2.2.2.2.2.2
  unfold wX9_hasName
  refine loop_0 (fun j i (_ : Unit) => wX9_hasName_2 post j t (nI W) (nI i) σ) (fun i _ => ∀ k, k < i → nmv k ≠ W) nc () (fun k hk => by omega) ?_ ?_
  · rintro j _ hI
    unfold wX9_hasName_2
    rw [h4]
    refine ⟨fun _ => ?_, fun q => absurd (nI_le (Nat.le_refl _) (by omega)) q⟩
    have e : usF tn bn nn tna bna nna W = false := by
      rw [← Bool.not_eq_true, ← hN.us]
      rintro ⟨k, k1, k2⟩
      exact hI k k1 k2
    rw [e] at k; exact k
  · rintro j i _ hi hI ih
    unfold wX9_hasName_2
    rw [h4, nI_clamp (by omega), (hnm i hi).1, nI_eq (by have := h6 i hi; omega) (by omega)]
    refine ⟨fun q => absurd q (nI_ge hi (by omega)), fun _ => ⟨vp_in_nI (by omega) (by decide), fun c => ?_, fun c => ?_⟩⟩
    · rintro _ rfl
      rw [nI_1]
      refine ih () (fun k hk => ?_)
      by_cases e : k = i
      · rw [e]; exact c
      · exact hI k (by omega)
    · rw [hN.us.mp ⟨i, hi, c⟩] at k; exact k
def kdF (kd tn nn : Nat) (tna nna : Nat → Nat) (W : Nat) : Nat := if kd = 1 then nF tna tn W else nF nna nn W
theorem c_numberOf {W kd : Nat} {post : Int32 → St → Prop} (h : PrX t P tn bn nn lg tof tv bv w nc nmv nmk nmn σ) (hnc : nc ≤ 19) (hW : W < 2 ^ 30) (h6 : ∀ k, k < nc → nmv k < 2 ^ 30) (hkd : kd ≤ 4) (hk4 : ∀ k, k < nc → nmk k ≤ 4) (k1 : ∀ i, i < nc → nmv i = W → nmk i = kd → post (nI (nmn i)) σ) (k2 : (∀ i, i < nc → ¬ (nmv i = W ∧ nmk i = kd)) → post (-1) σ) : wX9_numberOf t (nI W) (nI kd) σ post := by
  have h4 := h.2.2.2.2.1
  have hnm := h.2.2.2.2.2.2.2.2.2.1
  unfold wX9_numberOf
  refine loop_0 (fun j i (_ : Unit) => wX9_numberOf_2 post j t (nI W) (nI kd) (nI i) σ) (fun i _ => ∀ k, k < i → ¬ (nmv k = W ∧ nmk k = kd)) nc () (fun k hk => by omega) ?_ ?_
  · rintro j _ hI
    unfold wX9_numberOf_2
    rw [h4]
    exact ⟨fun _ => k2 hI, fun q => absurd (nI_le (Nat.le_refl _) (by omega)) q⟩
  · rintro j i _ hi hI ih
    have hkk := hk4 i hi
    have next : ¬ (nmv i = W ∧ nmk i = kd) → wX9_numberOf_2 post j t (nI W) (nI kd) (nI (i + 1)) σ := fun c => ih () (fun k hk => by
      by_cases e : k = i
      · rw [e]; exact c
      · exact hI k (by omega))
    unfold wX9_numberOf_2
    rw [h4, nI_clamp (by omega), (hnm i hi).1, (hnm i hi).2.1, (hnm i hi).2.2, nI_eq (by have := h6 i hi; omega) (by omega), nI_eq (by omega) (by omega), nI_1]
    refine ⟨fun q => absurd q (nI_ge hi (by omega)), fun _ => ⟨vp_in_nI (by omega) (by decide), fun c => ?_, fun c => ⟨vp_in_nI (by omega) (by decide), fun d => ?_, fun d => ⟨vp_in_nI (by omega) (by decide), k1 i hi c d⟩⟩⟩⟩
    · rintro _ rfl
      exact next (fun e => c e.1)
    · rintro _ rfl
      exact next (fun e => d e.2)
theorem c_addName {W kd num : Nat} {post : St → Prop} (h : PrX t P tn bn nn lg tof tv bv w nc nmv nmk nmn σ) (ht8 : tn ≤ 8) (hb5 : bn ≤ 5) (hn6 : nn ≤ 6) (hnc : nc < 19) (k : ∀ u, (∀ o, o ≠ t → o ≠ t + 18 → o ≠ t + 19 → o ≠ t + 20 → u.1 o = σ.1 o) → (∀ j, j ≠ 6 → u.1 t j = σ.1 t j) → PrX t P tn bn nn lg tof tv bv w (nc + 1) (uN nmv nc W) (uN nmk nc kd) (uN nmn nc num) u → post u) : wX9_addName t (nI W) (nI kd) (nI num) σ post := by
  obtain ⟨h0, h1, h2, h3, h4, h5, h6, h7, h8, h9, h10⟩ := h
  unfold wX9_addName
  rw [h4]
  refine ⟨fun q => absurd q (nI_ge (a := nc) (b := 19) hnc (by decide)), fun _ => ⟨vp_in_nI hnc (by decide), ?_⟩⟩
  rintro _ rfl
  rw [nI_clamp (by omega), u1_n (o' := t) (by omega), h4]
  refine ⟨vp_in_nI hnc (by decide), ?_⟩
  rintro _ rfl
  rw [nI_clamp (by omega), u1_n (o' := t) (by omega), u1_n (o' := t) (by omega), h4]
  refine ⟨vp_in_nI hnc (by decide), ?_⟩
  rintro _ rfl
  rw [nI_clamp (by omega), u1_n (o' := t) (by omega), u1_n (o' := t) (by omega), u1_n (o' := t) (by omega), h4, nI_1]
  rintro _ rfl
  have F : ∀ o, o ≠ t → o ≠ t + 18 → o ≠ t + 19 → o ≠ t + 20 → (u1 (u1 (u1 (u1 σ (t + 18) nc (nI W)) (t + 19) nc (nI kd)) (t + 20) nc (nI num)) t 6 (nI (nc + 1))).1 o = σ.1 o := fun o o1 o2 o3 o4 => by rw [u1_n o1, u1_n o4, u1_n o3, u1_n o2]
  have G : ∀ j, j ≠ 6 → (u1 (u1 (u1 (u1 σ (t + 18) nc (nI W)) (t + 19) nc (nI kd)) (t + 20) nc (nI num)) t 6 (nI (nc + 1))).1 t j = σ.1 t j := fun j hj => by rw [u1_s, pk_un hj, u1_n (by omega), u1_n (by omega), u1_n (by omega)]
  refine k _ F G ⟨h0, by rw [G 0 (by decide)]; exact h1, by rw [G 1 (by decide)]; exact h2, by rw [G 3 (by decide)]; exact h3, by rw [u1_s, pk_us], fun j hj => ⟨by rw [F _ (by omega) (by omega) (by omega) (by omega)]; exact (h5 j hj).1, fun i hi => by rw [F _ (by omega) (by omega) (by omega) (by omega)]; exact (h5 j hj).2 i hi⟩, fun j hj k hk => by rw [F _ (by omega) (by omega) (by omega) (by omega)]; exact h6 j hj k hk, h7.fr hn6 (fun o h1 h2 => F o (by omega) (by omega) (by omega) (by omega)), trivial, fun i hi => ?_, fun k hk => by rw [F _ (by omega) (by omega) (by omega) (by omega)]; exact h10 k hk⟩
  have e19 : (u1 (u1 (u1 (u1 σ (t + 18) nc (nI W)) (t + 19) nc (nI kd)) (t + 20) nc (nI num)) t 6 (nI (nc + 1))).1 (t + 18) = upd (σ.1 (t + 18)) nc (nI W) := by rw [u1_n (by omega), u1_n (by omega), u1_n (by omega), u1_s]
  have e20 : (u1 (u1 (u1 (u1 σ (t + 18) nc (nI W)) (t + 19) nc (nI kd)) (t + 20) nc (nI num)) t 6 (nI (nc + 1))).1 (t + 19) = upd (σ.1 (t + 19)) nc (nI kd) := by rw [u1_n (by omega), u1_n (by omega), u1_s, u1_n (by omega)]
  have e21 : (u1 (u1 (u1 (u1 σ (t + 18) nc (nI W)) (t + 19) nc (nI kd)) (t + 20) nc (nI num)) t 6 (nI (nc + 1))).1 (t + 20) = upd (σ.1 (t + 20)) nc (nI num) := by rw [u1_n (by omega), u1_s, u1_n (by omega), u1_n (by omega)]
  rw [e19, e20, e21]
  by_cases e : i = nc
  · subst e
    rw [pk_us, pk_us, pk_us, uN_s, uN_s, uN_s]
    exact ⟨rfl, rfl, rfl⟩
  · rw [pk_un e, pk_un e, pk_un e, uN_n e, uN_n e, uN_n e]
    exact h9 i (by omega)
theorem c_new {post : Bool → St → Prop} (hU : U = fun i => ub (tp i)) (h0 : TX tp n σ) (ha : a ≤ n) (h2 : σ.1 285 2 = nI a) (h : PrX t P tn bn nn lg tof tv bv w nc nmv nmk nmn σ) (hN : NmV tn bn nn tna bna nna nc nmv nmk nmn) (ht8 : tn ≤ 8) (hb5 : bn ≤ 5) (hn6 : nn ≤ 6) (hnc : nc ≤ 19) (k : ∀ u, FC σ u → (newC U n a (usF tn bn nn tna bna nna) = 0 → u.1 285 2 = nI (tkE U n a) ∧ u.1 285 6 = nI (tkV U n a)) → (newC U n a (usF tn bn nn tna bna nna) ≠ 0 → u.1 285 7 = fltV (plF U n a) (newC U n a (usF tn bn nn tna bna nna))) → post (decide (newC U n a (usF tn bn nn tna bna nna) = 0)) u) : wX6_takeNewName 285 1 t σ post := by
  have hU2 : ∀ i, U i < 256 := fun i => by rw [hU]; exact ub_lt _
  have hk := tkK_le (U := U) (n := n) (a := a)
  unfold wX6_takeNewName wX6_takeNewName_20
  refine c_advance hU h0 ha h2 (fun s f tk => ?_)
  have hs := h.fc ht8 hb5 hn6 f.c
  have bad : ¬ (kwT U n a = 6 ∧ tkK U n a = 0) → wX6_fail 285 (1 : Int32) s (fun r1 s1 => post r1 s1) := fun c => by
    have e : newC U n a (usF tn bn nn tna bna nna) = 1 := by unfold newC; rw [if_neg c]
    refine c_fail (kd := 1) tk.2.1 (fun u f1 f2 f3 => ?_)
    have k := k u (f.c.tr f1) (fun d => by omega) (fun _ => by rw [e]; exact f3)
    rw [e] at k
    exact k
  rw [tk.1, show (0 : Int32) = nI 0 from rfl, nI_eq (by omega) (by decide)]
  refine ⟨fun c => bad (fun d => c d.2), fun c => c_keyword hU ha hs.2.2.2.2.2.2.2.2.2.2 tk ⟨fun d => ?_, fun d => bad (fun e => ?_)⟩⟩
  · have hw6 : kwT U n a = 6 := by
      apply Classical.byContradiction
      intro q
      rw [if_neg q] at d
      have := congrArg Int32.toInt d
      rw [nI_toInt (by have := kwT_le (U := U) (n := n) (a := a); omega)] at this
      have z : (-1 : Int32).toInt = -1 := rfl
      omega
    have hv := tkV_word hU2 ha c
    have e : newC U n a (usF tn bn nn tna bna nna) = if usF tn bn nn tna bna nna (tkV U n a) then 2 else 0 := by unfold newC; rw [if_pos ⟨hw6, c⟩]
    rw [tk.2.2.1 (by omega)]
    refine c_hasName hs hN hnc hv ⟨fun q => ?_, fun q => c_fail (kd := 2) tk.2.1 (fun u f1 f2 f3 => ⟨fun _ => ?_, fun x => absurd x (by decide)⟩)⟩
    · have e0 : newC U n a (usF tn bn nn tna bna nna) = 0 := by rw [e, if_neg (by rw [q]; decide)]
      have k := k s f.c (fun _ => ⟨tk.2.2.2 (by omega), tk.2.2.1 (by omega)⟩) (fun x => absurd e0 x)
      rw [e0] at k
      exact k
    · have e0 : newC U n a (usF tn bn nn tna bna nna) = 2 := by rw [e, if_pos q]
      have k := k u (f.c.tr f1) (fun d => by omega) (fun _ => by rw [e0]; exact f3)
      rw [e0] at k
      exact k
  · rw [if_pos e.1] at d
    exact d rfl
theorem m_tableNamed {W : Nat} {post : Int32 → St → Prop} (h : PrM P tn bn nn lg tof tv bv w tna bna nna τ) (ht8 : tn ≤ 8) (hna : ∀ j, j < tn → tna j < 2 ^ 30) (hW : W < 2 ^ 30) (h8 : τ.2 0 8 = lN W) (k : post (if nF tna tn W < tn then nI (nF tna tn W) else -1) τ) : wX11_tableNamed 0 τ post := by
  unfold wX11_tableNamed
  refine loop_0 (fun j i (_ : Unit) => wX11_tableNamed_2 post j 0 (nI i) τ) (fun i _ => i ≤ nF tna tn W) tn () (Nat.zero_le _) ?_ ?_
  · rintro j _ hI
    unfold wX11_tableNamed_2
    rw [h.1]
    rintro _ rfl
    rw [show τ.1 (0 + 3) (1 : Int32).toNatClampNeg = nI tn from h.2.2.1]
    rw [if_neg (by omega)] at k
    exact ⟨vp_in_nI (n := 1) (by decide) (by decide), fun _ => k, fun q => absurd (nI_le (Nat.le_refl _) (by omega)) q⟩
  · rintro j i _ hi hI ih
    have hb := hna i hi
    unfold wX11_tableNamed_2
    rw [h.1]
    rintro _ rfl
    rw [show τ.1 (0 + 3) (1 : Int32).toNatClampNeg = nI tn from h.2.2.1, show (8 : Int32) * 1 = nI 8 from rfl, nI_add]
    refine ⟨vp_in_nI (n := 1) (by decide) (by decide), fun q => absurd q (nI_ge hi (by omega)), fun _ => ?_⟩
    rintro _ rfl
    refine ⟨vp_in_nI (by omega) (by decide), ?_⟩
    rw [nI_clamp (by omega), show τ.2 (0 + 6) (8 + i) = lN (tna i) from (h.2.2.2.2.2.1 i hi).2.1, h8, lcmp_0, lN_eq (by omega) (by omega), nI_1]
    refine ⟨fun c => ?_, fun c => ?_⟩
    · rintro _ rfl
      refine ih () ?_
      by_cases e : i = nF tna tn W
      · have := nF_yes (na := tna) (m := tn) (W := W) (by omega)
        rw [← e] at this
        exact absurd this c
      · omega
    · have e : nF tna tn W = i := by
        apply Nat.le_antisymm _ hI
        apply Nat.le_of_not_lt
        intro q
        have := fa_first_no _ _ _ q
        simp [c] at this
      rw [e, if_pos hi] at k
      exact k
theorem m_baseNamed {W : Nat} {post : Int32 → St → Prop} (h : PrM P tn bn nn lg tof tv bv w tna bna nna τ) (hb5 : bn ≤ 5) (hna : ∀ j, j < bn → bna j < 2 ^ 30) (hW : W < 2 ^ 30) (h8 : τ.2 0 8 = lN W) (k : post (if nF bna bn W < bn then nI (nF bna bn W) else -1) τ) : wX11_baseNamed 0 τ post := by
  unfold wX11_baseNamed
  refine loop_0 (fun j i (_ : Unit) => wX11_baseNamed_2 post j 0 (nI i) τ) (fun i _ => i ≤ nF bna bn W) bn () (Nat.zero_le _) ?_ ?_
  · rintro j _ hI
    unfold wX11_baseNamed_2
    rw [h.1]
    rintro _ rfl
    rw [show τ.1 (0 + 4) (1 : Int32).toNatClampNeg = nI bn from h.2.2.2.1]
    rw [if_neg (by omega)] at k
    exact ⟨vp_in_nI (n := 1) (by decide) (by decide), fun _ => k, fun q => absurd (nI_le (Nat.le_refl _) (by omega)) q⟩
  · rintro j i _ hi hI ih
    have hb := hna i hi
    unfold wX11_baseNamed_2
    rw [h.1]
    rintro _ rfl
    rw [show τ.1 (0 + 4) (1 : Int32).toNatClampNeg = nI bn from h.2.2.2.1, show (5 : Int32) * 1 = nI 5 from rfl, nI_add]
    refine ⟨vp_in_nI (n := 1) (by decide) (by decide), fun q => absurd q (nI_ge hi (by omega)), fun _ => ?_⟩
    rintro _ rfl
    refine ⟨vp_in_nI (by omega) (by decide), ?_⟩
    rw [nI_clamp (by omega), show τ.2 (0 + 7) (5 + i) = lN (bna i) from (h.2.2.2.2.2.2.1 i hi).1, h8, lcmp_0, lN_eq (by omega) (by omega), nI_1]
    refine ⟨fun c => ?_, fun c => ?_⟩
    · rintro _ rfl
      refine ih () ?_
      by_cases e : i = nF bna bn W
      · have := nF_yes (na := bna) (m := bn) (W := W) (by omega)
        rw [← e] at this
        exact absurd this c
      · omega
    · have e : nF bna bn W = i := by
        apply Nat.le_antisymm _ hI
        apply Nat.le_of_not_lt
        intro q
        have := fa_first_no _ _ _ q
        simp [c] at this
      rw [e, if_pos hi] at k
      exact k
theorem m_nodeNamed {W : Nat} {post : Int32 → St → Prop} (h : PrM P tn bn nn lg tof tv bv w tna bna nna τ) (hn6 : nn ≤ 6) (hna : ∀ j, j < nn → nna j < 2 ^ 30) (hW : W < 2 ^ 30) (h8 : τ.2 0 8 = lN W) (k : post (if nF nna nn W < nn then nI (nF nna nn W) else -1) τ) : wX11_nodeNamed 0 τ post := by
  unfold wX11_nodeNamed
  refine loop_0 (fun j i (_ : Unit) => wX11_nodeNamed_2 post j 0 (nI i) τ) (fun i _ => i ≤ nF nna nn W) nn () (Nat.zero_le _) ?_ ?_
  · rintro j _ hI
    unfold wX11_nodeNamed_2
    rw [h.1]
    rintro _ rfl
    rw [show τ.1 (0 + 5) (1 : Int32).toNatClampNeg = nI nn from h.2.2.2.2.1]
    rw [if_neg (by omega)] at k
    exact ⟨vp_in_nI (n := 1) (by decide) (by decide), fun _ => k, fun q => absurd (nI_le (Nat.le_refl _) (by omega)) q⟩
  · rintro j i _ hi hI ih
    have hb := hna i hi
    unfold wX11_nodeNamed_2
    rw [h.1]
    rintro _ rfl
    rw [show τ.1 (0 + 5) (1 : Int32).toNatClampNeg = nI nn from h.2.2.2.2.1, show (6 : Int32) * 1 = nI 6 from rfl, nI_add]
    refine ⟨vp_in_nI (n := 1) (by decide) (by decide), fun q => absurd q (nI_ge hi (by omega)), fun _ => ?_⟩
    rintro _ rfl
    refine ⟨vp_in_nI (by omega) (by decide), ?_⟩
    rw [nI_clamp (by omega), show τ.2 (0 + 8) (6 + i) = lN (nna i) from (h.2.2.2.2.2.2.2.1 i hi).2, h8, lcmp_0, lN_eq (by omega) (by omega), nI_1]
    refine ⟨fun c => ?_, fun c => ?_⟩
    · rintro _ rfl
      refine ih () ?_
      by_cases e : i = nF nna nn W
      · have := nF_yes (na := nna) (m := nn) (W := W) (by omega)
        rw [← e] at this
        exact absurd this c
      · omega
    · have e : nF nna nn W = i := by
        apply Nat.le_antisymm _ hI
        apply Nat.le_of_not_lt
        intro q
        have := fa_first_no _ _ _ q
        simp [c] at this
      rw [e, if_pos hi] at k
      exact k
theorem fd_ge {m : Nat} {na : Nat → Nat} {W : Nat} (hm : m ≤ 8) : (0 ≤ (if nF na m W < m then nI (nF na m W) else (-1 : Int32))) ↔ nF na m W < m := by
  by_cases c : nF na m W < m
  · rw [if_pos c]
    exact ⟨fun _ => c, fun _ => nI_pos' (by omega)⟩
  · rw [if_neg c]
    exact ⟨fun h => absurd h (by decide), fun h => absurd h c⟩
theorem m_new {post : Bool → St → Prop} (hU : U = fun i => ub (tp i)) (h0 : TM tp n τ) (ha : a ≤ n) (tk : TokM U n a τ) (h9 : τ.1 0 9 = 0) (h : PrM P tn bn nn lg tof tv bv w tna bna nna τ) (hV : PrV P tn bn nn lg tof tv bv w tna bna nna) (k : ∀ u, FR τ u → (newC U n a (usF tn bn nn tna bna nna) = 0 → TokM U n (tkE U n a) u ∧ u.1 0 9 = 0 ∧ u.2 0 26 = lN (tkV U n a)) → (newC U n a (usF tn bn nn tna bna nna) ≠ 0 → u.1 0 9 = nI (newC U n a (usF tn bn nn tna bna nna)) ∧ u.1 0 10 = nI (plF U n a)) → post (decide (newC U n a (usF tn bn nn tna bna nna) = 0)) u) : wX11_newName 0 τ post := by
  have hU2 : ∀ i, U i < 256 := fun i => by rw [hU]; exact ub_lt _
  have hk := tkK_le (U := U) (n := n) (a := a)
  have ht8 := hV.1.t8
  have hb5 := hV.1.b5
  have hn6 := hV.2.1.1
  unfold wX11_newName
  refine m_isName hU ha tk (m_must (kd := 1) h9 (b2i_0 _) (by decide) (by decide) tk.2.1 (fun c => ⟨fun d => absurd d (by decide), fun _ => ?_⟩) (fun c s f g1 g2 => ⟨fun _ => ?_, fun d => absurd d (by decide)⟩))
  · have c := of_decide_eq_true c
    have hv := tkV_word hU2 ha c.2
    have h8 := tk.2.2.2.1 c.2
    have e : newC U n a (usF tn bn nn tna bna nna) = if usF tn bn nn tna bna nna (tkV U n a) then 2 else 0 := by unfold newC; rw [if_pos c]
    have bad : usF tn bn nn tna bna nna (tkV U n a) = true → wX11_newName_38 post 0 0 τ := fun q => by
      have e0 : newC U n a (usF tn bn nn tna bna nna) = 2 := by rw [e, if_pos q]
      unfold wX11_newName_38 wX11_newName_39
      refine m_must (b := false) (kd := 2) h9 (by simp) (by decide) (by decide) tk.2.1 (fun d => absurd d (by decide)) (fun _ s f g1 g2 => ⟨fun d => absurd d (by decide), fun _ => ?_⟩)
      have k := k s f (fun d => by omega) (fun _ => by rw [e0]; exact ⟨g1, g2⟩)
      rw [e0] at k
      exact k
    refine m_tableNamed h ht8 hV.2.2.2.2.1 hv h8 ?_
    rw [fd_ge ht8]
    refine ⟨fun q => bad (by unfold usF; simp [q]), fun q => m_baseNamed h hb5 hV.2.2.2.2.2.1 hv h8 ?_⟩
    rw [fd_ge (by omega)]
    refine ⟨fun q2 => bad (by unfold usF; simp [q2]), fun q2 => m_nodeNamed h hn6 hV.2.2.2.2.2.2 hv h8 ?_⟩
    rw [fd_ge (by omega)]
    refine ⟨fun q3 => bad (by unfold usF; simp [q3]), fun q3 => ?_⟩
    have e0 : newC U n a (usF tn bn nn tna bna nna) = 0 := by
      rw [e, if_neg]
      unfold usF
      simp [q, q2, q3]
    unfold wX11_newName_39
    refine m_must (b := true) (kd := 2) h9 (by simp) (by decide) (by decide) tk.2.1 (fun _ => ⟨fun _ => ?_, fun d => absurd d (by decide)⟩) (fun d => absurd d (by decide))
    rintro _ rfl
    refine m_steps hU (h0.fr FR.v) (tkE_le ha).2 (by rw [u2_1]; exact tk.2.2.2.2 (by omega)) (fun s f t2 => ?_)
    have k := k s (FR.v.tr f.r) (fun _ => ⟨t2, by rw [f.2.1 9 (by decide) (by decide) (by decide) (by decide), u2_1]; exact h9, by rw [f.2.2.2 26 (by decide), u2_s, pk_uLs]; exact h8⟩) (fun d => absurd e0 d)
    rw [e0] at k
    exact k
  · have c := of_decide_eq_false c
    have e0 : newC U n a (usF tn bn nn tna bna nna) = 1 := by unfold newC; rw [if_neg c]
    have k := k s f (fun d => by omega) (fun _ => by rw [e0]; exact ⟨g1, g2⟩)
    rw [e0] at k
    exact k
end NM
