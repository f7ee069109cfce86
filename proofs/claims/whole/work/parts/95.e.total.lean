/-! total -/
def foS (leg P i : Nat) (v : Nat → Int32) : Nat → Int32 := if i.testBit leg then v else upd v i (md (v i + v (i + 2 ^ leg)) P)
def foF (leg P : Nat) (v : Nat → Int32) : Nat → (Nat → Int32)
  | 0 => v
  | i + 1 => foS leg P i (foF leg P v i)
theorem s_fold {v0 n leg p : Nat} {σ : St} {post : St → Prop} (hn : σ.1 v0 0 = nI n) (h4 : n ≤ 4) (hl : leg < n) (h : 0 < p) (h2 : p < 2 ^ 31) (k : ∀ s : St, s.1 (v0 + 1) = foF leg p (σ.1 (v0 + 1)) (2 ^ n) → (∀ o, o ≠ v0 + 1 → s.1 o = σ.1 o) → s.2 = σ.2 → post s) : wX7_foldLeg v0 (nI leg) (nI p) σ post := by
  have h16 := p2le h4
  unfold wX7_foldLeg
  rw [sh1 leg (by omega)]
  rintro _ rfl
  refine loop_0 (fun j i (s : St) => wX7_foldLeg_7 post j v0 (nI p) (nI (2 ^ leg)) (nI i) s) (fun i s => s.1 (v0 + 1) = foF leg p (σ.1 (v0 + 1)) i ∧ (∀ o, o ≠ v0 + 1 → s.1 o = σ.1 o) ∧ s.2 = σ.2) (2 ^ n) σ ⟨rfl, fun _ _ => rfl, rfl⟩ ?_ ?_
  · intro j s hI
    obtain ⟨i1, i2, i3⟩ := hI
    unfold wX7_foldLeg_7
    refine s_size (by rw [i2 _ (by omega)]; exact hn) h4 ⟨fun _ => k s i1 i2 i3, fun q => absurd (nI_le (Nat.le_refl _) (by omega)) q⟩
  · intro j i s hi hI ih
    obtain ⟨i1, i2, i3⟩ := hI
    unfold wX7_foldLeg_7
    refine s_size (by rw [i2 _ (by omega)]; exact hn) h4 ⟨fun q => absurd q (nI_ge hi (by omega)), fun _ => ?_⟩
    rw [fa_bit (by omega), fa_or]
    refine ⟨fun q => ?_, fun q => ?_⟩
    · rintro _ rfl
      rw [nI_1]
      refine ih s ⟨?_, i2, i3⟩
      rw [i1, foF, foS, if_pos (by simpa using q)]
    · have e1 := or_add i (by omega) leg (by omega) q
      have e2 := add_lt n h4 i hi leg hl q
      rw [e1]
      refine ⟨fun q2 => absurd q2 (nI_ge (a := i + 2 ^ leg) (b := 16) (by omega) (by decide)), fun _ => ⟨vp_in_nI (by omega) (by decide), ?_⟩⟩
      rintro _ rfl
      refine ⟨vp_in_nI (by omega) (by decide), ?_⟩
      rw [nI_clamp (by omega), nI_clamp (by omega)]
      refine c_mod h h2 ⟨vp_in_nI (by omega) (by decide), ?_⟩
      rintro _ rfl _ rfl
      rw [nI_1]
      refine ih _ ⟨?_, ?_, ?_⟩
      · rw [u1_s, i1, foF, foS, if_neg (by rw [q]; decide)]
      · intro o ho
        rw [u1_n ho, i2 o ho]
      · rw [u1_2, i3]
theorem foF_val {n leg P : Nat} {v : Nat → Int32} (h4 : n ≤ 4) (hl : leg < n) : ∀ m, m ≤ 2 ^ n → ∀ i, i < 2 ^ n → foF leg P v m i = (if i.testBit leg = false ∧ i < m then md (v i + v (i + 2 ^ leg)) P else v i) := by
  have h16 := p2le h4
  intro m
  induction m with
  | zero => intro _ i _; simp [foF]
  | succ m ih =>
    intro hm i hi
    have ih := ih (by omega)
    rw [foF, foS]
    by_cases qm : m.testBit leg = true
    · rw [if_pos qm, ih i hi]
      by_cases c : i.testBit leg = false ∧ i < m
      · rw [if_pos c, if_pos ⟨c.1, by omega⟩]
      · rw [if_neg c, if_neg]
        rintro ⟨c1, c2⟩
        have : i ≠ m := fun e => by rw [e, qm] at c1; exact absurd c1 (by decide)
        exact c ⟨c1, by omega⟩
    · rw [if_neg qm]
      have qm' : m.testBit leg = false := by simpa using qm
      have hlt := add_lt n h4 m (by omega) leg hl qm'
      have qa := bit_add m (by omega) leg (by omega) qm'
      rw [ih m (by omega), ih _ hlt, if_neg (by omega), if_neg (by rw [qa]; simp)]
      by_cases e : i = m
      · subst e
        rw [pk_us, if_pos ⟨qm', by omega⟩]
      · rw [pk_un e, ih i hi]
        by_cases c : i.testBit leg = false ∧ i < m
        · rw [if_pos c, if_pos ⟨c.1, by omega⟩]
        · rw [if_neg c, if_neg]
          rintro ⟨c1, c2⟩
          exact c ⟨c1, by omega⟩
theorem foF_cg {n leg P : Nat} {v u : Nat → Int32} (h4 : n ≤ 4) (hl : leg < n) (h : ∀ j, j < 2 ^ n → v j = u j) {i : Nat} (hi : i < 2 ^ n) : foF leg P v (2 ^ n) i = foF leg P u (2 ^ n) i := by
  have h16 := p2le h4
  rw [foF_val h4 hl _ (Nat.le_refl _) i hi, foF_val h4 hl _ (Nat.le_refl _) i hi]
  by_cases c : i.testBit leg = false ∧ i < 2 ^ n
  · rw [if_pos c, if_pos c, h i hi, h _ (add_lt n h4 i hi leg hl c.1)]
  · rw [if_neg c, if_neg c, h i hi]
def fdF (P m : Nat) (op : Nat → Bool) (v : Nat → Int32) : Nat → (Nat → Int32)
  | 0 => v
  | l + 1 => if op l then foF l P (fdF P m op v l) (2 ^ m) else fdF P m op v l
theorem fdF_Sm {P m : Nat} {op : Nat → Bool} {v : Nat → Int32} (h4 : m ≤ 4) (h0 : 0 < P) (hP : P < 2 ^ 31) (hop : ∀ l, op l = true → l < m) (hs : ∀ i, i < 2 ^ m → Sm P (v i)) : ∀ l i, i < 2 ^ m → Sm P (fdF P m op v l i)
  | 0, i, hi => hs i hi
  | l + 1, i, hi => by
    rw [fdF]
    by_cases c : op l = true
    · rw [if_pos c, foF_val h4 (hop l c) _ (Nat.le_refl _) i hi]
      split
      · exact md_Sm h0 hP
      · exact fdF_Sm h4 h0 hP hop hs l i hi
    · rw [if_neg c]; exact fdF_Sm h4 h0 hP hop hs l i hi
def mt2 (op : Nat → Bool) (l m i k : Nat) : Bool := decide (∀ j, j < m → (op j = true ∧ j < l) ∨ k.testBit j = i.testBit j)
theorem bit_addj : ∀ i, i < 16 → ∀ l, l < 4 → i.testBit l = false → ∀ j, j < 4 → (i + 2 ^ l).testBit j = (decide (j = l) || i.testBit j) := by decide +kernel
theorem mt2_iff {op : Nat → Bool} {l m i k : Nat} : mt2 op l m i k = true ↔ ∀ j, j < m → (op j = true ∧ j < l) ∨ k.testBit j = i.testBit j := decide_eq_true_iff
theorem bool_eq {a b : Bool} (h : a = true ↔ b = true) : a = b := by cases a <;> cases b <;> simp_all
theorem mt2_0 {op : Nat → Bool} {m i k : Nat} (hi : i < 2 ^ m) (hk : k < 2 ^ m) : mt2 op 0 m i k = true ↔ i = k := by
  rw [mt2_iff]
  constructor
  · intro h
    apply Nat.eq_of_testBit_eq
    intro j
    by_cases e : j < m
    · rcases h j e with c | c
      · omega
      · exact c.symm
    · rw [bit_ge hi (by omega), bit_ge hk (by omega)]
  · rintro rfl j _
    exact Or.inr rfl
theorem mt2_split {op : Nat → Bool} {l m i k : Nat} (h4 : m ≤ 4) (hi : i < 2 ^ m) (hl : l < m) (ho : op l = true) (hb : i.testBit l = false) (a : Int) : (if mt2 op (l + 1) m i k then a else 0) = (if mt2 op l m i k then a else 0) + (if mt2 op l m (i + 2 ^ l) k then a else 0) := by
  have h16 := p2le h4
  have hj := bit_addj i (by omega) l (by omega) hb
  cases hk : k.testBit l with
  | false =>
    have e1 : mt2 op (l + 1) m i k = mt2 op l m i k := bool_eq (by
      rw [mt2_iff, mt2_iff]
      constructor
      · intro h j hjm
        rcases h j hjm with c | c
        · by_cases e : j = l
          · subst e; exact Or.inr (hk.trans hb.symm)
          · exact Or.inl ⟨c.1, by omega⟩
        · exact Or.inr c
      · intro h j hjm
        rcases h j hjm with c | c
        · exact Or.inl ⟨c.1, by omega⟩
        · exact Or.inr c)
    have e2 : mt2 op l m (i + 2 ^ l) k = false := by
      rw [← Bool.not_eq_true, mt2_iff]
      intro h
      rcases h l hl with c | c
      · omega
      · rw [hk, hj l (by omega)] at c
        simp at c
    rw [e1, e2]
    simp
  | true =>
    have e1 : mt2 op (l + 1) m i k = mt2 op l m (i + 2 ^ l) k := bool_eq (by
      rw [mt2_iff, mt2_iff]
      constructor
      · intro h j hjm
        rw [hj j (by omega)]
        by_cases e : j = l
        · subst e; exact Or.inr (by rw [hk]; simp)
        · rcases h j hjm with c | c
          · exact Or.inl ⟨c.1, by omega⟩
          · exact Or.inr (by rw [c]; simp [e])
      · intro h j hjm
        by_cases e : j = l
        · subst e; exact Or.inl ⟨ho, by omega⟩
        · rcases h j hjm with c | c
          · exact Or.inl ⟨c.1, by omega⟩
          · rw [hj j (by omega)] at c
            exact Or.inr (by rw [c]; simp [e]))
    have e2 : mt2 op l m i k = false := by
      rw [← Bool.not_eq_true, mt2_iff]
      intro h
      rcases h l hl with c | c
      · omega
      · rw [hk, hb] at c
        exact absurd c (by decide)
    rw [e1, e2]
    simp
theorem fd_sum {P m : Nat} {op : Nat → Bool} {v : Nat → Int32} (h4 : m ≤ 4) (h0 : 0 < P) (h97 : P ≤ 97) (hop : ∀ l, op l = true → l < m) (hs : ∀ i, i < 2 ^ m → Sm P (v i)) : ∀ l i, i < 2 ^ m → (∀ j, j < l → op j = true → i.testBit j = false) → (fdF P m op v l i).toInt % (P : Int) = fb_si (fun k => if mt2 op l m i k then (v k).toInt else 0) (2 ^ m) % (P : Int)
  | 0, i, hi, _ => by
    have e : fb_si (fun k => if mt2 op 0 m i k then (v k).toInt else 0) (2 ^ m) = fb_si (fun k => if i = k then (fun k => (v k).toInt) k else 0) (2 ^ m) := fb_si_cong (fun k hk => by
      by_cases c : i = k
      · rw [if_pos c, if_pos ((mt2_0 hi hk).mpr c)]
      · rw [if_neg c, if_neg (fun q => c ((mt2_0 hi hk).mp q))])
    rw [e, si_one, if_pos hi]
    rfl
  | l + 1, i, hi, hz => by
    have h16 := p2le h4
    rw [fdF]
    by_cases c : op l = true
    · have hl := hop l c
      have hb := hz l (by omega) c
      have hlt := add_lt m h4 i hi l hl hb
      have hj := bit_addj i (by omega) l (by omega) hb
      rw [if_pos c, foF_val h4 hl _ (Nat.le_refl _) i hi, if_pos ⟨hb, hi⟩, cg_md h0 (by omega)]
      obtain ⟨a1, a2⟩ := fdF_Sm h4 h0 (by omega) hop hs l i hi
      obtain ⟨b1, b2⟩ := fdF_Sm h4 h0 (by omega) hop hs l _ hlt
      rw [fb_addI (by omega) (by omega)]
      have e : fb_si (fun k => if mt2 op (l + 1) m i k then (v k).toInt else 0) (2 ^ m) = fb_si (fun k => (if mt2 op l m i k then (v k).toInt else 0) + (if mt2 op l m (i + 2 ^ l) k then (v k).toInt else 0)) (2 ^ m) := fb_si_cong (fun k _ => mt2_split h4 hi hl c hb _)
      rw [e, fb_si_add]
      refine cg_add (fd_sum h4 h0 h97 hop hs l i hi (fun j hj hoj => hz j (by omega) hoj)) (fd_sum h4 h0 h97 hop hs l _ hlt (fun j hjl hoj => ?_))
      rw [hj j (by have := hop j hoj; omega), hz j (by omega) hoj]
      simp; omega
    · rw [if_neg c]
      have e : fb_si (fun k => if mt2 op (l + 1) m i k then (v k).toInt else 0) (2 ^ m) = fb_si (fun k => if mt2 op l m i k then (v k).toInt else 0) (2 ^ m) := fb_si_cong (fun k _ => by
        have : mt2 op (l + 1) m i k = mt2 op l m i k := bool_eq (by
          rw [mt2_iff, mt2_iff]
          constructor
          · intro h j hjm
            rcases h j hjm with d | d
            · by_cases e : j = l
              · subst e; exact absurd d.1 c
              · exact Or.inl ⟨d.1, by omega⟩
            · exact Or.inr d
          · intro h j hjm
            rcases h j hjm with d | d
            · exact Or.inl ⟨d.1, by omega⟩
            · exact Or.inr d)
        rw [this])
      rw [e]
      exact fd_sum h4 h0 h97 hop hs l i hi (fun j hj hoj => hz j (by omega) hoj)
def ctx (x n : Nat) : Nat := if x ≤ 4 * n then 0 else if 4 * n + 4 ≤ x then 4 else x - 4 * n
def foN (P nn : Nat) (nl : Nat → Nat) (w : NetT) (x : Nat) : NetT := (w.1, w.2.1, fun n => fdF P (nl n) (fun l => opX nn nl w (4 * n + l)) (w.2.2 n) (ctx x n))
section TT
variable {t P tn bn nn : Nat} {lg tof : Nat → Nat} {tv bv : Nat → Nat → Int32} {L L' : Nat} {tp tp' : Nat → Int32} {nw nw' : NetT} {sz old sz' old' : Nat} {ac ac' : Nat → NetT} {kb kb' : Nat → Bool} {kn kn' : Nat → NetT} {σ τ σ' τ' : St} {nl : Nat → Nat} {w : NetT} {N j : Nat}
theorem op_leg {n l : Nat} (h4 : nl n ≤ 4) (hl : l < 4) (h : opX nn nl w (4 * n + l) = true) : l < nl n ∧ n < nn := by
  unfold opX at h
  rw [show (4 * n + l) / 4 = n by omega, show (4 * n + l) % 4 = l by omega] at h
  simp only [Bool.and_eq_true, decide_eq_true_eq] at h
  exact ⟨h.2.1, h.1⟩
def op4 (nn : Nat) (nl : Nat → Nat) (w : NetT) (n l : Nat) : Bool := decide (l < 4) && opX nn nl w (4 * n + l)
theorem fdF_op {P m n : Nat} {v : Nat → Int32} : ∀ l, l ≤ 4 → fdF P m (fun l => opX nn nl w (4 * n + l)) v l = fdF P m (op4 nn nl w n) v l
  | 0, _ => rfl
  | l + 1, h => by
    rw [fdF, fdF, fdF_op l (by omega)]
    have : op4 nn nl w n l = opX nn nl w (4 * n + l) := by
      unfold op4
      simp [show l < 4 by omega]
    rw [this]
theorem op4_lt {n : Nat} (h4 : nl n ≤ 4) : ∀ l, op4 nn nl w n l = true → l < nl n := fun l h => by
  unfold op4 at h
  simp only [Bool.and_eq_true, decide_eq_true_eq] at h
  exact (op_leg h4 h.1 h.2).1
theorem foN_V (hV : NetV P nn nl w) (hl : ∀ j, j < nn → nl j ≤ 4) (h0 : 0 < P) (hP : P < 2 ^ 31) (x : Nat) : NetV P nn nl (foN P nn nl w x) := by
  refine ⟨hV.1, hV.2.1, hV.2.2.1, fun n hn i hi => ?_⟩
  have hc : ctx x n ≤ 4 := by unfold ctx; (repeat' split) <;> omega
  show Sm P (fdF P (nl n) (fun l => opX nn nl w (4 * n + l)) (w.2.2 n) (ctx x n) i)
  rw [fdF_op _ hc]
  exact fdF_Sm (hl n hn) h0 hP (op4_lt (hl n hn)) (hV.2.2.2 n hn) _ i hi
theorem foN_no {x : Nat} (h : opX nn nl w x = false) : foN P nn nl w (x + 1) = foN P nn nl w x := by
  unfold foN
  congr 2
  funext n
  by_cases e : n = x / 4
  · have c1 : ctx (x + 1) n = x % 4 + 1 := by unfold ctx; (repeat' split) <;> omega
    have c2 : ctx x n = x % 4 := by unfold ctx; (repeat' split) <;> omega
    rw [c1, c2, fdF, if_neg]
    rw [show 4 * n + x % 4 = x by omega, h]; decide
  · have c1 : ctx (x + 1) n = ctx x n := by unfold ctx; (repeat' split) <;> omega
    rw [c1]
theorem foN_yes {x : Nat} (h : opX nn nl w x = true) : foN P nn nl w (x + 1) = setN (foN P nn nl w x) (x / 4) (foF (x % 4) P ((foN P nn nl w x).2.2 (x / 4)) (2 ^ nl (x / 4))) := by
  unfold foN setN
  dsimp only
  congr 2
  funext n
  by_cases e : n = x / 4
  · have c1 : ctx (x + 1) n = x % 4 + 1 := by unfold ctx; (repeat' split) <;> omega
    have c2 : ctx x n = x % 4 := by unfold ctx; (repeat' split) <;> omega
    rw [if_pos e, c1, ← e, c2, fdF, if_pos]
    rw [show 4 * n + x % 4 = x by omega]; exact h
  · have c1 : ctx (x + 1) n = ctx x n := by unfold ctx; (repeat' split) <;> omega
    rw [if_neg e, c1]
theorem c_goAll {post : St → Prop} (h : NetX nn nl w 86 σ) (hV : NetV P nn nl w) (hn : nn ≤ 6) (hl : ∀ j, j < nn → nl j ≤ 4) (h2 : 2 ≤ P) (h97 : P ≤ 97) (k : ∀ s, FX σ s → (s.1 291 0).toInt = fb_si (fun y => (prF P (2 ^ nn - 1) (vlC nl (foN P nn nl w (4 * nn)) (stF w.2.1 w.1 (fun _ => false) y)) nn).toInt) (2 ^ w.1) % (P : Int) → post s) : wX8_goThroughAll 291 86 (nI P) σ post := by
  have h64 := p2_6 hn
  unfold wX8_goThroughAll
  refine c_netCopy h hn hl hV.1 (by omega) (fun s0 sN sF => ?_)
  refine loop_0 (fun j i (s : St) => wX8_goThroughAll_10 post j 291 86 (nI P) (nI i) s) (fun i s => (∀ o, (o < 294 ∨ 309 ≤ o) → s.1 o = σ.1 o) ∧ NetX nn nl (foN P nn nl w i) 294 s) (4 * nn) s0 ⟨fun o ho => sF o (by omega), by
    have : foN P nn nl w 0 = w := by
      unfold foN
      have : (fun n => fdF P (nl n) (fun l => opX nn nl w (4 * n + l)) (w.2.2 n) (ctx 0 n)) = w.2.2 := by
        funext n
        have : ctx 0 n = 0 := by unfold ctx; rw [if_pos (by omega)]
        rw [this, fdF]
      rw [this]
    rw [this]; exact sN⟩ ?_ ?_
  · rintro j s ⟨i1, i2⟩
    unfold wX8_goThroughAll_10 wX4_allNodes
    rw [i1 86 (by omega), h.1, show s.1 (291 + 3) 0 = nI nn from i2.1, sh1 _ (by omega), all_nI hn, show (4 : Int32) = nI 4 from rfl, pk_mul]
    refine ⟨fun _ => c_some (w := foN P nn nl w (4 * nn)) i2 (foN_V hV hl (by omega) (by omega) _) hn hl (by omega) (by omega) h2 h97 (fun s' f e1 => k s' (fun o ho => by rw [f o (by omega) (by omega) (by omega), i1 o (by omega)]) ?_), fun q => absurd (nI_le (Nat.le_refl _) (by omega)) q⟩
    rw [e1]
    congr 1
    exact fb_si_cong (fun y hy => by rw [sb_all (foN_V hV hl (by omega) (by omega) _)]; rfl)
  · rintro j i s hi ⟨i1, i2⟩ ih
    have hN : NetX nn nl w 86 s := h.fr hn (fun o h1 h2 => i1 o (by omega))
    unfold wX8_goThroughAll_10
    rw [hN.1, show (4 : Int32) = nI 4 from rfl, pk_mul]
    refine ⟨fun q => absurd q (nI_ge hi (by omega)), fun _ => c_isOpen hN hV hn hl (by omega) ⟨fun q => ?_, fun q => ?_⟩⟩
    · rintro _ rfl
      rw [nI_1]
      exact ih s ⟨i1, by rw [foN_no q]; exact i2⟩
    · have hi4 : i / 4 < nn := by omega
      have h4 := hl _ hi4
      have hlg : i % 4 < nl (i / 4) := by
        refine (op_leg (nn := nn) (w := w) h4 (by omega) ?_).1
        rw [show 4 * (i / 4) + i % 4 = i by omega]; exact q
      rw [pk_rem (by omega) (by decide) (by decide), pk_div (by omega) (by decide) (by decide)]
      rintro _ rfl
      refine ⟨vp_in_nI (by omega) (by decide), ?_⟩
      rw [nI_clamp (by omega)]
      obtain ⟨g1, g2⟩ := i2.2.2.2 _ hi4
      refine s_fold g1 h4 hlg (by omega) (by omega) (fun s' m1 m2 m3 => ?_)
      rintro _ rfl
      rw [nI_1]
      refine ih s' ⟨fun o ho => by rw [m2 o (by omega), i1 o ho], ?_⟩
      rw [foN_yes q]
      refine i2.vals (fun o h1 h2 => m2 o h2) (by rw [m2 _ (by omega)]; exact g1) (fun y hy => ?_)
      rw [show s'.1 (294 + 1 + 2 + 2 * (i / 4) + 1) = _ from m1]
      exact foF_cg h4 hlg g2 hy
theorem hval_two {st : Nat → Int32} {y : Nat} (hV : NetV P nn nl w) (hn : nn ≤ 6) (hl : ∀ j, j < nn → nl j ≤ 4) (h2 : 2 ≤ P) (h97 : P ≤ 97) (h1 : StM w y st) (ho : OpM nn nl w (fun _ => 2) st) : ∀ n, n < nn → vlM P nl w st n = vlC nl (foN P nn nl w (4 * nn)) (stF w.2.1 w.1 (fun _ => false) y) n := by
  intro n hn2
  have h4 := hl n hn2
  have h16 := p2le h4
  have hs := hV.2.2.2 n hn2
  unfold vlM vlC
  have hc : ctx (4 * nn) n = 4 := by unfold ctx; rw [if_neg (by omega), if_pos (by omega)]
  show _ = fdF P (nl n) (fun l => opX nn nl w (4 * n + l)) (w.2.2 n) (ctx (4 * nn) n) _
  rw [hc, fdF_op _ (by omega)]
  have hb : ∀ l, l < nl n → (ixF (stF w.2.1 w.1 (fun _ => false) y) n (nl n)).testBit l = stF w.2.1 w.1 (fun _ => false) y (4 * n + l) := fun l hl => by
    rw [ixF_bit]; simp [hl]
  have hopen : ∀ l, l < nl n → op4 nn nl w n l = !wiB w.2.1 (2 * w.1) (4 * n + l) := fun l hl => by
    unfold op4 opX
    rw [show (4 * n + l) / 4 = n by omega, show (4 * n + l) % 4 = l by omega]
    simp [hl, hn2, show l < 4 by omega]
  have e1 := fd_sum h4 (by omega) h97 (op4_lt (nn := nn) (w := w) h4) hs 4 _ (ixF_lt (stF w.2.1 w.1 (fun _ => false) y) n (nl n)) (fun j hj hoj => by
    have hjl := op4_lt (nn := nn) (w := w) h4 j hoj
    rw [hopen j hjl] at hoj
    rw [hb j hjl, stF_op (by simpa using hoj)])
  have e2 := (vsF_toInt (st := st) (n := n) h4 h97 hs _ (Nat.le_refl _)).1
  have sm := fdF_Sm h4 (by omega) (by omega) (op4_lt (nn := nn) (w := w) h4) hs 4 _ (ixF_lt (stF w.2.1 w.1 (fun _ => false) y) n (nl n))
  rw [← md_same sm]
  refine md_eq ?_
  rw [e1, e2]
  congr 1
  refine fb_si_cong (fun k hk => ?_)
  have : mtB st n k (nl n) = mt2 (op4 nn nl w n) 4 (nl n) (ixF (stF w.2.1 w.1 (fun _ => false) y) n (nl n)) k := bool_eq (by
    rw [mtB_iff, mt2_iff]
    have K : ∀ l, l < nl n → ((st (4 * n + l) = 2 ∨ st (4 * n + l) = nI (k.testBit l).toNat) ↔ ((op4 nn nl w n l = true ∧ l < 4) ∨ k.testBit l = (ixF (stF w.2.1 w.1 (fun _ => false) y) n (nl n)).testBit l)) := by
      intro l hl
      rw [hb l hl, hopen l hl]
      cases hw : wiB w.2.1 (2 * w.1) (4 * n + l) with
      | false =>
        have : st (4 * n + l) = 2 := ho _ (by omega) (by rw [show (4 * n + l) / 4 = n by omega, show (4 * n + l) % 4 = l by omega]; exact hl) hw
        simp [this, show l < 4 by omega]
      | true =>
        obtain ⟨e, he, q⟩ := wiB_iff.mp hw
        rw [← q, stF_en hV.2.2.1 he, h1 e he]
        constructor
        · rintro (c | c)
          · exact absurd c (b2_ne _)
          · exact Or.inr ((b2_inj _ _).mp c).symm
        · rintro (c | c)
          · exact absurd c.1 (by decide)
          · exact Or.inr (by rw [c])
    constructor
    · intro h l hl; exact (K l hl).mp (h l hl)
    · intro h l hl; exact (K l hl).mpr (h l hl))
  rw [this]
theorem S_total (hR : Rel σ τ) : wX10_total 0 σ (fun r u => wX11_total 0 τ (fun r2 v => r = r2 ∧ Rel u v)) := by
  obtain ⟨t, P, tn, bn, nn, lg, tof, tv, bv, L, tp, nw, sz, old, ac, kb, kn, hV, hX, hM⟩ := id hR
  have hn := hV.2.1.1
  have h97 := hV.1.1.2.1
  have h3 := hV.1.1.1
  have hF : FM τ (u1 τ 0 0 0) := FM.u0 (by decide)
  have hM1 := hM.fr hF
  have h24 : opC nn (fun n => lg (tof n)) nw (4 * nn) ≤ 24 := opc24 hn
  unfold wX10_total
  simp only [Nat.zero_add]
  rintro _ rfl
  rw [hX.1.p, hX.1.pr]
  refine ⟨kX_t hX.1.1, c_goAll hX.2.2.2.1 hV.2.2.2.1 hn hV.hl (by omega) h97 (fun s fs e1 => ?_)⟩
  unfold wX11_total
  rintro _ rfl
  refine m_laysOpen hV hM1 (fun s1 f1 f2 f3 g1 g2 => ?_)
  refine loop_0 (fun x i (r : St) => wX11_total_11 _ x 0 (nI i) r) (fun i r => (∀ o, o ≠ 23 → r.1 o = s1.1 o) ∧ (∀ x, x < 4 * nn → opX nn (fun n => lg (tof n)) nw x = true → opC nn (fun n => lg (tof n)) nw x < i → r.1 23 x = 2)) (opC nn (fun n => lg (tof n)) nw (4 * nn)) s1 ⟨fun _ _ => rfl, fun x _ _ h => by omega⟩ ?_ ?_
  · rintro x r ⟨i1, i2⟩
    unfold wX11_total_11
    rw [i1 0 (by decide), g1]
    refine ⟨fun _ => ?_, fun q => absurd (nI_le (Nat.le_refl _) (by omega)) q⟩
    have hop : OpM nn (fun n => lg (tof n)) nw (fun _ => 2) (r.1 23) := fun z z1 z2 z3 => by
      have hz : opX nn (fun n => lg (tof n)) nw z = true := by
        unfold opX
        rw [z3]
        simp [z1, z2]
      exact i2 z (by omega) hz (opC_lt (by omega) hz)
    refine m_summed (V := fun y => vlC (fun n => lg (tof n)) (foN P nn (fun n => lg (tof n)) nw (4 * nn)) (stF nw.2.1 nw.1 (fun _ => false) y)) hV ((hM1.fr f1).fr (FM.r23 i1)) hop (fun y hy st h1 h2 => hval_two hV.2.2.2.1 hn hV.hl (by omega) h97 h1 h2) (fun s2 r2 f4 k1 k2 => ⟨Int32.toInt_inj.mp ?_, hR.fr fs (hF.tr (f1.tr ((FM.r23 i1).tr f4)))⟩)
    rw [e1, (k1 rfl).2]
  · rintro x i r hi ⟨i1, i2⟩ ih
    obtain ⟨z, z1, z2, z3⟩ := fb_ct_kth hi
    have z3 : opC nn (fun n => lg (tof n)) nw z = i := z3
    have e22 : s1.1 22 i = nI z := by
      have := g2 z z1 z2
      rw [z3] at this
      exact this
    unfold wX11_total_11
    simp only [Nat.zero_add]
    rw [i1 0 (by decide), g1, nI_clamp (by omega), i1 22 (by decide), e22]
    refine ⟨fun q => absurd q (nI_ge hi (by omega)), fun _ => ⟨vp_in_nI (by omega) (by decide), vp_in_nI (by omega) (by decide), ?_⟩⟩
    rintro _ rfl _ rfl
    rw [nI_1, nI_clamp (by omega)]
    refine ih _ ⟨fun o ho => by rw [u1_n ho, i1 o ho], fun y y1 y2 y3 => ?_⟩
    rw [u1_s]
    by_cases e : y = z
    · rw [e, pk_us]
    · rw [pk_un e]
      refine i2 y y1 y2 ?_
      have : opC nn (fun n => lg (tof n)) nw y ≠ i := fun q => e (fb_ct_kth_one y2 z2 (q.trans z3.symm))
      omega
end TT
