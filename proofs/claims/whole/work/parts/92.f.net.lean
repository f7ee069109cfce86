/-! the net, asked: node, wire -/
def wiB (en : Nat → Nat) : Nat → Nat → Bool
  | 0, _ => false
  | n + 1, x => wiB en n x || decide (en n = x)
theorem wiB_iff {en : Nat → Nat} {x : Nat} : ∀ {n : Nat}, wiB en n x = true ↔ ∃ e, e < n ∧ en e = x
  | 0 => by simp [wiB]
  | n + 1 => by
    rw [wiB, Bool.or_eq_true, wiB_iff, decide_eq_true_iff]
    constructor
    · rintro (⟨e, h1, h2⟩ | h)
      · exact ⟨e, by omega, h2⟩
      · exact ⟨n, by omega, h⟩
    · rintro ⟨e, h1, h2⟩
      by_cases q : e = n
      · subst q; exact Or.inr h2
      · exact Or.inl ⟨e, by omega, h2⟩
theorem wiB_no {en : Nat → Nat} {x n : Nat} : wiB en n x = false ↔ ∀ e, e < n → en e ≠ x := by
  rw [← Bool.not_eq_true, wiB_iff]
  constructor
  · intro h e he q; exact h ⟨e, he, q⟩
  · rintro h ⟨e, he, q⟩; exact h e he q
section NE
variable {t P tn bn nn : Nat} {lg tof : Nat → Nat} {tv bv : Nat → Nat → Int32} {L : Nat} {tp : Nat → Int32} {nw : NetT} {sz old : Nat} {ac : Nat → NetT} {kb : Nat → Bool} {kn : Nat → NetT} {σ τ σ' τ' : St} {nl : Nat → Nat} {w : NetT} {N j : Nat}
theorem ix_br {x : Int32} {M : Nat} {post : Bool → St → Prop} (hM : M < 2 ^ 31) (k : post (ixB x M) σ) : (x < 0 → post false σ) ∧ (¬ x < 0 → (nI M ≤ x → post false σ) ∧ (¬ nI M ≤ x → post true σ)) := by
  have z : (0 : Int32).toInt = 0 := rfl
  have e : ∀ b : Bool, b = ixB x M → post b σ := fun b hb => by rw [hb]; exact k
  rw [fa_lt, z, fa_le, nI_toInt hM]
  exact ⟨fun q => e _ (by simp [ixB]; omega), fun q => ⟨fun q2 => e _ (by simp [ixB]; omega), fun q2 => e _ (by simp [ixB]; omega)⟩⟩
theorem c_hasNode {x : Int32} {post : Bool → St → Prop} (h : NetX nn nl w N σ) (hn : nn ≤ 6) (k : post (ixB x nn) σ) : wX4_hasNode N x σ post := by
  unfold wX4_hasNode
  rw [h.1]
  exact ix_br (by omega) k
theorem c_hasWire {x : Int32} {post : Bool → St → Prop} (h : NetX nn nl w N σ) (hw : w.1 ≤ 10) (k : post (ixB x w.1) σ) : wX4_hasWire N x σ post := by
  unfold wX4_hasWire
  rw [h.2.1]
  exact ix_br (by omega) k
theorem c_hasLeg {x y : Int32} {post : Bool → St → Prop} (h : NetX nn nl w N σ) (hn : nn ≤ 6) (hl : ∀ j, j < nn → nl j ≤ 4) (k : post (ixB x nn && ixB y (nl x.toNatClampNeg)) σ) : wX4_hasLeg N x y σ post := by
  unfold wX4_hasLeg
  refine c_hasNode h hn ⟨fun q => ?_, fun q => ?_⟩
  · rw [q] at k; exact k
  · obtain ⟨j, hj, rfl⟩ := ixB_t (by omega) q
    rw [q, Bool.true_and, nI_clamp (by omega)] at k
    have := hl j hj
    have B := ix_br (σ := σ) (M := nl j) (by omega) k
    refine ⟨B.1, fun q2 => ⟨vp_in_nI (by omega) (by decide), ?_⟩⟩
    rw [nI_clamp (by omega), (h.2.2.2 j hj).1]
    exact B.2 q2
theorem c_wired {x : Nat} {post : Bool → St → Prop} (h : NetX nn nl w N σ) (hw : w.1 ≤ 10) (he : ∀ e, e < 2 * w.1 → w.2.1 e < 2 ^ 31) (hx : x < 2 ^ 31) (k : post (wiB w.2.1 (2 * w.1) x) σ) : wX4_hasWireAt N (nI x) σ post := by
  unfold wX4_hasWireAt
  refine loop_0 (fun j i (_ : Unit) => wX4_hasWireAt_2 post j N (nI x) (nI i) σ) (fun i _ => ∀ e, e < i → w.2.1 e ≠ x) (2 * w.1) () (fun e he => by omega) ?_ ?_
  · intro j _ hI
    unfold wX4_hasWireAt_2
    rw [h.2.1, show (2 : Int32) = nI 2 from rfl, pk_mul]
    refine ⟨fun _ => ?_, fun q => absurd (nI_le (Nat.le_refl _) (by omega)) q⟩
    rw [wiB_no.mpr hI] at k; exact k
  · intro j i _ hi hI ih
    unfold wX4_hasWireAt_2
    rw [h.2.1, show (2 : Int32) = nI 2 from rfl, pk_mul]
    refine ⟨fun q => absurd q (nI_ge hi (by omega)), fun _ => ⟨vp_in_nI (by omega) (by decide), ?_⟩⟩
    rw [nI_clamp (by omega), h.2.2.1 i hi, nI_eq (he i hi) hx]
    refine ⟨fun q => ?_, fun q => ?_⟩
    · rintro _ rfl
      rw [nI_1]
      refine ih () (fun e h1 => ?_)
      by_cases f : e = i
      · subst f; exact q
      · exact hI e (by omega)
    · rw [wiB_iff.mpr ⟨i, hi, q⟩] at k; exact k
theorem NetV.lt (h : NetV P nn nl w) (hn : nn ≤ 6) {e : Nat} (he : e < 2 * w.1) : w.2.1 e < 24 := by
  have := (h.2.1 e he).1
  omega
theorem m_wireAt {x : Nat} {post : Int32 → St → Prop} (h : NetM nn nl w (τ.1 16)) (hV : NetV P nn nl w) (hn : nn ≤ 6) (hx : x < 2 ^ 31) (k1 : wiB w.2.1 (2 * w.1) x = false → post (-1) τ) (k2 : ∀ e, e < 2 * w.1 → w.2.1 e = x → post (nI (e / 2)) τ) : wX11_wireAt 0 (nI x) τ post := by
  have hw := hV.1
  unfold wX11_wireAt
  refine loop_0 (fun j i (_ : Unit) => wX11_wireAt_2 post j 0 (nI x) (nI i) τ) (fun i _ => ∀ e, e < i → w.2.1 e ≠ x) (2 * w.1) () (fun e he => by omega) ?_ ?_
  · intro j _ hI
    unfold wX11_wireAt_2
    rw [show τ.1 (0 + 16) (116 : Int32).toNatClampNeg = nI w.1 from h.1, show (2 : Int32) = nI 2 from rfl, pk_mul]
    exact ⟨fun _ => k1 (wiB_no.mpr hI), fun q => absurd (nI_le (Nat.le_refl _) (by omega)) q⟩
  · intro j i _ hi hI ih
    unfold wX11_wireAt_2
    rw [show τ.1 (0 + 16) (116 : Int32).toNatClampNeg = nI w.1 from h.1, show (2 : Int32) = nI 2 from rfl, pk_mul, show (96 : Int32) = nI 96 from rfl, nI_add]
    refine ⟨fun q => absurd q (nI_ge hi (by omega)), fun _ => ?_⟩
    rintro _ rfl
    refine ⟨vp_in_nI (by omega) (by decide), ?_⟩
    have hl := hV.lt hn hi
    rw [nI_clamp (by omega), show τ.1 (0 + 16) (96 + i) = nI (w.2.1 i) from h.2.1 i hi, nI_eq (by omega) hx]
    refine ⟨fun q => ?_, fun q => ?_⟩
    · rintro _ rfl
      rw [nI_1]
      refine ih () (fun e h1 => ?_)
      by_cases f : e = i
      · subst f; exact q
      · exact hI e (by omega)
    · rw [pk_div (by omega) (by decide) (by decide)]
      exact k2 i hi q
theorem m_legsAt {n : Nat} {post : Int32 → St → Prop} (hN : NodV tn nn tof) (hT : TabV P tn bn lg tv bv) (h : NodM nn tof τ) (hM : TabM P tn bn lg tv bv τ) (hn : n < nn) (k : post (nI (lg (tof n))) τ) : wX11_legsAt 0 (nI n) τ post := by
  have h1 := hN.2 n hn
  have h2 := hN.1
  have h3 := hT.t8
  unfold wX11_legsAt
  simp only [Nat.zero_add]
  refine ⟨vp_in_nI (by omega) (by decide), ?_⟩
  rintro _ rfl
  rw [nI_clamp (by omega), h.2 n hn, nI_clamp (by omega), hM.leg h1]
  exact ⟨vp_in_nI (by omega) (by decide), k⟩
theorem nl4 (hN : NodV tn nn tof) (hT : TabV P tn bn lg tv bv) : ∀ n, n < nn → lg (tof n) ≤ 4 := fun n hn => hT.l4 (hN.2 n hn)
def nodeA (nn : Nat) (nl : Nat → Nat) (nv : Nat → Nat → Int32) (a b : Int32) : Int32 := tableF nn nl nv a b
theorem C_node {a b : Int32} {post : Int32 → St → Prop} (h : NetX nn nl w 86 σ) (hn : nn ≤ 6) (hl : ∀ j, j < nn → nl j ≤ 4) (k : post (nodeA nn nl w.2.2 a b) σ) : wX10_node 0 a b σ post := by
  unfold wX10_node
  simp only [Nat.zero_add]
  refine c_hasNode h hn ⟨fun q => ?_, fun q => ?_⟩
  · obtain ⟨j, hj, rfl⟩ := ixB_t (by omega) q
    have h4 := hl j hj
    have h16 := p2le h4
    have hc : (nI j).toNatClampNeg = j := nI_clamp (by omega)
    unfold nodeA tableF at k
    rw [if_pos q, hc] at k
    rw [hc]
    refine ⟨vp_in_nI (by omega) (by decide), c_val (h.2.2.2 j hj).1 h4 (fun e => ?_) (fun e e2 => ?_) (fun i hi e => ?_)⟩
    · rw [if_pos e] at k; exact k
    · rw [if_neg e, e2] at k; exact k
    · subst e
      have hm : ¬ nI i = -1 := fun e => by
        have := congrArg Int32.toInt e
        rw [nI_toInt (by omega)] at this
        have z : (-1 : Int32).toInt = -1 := rfl
        omega
      rw [if_neg hm, if_pos (ixB_nI hi (by omega)), nI_clamp (by omega)] at k
      rw [(h.2.2.2 j hj).2 i hi]; exact k
  · unfold nodeA tableF at k
    rw [if_neg (by rw [q]; decide)] at k
    exact k
theorem M_node {a b : Int32} {post : Int32 → St → Prop} (hV : RV P tn bn nn lg tof tv bv L tp nw sz old ac kb kn) (hM : RM P tn bn nn lg tof tv bv L tp nw sz ac kb kn τ) (k : ∀ v, FM τ v → post (nodeA nn (fun n => lg (tof n)) nw.2.2 a b) v) : wX11_node 0 a b τ post := by
  have hF : FM τ (u1 τ 0 0 0) := FM.u0 (by decide)
  have hM1 := hM.fr hF
  have hn := hV.2.1.1
  have k := k _ hF
  unfold wX11_node
  unfold nodeA tableF at k
  rintro _ rfl
  refine m_isNode hM1.2.1 hn ⟨fun q => ?_, fun q => ?_⟩
  · obtain ⟨j, hj, rfl⟩ := ixB_t (by omega) q
    have h4 : lg (tof j) ≤ 4 := nl4 hV.2.1 hV.1 j hj
    have h16 := p2le h4
    have hc : (nI j).toNatClampNeg = j := nI_clamp (by omega)
    rw [if_pos q, hc] at k
    refine ⟨fun e => m_legsAt hV.2.1 hV.1 hM1.2.1 hM1.1 hj ?_, fun e => m_legsAt hV.2.1 hV.1 hM1.2.1 hM1.1 hj ?_⟩
    · rw [sh1 _ (by omega)]
      refine m_within (pred_toInt (by omega)) ⟨fun e2 => ?_, fun e2 => ?_⟩
      · rw [if_neg e, e2] at k; exact k
      · obtain ⟨i, hi, rfl⟩ := ixB_t (by omega) e2
        rw [if_neg e, if_pos e2, nI_clamp (by omega)] at k
        rw [show (16 : Int32) = nI 16 from rfl, pk_mul, nI_add]
        rintro _ rfl
        refine ⟨vp_in_nI (by omega) (by decide), ?_⟩
        rw [nI_clamp (by omega), show (u1 τ 0 0 0).1 (0 + 16) (16 * j + i) = nw.2.2 j i from hM1.2.2.2.1.2.2 j hj i hi]; exact k
    · rw [if_pos e] at k; exact k
  · rw [if_neg (by rw [q]; decide)] at k
    exact k
theorem S_node (hR : Rel σ τ) (a b : Int32) : wX10_node 0 a b σ (fun r u => wX11_node 0 a b τ (fun r2 v => r = r2 ∧ Rel u v)) := by
  obtain ⟨t, P, tn, bn, nn, lg, tof, tv, bv, L, tp, nw, sz, old, ac, kb, kn, hV, hX, hM⟩ := id hR
  exact C_node hX.2.2.2.1 hV.2.1.1 (nl4 hV.2.1 hV.1) (M_node hV hM (fun v hv => ⟨rfl, hR.fr (FX.rf σ) hv⟩))
def wireA (en : Nat → Nat) (j i : Nat) : Int32 := if i % 2 = 0 then nI (en (2 * j + i / 2) / 4) else nI (en (2 * j + i / 2) % 4)
theorem ix_le3 {x : Int32} (q : ¬ x < 0) : ixB x 4 = decide (x ≤ 3) := by
  have z : (0 : Int32).toInt = 0 := rfl
  have z3 : (3 : Int32).toInt = 3 := rfl
  have q := mt (fa_lt _ _).mpr q
  rw [z] at q
  have e : (x ≤ 3) ↔ x.toInt ≤ 3 := by rw [fa_le, z3]
  simp only [ixB, e]
  congr 1
  apply propext
  omega
theorem C_wire {a b : Int32} {post : Int32 → St → Prop} {postx : St → Prop} (h : NetX nn nl w 86 σ) (hV : NetV P nn nl w) (hn : nn ≤ 6) (k : ∀ j i, j < w.1 → i < 4 → a = nI j → b = nI i → post (wireA w.2.1 j i) σ) (kx : (ixB a w.1 && ixB b 4) = false → postx σ) : wX10_wire 0 a b σ post postx := by
  have hw := hV.1
  unfold wX10_wire
  simp only [Nat.zero_add]
  refine c_hasWire h hw ⟨fun q => kx (by rw [q]; rfl), fun q => ⟨fun q2 => kx ?_, fun q2 => ⟨fun q3 => ?_, fun q3 => kx ?_⟩⟩⟩
  · have q2 := (fa_lt _ _).mp q2
    have z : (0 : Int32).toInt = 0 := rfl
    rw [z] at q2
    rw [q, Bool.true_and]
    simp [ixB]; omega
  · have q4 : ixB b 4 = true := by rw [ix_le3 q2]; exact decide_eq_true q3
    obtain ⟨j, hj, rfl⟩ := ixB_t (by omega) q
    obtain ⟨i, hi, rfl⟩ := ixB_t (by decide) q4
    have K := k j i hj hi rfl rfl
    unfold wireA at K
    rw [show (2 : Int32) = nI 2 from rfl, pk_mul, pk_div (by omega) (by decide) (by decide), nI_add, show nI i - nI (i / 2) * nI 2 = nI (i % 2) by rw [← pk_div (by omega) (by decide) (by decide), pk_rem (by omega) (by decide) (by decide)]]
    rintro _ rfl
    refine ⟨vp_in_nI (by omega) (by decide), ?_⟩
    rintro _ rfl
    have hl := hV.lt hn (e := 2 * j + i / 2) (by omega)
    rw [nI_clamp (by omega), h.2.2.1 _ (by omega), show (4 : Int32) = nI 4 from rfl, pk_rem (by omega) (by decide) (by decide), pk_div (by omega) (by decide) (by decide), show (0 : Int32) = nI 0 from rfl, nI_eq (by omega) (by decide)]
    refine ⟨fun q5 => ?_, fun q5 => ?_⟩
    · rw [if_neg q5] at K; exact K
    · rw [if_pos q5] at K; exact K
  · rw [q, Bool.true_and, ix_le3 q2]; exact decide_eq_false q3
theorem M_wire {a b : Int32} {post : Int32 → St → Prop} (hV : RV P tn bn nn lg tof tv bv L tp nw sz old ac kb kn) (hM : RM P tn bn nn lg tof tv bv L tp nw sz ac kb kn τ) (k : ∀ j i v, j < nw.1 → i < 4 → a = nI j → b = nI i → FM τ v → v.1 0 0 = 0 → post (wireA nw.2.1 j i) v) (kx : ∀ v, (ixB a nw.1 && ixB b 4) = false → FM τ v → v.1 0 0 = 1 → post 0 v) : wX11_wire 0 a b τ post := by
  have hF : FM τ (u1 τ 0 0 0) := FM.u0 (by decide)
  have hG : FM τ (u1 τ 0 0 1) := FM.u0 (by decide)
  have g0 : (u1 τ 0 0 0).1 0 0 = 0 := by rw [u1_s, pk_us]
  have g1 : (u1 τ 0 0 1).1 0 0 = 1 := by rw [u1_s, pk_us]
  have hw := hV.2.2.2.1.1
  unfold wX11_wire wX11_wire_25 wX11_wire_26
  refine m_isWire hM.2.2.2.1 hw ⟨fun q => ?_, fun q => ?_⟩
  · rintro _ rfl
    rw [g1]
    exact ⟨fun e => absurd rfl e, fun _ => kx _ (by rw [q]; rfl) hG g1⟩
  · refine m_within (N := 4) (y := (3 : Int32)) rfl ⟨fun q2 => ?_, fun q2 => ?_⟩
    · rintro _ rfl
      rw [g1]
      exact ⟨fun e => absurd rfl e, fun _ => kx _ (by rw [q2]; simp) hG g1⟩
    · rintro _ rfl
      rw [g0]
      refine ⟨fun _ => ?_, fun e => absurd e (by decide)⟩
      have hT := (hM.fr hF).2.2.2.1
      obtain ⟨j, hj, rfl⟩ := ixB_t (by omega) q
      obtain ⟨i, hi, rfl⟩ := ixB_t (by decide) q2
      have K := k j i _ hj hi rfl rfl hF g0
      unfold wireA at K
      rw [show (2 : Int32) = nI 2 from rfl, show (96 : Int32) = nI 96 from rfl, pk_mul, pk_div (by omega) (by decide) (by decide), nI_add, nI_add, show nI i - nI (i / 2) * nI 2 = nI (i % 2) by rw [← pk_div (by omega) (by decide) (by decide), pk_rem (by omega) (by decide) (by decide)]]
      rintro _ rfl
      refine ⟨vp_in_nI (by omega) (by decide), ?_⟩
      rintro _ rfl
      have hl := hV.2.2.2.1.lt hV.2.1.1 (e := 2 * j + i / 2) (by omega)
      rw [nI_clamp (by omega), show (u1 τ 0 0 0).1 (0 + 16) (96 + 2 * j + i / 2) = nI (nw.2.1 (2 * j + i / 2)) from by rw [Nat.add_assoc]; exact hT.2.1 _ (by omega), show (4 : Int32) = nI 4 from rfl, pk_rem (by omega) (by decide) (by decide), pk_div (by omega) (by decide) (by decide), show (0 : Int32) = nI 0 from rfl, nI_eq (by omega) (by decide)]
      refine ⟨fun q5 => ?_, fun q5 => ?_⟩
      · rw [if_neg q5] at K; exact K
      · rw [if_pos q5] at K; exact K
theorem S_wire (hR : Rel σ τ) (a b : Int32) : wX10_wire 0 a b σ (fun r u => wX11_wire 0 a b τ (fun r2 v => wX11_thrown 0 v (fun k v => k = 0 ∧ r = r2 ∧ Rel u v))) (fun u => wX11_wire 0 a b τ (fun _ v => wX11_thrown 0 v (fun k v => k = 1 ∧ Rel u v))) := by
  obtain ⟨t, P, tn, bn, nn, lg, tof, tv, bv, L, tp, nw, sz, old, ac, kb, kn, hV, hX, hM⟩ := id hR
  have hw := hV.2.2.2.1.1
  refine C_wire hX.2.2.2.1 hV.2.2.2.1 hV.2.1.1 (fun j i hj hi ea eb => M_wire hV hM (fun j' i' v hj' hi' ea' eb' hv h0 => ?_) (fun v hq hv h0 => ?_)) (fun hx => M_wire hV hM (fun j' i' v hj' hi' ea' eb' hv h0 => ?_) (fun v hq hv h0 => ⟨h0, hR.fr (FX.rf σ) hv⟩))
  · have e1 : j = j' := (nI_eq (by omega) (by omega)).mp (ea.symm.trans ea')
    have e2 : i = i' := (nI_eq (by omega) (by omega)).mp (eb.symm.trans eb')
    subst e1 e2
    exact ⟨h0, rfl, hR.fr (FX.rf σ) hv⟩
  · rw [ea, eb, ixB_nI hj (by omega), ixB_nI hi (by decide)] at hq
    exact absurd hq (by decide)
  · rw [ea', eb', ixB_nI hj' (by omega), ixB_nI hi' (by decide)] at hx
    exact absurd hx (by decide)
end NE
