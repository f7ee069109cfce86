/-! what the class's store and the reference's have in common -/
abbrev NetT : Type := Nat × (Nat → Nat) × (Nat → Nat → Int32)
def TabV (P tn bn : Nat) (lg : Nat → Nat) (tv bv : Nat → Nat → Int32) : Prop :=
  (3 ≤ P ∧ P ≤ 97 ∧ ∀ x, 0 < x → x < P → ∃ y, 0 < y ∧ y < P ∧ x * y % P = 1) ∧ tn ≤ 8 ∧ bn ≤ 5 ∧ (∀ j, j < tn → 1 ≤ lg j ∧ lg j ≤ 4 ∧ ∀ i, i < 2 ^ lg j → Sm P (tv j i)) ∧ (∀ j, j < bn → (∀ k, k < 4 → Sm P (bv j k)) ∧ md (bv j 0 * bv j 3 - bv j 1 * bv j 2) P ≠ 0)
def NodV (tn nn : Nat) (tof : Nat → Nat) : Prop := nn ≤ 6 ∧ ∀ n, n < nn → tof n < tn
def NetV (P nn : Nat) (nl : Nat → Nat) (w : NetT) : Prop :=
  w.1 ≤ 10 ∧ (∀ e, e < 2 * w.1 → w.2.1 e / 4 < nn ∧ w.2.1 e % 4 < nl (w.2.1 e / 4)) ∧ (∀ e e', e < e' → e' < 2 * w.1 → w.2.1 e ≠ w.2.1 e') ∧ ∀ j, j < nn → ∀ i, i < 2 ^ nl j → Sm P (w.2.2 j i)
def TabX (t P tn bn : Nat) (lg : Nat → Nat) (tv bv : Nat → Nat → Int32) (σ : St) : Prop :=
  (t = 2 ∨ t = 44) ∧ σ.1 0 2 = nI t ∧ σ.1 0 3 = nI (46 - t) ∧ σ.1 t 0 = nI P ∧ σ.1 t 1 = nI tn ∧ σ.1 t 3 = nI bn ∧ (∀ j, j < tn → σ.1 (t + 1 + 20 + 2 * j) 0 = nI (lg j) ∧ ∀ i, i < 2 ^ lg j → σ.1 (t + 1 + 20 + 2 * j + 1) i = tv j i) ∧ (∀ j, j < bn → ∀ k, k < 4 → σ.1 (t + 2 + 35 + 1 * j) k = bv j k)
def TabM (P tn bn : Nat) (lg : Nat → Nat) (tv bv : Nat → Nat → Int32) (τ : St) : Prop :=
  τ.1 2 0 = nI P ∧ τ.1 3 0 = nI tn ∧ τ.1 4 0 = nI bn ∧ (∀ j, j < tn → τ.1 9 j = nI (lg j) ∧ ∀ i, i < 2 ^ lg j → τ.1 10 (16 * j + i) = tv j i) ∧ (∀ j, j < bn → ∀ k, k < 4 → τ.1 11 (4 * j + k) = bv j k)
def NodM (nn : Nat) (tof : Nat → Nat) (τ : St) : Prop := τ.1 5 0 = nI nn ∧ ∀ n, n < nn → τ.1 12 n = nI (tof n)
def NetX (nn : Nat) (nl : Nat → Nat) (w : NetT) (N : Nat) (σ : St) : Prop :=
  σ.1 N 0 = nI nn ∧ σ.1 N 1 = nI w.1 ∧ (∀ e, e < 2 * w.1 → σ.1 (N + 2) e = nI (w.2.1 e)) ∧ ∀ j, j < nn → σ.1 (N + 1 + 2 + 2 * j) 0 = nI (nl j) ∧ ∀ i, i < 2 ^ nl j → σ.1 (N + 1 + 2 + 2 * j + 1) i = w.2.2 j i
def NetM (nn : Nat) (nl : Nat → Nat) (w : NetT) (r : Nat → Int32) : Prop :=
  r 116 = nI w.1 ∧ (∀ e, e < 2 * w.1 → r (96 + e) = nI (w.2.1 e)) ∧ ∀ j, j < nn → ∀ i, i < 2 ^ nl j → r (16 * j + i) = w.2.2 j i
/-- the base that seek finds, or -2: by ((1, 1), (x, y)), x before y -/
def seekF (n : Nat) (v : Nat → Int32) (P : Nat) : Int32 :=
  findI (fun q => !decide (q / P = q % P) && madeF n (chA n 1 1 (nI (q / P)) (nI (q % P)) P v n) P) nI (-2) 0 (P * P)
def RV (P tn bn nn : Nat) (lg tof : Nat → Nat) (tv bv : Nat → Nat → Int32) (L : Nat) (tp : Nat → Int32) (nw : NetT) (sz old : Nat) (ac : Nat → NetT) (kb : Nat → Bool) (kn : Nat → NetT) : Prop :=
  TabV P tn bn lg tv bv ∧ NodV tn nn tof ∧ (L ≤ 700 ∧ ∀ i, i < L → -128 ≤ (tp i).toInt ∧ (tp i).toInt < 128) ∧ NetV P nn (fun n => lg (tof n)) nw ∧ (sz ≤ 12 ∧ old < 12 ∧ ∀ k, k < sz → NetV P nn (fun n => lg (tof n)) (ac k)) ∧ ∀ k, k < 2 → kb k = true → NetV P nn (fun n => lg (tof n)) (kn k)
def RX (t P tn bn nn : Nat) (lg tof : Nat → Nat) (tv bv : Nat → Nat → Int32) (L : Nat) (tp : Nat → Int32) (nw : NetT) (sz old : Nat) (ac : Nat → NetT) (kb : Nat → Bool) (kn : Nat → NetT) (σ : St) : Prop :=
  TabX t P tn bn lg tv bv σ ∧ True ∧ (σ.1 0 1 = nI L ∧ ∀ i, i < L → σ.1 1 i = tp i) ∧ NetX nn (fun n => lg (tof n)) nw 86 σ ∧ (σ.1 101 0 = nI sz ∧ σ.1 101 1 = nI old ∧ ∀ k, k < sz → NetX nn (fun n => lg (tof n)) (ac k) (101 + 1 + 1 + 15 * ((old + k) % 12)) σ) ∧ (∀ k, k < 2 → σ.1 284 k = b2i (kb k) ∧ (kb k = true → NetX nn (fun n => lg (tof n)) (kn k) (283 + 33 + 15 * k) σ)) ∧ ∀ k, k < 6 → σ.1 290 k = pk k
def RM (P tn bn nn : Nat) (lg tof : Nat → Nat) (tv bv : Nat → Nat → Int32) (L : Nat) (tp : Nat → Int32) (nw : NetT) (sz : Nat) (ac : Nat → NetT) (kb : Nat → Bool) (kn : Nat → NetT) (τ : St) : Prop :=
  TabM P tn bn lg tv bv τ ∧ NodM nn tof τ ∧ (τ.1 0 2 = nI L ∧ ∀ i, i < L → τ.1 1 i = tp i) ∧ NetM nn (fun n => lg (tof n)) nw (τ.1 16) ∧ (τ.1 0 32 = nI sz ∧ ∀ k, k < sz → NetM nn (fun n => lg (tof n)) (ac k) (fun i => τ.1 17 (117 * k + i))) ∧ (∀ k, k < 2 → τ.1 19 k = b2i (kb k) ∧ (kb k = true → NetM nn (fun n => lg (tof n)) (kn k) (fun i => τ.1 18 (117 * k + i)))) ∧ τ.1 0 12 = 0
def Rel (σ τ : St) : Prop := ∃ (t P tn bn nn : Nat) (lg tof : Nat → Nat) (tv bv : Nat → Nat → Int32) (L : Nat) (tp : Nat → Int32) (nw : NetT) (sz old : Nat) (ac : Nat → NetT) (kb : Nat → Bool) (kn : Nat → NetT), RV P tn bn nn lg tof tv bv L tp nw sz old ac kb kn ∧ RX t P tn bn nn lg tof tv bv L tp nw sz old ac kb kn σ ∧ RM P tn bn nn lg tof tv bv L tp nw sz ac kb kn τ
def FX (σ σ' : St) : Prop := ∀ o, (o < 285 ∨ o = 290 ∨ 316 ≤ o) → σ'.1 o = σ.1 o
def FM (τ τ' : St) : Prop := (∀ j, (j = 2 ∨ j = 12 ∨ j = 32) → τ'.1 0 j = τ.1 0 j) ∧ ∀ o, 1 ≤ o → o ≤ 19 → τ'.1 o = τ.1 o
theorem FX.rf (σ : St) : FX σ σ := fun _ _ => rfl
theorem FM.rf (τ : St) : FM τ τ := ⟨fun _ _ => rfl, fun _ _ _ => rfl⟩
theorem FX.tr {a b c : St} (h : FX a b) (h2 : FX b c) : FX a c := fun o ho => by rw [h2 o ho, h o ho]
theorem FM.tr {a b c : St} (h : FM a b) (h2 : FM b c) : FM a c := ⟨fun j hj => by rw [h2.1 j hj, h.1 j hj], fun o h1 h3 => by rw [h2.2 o h1 h3, h.2 o h1 h3]⟩
section RR
variable {t P tn bn nn : Nat} {lg tof : Nat → Nat} {tv bv : Nat → Nat → Int32} {L : Nat} {tp : Nat → Int32} {nw : NetT} {sz old : Nat} {ac : Nat → NetT} {kb : Nat → Bool} {kn : Nat → NetT} {σ τ σ' τ' : St} {nl : Nat → Nat} {w : NetT} {N : Nat}
theorem TabX.fr (h : TabX t P tn bn lg tv bv σ) (ht : tn ≤ 8) (hb : bn ≤ 5) (hF : ∀ o, o < 86 → σ'.1 o = σ.1 o) : TabX t P tn bn lg tv bv σ' := by
  obtain ⟨h0, h1, h2, h3, h4, h5, h6, h7⟩ := h
  refine ⟨h0, by rw [hF 0 (by omega)]; exact h1, by rw [hF 0 (by omega)]; exact h2, by rw [hF t (by omega)]; exact h3, by rw [hF t (by omega)]; exact h4, by rw [hF t (by omega)]; exact h5, fun j hj => ⟨by rw [hF _ (by omega)]; exact (h6 j hj).1, fun i hi => by rw [hF _ (by omega)]; exact (h6 j hj).2 i hi⟩, fun j hj k hk => by rw [hF _ (by omega)]; exact h7 j hj k hk⟩
theorem NetX.fr (h : NetX nn nl w N σ) (hn : nn ≤ 6) (hF : ∀ o, N ≤ o → o < N + 15 → σ'.1 o = σ.1 o) : NetX nn nl w N σ' := by
  obtain ⟨h1, h2, h3, h4⟩ := h
  refine ⟨by rw [hF N (by omega) (by omega)]; exact h1, by rw [hF N (by omega) (by omega)]; exact h2, fun e he => by rw [hF _ (by omega) (by omega)]; exact h3 e he, fun j hj => ⟨by rw [hF _ (by omega) (by omega)]; exact (h4 j hj).1, fun i hi => by rw [hF _ (by omega) (by omega)]; exact (h4 j hj).2 i hi⟩⟩
theorem RX.fr (hV : RV P tn bn nn lg tof tv bv L tp nw sz old ac kb kn) (h : RX t P tn bn nn lg tof tv bv L tp nw sz old ac kb kn σ) (hF : FX σ σ') : RX t P tn bn nn lg tof tv bv L tp nw sz old ac kb kn σ' := by
  obtain ⟨⟨v1, v2, v3, v4, v5⟩, ⟨v6, v7⟩, v8, v9, v10, v11⟩ := hV
  obtain ⟨h1, h2, ⟨h3, h4⟩, h5, ⟨h6, h7, h8⟩, h9, h10⟩ := h
  have ht : t = 2 ∨ t = 44 := h1.1
  refine ⟨h1.fr v2 v3 (fun o ho => hF o (by omega)), trivial, ⟨by rw [hF _ (by omega)]; exact h3, fun i hi => by rw [hF _ (by omega)]; exact h4 i hi⟩, h5.fr v6 (fun o h1 h2 => hF o (by omega)), ⟨by rw [hF _ (by omega)]; exact h6, by rw [hF _ (by omega)]; exact h7, fun k hk => (h8 k hk).fr v6 (fun o h1 h2 => hF o (by omega))⟩, fun k hk => ⟨by rw [hF _ (by omega)]; exact (h9 k hk).1, fun hb => ((h9 k hk).2 hb).fr v6 (fun o h1 h2 => hF o (by omega))⟩, fun k hk => by rw [hF _ (by omega)]; exact h10 k hk⟩
theorem RM.fr (h : RM P tn bn nn lg tof tv bv L tp nw sz ac kb kn τ) (hF : FM τ τ') : RM P tn bn nn lg tof tv bv L tp nw sz ac kb kn τ' := by
  obtain ⟨f0, fo⟩ := hF
  unfold RM TabM NodM at h ⊢
  rw [fo 2 (by omega) (by omega), fo 3 (by omega) (by omega), fo 4 (by omega) (by omega), fo 5 (by omega) (by omega), fo 9 (by omega) (by omega), fo 10 (by omega) (by omega), fo 11 (by omega) (by omega), fo 12 (by omega) (by omega), fo 1 (by omega) (by omega), fo 16 (by omega) (by omega), fo 17 (by omega) (by omega), fo 18 (by omega) (by omega), fo 19 (by omega) (by omega), f0 2 (by omega), f0 12 (by omega), f0 32 (by omega)]
  exact h
theorem Rel.fr (h : Rel σ τ) (hF : FX σ σ') (hG : FM τ τ') : Rel σ' τ' := by
  obtain ⟨t, P, tn, bn, nn, lg, tof, tv, bv, L, tp, nw, sz, old, ac, kb, kn, hV, hX, hM⟩ := h
  exact ⟨t, P, tn, bn, nn, lg, tof, tv, bv, L, tp, nw, sz, old, ac, kb, kn, hV, hX.fr hV hF, hM.fr hG⟩
theorem kX_t (ht : t = 2 ∨ t = 44) : kX[t]? = some 9 := by rcases ht with rfl | rfl <;> rfl
theorem TabX.p (h : TabX t P tn bn lg tv bv σ) : (σ.1 0 2).toNatClampNeg = t := by
  rw [h.2.1]
  have := h.1
  exact nI_clamp (by omega)
theorem c_isTable {v1 : Int32} {post : Bool → St → Prop} (h : TabX t P tn bn lg tv bv σ) (ht : tn ≤ 8) (k : post (ixB v1 tn) σ) : wX10_isTable 0 v1 σ post := by
  unfold wX10_isTable
  have z : (0 : Int32).toInt = 0 := rfl
  have e : ∀ b : Bool, b = ixB v1 tn → post b σ := fun b hb => by rw [hb]; exact k
  rw [fa_lt, z]
  refine ⟨fun q => e _ (by simp [ixB]; omega), fun q => ?_⟩
  rintro _ rfl
  rw [h.p]
  refine ⟨kX_t h.1, ?_⟩
  rw [h.2.2.2.2.1, fa_le, nI_toInt (by omega)]
  exact ⟨fun q2 => e _ (by simp [ixB]; omega), fun q2 => e _ (by simp [ixB]; omega)⟩
theorem c_isBase {v1 : Int32} {post : Bool → St → Prop} (h : TabX t P tn bn lg tv bv σ) (hb : bn ≤ 5) (k : post (ixB v1 bn) σ) : wX10_isBase 0 v1 σ post := by
  unfold wX10_isBase
  have z : (0 : Int32).toInt = 0 := rfl
  have e : ∀ b : Bool, b = ixB v1 bn → post b σ := fun b hb => by rw [hb]; exact k
  rw [fa_lt, z]
  refine ⟨fun q => e _ (by simp [ixB]; omega), fun q => ?_⟩
  rintro _ rfl
  rw [h.p]
  refine ⟨kX_t h.1, ?_⟩
  rw [h.2.2.2.2.2.1, fa_le, nI_toInt (by omega)]
  exact ⟨fun q2 => e _ (by simp [ixB]; omega), fun q2 => e _ (by simp [ixB]; omega)⟩
theorem m_isTable {v1 : Int32} {post : Bool → St → Prop} (h : TabM P tn bn lg tv bv τ) (ht : tn ≤ 8) (k : post (ixB v1 tn) τ) : wX11_isTable 0 v1 τ post := by
  unfold wX11_isTable
  have e : τ.1 (0 + 3) (0 : Int32).toNatClampNeg = nI tn := h.2.1
  rw [e]
  exact m_within (pred_toInt (by omega)) k
theorem m_isBase {v1 : Int32} {post : Bool → St → Prop} (h : TabM P tn bn lg tv bv τ) (hb : bn ≤ 5) (k : post (ixB v1 bn) τ) : wX11_isBase 0 v1 τ post := by
  unfold wX11_isBase
  have e : τ.1 (0 + 4) (0 : Int32).toNatClampNeg = nI bn := h.2.2.1
  rw [e]
  exact m_within (pred_toInt (by omega)) k
theorem m_isNode {v1 : Int32} {post : Bool → St → Prop} (h : NodM nn tof τ) (hn : nn ≤ 6) (k : post (ixB v1 nn) τ) : wX11_isNode 0 v1 τ post := by
  unfold wX11_isNode
  have e : τ.1 (0 + 5) (0 : Int32).toNatClampNeg = nI nn := h.1
  rw [e]
  exact m_within (pred_toInt (by omega)) k
theorem m_isWire {v1 : Int32} {post : Bool → St → Prop} (h : NetM nn nl w (τ.1 16)) (hw : w.1 ≤ 10) (k : post (ixB v1 w.1) τ) : wX11_isWire 0 v1 τ post := by
  unfold wX11_isWire
  have e : τ.1 (0 + 16) (116 : Int32).toNatClampNeg = nI w.1 := h.1
  rw [e]
  exact m_within (pred_toInt (by omega)) k
theorem FM.u0 {j : Nat} {x : Int32} (h : j ≠ 2 ∧ j ≠ 12 ∧ j ≠ 32) : FM τ (u1 τ 0 j x) := ⟨fun i hi => by rw [u1_s, pk_un (by omega)], fun o h1 h2 => u1_n (by omega)⟩
theorem c_val {v0 n : Nat} {v1 : Int32} {post : Int32 → St → Prop} (hn : σ.1 v0 0 = nI n) (h4 : n ≤ 4) (k1 : v1 = -1 → post (nI n) σ) (k2 : ¬ v1 = -1 → ixB v1 (2 ^ n) = false → post (-2) σ) (k3 : ∀ j, j < 2 ^ n → v1 = nI j → post (σ.1 (v0 + 1) j) σ) : wX10_valueOrLegs v0 v1 σ post := by
  have h16 := p2le h4
  unfold wX10_valueOrLegs
  refine ⟨fun q => s_hasIndex hn h4 ⟨fun q2 => k2 q q2, fun q2 => ?_⟩, fun q => by rw [hn]; exact k1 q⟩
  obtain ⟨j, hj, rfl⟩ := ixB_t (by omega) q2
  refine ⟨vp_in_nI (by omega) (by decide), ?_⟩
  rw [nI_clamp (by omega)]
  exact k3 j hj rfl
end RR
