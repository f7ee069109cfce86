/-! rank: both ways of clearing, told purely -/
def pvF (z : Nat → Bool) : Nat → Nat → Nat
  | 0, r => r
  | m + 1, r => if z r then r else pvF z m (r + 1)
theorem pvF_le {z : Nat → Bool} : ∀ m r, r ≤ pvF z m r ∧ pvF z m r ≤ r + m
  | 0, r => ⟨Nat.le_refl _, Nat.le_refl _⟩
  | m + 1, r => by
    rw [pvF]
    split
    · omega
    · have := pvF_le (z := z) m (r + 1)
      omega
theorem pvF_z {z : Nat → Bool} : ∀ m r, pvF z m r < r + m → z (pvF z m r) = true
  | 0, r, h => by rw [pvF] at h; omega
  | m + 1, r, h => by
    rw [pvF] at h ⊢
    by_cases c : z r = true
    · rw [if_pos c]; exact c
    · rw [if_neg c] at h ⊢
      exact pvF_z m (r + 1) (by omega)
theorem pvF_cg {z z' : Nat → Bool} : ∀ m r, (∀ k, r ≤ k → k < r + m → z k = z' k) → pvF z m r = pvF z' m r
  | 0, _, _ => rfl
  | m + 1, r, h => by
    rw [pvF, pvF, h r (by omega) (by omega), pvF_cg m (r + 1) (fun k h1 h2 => h k (by omega) (by omega))]
def exR (A : Nat → Nat → Int32) (i j : Nat) : Nat → Nat → Int32 := fun r => if r = i then A j else if r = j then A i else A r
def clrC (P t c : Nat) (A : Nat → Nat → Int32) : Nat → Nat → Int32 := fun r k => if t < r then md (A r k * A t c - A t k * A r c) P else A r k
def nrmM (P t c : Nat) (B : Nat → Nat → Int32) : Nat → Nat → Int32 := fun r k => if r = t then md (B t k * invF (B t c) P) P else B r k
def clrM (P t c : Nat) (B : Nat → Nat → Int32) : Nat → Nat → Int32 := fun r k => if t < r then md (B r k - B r c * B t k) P else B r k
def nzB (A : Nat → Nat → Int32) (c r : Nat) : Bool := !decide (A r c = 0)
theorem nzB_t {A : Nat → Nat → Int32} {c r : Nat} (h : nzB A c r = true) : A r c ≠ 0 := fun e => by
  unfold nzB at h
  rw [e] at h
  exact absurd h (by decide)
def rkC (P R : Nat) : Nat → Nat → Nat → (Nat → Nat → Int32) → Nat
  | 0, _, rank, _ => rank
  | m + 1, c, rank, A => if R ≤ rank then rank else if pvF (nzB A c) (R - rank) rank = R then rkC P R m (c + 1) rank A else rkC P R m (c + 1) (rank + 1) (clrC P rank c (exR A rank (pvF (nzB A c) (R - rank) rank)))
def rkM (P R : Nat) : Nat → Nat → Nat → (Nat → Nat → Int32) → Nat
  | 0, _, rank, _ => rank
  | m + 1, c, rank, B => if R ≤ rank then rank else if pvF (nzB B c) (R - rank) rank = R then rkM P R m (c + 1) rank B else rkM P R m (c + 1) (rank + 1) (clrM P rank c (nrmM P rank c (exR B rank (pvF (nzB B c) (R - rank) rank))))
theorem findI_some {Q : Nat → Bool} {r : Nat → Int32} {d : Int32} : ∀ (m a : Nat), (∃ y, a ≤ y ∧ y < a + m ∧ Q y = true) → ∃ k, a ≤ k ∧ k < a + m ∧ findI Q r d a m = r k ∧ Q k = true
  | 0, a, ⟨y, h1, h2, _⟩ => by omega
  | m + 1, a, ⟨y, h1, h2, h3⟩ => by
    rw [findI]
    by_cases h : Q a = true
    · rw [if_pos h]; exact ⟨a, by omega, by omega, rfl, h⟩
    · rw [if_neg h]
      have hne : y ≠ a := fun e => h (e ▸ h3)
      obtain ⟨k, k1, k2, k3, k4⟩ := findI_some (r := r) (d := d) m (a + 1) ⟨y, by omega, by omega, h3⟩
      exact ⟨k, by omega, by omega, k3, k4⟩
theorem invF_1 {d : Int32} {P : Nat} (hex : ∃ y, 1 ≤ y ∧ y < P ∧ md (d * nI y) P = 1) : md (d * invF d P) P = 1 := by
  obtain ⟨y, y1, y2, y3⟩ := hex
  obtain ⟨k, _, _, k3, k4⟩ := findI_some (Q := fun k => decide (md (d * nI k) P = 1)) (r := nI) (d := 0) (P - 1) 1 ⟨y, y1, by omega, by simp [y3]⟩
  unfold invF
  rw [k3]
  simpa using k4
/-- no product of two that aren't 0 is 0 -/
theorem nz_mul {P : Nat} (h97 : P ≤ 97) (h2 : 2 ≤ P) (hinv : ∀ x, 0 < x → x < P → ∃ y, 0 < y ∧ y < P ∧ x * y % P = 1) {a b : Int} (ha : a % (P : Int) ≠ 0) (hb : b % (P : Int) ≠ 0) : (a * b) % (P : Int) ≠ 0 := by
  intro e
  have a0 := Int.emod_nonneg a (b := (P : Int)) (by omega)
  have a1 := Int.emod_lt_of_pos a (b := (P : Int)) (by omega)
  obtain ⟨x, hx⟩ : ∃ x : Nat, a % (P : Int) = (x : Int) := ⟨(a % (P : Int)).toNat, by omega⟩
  obtain ⟨y, y1, y2, y3⟩ := hinv x (by omega) (by omega)
  have e1 : ((y : Int) * a) % (P : Int) = 1 % (P : Int) := by
    have : ((y : Int) * a) % (P : Int) = ((y : Int) * (x : Int)) % (P : Int) := cg_mul rfl (by rw [← hx, Int.emod_emod])
    rw [this, Int.mul_comm, ← Int.natCast_mul, ← Int.natCast_emod, y3, Int.emod_eq_of_lt (by omega) (by omega)]
    rfl
  have e2 : ((y : Int) * a * b) % (P : Int) = (1 * b) % (P : Int) := cg_mul e1 rfl
  have e3 : ((y : Int) * (a * b)) % (P : Int) = ((y : Int) * 0) % (P : Int) := cg_mul rfl (by rw [e, Int.zero_emod])
  rw [Int.mul_assoc, e3, Int.mul_zero, Int.zero_emod, Int.one_mul] at e2
  exact hb e2.symm
def LamR (P R C : Nat) (A B : Nat → Nat → Int32) : Prop := (∀ r, r < R → ∀ c, c < C → Sm P (A r c) ∧ Sm P (B r c)) ∧ ∃ la : Nat → Int, (∀ r, r < R → la r % (P : Int) ≠ 0) ∧ ∀ r, r < R → ∀ c, c < C → (A r c).toInt % (P : Int) = (la r * (B r c).toInt) % (P : Int)
theorem Sm_nz {P : Nat} {x : Int32} (h : Sm P x) : x = 0 ↔ x.toInt % (P : Int) = 0 := by
  rw [Int.emod_eq_of_lt h.1 h.2]
  constructor
  · rintro rfl; rfl
  · intro e; exact Int32.toInt_inj.mp e
section RP
variable {P R C : Nat} {A B : Nat → Nat → Int32} (h97 : P ≤ 97) (h2 : 2 ≤ P) (hinv : ∀ x, 0 < x → x < P → ∃ y, 0 < y ∧ y < P ∧ x * y % P = 1)
theorem LamR.nz (h97 : P ≤ 97) (h2 : 2 ≤ P) (hinv : ∀ x, 0 < x → x < P → ∃ y, 0 < y ∧ y < P ∧ x * y % P = 1) (h : LamR P R C A B) {r c : Nat} (hr : r < R) (hc : c < C) : A r c = 0 ↔ B r c = 0 := by
  obtain ⟨h1, la, h3, h4⟩ := h
  obtain ⟨s1, s2⟩ := h1 r hr c hc
  rw [Sm_nz s1, Sm_nz s2, h4 r hr c hc]
  constructor
  · intro e
    by_cases q : (B r c).toInt % (P : Int) = 0
    · exact q
    · exact absurd e (nz_mul h97 h2 hinv (h3 r hr) q)
  · intro e
    have : (la r * (B r c).toInt) % (P : Int) = (la r * 0) % (P : Int) := cg_mul rfl (by rw [e, Int.zero_emod])
    rw [this, Int.mul_zero, Int.zero_emod]
theorem LamR.ex (h : LamR P R C A B) {i j : Nat} (hi : i < R) (hj : j < R) : LamR P R C (exR A i j) (exR B i j) := by
  obtain ⟨h1, la, h3, h4⟩ := h
  refine ⟨fun r hr c hc => ?_, fun r => if r = i then la j else if r = j then la i else la r, fun r hr => ?_, fun r hr c hc => ?_⟩
  · unfold exR
    by_cases e1 : r = i
    · rw [if_pos e1, if_pos e1]; exact h1 j hj c hc
    · rw [if_neg e1, if_neg e1]
      by_cases e2 : r = j
      · rw [if_pos e2, if_pos e2]; exact h1 i hi c hc
      · rw [if_neg e2, if_neg e2]; exact h1 r hr c hc
  · dsimp only
    by_cases e1 : r = i
    · rw [if_pos e1]; exact h3 j hj
    · rw [if_neg e1]
      by_cases e2 : r = j
      · rw [if_pos e2]; exact h3 i hi
      · rw [if_neg e2]; exact h3 r hr
  · unfold exR
    dsimp only
    by_cases e1 : r = i
    · rw [if_pos e1, if_pos e1, if_pos e1]; exact h4 j hj c hc
    · rw [if_neg e1, if_neg e1, if_neg e1]
      by_cases e2 : r = j
      · rw [if_pos e2, if_pos e2, if_pos e2]; exact h4 i hi c hc
      · rw [if_neg e2, if_neg e2, if_neg e2]; exact h4 r hr c hc
theorem sub_toInt {P : Nat} {a b c d : Int32} (hP : P ≤ 97) (ha : Sm P a) (hb : Sm P b) (hc : Sm P c) (hd : Sm P d) : (a * b - c * d).toInt = a.toInt * b.toInt - c.toInt * d.toInt := by
  obtain ⟨e1, e2, e3⟩ := mul_nn hP ha hb
  obtain ⟨f1, f2, f3⟩ := mul_nn hP hc hd
  rw [fb_subI (by omega) (by omega), e1, f1]
theorem sub1_toInt {P : Nat} {a c d : Int32} (hP : P ≤ 97) (ha : Sm P a) (hc : Sm P c) (hd : Sm P d) : (a - c * d).toInt = a.toInt - c.toInt * d.toInt := by
  obtain ⟨f1, f2, f3⟩ := mul_nn hP hc hd
  obtain ⟨a1, a2⟩ := ha
  rw [fb_subI (by omega) (by omega), f1]
theorem LamR.clr (h97 : P ≤ 97) (h2 : 2 ≤ P) (hinv : ∀ x, 0 < x → x < P → ∃ y, 0 < y ∧ y < P ∧ x * y % P = 1) (h : LamR P R C A B) {t c : Nat} (ht : t < R) (hc : c < C) (hz : B t c ≠ 0) (hby : md (B t c * invF (B t c) P) P = 1) : LamR P R C (clrC P t c A) (clrM P t c (nrmM P t c B)) := by
  obtain ⟨h1, la, h3, h4⟩ := h
  have hP : P < 2 ^ 31 := by omega
  have h0 : 0 < P := by omega
  have sI : Sm P (invF (B t c) P) := invF_Sm h0 hP
  have e1 : ((B t c).toInt * (invF (B t c) P).toInt) % (P : Int) = 1 % (P : Int) := by
    have := cg_md (x := B t c * invF (B t c) P) h0 hP
    rw [hby, (mul_nn h97 (h1 t ht c hc).2 sI).1] at this
    rw [← this]
    rfl
  have nt : ∀ k, k < C → Sm P (nrmM P t c B t k) ∧ (nrmM P t c B t k).toInt % (P : Int) = ((B t k).toInt * (invF (B t c) P).toInt) % (P : Int) := fun k hk => by
    have : nrmM P t c B t k = md (B t k * invF (B t c) P) P := by unfold nrmM; rw [if_pos rfl]
    rw [this, cg_md h0 hP, (mul_nn h97 (h1 t ht k hk).2 sI).1]
    exact ⟨md_Sm h0 hP, rfl⟩
  have no : ∀ r, r ≠ t → ∀ k, nrmM P t c B r k = B r k := fun r hr k => by unfold nrmM; rw [if_neg hr]
  have hbz : (B t c).toInt % (P : Int) ≠ 0 := fun e => hz ((Sm_nz (h1 t ht c hc).2).mpr e)
  refine ⟨fun r hr k hk => ⟨?_, ?_⟩, fun r => if t < r then la r * la t * (B t c).toInt else if r = t then la t * (B t c).toInt else la r, fun r hr => ?_, fun r hr k hk => ?_⟩
  · unfold clrC
    split
    · exact md_Sm h0 hP
    · exact (h1 r hr k hk).1
  · unfold clrM
    split
    · exact md_Sm h0 hP
    · by_cases e : r = t
      · rw [e]; exact (nt k hk).1
      · rw [no r e]; exact (h1 r hr k hk).2
  · dsimp only
    split
    · exact nz_mul h97 h2 hinv (nz_mul h97 h2 hinv (h3 r hr) (h3 t ht)) hbz
    · split
      · exact nz_mul h97 h2 hinv (h3 t ht) hbz
      · exact h3 r hr
  · unfold clrC clrM
    dsimp only
    by_cases c1 : t < r
    · have hne : r ≠ t := by omega
      rw [if_pos c1, if_pos c1, if_pos c1, no r hne, no r hne, cg_md h0 hP, sub_toInt h97 (h1 r hr k hk).1 (h1 t ht c hc).1 (h1 t ht k hk).1 (h1 r hr c hc).1]
      have s1 : ((A r k).toInt * (A t c).toInt - (A t k).toInt * (A r c).toInt) % (P : Int) = ((la r * (B r k).toInt) * (la t * (B t c).toInt) - (la t * (B t k).toInt) * (la r * (B r c).toInt)) % (P : Int) := cg_sub (cg_mul (h4 r hr k hk) (h4 t ht c hc)) (cg_mul (h4 t ht k hk) (h4 r hr c hc))
      have s2 : (la r * la t * (B t c).toInt * (md (B r k - B r c * nrmM P t c B t k) P).toInt) % (P : Int) = (la r * la t * (B t c).toInt * ((B r k).toInt - (B r c).toInt * ((B t k).toInt * (invF (B t c) P).toInt))) % (P : Int) := by
        refine cg_mul rfl ?_
        rw [cg_md h0 hP, sub1_toInt h97 (h1 r hr k hk).2 (h1 r hr c hc).2 (nt k hk).1]
        exact cg_sub rfl (cg_mul rfl (nt k hk).2)
      rw [s1, s2]
      generalize (B r k).toInt = brk
      generalize (B r c).toInt = brc
      generalize (B t k).toInt = btk
      generalize (invF (B t c) P).toInt = by_ at e1 ⊢
      generalize (B t c).toInt = btc at e1 ⊢
      have i1 : la r * la t * btc * (brk - brc * (btk * by_)) = la r * brk * (la t * btc) - la t * btk * (la r * brc) * (btc * by_) := by grind
      have i2 : (la t * btk * (la r * brc) * (btc * by_)) % (P : Int) = (la t * btk * (la r * brc) * 1) % (P : Int) := cg_mul rfl e1
      rw [i1]
      refine cg_sub rfl ?_
      rw [i2, Int.mul_one]
    · rw [if_neg c1, if_neg c1, if_neg c1]
      by_cases e : r = t
      · subst e
        rw [if_pos rfl, h4 r hr k hk]
        have s1 : (la r * (B r c).toInt * (nrmM P r c B r k).toInt) % (P : Int) = (la r * (B r c).toInt * ((B r k).toInt * (invF (B r c) P).toInt)) % (P : Int) := cg_mul rfl (nt k hk).2
        rw [s1]
        generalize (B r k).toInt = brk
        generalize (invF (B r c) P).toInt = by_ at e1 ⊢
        generalize (B r c).toInt = brc at e1 ⊢
        have i1 : la r * brc * (brk * by_) = la r * brk * (brc * by_) := by grind
        have i2 : (la r * brk * (brc * by_)) % (P : Int) = (la r * brk * 1) % (P : Int) := cg_mul rfl e1
        rw [i1, i2, Int.mul_one]
      · rw [if_neg e, no r e]; exact h4 r hr k hk
theorem rk_eq (h97 : P ≤ 97) (h2 : 2 ≤ P) (hinv : ∀ x, 0 < x → x < P → ∃ y, 0 < y ∧ y < P ∧ x * y % P = 1) (hfi : ∀ d : Int32, Sm P d → d ≠ 0 → ∃ y, 1 ≤ y ∧ y < P ∧ md (d * nI y) P = 1) : ∀ (m c rank : Nat) (A B : Nat → Nat → Int32), c + m = C → LamR P R C A B → rkC P R m c rank A = rkM P R m c rank B
  | 0, _, _, _, _, _, _ => rfl
  | m + 1, c, rank, A, B, hc, h => by
    rw [rkC, rkM]
    by_cases q : R ≤ rank
    · rw [if_pos q, if_pos q]
    · rw [if_neg q, if_neg q]
      have e : pvF (nzB A c) (R - rank) rank = pvF (nzB B c) (R - rank) rank := pvF_cg _ _ (fun k h3 h4 => by
        unfold nzB
        rw [decide_eq_decide.mpr (h.nz h97 h2 hinv (show k < R by omega) (show c < C by omega))])
      rw [e]
      by_cases q2 : pvF (nzB B c) (R - rank) rank = R
      · rw [if_pos q2, if_pos q2]
        exact rk_eq h97 h2 hinv hfi m (c + 1) rank A B (by omega) h
      · rw [if_neg q2, if_neg q2]
        have b := pvF_le (z := nzB B c) (R - rank) rank
        have hz := pvF_z (z := nzB B c) (R - rank) rank (by omega)
        have hz2 : B (pvF (nzB B c) (R - rank) rank) c ≠ 0 := nzB_t hz
        have hx := h.ex (i := rank) (j := pvF (nzB B c) (R - rank) rank) (by omega) (by omega)
        have e5 : exR B rank (pvF (nzB B c) (R - rank) rank) rank = B (pvF (nzB B c) (R - rank) rank) := by unfold exR; rw [if_pos rfl]
        have hz3 : exR B rank (pvF (nzB B c) (R - rank) rank) rank c ≠ 0 := by rw [e5]; exact hz2
        refine rk_eq h97 h2 hinv hfi m (c + 1) (rank + 1) _ _ (by omega) (hx.clr h97 h2 hinv (by omega) (by omega) hz3 (invF_1 (hfi _ (hx.1 rank (by omega) c (by omega)).2 hz3)))
end RP
