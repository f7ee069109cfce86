/-! the reference's wire line; matchings -/
section MW
variable {t P tn bn nn : Nat} {lg tof : Nat → Nat} {tv bv : Nat → Nat → Int32} {w : NetT} {nc : Nat} {nmv nmk nmn tna bna nna : Nat → Nat} {σ τ σ' τ' : St} {tp : Nat → Int32} {n : Nat} {U : Nat → Nat} {a : Nat}
theorem pM_addW {x y : Nat} (h : PrM P tn bn nn lg tof tv bv w tna bna nna τ) : PrM P tn bn nn lg tof tv bv (addN w x y) tna bna nna (u1 (u1 (u1 τ 13 (2 * w.1) (nI x)) 13 (2 * w.1 + 1) (nI y)) 0 24 (nI (w.1 + 1))) := by
  obtain ⟨h0, h1, h2, h3, h4, h5, h6, h7, h8, h9⟩ := h
  have F : ∀ o, o ≠ 0 → o ≠ 13 → (u1 (u1 (u1 τ 13 (2 * w.1) (nI x)) 13 (2 * w.1 + 1) (nI y)) 0 24 (nI (w.1 + 1))).1 o = τ.1 o := fun o o1 o2 => by rw [u1_n o1, u1_n o2, u1_n o2]
  refine ⟨by rw [u1_s, pk_un (by decide), u1_n (by decide), u1_n (by decide)]; exact h0, by rw [F 2 (by decide) (by decide)]; exact h1, by rw [F 3 (by decide) (by decide)]; exact h2, by rw [F 4 (by decide) (by decide)]; exact h3, by rw [F 5 (by decide) (by decide)]; exact h4, fun j hj => by rw [F 9 (by decide) (by decide), F 10 (by decide) (by decide)]; exact h5 j hj, fun j hj => by rw [F 11 (by decide) (by decide)]; exact h6 j hj, fun j hj => by rw [F 12 (by decide) (by decide)]; exact h7 j hj, by rw [u1_s, pk_us]; rfl, fun z hz => ?_⟩
  have hz : z < 2 * (w.1 + 1) := hz
  rw [u1_n (by decide), u1_s, u1_s]
  show _ = nI (if z = 2 * w.1 then _ else if z = 2 * w.1 + 1 then _ else w.2.1 z)
  by_cases f1 : z = 2 * w.1 + 1
  · rw [if_neg (by omega), if_pos f1, f1, pk_us]
  · rw [pk_un f1]
    by_cases f2 : z = 2 * w.1
    · rw [if_pos f2, f2, pk_us]
    · rw [pk_un f2, if_neg f2, if_neg f1]; exact h9 z (by omega)
theorem m_wire {post : Bool → St → Prop} (hU : U = fun i => ub (tp i)) (h0 : TM tp n τ) (ha : a ≤ n) (tk : TokM U n a τ) (h9 : τ.1 0 9 = 0) (h : PrM P tn bn nn lg tof tv bv w tna bna nna τ) (hV : PrV P tn bn nn lg tof tv bv w tna bna nna) (hw : w.1 < 10) (kf : ∀ pl kd u, wirL U n (nF nna nn) nn (fun j => lg (tof j)) (wiB w.2.1 (2 * w.1)) a = .inl (pl, kd) → FPM τ u → u.1 0 9 = nI kd → u.1 0 10 = nI pl → post false u) (kt : ∀ x y b u, wirL U n (nF nna nn) nn (fun j => lg (tof j)) (wiB w.2.1 (2 * w.1)) a = .inr ((x, y), b) → FPM τ u → PrM P tn bn nn lg tof tv bv (addN w x y) tna bna nna u → TokM U n b u → u.1 0 9 = 0 → post true u) : wX11_wireLine 0 τ post := by
  have hll : ∀ j, j < nn → 1 ≤ lg (tof j) ∧ lg (tof j) ≤ 4 := fun j hj => ⟨(hV.1.2.2.2.1 _ (hV.2.1.2 _ hj)).1, (hV.1.2.2.2.1 _ (hV.2.1.2 _ hj)).2.1⟩
  unfold wX11_wireLine
  refine m_leg hU h0 ha tk h9 h hV (fun pl kd u e1 f1 g1 g2 => ⟨fun d => absurd d (by decide), fun _ => ?_⟩) (fun x b u e1 f1 t1 u9 u29 => ⟨fun _ => ?_, fun d => absurd d (by decide)⟩)
  · refine kf pl kd u ?_ f1.p g1 g2
    unfold wirL
    rw [e1]
  obtain ⟨b1, b2⟩ := legL_ok ha hll e1
  rw [u29]
  rintro _ rfl
  have hu := h.fr f1
  refine m_leg hU (h0.fr f1) b1 t1 u9 hu hV (fun pl kd v e2 f2 g1 g2 => ⟨fun d => absurd d (by decide), fun _ => ?_⟩) (fun y c v e2 f2 t2 v9 v29 => ⟨fun _ => ?_, fun d => absurd d (by decide)⟩)
  · refine kf pl kd v ?_ (f1.tr f2).p g1 g2
    unfold wirL
    rw [e1]
    show (match legL U n (nF nna nn) nn (fun j => lg (tof j)) (nI x) (wiB w.2.1 (2 * w.1)) b with
    | .inl f => Sum.inl f
    | .inr (y, c) => Sum.inr ((x, y), c)) = _
    rw [e2]
  have ew : wirL U n (nF nna nn) nn (fun j => lg (tof j)) (wiB w.2.1 (2 * w.1)) a = .inr ((x, y), c) := by
    unfold wirL
    rw [e1]
    show (match legL U n (nF nna nn) nn (fun j => lg (tof j)) (nI x) (wiB w.2.1 (2 * w.1)) b with
    | .inl f => Sum.inl f
    | .inr (y, c) => Sum.inr ((x, y), c)) = _
    rw [e2]
  have hv := hu.fr f2
  have vw := hv.2.2.2.2.2.2.2.2.1
  rw [vw, show (2 : Int32) = nI 2 from rfl, pk_mul]
  refine ⟨vp_in_nI (by omega) (by decide), ?_⟩
  rintro _ rfl
  rw [u1_n (o' := 0) (by decide), vw, v29, pk_mul, nI_1]
  refine ⟨vp_in_nI (by omega) (by decide), ?_⟩
  rintro _ rfl
  rw [u1_n (o' := 0) (by decide), u1_n (o' := 0) (by decide), vw, nI_1, nI_clamp (by omega), nI_clamp (by omega)]
  rintro _ rfl
  have G : ∀ o, o ≠ 0 → o ≠ 13 → (u1 (u1 (u1 v (0 + 13) (2 * w.1) (nI x)) (0 + 13) (2 * w.1 + 1) (nI y)) 0 24 (nI (w.1 + 1))).1 o = v.1 o := fun o o1 o2 => by rw [u1_n o1, u1_n o2, u1_n o2]
  have G0 : ∀ j, j ≠ 24 → (u1 (u1 (u1 v (0 + 13) (2 * w.1) (nI x)) (0 + 13) (2 * w.1 + 1) (nI y)) 0 24 (nI (w.1 + 1))).1 0 j = v.1 0 j := fun j hj => by rw [u1_s, pk_un hj, u1_n (by decide), u1_n (by decide)]
  obtain ⟨a1, a2, a3, a4, a5⟩ := t2
  exact kt x y c _ ew ((f1.tr f2).p.tr ⟨fun o ho => G o (by omega) (by omega), fun o o1 o2 => by rw [G o (by omega) (by omega)], fun i hi => by rw [G 9 (by decide) (by decide)], fun i hi => by rw [G 10 (by decide) (by decide)], fun i hi => by rw [G 11 (by decide) (by decide)], fun i hi => by rw [G 12 (by decide) (by decide)], fun j hj => G0 j (by omega)⟩) (pM_addW hv) ⟨by rw [G0 6 (by decide)]; exact a1, by rw [G0 4 (by decide)]; exact a2, fun c => by rw [G0 7 (by decide)]; exact a3 c, fun c => a4 c, fun c => by rw [G0 5 (by decide)]; exact a5 c⟩ (by rw [G0 9 (by decide)]; exact v9)
end MW
def sN (f : Nat → Nat) : Nat → Nat
  | 0 => 0
  | n + 1 => sN f n + f n
theorem sN_cg {f g : Nat → Nat} : ∀ {n : Nat}, (∀ k, k < n → f k = g k) → sN f n = sN g n
  | 0, _ => rfl
  | n + 1, h => by rw [sN, sN, sN_cg (fun k hk => h k (by omega)), h n (Nat.lt_succ_self n)]
theorem sN_add {f g : Nat → Nat} : ∀ n, sN (fun k => f k + g k) n = sN f n + sN g n
  | 0 => rfl
  | n + 1 => by rw [sN, sN, sN, sN_add n]; omega
theorem sN_one {x v : Nat} : ∀ n, sN (fun k => if k = x then v else 0) n = if x < n then v else 0
  | 0 => rfl
  | n + 1 => by
    rw [sN, sN_one n]
    (repeat' split) <;> omega
theorem sN_zero {f : Nat → Nat} : ∀ {n : Nat}, (∀ k, k < n → f k = 0) → sN f n = 0
  | 0, _ => rfl
  | n + 1, h => by rw [sN, sN_zero (fun k hk => h k (by omega)), h n (Nat.lt_succ_self n)]
theorem sN_le {f : Nat → Nat} {B : Nat} : ∀ {n : Nat}, (∀ k, k < n → f k ≤ B) → sN f n ≤ B * n
  | 0, _ => by rw [sN]; exact Nat.zero_le _
  | n + 1, h => by
    rw [sN, Nat.mul_succ]
    exact Nat.add_le_add (sN_le (fun k hk => h k (by omega))) (h n (Nat.lt_succ_self n))
def mkF (a b : Nat) : Nat := 2 ^ a ||| 2 ^ b
def cdF (a b S : Nat) : Bool := decide (mkF a b &&& 2 ^ tzF S ≠ 0) && decide (mkF a b &&& S = mkF a b)
def wtF (ea eb ew : Nat → Nat) (ne x y : Nat) : Nat := sN (fun k => if (ea k = x ∧ eb k = y) ∨ (ea k = y ∧ eb k = x) then ew k else 0) ne
def sC (ea eb ew : Nat → Nat) (ne S : Nat) (T : Nat → Nat) : Nat := sN (fun k => if cdF (ea k) (eb k) S then ew k * T (S ^^^ mkF (ea k) (eb k)) else 0) ne
def sR (wt : Nat → Nat → Nat) (K S : Nat) (T : Nat → Nat) : Nat := sN (fun o => if tzF S < o ∧ S.testBit o = true then wt (tzF S) o * T (S ^^^ mkF (tzF S) o) else 0) K
def mtT (ea eb ew : Nat → Nat) (ne P : Nat) : Nat → Nat → Nat
  | 0 => fun S => if S = 0 then 1 else 0
  | s + 1 => uN (mtT ea eb ew ne P s) (s + 1) (sC ea eb ew ne (s + 1) (mtT ea eb ew ne P s) % P)
theorem cd_iff : ∀ a, a < 8 → ∀ b, b < 8 → ∀ S, S < 256 → (S = 0 ∨ cdF a b S = ((decide (a = tzF S) || decide (b = tzF S)) && (S.testBit a && S.testBit b))) := by decide +kernel
theorem tz_lt : ∀ S, S < 256 → S = 0 ∨ (tzF S < 8 ∧ S.testBit (tzF S) = true ∧ ∀ b, b < 8 → S.testBit b = true → tzF S ≤ b) := by decide +kernel
theorem mkF_comm (a b : Nat) : mkF a b = mkF b a := Nat.or_comm _ _
theorem sC_sR {ea eb ew : Nat → Nat} {K S : Nat} {T : Nat → Nat} (hK : K ≤ 8) (hS : S < 256) (h0 : S ≠ 0) : ∀ ne, (∀ k, k < ne → ea k < K ∧ eb k < K ∧ ea k ≠ eb k) → sC ea eb ew ne S T = sR (wtF ea eb ew ne) K S T
  | 0, _ => by
    unfold sC sR
    rw [sN, sN_zero]
    intro k hk
    show (if _ then sN _ 0 * _ else 0) = 0
    rw [sN, Nat.zero_mul]
    split <;> rfl
  | ne + 1, h => by
    have ih := sC_sR (ew := ew) (T := T) hK hS h0 ne (fun k hk => h k (by omega))
    obtain ⟨ha, hb, hab⟩ := h ne (Nat.lt_succ_self ne)
    obtain ⟨z1, z2, z3⟩ := (tz_lt S hS).resolve_left h0
    have cd := (cd_iff (ea ne) (by omega) (eb ne) (by omega) S hS).resolve_left h0
    have e : sR (wtF ea eb ew (ne + 1)) K S T = sR (wtF ea eb ew ne) K S T + sN (fun o => if tzF S < o ∧ S.testBit o = true then (if (ea ne = tzF S ∧ eb ne = o) ∨ (ea ne = o ∧ eb ne = tzF S) then ew ne else 0) * T (S ^^^ mkF (tzF S) o) else 0) K := by
      unfold sR
      rw [← sN_add]
      refine sN_cg (fun o ho => ?_)
      show (if _ then wtF ea eb ew (ne + 1) (tzF S) o * _ else 0) = _
      rw [show wtF ea eb ew (ne + 1) (tzF S) o = wtF ea eb ew ne (tzF S) o + (if (ea ne = tzF S ∧ eb ne = o) ∨ (ea ne = o ∧ eb ne = tzF S) then ew ne else 0) from rfl, Nat.add_mul]
      split <;> rfl
    have e2 : sC ea eb ew (ne + 1) S T = sC ea eb ew ne S T + (if cdF (ea ne) (eb ne) S then ew ne * T (S ^^^ mkF (ea ne) (eb ne)) else 0) := rfl
    rw [e, e2, ih]
    congr 1
    rw [cd]
    by_cases c1 : ea ne = tzF S
    · have q : ∀ o, o < K → (if tzF S < o ∧ S.testBit o = true then (if (ea ne = tzF S ∧ eb ne = o) ∨ (ea ne = o ∧ eb ne = tzF S) then ew ne else 0) * T (S ^^^ mkF (tzF S) o) else 0) = if o = eb ne then (if S.testBit (eb ne) = true then ew ne * T (S ^^^ mkF (tzF S) (eb ne)) else 0) else 0 := fun o ho => by
        by_cases c2 : o = eb ne
        · subst c2
          rw [if_pos rfl]
          by_cases c3 : S.testBit (eb ne) = true
          · have := z3 _ (by omega) c3
            rw [if_pos ⟨by omega, c3⟩, if_pos (Or.inl ⟨c1, rfl⟩), if_pos c3]
          · rw [if_neg (fun d => c3 d.2), if_neg c3]
        · rw [if_neg c2]
          split
          · rw [if_neg (by omega), Nat.zero_mul]
          · rfl
      rw [sN_cg q, sN_one, if_pos hb, c1, z2]
      simp
    · by_cases c2 : eb ne = tzF S
      · have q : ∀ o, o < K → (if tzF S < o ∧ S.testBit o = true then (if (ea ne = tzF S ∧ eb ne = o) ∨ (ea ne = o ∧ eb ne = tzF S) then ew ne else 0) * T (S ^^^ mkF (tzF S) o) else 0) = if o = ea ne then (if S.testBit (ea ne) = true then ew ne * T (S ^^^ mkF (tzF S) (ea ne)) else 0) else 0 := fun o ho => by
          by_cases c3 : o = ea ne
          · subst c3
            rw [if_pos rfl]
            by_cases c4 : S.testBit (ea ne) = true
            · have := z3 _ (by omega) c4
              rw [if_pos ⟨by omega, c4⟩, if_pos (Or.inr ⟨rfl, c2⟩), if_pos c4]
            · rw [if_neg (fun d => c4 d.2), if_neg c4]
          · rw [if_neg c3]
            split
            · rw [if_neg (by omega), Nat.zero_mul]
            · rfl
        rw [sN_cg q, sN_one, if_pos ha, c2, z2, mkF_comm (ea ne)]
        simp
      · rw [sN_zero, if_neg (by simp [c1, c2])]
        intro o ho
        split
        · rw [if_neg (by omega), Nat.zero_mul]
        · rfl
theorem mtT_lt {ea eb ew : Nat → Nat} {ne P : Nat} (hP : 3 ≤ P) : ∀ s x, mtT ea eb ew ne P s x < P
  | 0, x => by
    show (if x = 0 then 1 else 0) < P
    split <;> omega
  | s + 1, x => by
    show uN _ _ _ x < P
    unfold uN
    split
    · exact Nat.mod_lt _ (by omega)
    · exact mtT_lt hP s x
theorem sC_cg {ea eb ew : Nat → Nat} {ne S : Nat} {T T' : Nat → Nat} (h : ∀ x, T x = T' x) : sC ea eb ew ne S T = sC ea eb ew ne S T' := by
  rw [show T = T' from funext h]
