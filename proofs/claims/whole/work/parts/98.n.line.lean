/-! what a line adds -/
section LN
variable {t P tn bn nn : Nat} {lg tof : Nat → Nat} {tv bv : Nat → Nat → Int32} {w : NetT} {nc : Nat} {nmv nmk nmn tna bna nna : Nat → Nat} {σ τ σ' τ' : St} {tp : Nat → Int32} {n : Nat} {U : Nat → Nat} {a : Nat}
theorem NmV.newv {W : Nat} (h : NmV tn bn nn tna bna nna nc nmv nmk nmn) (hu : usF tn bn nn tna bna nna W = false) : ∀ k, k < nc → nmv k ≠ W := fun k hk e => by
  have := h.us.mp ⟨k, hk, e⟩
  rw [hu] at this
  exact absurd this (by decide)
theorem nd_d {W : Nat} (h5 : ∀ k k', k < k' → k' < nc → nmv k ≠ nmv k') (hn : ∀ k, k < nc → nmv k ≠ W) : ∀ k k', k < k' → k' < nc + 1 → uN nmv nc W k ≠ uN nmv nc W k' := fun k k' h1 h2 => by
  rw [uN_n (by omega)]
  by_cases c : k' = nc
  · rw [c, uN_s]; exact hn k (by omega)
  · rw [uN_n c]; exact h5 k k' h1 (by omega)
theorem nd_b {W : Nat} (h6 : ∀ k, k < nc → nmv k < 2 ^ 30) (hW : W < 2 ^ 30) : ∀ k, k < nc + 1 → uN nmv nc W k < 2 ^ 30 := fun k hk => by
  by_cases c : k = nc
  · rw [c, uN_s]; exact hW
  · rw [uN_n c]; exact h6 k (by omega)
theorem NmV.addT {W : Nat} (h : NmV tn bn nn tna bna nna nc nmv nmk nmn) (hu : usF tn bn nn tna bna nna W = false) (hW : W < 2 ^ 30) : NmV (tn + 1) bn nn (uN tna tn W) bna nna (nc + 1) (uN nmv nc W) (uN nmk nc 1) (uN nmn nc tn) := by
  have hn := h.newv hu
  obtain ⟨h0, h1, h2, h3, h4, h5, h6⟩ := h
  refine ⟨by omega, fun k hk => ?_, fun j hj => ?_, fun j hj => ?_, fun j hj => ?_, nd_d h5 hn, nd_b h6 hW⟩
  · by_cases c : k = nc
    · rw [c, uN_s, uN_s, uN_s, uN_s]; exact Or.inl ⟨rfl, Nat.lt_succ_self _, rfl⟩
    · rw [uN_n c, uN_n c, uN_n c]
      rcases h1 k (by omega) with ⟨a, b, d⟩ | q | q
      · exact Or.inl ⟨a, by omega, by rw [uN_n (by omega)]; exact d⟩
      · exact Or.inr (Or.inl q)
      · exact Or.inr (Or.inr q)
  · by_cases c : j = tn
    · exact ⟨nc, by omega, by rw [uN_s], by rw [uN_s, c]⟩
    · obtain ⟨k, k1, k2, k3⟩ := h2 j (by omega)
      exact ⟨k, by omega, by rw [uN_n (by omega)]; exact k2, by rw [uN_n (by omega)]; exact k3⟩
  · obtain ⟨k, k1, k2, k3⟩ := h3 j hj
    exact ⟨k, by omega, by rw [uN_n (by omega)]; exact k2, by rw [uN_n (by omega)]; exact k3⟩
  · obtain ⟨k, k1, k2, k3⟩ := h4 j hj
    exact ⟨k, by omega, by rw [uN_n (by omega)]; exact k2, by rw [uN_n (by omega)]; exact k3⟩
theorem NmV.addB {W : Nat} (h : NmV tn bn nn tna bna nna nc nmv nmk nmn) (hu : usF tn bn nn tna bna nna W = false) (hW : W < 2 ^ 30) : NmV tn (bn + 1) nn tna (uN bna bn W) nna (nc + 1) (uN nmv nc W) (uN nmk nc 3) (uN nmn nc bn) := by
  have hn := h.newv hu
  obtain ⟨h0, h1, h2, h3, h4, h5, h6⟩ := h
  refine ⟨by omega, fun k hk => ?_, fun j hj => ?_, fun j hj => ?_, fun j hj => ?_, nd_d h5 hn, nd_b h6 hW⟩
  · by_cases c : k = nc
    · rw [c, uN_s, uN_s, uN_s, uN_s]; exact Or.inr (Or.inl ⟨rfl, Nat.lt_succ_self _, rfl⟩)
    · rw [uN_n c, uN_n c, uN_n c]
      rcases h1 k (by omega) with q | ⟨a, b, d⟩ | q
      · exact Or.inl q
      · exact Or.inr (Or.inl ⟨a, by omega, by rw [uN_n (by omega)]; exact d⟩)
      · exact Or.inr (Or.inr q)
  · obtain ⟨k, k1, k2, k3⟩ := h2 j hj
    exact ⟨k, by omega, by rw [uN_n (by omega)]; exact k2, by rw [uN_n (by omega)]; exact k3⟩
  · by_cases c : j = bn
    · exact ⟨nc, by omega, by rw [uN_s], by rw [uN_s, c]⟩
    · obtain ⟨k, k1, k2, k3⟩ := h3 j (by omega)
      exact ⟨k, by omega, by rw [uN_n (by omega)]; exact k2, by rw [uN_n (by omega)]; exact k3⟩
  · obtain ⟨k, k1, k2, k3⟩ := h4 j hj
    exact ⟨k, by omega, by rw [uN_n (by omega)]; exact k2, by rw [uN_n (by omega)]; exact k3⟩
theorem NmV.addN {W : Nat} (h : NmV tn bn nn tna bna nna nc nmv nmk nmn) (hu : usF tn bn nn tna bna nna W = false) (hW : W < 2 ^ 30) : NmV tn bn (nn + 1) tna bna (uN nna nn W) (nc + 1) (uN nmv nc W) (uN nmk nc 4) (uN nmn nc nn) := by
  have hn := h.newv hu
  obtain ⟨h0, h1, h2, h3, h4, h5, h6⟩ := h
  refine ⟨by omega, fun k hk => ?_, fun j hj => ?_, fun j hj => ?_, fun j hj => ?_, nd_d h5 hn, nd_b h6 hW⟩
  · by_cases c : k = nc
    · rw [c, uN_s, uN_s, uN_s, uN_s]; exact Or.inr (Or.inr ⟨rfl, Nat.lt_succ_self _, rfl⟩)
    · rw [uN_n c, uN_n c, uN_n c]
      rcases h1 k (by omega) with q | q | ⟨a, b, d⟩
      · exact Or.inl q
      · exact Or.inr (Or.inl q)
      · exact Or.inr (Or.inr ⟨a, by omega, by rw [uN_n (by omega)]; exact d⟩)
  · obtain ⟨k, k1, k2, k3⟩ := h2 j hj
    exact ⟨k, by omega, by rw [uN_n (by omega)]; exact k2, by rw [uN_n (by omega)]; exact k3⟩
  · obtain ⟨k, k1, k2, k3⟩ := h3 j hj
    exact ⟨k, by omega, by rw [uN_n (by omega)]; exact k2, by rw [uN_n (by omega)]; exact k3⟩
  · by_cases c : j = nn
    · exact ⟨nc, by omega, by rw [uN_s], by rw [uN_s, c]⟩
    · obtain ⟨k, k1, k2, k3⟩ := h4 j (by omega)
      exact ⟨k, by omega, by rw [uN_n (by omega)]; exact k2, by rw [uN_n (by omega)]; exact k3⟩
theorem uN_b {f : Nat → Nat} {m W B : Nat} (h : ∀ j, j < m → f j < B) (hW : W < B) : ∀ j, j < m + 1 → uN f m W j < B := fun j hj => by
  by_cases c : j = m
  · rw [c, uN_s]; exact hW
  · rw [uN_n c]; exact h j (by omega)
theorem PrV.addT {l W : Nat} {g : Nat → Int32} (h : PrV P tn bn nn lg tof tv bv w tna bna nna) (ht : tn < 8) (l1 : 1 ≤ l) (l4 : l ≤ 4) (hg : ∀ i, i < 2 ^ l → Sm P (g i)) (hW : W < 2 ^ 30) : PrV P (tn + 1) bn nn (uN lg tn l) tof (setT tv tn g) bv w (uN tna tn W) bna nna := by
  obtain ⟨⟨v1, v2, v3, v4, v5⟩, ⟨v6, v7⟩, v8, v9, v10, v11, v12⟩ := h
  have ne : ∀ m, m < nn → tof m ≠ tn := fun m hm => by have := v7 m hm; omega
  refine ⟨⟨v1, by omega, v3, fun j hj => ?_, v5⟩, ⟨v6, fun m hm => by have := v7 m hm; omega⟩, v8.nl (fun j hj => uN_n (ne j hj)), fun m hm i hi => ?_, uN_b v10 hW, v11, v12⟩
  · by_cases c : j = tn
    · rw [c, uN_s, setT_s]; exact ⟨l1, l4, hg⟩
    · rw [uN_n c, setT_n c]; exact v4 j (by omega)
  · rw [uN_n (ne m hm)] at hi
    rw [setT_n (ne m hm)]
    exact v9 m hm i hi
theorem PrV.addB {W : Nat} {g : Nat → Int32} (h : PrV P tn bn nn lg tof tv bv w tna bna nna) (hb : bn < 5) (hg : ∀ i, i < 4 → Sm P (g i)) (hd : md (g 0 * g 3 - g 1 * g 2) P ≠ 0) (hW : W < 2 ^ 30) : PrV P tn (bn + 1) nn lg tof tv (setT bv bn g) w tna (uN bna bn W) nna := by
  obtain ⟨⟨v1, v2, v3, v4, v5⟩, v6, v8, v9, v10, v11, v12⟩ := h
  refine ⟨⟨v1, v2, by omega, v4, fun j hj => ?_⟩, v6, v8, v9, v10, uN_b v11 hW, v12⟩
  by_cases c : j = bn
  · rw [c, setT_s]; exact ⟨hg, hd⟩
  · rw [setT_n c]; exact v5 j (by omega)
theorem PrV.addN {W k : Nat} (h : PrV P tn bn nn lg tof tv bv w tna bna nna) (hn : nn < 6) (hk : k < tn) (hW : W < 2 ^ 30) : PrV P tn bn (nn + 1) lg (uN tof nn k) tv bv (addNd w nn (tv k)) tna bna (uN nna nn W) := by
  obtain ⟨v1, ⟨v6, v7⟩, ⟨n1, n2, n3, n4⟩, v9, v10, v11, v12⟩ := h
  refine ⟨v1, ⟨by omega, uN_b v7 hk⟩, ⟨n1, fun e he => ?_, n3, fun j hj i hi => ?_⟩, fun m hm i hi => ?_, v10, v11, uN_b v12 hW⟩
  · have q := n2 e he
    show w.2.1 e / 4 < nn + 1 ∧ w.2.1 e % 4 < lg (uN tof nn k (w.2.1 e / 4))
    rw [uN_n (by omega)]
    exact ⟨by omega, q.2⟩
  · show Sm P (setT w.2.2 nn (tv k) j i)
    have hi : i < 2 ^ lg (uN tof nn k j) := hi
    by_cases c : j = nn
    · rw [c, uN_s] at hi
      rw [c, setT_s]; exact (v1.2.2.2.1 k hk).2.2 i hi
    · rw [uN_n c] at hi
      rw [setT_n c]; exact n4 j (by omega) i hi
  · show setT w.2.2 nn (tv k) m i = tv (uN tof nn k m) i
    by_cases c : m = nn
    · rw [c, setT_s, uN_s]
    · rw [uN_n c] at hi
      rw [setT_n c, uN_n c]; exact v9 m (by omega) i hi
theorem pV_addW {x y : Nat} (h : PrV P tn bn nn lg tof tv bv w tna bna nna) (hw : w.1 < 10) (hx : x / 4 < nn ∧ x % 4 < lg (tof (x / 4))) (hy : y / 4 < nn ∧ y % 4 < lg (tof (y / 4))) (hxy : x ≠ y) (nx : wiB w.2.1 (2 * w.1) x = false) (ny : wiB w.2.1 (2 * w.1) y = false) : PrV P tn bn nn lg tof tv bv (addN w x y) tna bna nna := ⟨h.1, h.2.1, h.2.2.1.add hw hx hy hxy nx ny, h.2.2.2.1, h.2.2.2.2⟩
theorem end_ok {X : Type} {r : (Nat × Nat) ⊕ (X × Nat)} {x : X} {b : Nat} (h : endW U n r = .inr (x, b)) : ∃ c, r = .inr (x, c) ∧ tkK U n c = 2 ∧ b = tkE U n c := by
  rcases r with f | ⟨y, c⟩
  · cases h
  · have h : (if endC U n c = 0 then Sum.inr (y, tkE U n c) else Sum.inl (plF U n c, endC U n c)) = Sum.inr (x, b) := h
    by_cases q : endC U n c = 0
    · rw [if_pos q] at h
      cases h
      refine ⟨c, rfl, ?_, rfl⟩
      unfold endC at q
      split at q
      · assumption
      · omega
    · rw [if_neg q] at h
      cases h
theorem tvL_mono : ∀ (m a i : Nat) (f g : Nat → Int32) (b : Nat), a ≤ n → tvL U n P m a i f = .inr (g, b) → a ≤ b
  | 0, a, i, f, g, b, ha, e => by
    rw [tvL] at e
    cases e
    exact Nat.le_refl _
  | m + 1, a, i, f, g, b, ha, e => by
    rw [tvL] at e
    by_cases c : numC U n a 0 (P - 1) = 0
    · rw [if_pos c] at e
      have h1 := tkE_le (U := U) ha
      have := tvL_mono m (tkE U n a) (i + 1) _ g b h1.2 e
      omega
    · rw [if_neg c] at e
      exact absurd e (by simp)
theorem tab_ok {us : Nat → Bool} {nm l b : Nat} {g : Nat → Int32} (hU : U = fun i => ub (tp i)) (hP : 3 ≤ P ∧ P ≤ 97) (ha : a ≤ n) (h : tabL U n P us a = .inr ((nm, l, g), b)) : b ≤ n ∧ a ≤ b ∧ nm < 2 ^ 30 ∧ us nm = false ∧ 1 ≤ l ∧ l ≤ 4 ∧ ∀ i, i < 2 ^ l → Sm P (g i) := by
  have hU2 : ∀ i, U i < 256 := fun i => by rw [hU]; exact ub_lt _
  unfold tabL at h
  by_cases q : newC U n a us = 0
  · rw [if_pos q] at h
    by_cases q2 : numC U n (tkE U n a) 1 4 = 0
    · rw [if_pos q2] at h
      have hb1 := tkE_le (U := U) ha
      have hb2 := tkE_le (U := U) hb1.2
      cases e : tvL U n P (2 ^ tkV U n (tkE U n a)) (tkE U n (tkE U n a)) 0 (fun _ => 0) with
      | inl f => rw [e] at h; cases h
      | inr r =>
        obtain ⟨f, c⟩ := r
        rw [e] at h
        cases h
        have r := tvL_ok (U := U) (n := n) (P := P) (by omega) _ _ _ _ _ _ hb2.2 (by omega) (fun x hx => by omega) e
        have k := num_ok q2
        have k2 := new_ok q
        have r2 := tvL_mono _ _ _ _ _ _ hb2.2 e
        exact ⟨r.1, by omega, tkV_word hU2 ha k2.1, k2.2, k.2.1, k.2.2, fun i hi => r.2 i (by omega)⟩
    · rw [if_neg q2] at h; cases h
  · rw [if_neg q] at h; cases h
theorem egL_ok {K : Nat} : ∀ (m c ne : Nat) (ea eb ew : Nat → Nat) (ne' : Nat) (ea' eb' ew' : Nat → Nat) (b : Nat), ne + m = 12 → c ≤ n → GV K P ne ea eb ew → egL U n P K m c ne ea eb ew = .inr ((ne', ea', eb', ew'), b) → c ≤ b ∧ b ≤ n ∧ GV K P ne' ea' eb' ew' := by
  intro m
  induction m with
  | zero =>
    intro c ne ea eb ew ne' ea' eb' ew' b e0 hc gv e
    rw [egL] at e
    split at e
    · split at e <;> cases e
    · cases e; exact ⟨Nat.le_refl _, hc, gv⟩
  | succ m ih =>
    intro c ne ea eb ew ne' ea' eb' ew' b e0 hc gv e
    have h1 := tkE_le (U := U) hc
    have h2 := tkE_le (U := U) h1.2
    have h3 := tkE_le (U := U) h2.2
    have g4 := gv.2.2.2.1
    rw [egL] at e
    by_cases q1 : tkK U n c = 1
    · rw [if_pos q1] at e
      by_cases q2 : tkV U n c < K
      · rw [if_pos q2] at e
        by_cases q3 : tkK U n (tkE U n c) = 1
        · rw [if_pos q3] at e
          by_cases q4 : tkV U n (tkE U n c) < K
          · rw [if_pos q4] at e
            by_cases q5 : wtF ea eb ew ne (tkV U n c) (tkV U n (tkE U n c)) ≠ 0
            · rw [if_pos q5] at e; cases e
            · rw [if_neg q5] at e
              by_cases q6 : tkV U n c = tkV U n (tkE U n c)
              · rw [if_pos q6] at e; cases e
              · rw [if_neg q6] at e
                by_cases q7 : numC U n (tkE U n (tkE U n c)) 1 (P - 1) = 0
                · rw [if_pos q7] at e
                  have k := num_ok q7
                  have r := ih _ _ _ _ _ _ _ _ _ _ (by omega) h3.2 (gv.add (by omega) q2 q4 q6 (by omega)) e
                  exact ⟨by omega, r.2⟩
                · rw [if_neg q7] at e; cases e
          · rw [if_neg q4] at e; cases e
        · rw [if_neg q3] at e; cases e
      · rw [if_neg q2] at e; cases e
    · rw [if_neg q1] at e
      cases e; exact ⟨Nat.le_refl _, hc, gv⟩
theorem gat_ok {us : Nat → Bool} {nm l b : Nat} {g : Nat → Int32} (hU : U = fun i => ub (tp i)) (hP : 3 ≤ P ∧ P ≤ 97) (ha : a ≤ n) (h : gatL U n P us a = .inr ((nm, l, g), b)) : b ≤ n ∧ a ≤ b ∧ nm < 2 ^ 30 ∧ us nm = false ∧ 1 ≤ l ∧ l ≤ 4 ∧ ∀ i, i < 2 ^ l → Sm P (g i) := by
  have hU2 : ∀ i, U i < 256 := fun i => by rw [hU]; exact ub_lt _
  unfold gatL at h
  by_cases q : newC U n a us = 0
  · rw [if_pos q] at h
    by_cases q2 : numC U n (tkE U n a) 1 8 = 0
    · rw [if_pos q2] at h
      by_cases q3 : numC U n (tkE U n (tkE U n a)) 1 (if 4 < tkV U n (tkE U n a) then 4 else tkV U n (tkE U n a)) = 0
      · rw [if_pos q3] at h
        have hb1 := tkE_le (U := U) ha
        have hb2 := tkE_le (U := U) hb1.2
        have hb3 := tkE_le (U := U) hb2.2
        have k1 := num_ok q2
        have k := num_ok q3
        have k2 := new_ok q
        have hb4 : (if 4 < tkV U n (tkE U n a) then 4 else tkV U n (tkE U n a)) ≤ 4 := by split <;> omega
        cases e : egL U n P (tkV U n (tkE U n a)) 12 (tkE U n (tkE U n (tkE U n a))) 0 (fun _ => 0) (fun _ => 0) (fun _ => 0) with
        | inl f => rw [e] at h; cases h
        | inr r =>
          obtain ⟨⟨ne, ea, eb, ew⟩, c⟩ := r
          rw [e] at h
          cases h
          have r := egL_ok 12 _ 0 _ _ _ _ _ _ _ _ rfl hb3.2 ⟨k1.2.1, k1.2.2, by omega, hP.1, hP.2, fun k hk => by omega⟩ e
          exact ⟨r.2.1, by omega, tkV_word hU2 ha k2.1, k2.2, k.2.1, by omega, fun i hi => Sm_nI (mtT_lt hP.1 _ _) (by omega)⟩
      · rw [if_neg q3] at h; cases h
    · rw [if_neg q2] at h; cases h
  · rw [if_neg q] at h; cases h
theorem bas_ok {us : Nat → Bool} {nm b : Nat} {g : Nat → Int32} (hU : U = fun i => ub (tp i)) (hP : 3 ≤ P ∧ P ≤ 97) (ha : a ≤ n) (h : basL U n P us a = .inr ((nm, g), b)) : b ≤ n ∧ a ≤ b ∧ nm < 2 ^ 30 ∧ us nm = false ∧ (∀ i, i < 4 → Sm P (g i)) ∧ md (g 0 * g 3 - g 1 * g 2) P ≠ 0 := by
  have hU2 : ∀ i, U i < 256 := fun i => by rw [hU]; exact ub_lt _
  unfold basL at h
  by_cases q : newC U n a us = 0
  · rw [if_pos q] at h
    have hb1 := tkE_le (U := U) ha
    cases e : tvL U n P 3 (tkE U n a) 0 (fun _ => 0) with
    | inl f => rw [e] at h; cases h
    | inr r =>
      obtain ⟨f, c⟩ := r
      rw [e] at h
      have r := tvL_ok (U := U) (n := n) (P := P) (by omega) _ _ _ _ _ _ hb1.2 (by omega) (fun x hx => by omega) e
      have r2 := tvL_mono _ _ _ _ _ _ hb1.2 e
      have hc := tkE_le (U := U) r.1
      have h : (if numC U n c 0 (P - 1) = 0 then (if md (f 0 * nI (tkV U n c) - f 1 * f 2) P = 0 then Sum.inl (plF U n c, 4) else Sum.inr ((tkV U n a, upd f 3 (nI (tkV U n c))), tkE U n c)) else Sum.inl (plF U n c, numC U n c 0 (P - 1))) = Sum.inr ((nm, g), b) := h
      by_cases q2 : numC U n c 0 (P - 1) = 0
      · rw [if_pos q2] at h
        by_cases q3 : md (f 0 * nI (tkV U n c) - f 1 * f 2) P = 0
        · rw [if_pos q3] at h; cases h
        · rw [if_neg q3] at h
          cases h
          have k := num_ok q2
          have k2 := new_ok q
          refine ⟨hc.2, by omega, tkV_word hU2 ha k2.1, k2.2, fun i hi => ?_, ?_⟩
          · by_cases c : i = 3
            · rw [c, pk_us]; exact Sm_nI (by omega) (by omega)
            · rw [pk_un c]; exact r.2 i (by omega)
          · rw [pk_us, pk_un (by decide), pk_un (by decide), pk_un (by decide)]; exact q3
      · rw [if_neg q2] at h; cases h
  · rw [if_neg q] at h; cases h
theorem nod_ok {us : Nat → Bool} {F : Nat → Nat} {m nm k b : Nat} (hU : U = fun i => ub (tp i)) (ha : a ≤ n) (h : nodL U n us F m a = .inr ((nm, k), b)) : b ≤ n ∧ a ≤ b ∧ nm < 2 ^ 30 ∧ us nm = false ∧ k < m := by
  have hU2 : ∀ i, U i < 256 := fun i => by rw [hU]; exact ub_lt _
  unfold nodL at h
  by_cases q : newC U n a us = 0
  · rw [if_pos q] at h
    have hb1 := tkE_le (U := U) ha
    have hb2 := tkE_le (U := U) hb1.2
    by_cases q2 : knC U n (tkE U n a) (fun W => decide (F W < m)) = 0
    · rw [if_pos q2] at h
      cases h
      have k2 := new_ok q
      exact ⟨hb2.2, by omega, tkV_word hU2 ha k2.1, k2.2, of_decide_eq_true (kn_ok q2).2⟩
    · rw [if_neg q2] at h; cases h
  · rw [if_neg q] at h; cases h
theorem leg_mono {F : Nat → Nat} {m : Nat} {ls : Nat → Nat} {v3 : Int32} {wi : Nat → Bool} {x b : Nat} (ha : a ≤ n) (h : legL U n F m ls v3 wi a = .inr (x, b)) : a ≤ b := by
  have hb1 := tkE_le (U := U) ha
  have hb2 := tkE_le (U := U) hb1.2
  unfold legL at h
  split at h
  · split at h
    · split at h
      · cases h
      · cases h; omega
    · cases h
  · cases h
theorem wir_ok {F : Nat → Nat} {m : Nat} {ls : Nat → Nat} {wi : Nat → Bool} {x y b : Nat} (ha : a ≤ n) (hm : m ≤ 6) (hl : ∀ j, j < m → 1 ≤ ls j ∧ ls j ≤ 4) (h : wirL U n F m ls wi a = .inr ((x, y), b)) : b ≤ n ∧ a ≤ b ∧ (x / 4 < m ∧ x % 4 < ls (x / 4)) ∧ (y / 4 < m ∧ y % 4 < ls (y / 4)) ∧ x ≠ y ∧ wi x = false ∧ wi y = false := by
  unfold wirL at h
  cases e : legL U n F m ls (-1) wi a with
  | inl f => rw [e] at h; cases h
  | inr r =>
    obtain ⟨x', c⟩ := r
    rw [e] at h
    have r1 := legL_ok ha hl e
    have r2 := leg_mono ha e
    cases e2 : legL U n F m ls (nI x') wi c with
    | inl f =>
      have h : (match legL U n F m ls (nI x') wi c with
        | .inl f => Sum.inl f
        | .inr (y, c) => Sum.inr ((x', y), c)) = Sum.inr ((x, y), b) := h
      rw [e2] at h; cases h
    | inr r =>
      obtain ⟨y', d⟩ := r
      have h : (match legL U n F m ls (nI x') wi c with
        | .inl f => Sum.inl f
        | .inr (y, c) => Sum.inr ((x', y), c)) = Sum.inr ((x, y), b) := h
      rw [e2] at h
      cases h
      have r3 := legL_ok r1.1 hl e2
      have r4 := leg_mono r1.1 e2
      exact ⟨r3.1, by omega, ⟨r1.2.1, r1.2.2.1⟩, ⟨r3.2.1, r3.2.2.1⟩, fun q => r3.2.2.2.1 (by rw [q]), r1.2.2.2.2, r3.2.2.2.2⟩
end LN
