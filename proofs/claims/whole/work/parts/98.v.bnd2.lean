section BE
variable {U : Nat → Nat} {n P a : Nat} {us : Nat → Bool} {tp : Nat → Int32} {D : PD}
theorem fb_end {X : Type} {r : (Nat × Nat) ⊕ (X × Nat)} (h : fbO n r) (hb : ∀ x b, r = .inr (x, b) → b ≤ n) : fbO n (endW U n r) := by
  rcases r with f | ⟨x, b⟩
  · exact h
  · exact fb_if (fun _ => trivial) (fun _ => fb_pl (hb x b rfl) endC_le)
theorem fb_mp {X : Type} {f : X → PD} {r : (Nat × Nat) ⊕ (X × Nat)} (h : fbO n r) : fbO n (mpW f r) := by
  rcases r with e | ⟨x, b⟩
  · exact h
  · trivial
theorem fb_lin (hU : U = fun i => ub (tp i)) (ha : a ≤ n) (hV : VD P D) : fbO n (linL U n P D a) := by
  have h1 := (tkE_le (U := U) ha).2
  have hP : 3 ≤ P ∧ P ≤ 97 := ⟨hV.1.1.1, hV.1.1.2.1⟩
  unfold linL lT lG lB lN' lW
  exact fb_if (fun _ => fb_if (fun _ => fb_mp (fb_end (fb_tab h1) (fun x b e => (tab_ok (nm := x.1) (l := x.2.1) (g := x.2.2) hU hP h1 e).1))) (fun _ => fb_pl ha (by decide))) (fun _ => fb_if (fun _ => fb_if (fun _ => fb_mp (fb_end (fb_gat h1) (fun x b e => (gat_ok (nm := x.1) (l := x.2.1) (g := x.2.2) hU hP h1 e).1))) (fun _ => fb_pl ha (by decide))) (fun _ => fb_if (fun _ => fb_if (fun _ => fb_mp (fb_end (fb_bas h1) (fun x b e => (bas_ok (nm := x.1) (g := x.2) hU hP h1 e).1))) (fun _ => fb_pl ha (by decide))) (fun _ => fb_if (fun _ => fb_if (fun _ => fb_mp (fb_end (fb_nod h1) (fun x b e => (nod_ok (nm := x.1) (k := x.2) hU h1 e).1))) (fun _ => fb_pl ha (by decide))) (fun _ => fb_if (fun _ => fb_if (fun _ => fb_mp (fb_end (fb_wir h1) (fun x b e => (wir_ok (x := x.1) (y := x.2) h1 hV.2.1.1 hV.ll e).1))) (fun _ => fb_pl ha (by decide))) (fun _ => fb_pl ha (by decide))))))
theorem fb_rd (hU : U = fun i => ub (tp i)) : ∀ (m a : Nat) (D : PD) (c : Nat), a ≤ n → VD P D → fbO n (rdL U n P m a D c) ∧ ∀ D' c', rdL U n P m a D c = .inr (D', c') → c' ≤ c + m
  | 0, a, D, c, ha, hV => ⟨trivial, fun D' c' e => by rw [rdL] at e; cases e; omega⟩
  | m + 1, a, D, c, ha, hV => by
    have h0 := fb_lin hU ha hV
    rw [rdL]
    cases e : linL U n P D a with
    | inl f =>
      rw [e] at h0
      refine ⟨fb_if (fun _ => trivial) (fun _ => h0), fun D' c' h => ?_⟩
      split at h
      · cases h; omega
      · cases h
    | inr r =>
      obtain ⟨D1, b⟩ := r
      obtain ⟨l1, l2, l3⟩ := lin_ok hU ha hV e
      have ih := fb_rd hU m b D1 (c + 1) l2 l3
      refine ⟨fb_if (fun _ => trivial) (fun _ => ih.1), fun D' c' h => ?_⟩
      split at h
      · cases h; omega
      · have := ih.2 D' c' h
        omega
theorem fb_fld (ha : a ≤ n) : fbO n (fldL U n a) := by
  have h1 := (tkE_le (U := U) ha).2
  have h2 := (tkE_le (U := U) h1).2
  unfold fldL
  exact fb_if (fun _ => fb_if (fun _ => fb_if (fun _ => trivial) (fun _ => fb_pl h2 endC_le)) (fun _ => fb_pl h1 (by decide))) (fun _ => fb_pl h1 (by decide))
theorem wrP_ok {r : (Nat × Nat) ⊕ (PD × Nat)} (h : fbO n r) (h2 : ∀ D' c', r = .inr (D', c') → c' ≤ n + 2) : fbO n (wrP P r) ∧ ∀ P' D' c', wrP P r = .inr (P', D', c') → c' ≤ n + 2 := by
  rcases r with f | ⟨x, b⟩
  · exact ⟨h, fun P' D' c' e => by cases e⟩
  · exact ⟨trivial, fun P' D' c' e => by cases e; exact h2 _ _ rfl⟩
theorem top_ok (hU : U = fun i => ub (tp i)) : fbO n (topL U n) ∧ ∀ P' D' c', topL U n = .inr (P', D', c') → c' ≤ n + 2 := by
  unfold topL
  by_cases q : kwT U n 0 = 0
  · rw [if_pos q]
    have h0 := fb_fld (U := U) (n := n) (a := 0) (Nat.zero_le n)
    cases e : fldL U n 0 with
    | inl f =>
      rw [e] at h0
      exact ⟨h0, fun P' D' c' h => by cases h⟩
    | inr r =>
      obtain ⟨P, b⟩ := r
      obtain ⟨e1, e2, e3⟩ := fld_ok (Nat.zero_le n) e
      have r := fb_rd (P := P) hU (n + 1) b D0 1 e2 (VD_0 e1)
      exact wrP_ok r.1 (fun D' c' h => by have := r.2 D' c' h; omega)
  · rw [if_neg q]
    have r := fb_rd (P := 7) hU (n + 1) 0 D0 0 (Nat.zero_le n) (VD_0 PrP_7)
    exact wrP_ok r.1 (fun D' c' h => by have := r.2 D' c' h; omega)
theorem flt_neg {pl kd : Nat} (h : pl ≤ 700) (h2 : kd ≤ 5) : ¬ (0 : Int32) ≤ fltV pl kd := by
  unfold fltV
  rw [fa_le, show (-2 : Int32) = -nI 2 from rfl]
  intro d
  have e : (-nI 2 - nI (8 * pl + kd)).toInt = -2 - ((8 * pl + kd : Nat) : Int) := by
    have e1 : (-nI 2 : Int32).toInt = -2 := rfl
    have e2 : (nI (8 * pl + kd)).toInt = ((8 * pl + kd : Nat) : Int) := nI_toInt (by omega)
    rw [fb_subI (by rw [e1, e2]; omega) (by rw [e1, e2]; omega), e1, e2]
  rw [e] at d
  have z : (0 : Int32).toInt = 0 := rfl
  omega
end BE
