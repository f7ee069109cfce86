/-! a fault's place and kind are small; so is the count of lines -/
def fbO {X : Type} (n : Nat) (r : (Nat × Nat) ⊕ X) : Prop := match r with
  | .inl f => f.1 ≤ n ∧ f.2 ≤ 5
  | .inr _ => True
section BD
variable {U : Nat → Nat} {n P a : Nat} {us : Nat → Bool} {tp : Nat → Int32}
theorem numC_le {lo hi : Nat} : numC U n a lo hi ≤ 5 := by
  unfold numC
  (repeat' split) <;> omega
theorem newC_le : newC U n a us ≤ 5 := by
  unfold newC
  (repeat' split) <;> omega
theorem knC_le {fd : Nat → Bool} : knC U n a fd ≤ 5 := by
  unfold knC
  (repeat' split) <;> omega
theorem endC_le : endC U n a ≤ 5 := by
  unfold endC
  split <;> omega
theorem fb_if {X : Type} {c : Prop} [Decidable c] {x y : (Nat × Nat) ⊕ X} (hx : c → fbO n x) (hy : ¬ c → fbO n y) : fbO n (if c then x else y) := by
  by_cases h : c
  · rw [if_pos h]; exact hx h
  · rw [if_neg h]; exact hy h
theorem fb_pl {X : Type} {k : Nat} (ha : a ≤ n) (hk : k ≤ 5) : fbO (X := X) n (.inl (plF U n a, k)) := ⟨(plF_le ha).2, hk⟩
theorem fb_tvL : ∀ (m a i : Nat) (f : Nat → Int32), a ≤ n → fbO n (tvL U n P m a i f)
  | 0, a, i, f, ha => trivial
  | m + 1, a, i, f, ha => by
    rw [tvL]
    exact fb_if (fun _ => fb_tvL m _ _ _ (tkE_le ha).2) (fun _ => fb_pl ha numC_le)
theorem tvL_b : ∀ (m a i : Nat) (f g : Nat → Int32) (b : Nat), a ≤ n → tvL U n P m a i f = .inr (g, b) → b ≤ n
  | 0, a, i, f, g, b, ha, e => by
    rw [tvL] at e
    cases e
    exact ha
  | m + 1, a, i, f, g, b, ha, e => by
    rw [tvL] at e
    by_cases c : numC U n a 0 (P - 1) = 0
    · rw [if_pos c] at e
      exact tvL_b m (tkE U n a) (i + 1) _ g b (tkE_le ha).2 e
    · rw [if_neg c] at e
      exact absurd e (by simp)
theorem fb_tab (ha : a ≤ n) : fbO n (tabL U n P us a) := by
  unfold tabL
  have h1 := (tkE_le (U := U) ha).2
  refine fb_if (fun _ => fb_if (fun _ => ?_) (fun _ => fb_pl h1 numC_le)) (fun _ => fb_pl ha newC_le)
  have := fb_tvL (U := U) (n := n) (P := P) (2 ^ tkV U n (tkE U n a)) (tkE U n (tkE U n a)) 0 (fun _ => 0) (tkE_le h1).2
  cases e : tvL U n P (2 ^ tkV U n (tkE U n a)) (tkE U n (tkE U n a)) 0 (fun _ => 0) with
  | inl f => rw [e] at this; exact this
  | inr r => trivial
theorem fb_bas (ha : a ≤ n) : fbO n (basL U n P us a) := by
  unfold basL
  have h1 := (tkE_le (U := U) ha).2
  refine fb_if (fun _ => ?_) (fun _ => fb_pl ha newC_le)
  have := fb_tvL (U := U) (n := n) (P := P) 3 (tkE U n a) 0 (fun _ => 0) h1
  cases e : tvL U n P 3 (tkE U n a) 0 (fun _ => 0) with
  | inl f => rw [e] at this; exact this
  | inr r =>
    obtain ⟨f, b⟩ := r
    have hb : b ≤ n := tvL_b _ _ _ _ _ _ h1 e
    exact fb_if (fun _ => fb_if (fun _ => fb_pl hb (by decide)) (fun _ => trivial)) (fun _ => fb_pl hb numC_le)
theorem fb_egL {K : Nat} : ∀ (m c ne : Nat) (ea eb ew : Nat → Nat), c ≤ n → fbO n (egL U n P K m c ne ea eb ew)
  | 0, c, ne, ea, eb, ew, hc => by
    rw [egL]
    exact fb_if (fun _ => fb_if (fun _ => fb_pl hc (by decide)) (fun _ => fb_pl hc (by decide))) (fun _ => trivial)
  | m + 1, c, ne, ea, eb, ew, hc => by
    have h1 := (tkE_le (U := U) hc).2
    have h2 := (tkE_le (U := U) h1).2
    rw [egL]
    exact fb_if (fun _ => fb_if (fun _ => fb_if (fun _ => fb_if (fun _ => fb_if (fun _ => fb_pl h1 (by decide)) (fun _ => fb_if (fun _ => fb_pl h1 (by decide)) (fun _ => fb_if (fun _ => fb_egL m _ _ _ _ _ (tkE_le h2).2) (fun _ => fb_pl h2 numC_le)))) (fun _ => fb_pl h1 (by decide))) (fun _ => fb_pl h1 (by decide))) (fun _ => fb_pl hc (by decide))) (fun _ => trivial)
theorem fb_gat (ha : a ≤ n) : fbO n (gatL U n P us a) := by
  unfold gatL
  have h1 := (tkE_le (U := U) ha).2
  have h2 := (tkE_le (U := U) h1).2
  refine fb_if (fun _ => fb_if (fun _ => fb_if (fun _ => ?_) (fun _ => fb_pl h2 numC_le)) (fun _ => fb_pl h1 numC_le)) (fun _ => fb_pl ha newC_le)
  have := fb_egL (U := U) (n := n) (P := P) (K := tkV U n (tkE U n a)) 12 (tkE U n (tkE U n (tkE U n a))) 0 (fun _ => 0) (fun _ => 0) (fun _ => 0) (tkE_le h2).2
  cases e : egL U n P (tkV U n (tkE U n a)) 12 (tkE U n (tkE U n (tkE U n a))) 0 (fun _ => 0) (fun _ => 0) (fun _ => 0) with
  | inl f => rw [e] at this; exact this
  | inr r => trivial
theorem fb_nod {F : Nat → Nat} {m : Nat} (ha : a ≤ n) : fbO n (nodL U n us F m a) := by
  unfold nodL
  have h1 := (tkE_le (U := U) ha).2
  exact fb_if (fun _ => fb_if (fun _ => trivial) (fun _ => fb_pl h1 knC_le)) (fun _ => fb_pl ha newC_le)
theorem fb_leg {F : Nat → Nat} {m : Nat} {ls : Nat → Nat} {v3 : Int32} {wi : Nat → Bool} (ha : a ≤ n) : fbO n (legL U n F m ls v3 wi a) := by
  unfold legL
  have h1 := (tkE_le (U := U) ha).2
  exact fb_if (fun _ => fb_if (fun _ => fb_if (fun _ => fb_pl h1 (by decide)) (fun _ => trivial)) (fun _ => fb_pl h1 numC_le)) (fun _ => fb_pl ha knC_le)
theorem leg_b {F : Nat → Nat} {m : Nat} {ls : Nat → Nat} {v3 : Int32} {wi : Nat → Bool} {x b : Nat} (ha : a ≤ n) (h : legL U n F m ls v3 wi a = .inr (x, b)) : b ≤ n := by
  have hb1 := tkE_le (U := U) ha
  have hb2 := tkE_le (U := U) hb1.2
  unfold legL at h
  split at h
  · split at h
    · split at h
      · cases h
      · cases h; omega
    · cases h
  · cases h
theorem fb_wir {F : Nat → Nat} {m : Nat} {ls : Nat → Nat} {wi : Nat → Bool} (ha : a ≤ n) : fbO n (wirL U n F m ls wi a) := by
  unfold wirL
  have h0 := fb_leg (U := U) (n := n) (F := F) (m := m) (ls := ls) (v3 := -1) (wi := wi) ha
  cases e : legL U n F m ls (-1) wi a with
  | inl f => rw [e] at h0; exact h0
  | inr r =>
    obtain ⟨x, b⟩ := r
    have h1 := fb_leg (U := U) (n := n) (F := F) (m := m) (ls := ls) (v3 := nI x) (wi := wi) (leg_b ha e)
    show fbO n (match legL U n F m ls (nI x) wi b with
      | .inl f => Sum.inl f
      | .inr (y, c) => Sum.inr ((x, y), c))
    cases e2 : legL U n F m ls (nI x) wi b with
    | inl f => rw [e2] at h1; exact h1
    | inr r => trivial
end BD
