/-! the ring of past nets: remember, restore; the reference's rows undone -/
section RG
variable {t P tn bn nn : Nat} {lg tof : Nat → Nat} {tv bv : Nat → Nat → Int32} {L : Nat} {tp : Nat → Int32} {nw nw' : NetT} {sz old sz' old' : Nat} {ac ac' : Nat → NetT} {kb kb' : Nat → Bool} {kn kn' : Nat → NetT} {σ τ σ' τ' : St} {nl : Nat → Nat} {w : NetT} {N j : Nat}
theorem c_netCopy {v0 v1 : Nat} {post : St → Prop} (h : NetX nn nl w v1 σ) (hn : nn ≤ 6) (hl : ∀ j, j < nn → nl j ≤ 4) (hw : w.1 ≤ 10) (hd : v0 + 15 ≤ v1 ∨ v1 + 15 ≤ v0) (k : ∀ s : St, NetX nn nl w v0 s → (∀ o, (o < v0 ∨ v0 + 15 ≤ o) → s.1 o = σ.1 o) → post s) : wX4_copyFrom v0 v1 σ post := by
  obtain ⟨h1, h2, h3, h4⟩ := h
  unfold wX4_copyFrom
  rintro _ rfl _ rfl
  rw [u1_n (o' := v1) (by omega), h1, h2]
  refine loop_0 (fun j i (s : St) => wX4_copyFrom_18 post j v0 v1 (nI i) s) (fun i s => s.1 v0 0 = nI nn ∧ s.1 v0 1 = nI w.1 ∧ (∀ j, j < i → s.1 (v0 + 1 + 2 + 2 * j) 0 = nI (nl j) ∧ ∀ x, x < 2 ^ nl j → s.1 (v0 + 1 + 2 + 2 * j + 1) x = w.2.2 j x) ∧ (∀ o, (o < v0 ∨ v0 + 15 ≤ o) → s.1 o = σ.1 o)) nn _ ⟨by rw [u1_s, pk_un (by decide), u1_s, pk_us], by rw [u1_s, pk_us], fun j hj => by omega, fun o ho => by rw [u1_n (by omega), u1_n (by omega)]⟩ ?_ ?_
  · rintro j s ⟨i1, i2, i3, i4⟩
    unfold wX4_copyFrom_18
    rw [i1]
    refine ⟨fun _ => ?_, fun q => absurd (nI_le (Nat.le_refl _) (by omega)) q⟩
    rintro _ rfl
    refine k _ ⟨by rw [r1_n (by omega)]; exact i1, by rw [r1_n (by omega)]; exact i2, fun e he => ?_, fun j hj => ⟨by rw [r1_n (by omega)]; exact (i3 j hj).1, fun x hx => by rw [r1_n (by omega)]; exact (i3 j hj).2 x hx⟩⟩ (fun o ho => by rw [r1_n (by omega)]; exact i4 o ho)
    rw [r1_s]
    show va_cpy _ _ 0 0 20 e = _
    rw [pk_cpy_in (by omega) (by omega), i4 _ (by omega), show 0 + (e - 0) = e by omega]
    exact h3 e he
  · rintro j i s hi ⟨i1, i2, i3, i4⟩ ih
    unfold wX4_copyFrom_18
    rw [i1]
    refine ⟨fun q => absurd q (nI_ge hi (by omega)), fun _ => ⟨vp_in_nI (by omega) (by decide), vp_in_nI (by omega) (by decide), ?_⟩⟩
    rw [nI_clamp (by omega)]
    refine s_copyFrom (by omega) (fun s' a1 a2 a3 a4 => ?_)
    rintro _ rfl
    rw [nI_1]
    have h16 := p2le (hl i hi)
    refine ih s' ⟨by rw [a3 _ (by omega) (by omega)]; exact i1, by rw [a3 _ (by omega) (by omega)]; exact i2, fun y hy => ?_, fun o ho => by rw [a3 _ (by omega) (by omega)]; exact i4 o ho⟩
    by_cases e : y = i
    · subst e
      exact ⟨by rw [a1, i4 _ (by omega)]; exact (h4 y hi).1, fun x hx => by rw [a2 x (by omega), i4 _ (by omega)]; exact (h4 y hi).2 x hx⟩
    · exact ⟨by rw [a3 _ (by omega) (by omega)]; exact (i3 y (by omega)).1, fun x hx => by rw [a3 _ (by omega) (by omega)]; exact (i3 y (by omega)).2 x hx⟩
theorem RX.now (hV : RV P tn bn nn lg tof tv bv L tp nw sz old ac kb kn) (h : RX t P tn bn nn lg tof tv bv L tp nw sz old ac kb kn σ) (hF : ∀ o, (o < 86 ∨ (101 ≤ o ∧ o < 285) ∨ o = 290 ∨ 316 ≤ o) → σ'.1 o = σ.1 o) (hN : NetX nn (fun n => lg (tof n)) nw' 86 σ') : RX t P tn bn nn lg tof tv bv L tp nw' sz old ac kb kn σ' := by
  obtain ⟨⟨v1, v2, v3, v4, v5⟩, ⟨v6, v7⟩, v8, v9, v10, v11⟩ := hV
  obtain ⟨h1, h2, ⟨h3, h4⟩, h5, ⟨h6, h7, h8⟩, h9, h10⟩ := h
  have ht : t = 2 ∨ t = 44 := h1.1
  refine ⟨h1.fr v2 v3 (fun o ho => hF o (by omega)), trivial, ⟨by rw [hF _ (by omega)]; exact h3, fun i hi => by rw [hF _ (by omega)]; exact h4 i hi⟩, hN, ⟨by rw [hF _ (by omega)]; exact h6, by rw [hF _ (by omega)]; exact h7, fun k hk => (h8 k hk).fr v6 (fun o h1 h2 => hF o (by omega))⟩, fun k hk => ⟨by rw [hF _ (by omega)]; exact (h9 k hk).1, fun hb => ((h9 k hk).2 hb).fr v6 (fun o h1 h2 => hF o (by omega))⟩, fun k hk => by rw [hF _ (by omega)]; exact h10 k hk⟩
theorem RX.acts (hV : RV P tn bn nn lg tof tv bv L tp nw sz old ac kb kn) (h : RX t P tn bn nn lg tof tv bv L tp nw sz old ac kb kn σ) (hF : ∀ o, (o < 101 ∨ 283 ≤ o) → σ'.1 o = σ.1 o) (g1 : σ'.1 101 0 = nI sz') (g2 : σ'.1 101 1 = nI old') (g3 : ∀ k, k < sz' → NetX nn (fun n => lg (tof n)) (ac' k) (101 + 1 + 1 + 15 * ((old' + k) % 12)) σ') : RX t P tn bn nn lg tof tv bv L tp nw sz' old' ac' kb kn σ' := by
  obtain ⟨⟨v1, v2, v3, v4, v5⟩, ⟨v6, v7⟩, v8, v9, v10, v11⟩ := hV
  obtain ⟨h1, h2, ⟨h3, h4⟩, h5, ⟨h6, h7, h8⟩, h9, h10⟩ := h
  have ht : t = 2 ∨ t = 44 := h1.1
  refine ⟨h1.fr v2 v3 (fun o ho => hF o (by omega)), trivial, ⟨by rw [hF _ (by omega)]; exact h3, fun i hi => by rw [hF _ (by omega)]; exact h4 i hi⟩, h5.fr v6 (fun o h1 h2 => hF o (by omega)), ⟨g1, g2, g3⟩, fun k hk => ⟨by rw [hF _ (by omega)]; exact (h9 k hk).1, fun hb => ((h9 k hk).2 hb).fr v6 (fun o h1 h2 => hF o (by omega))⟩, fun k hk => by rw [hF _ (by omega)]; exact h10 k hk⟩
theorem RM.now (h : RM P tn bn nn lg tof tv bv L tp nw sz ac kb kn τ) (f0 : ∀ j, (j = 2 ∨ j = 12 ∨ j = 32) → τ'.1 0 j = τ.1 0 j) (fo : ∀ o, 1 ≤ o → o ≤ 19 → o ≠ 16 → τ'.1 o = τ.1 o) (hN : NetM nn (fun n => lg (tof n)) nw' (τ'.1 16)) : RM P tn bn nn lg tof tv bv L tp nw' sz ac kb kn τ' := by
  obtain ⟨h1, h2, h3, h4, h5, h6, h7⟩ := h
  unfold TabM NodM at *
  unfold RM TabM NodM
  rw [fo 2 (by omega) (by omega) (by omega), fo 3 (by omega) (by omega) (by omega), fo 4 (by omega) (by omega) (by omega), fo 5 (by omega) (by omega) (by omega), fo 9 (by omega) (by omega) (by omega), fo 10 (by omega) (by omega) (by omega), fo 11 (by omega) (by omega) (by omega), fo 12 (by omega) (by omega) (by omega), fo 1 (by omega) (by omega) (by omega), fo 17 (by omega) (by omega) (by omega), fo 18 (by omega) (by omega) (by omega), fo 19 (by omega) (by omega) (by omega), f0 2 (by omega), f0 12 (by omega), f0 32 (by omega)]
  exact ⟨h1, h2, h3, hN, h5, h6, h7⟩
theorem RM.acts (h : RM P tn bn nn lg tof tv bv L tp nw sz ac kb kn τ) (f0 : ∀ j, (j = 2 ∨ j = 12) → τ'.1 0 j = τ.1 0 j) (fo : ∀ o, 1 ≤ o → o ≤ 19 → o ≠ 17 → τ'.1 o = τ.1 o) (g1 : τ'.1 0 32 = nI sz') (g2 : ∀ k, k < sz' → NetM nn (fun n => lg (tof n)) (ac' k) (fun i => τ'.1 17 (117 * k + i))) : RM P tn bn nn lg tof tv bv L tp nw sz' ac' kb kn τ' := by
  obtain ⟨h1, h2, h3, h4, h5, h6, h7⟩ := h
  unfold TabM NodM at *
  unfold RM TabM NodM
  rw [fo 2 (by omega) (by omega) (by omega), fo 3 (by omega) (by omega) (by omega), fo 4 (by omega) (by omega) (by omega), fo 5 (by omega) (by omega) (by omega), fo 9 (by omega) (by omega) (by omega), fo 10 (by omega) (by omega) (by omega), fo 11 (by omega) (by omega) (by omega), fo 12 (by omega) (by omega) (by omega), fo 1 (by omega) (by omega) (by omega), fo 16 (by omega) (by omega) (by omega), fo 18 (by omega) (by omega) (by omega), fo 19 (by omega) (by omega) (by omega), f0 2 (by omega), f0 12 (by omega)]
  exact ⟨h1, h2, h3, h4, ⟨g1, g2⟩, h6, h7⟩
theorem NetM.cg {r r' : Nat → Int32} (h : NetM nn nl w r) (hn : nn ≤ 6) (hl : ∀ j, j < nn → nl j ≤ 4) (hw : w.1 ≤ 10) (e : ∀ i, i < 117 → r' i = r i) : NetM nn nl w r' := by
  obtain ⟨h1, h2, h3⟩ := h
  refine ⟨by rw [e _ (by omega)]; exact h1, fun x hx => by rw [e _ (by omega)]; exact h2 x hx, fun j hj i hi => ?_⟩
  have h16 := p2le (hl j hj)
  rw [e _ (by omega)]; exact h3 j hj i hi
def remS (sz : Nat) : Nat := if sz = 12 then 12 else sz + 1
def remO (sz old : Nat) : Nat := if sz = 12 then (old + 1) % 12 else old
def remA (sz : Nat) (ac : Nat → NetT) (nw : NetT) : Nat → NetT := fun k => if sz = 12 then (if k = 11 then nw else ac (k + 1)) else if k = sz then nw else ac k
theorem RV.rem (hV : RV P tn bn nn lg tof tv bv L tp nw sz old ac kb kn) : RV P tn bn nn lg tof tv bv L tp nw (remS sz) (remO sz old) (remA sz ac nw) kb kn := by
  obtain ⟨v1, v2, v3, v4, ⟨v5, v6, v7⟩, v8⟩ := hV
  refine ⟨v1, v2, v3, v4, ⟨?_, ?_, fun k hk => ?_⟩, v8⟩
  · unfold remS; split <;> omega
  · unfold remO; split <;> omega
  · unfold remA
    unfold remS at hk
    by_cases e : sz = 12
    · rw [if_pos e] at hk ⊢
      by_cases e2 : k = 11
      · rw [if_pos e2]; exact v4
      · rw [if_neg e2]; exact v7 _ (by omega)
    · rw [if_neg e] at hk ⊢
      by_cases e2 : k = sz
      · rw [if_pos e2]; exact v4
      · rw [if_neg e2]; exact v7 _ (by omega)
theorem RV.now (hV : RV P tn bn nn lg tof tv bv L tp nw sz old ac kb kn) (h : NetV P nn (fun n => lg (tof n)) nw') : RV P tn bn nn lg tof tv bv L tp nw' sz old ac kb kn := ⟨hV.1, hV.2.1, hV.2.2.1, h, hV.2.2.2.2⟩
theorem RV.hl (hV : RV P tn bn nn lg tof tv bv L tp nw sz old ac kb kn) : ∀ j, j < nn → (fun n => lg (tof n)) j ≤ 4 := nl4 hV.2.1 hV.1
theorem c_rem32 {post : St → Prop} (hV : RV P tn bn nn lg tof tv bv L tp nw sz old ac kb kn) (hX : RX t P tn bn nn lg tof tv bv L tp nw sz old ac kb kn σ) (hs : sz < 12) (k : ∀ s, RX t P tn bn nn lg tof tv bv L tp nw (sz + 1) old (fun k => if k = sz then nw else ac k) kb kn s → post s) : wX0_remember_32 post 101 86 σ := by
  have hn := hV.2.1.1
  have hw := hV.2.2.2.1.1
  have ho := hV.2.2.2.2.1.2.1
  obtain ⟨a1, a2, a3⟩ := hX.2.2.2.2.1
  unfold wX0_remember_32
  rw [a1, a2, nI_add, show (12 : Int32) = nI 12 from rfl, pk_rem (by omega) (by decide) (by decide)]
  rintro _ rfl
  refine ⟨vp_in_nI (Nat.mod_lt _ (by decide)) (by decide), ?_⟩
  rw [nI_clamp (by omega)]
  refine c_netCopy hX.2.2.2.1 hn hV.hl hw (by omega) (fun s sN sF => ?_)
  rintro _ rfl
  refine k _ (RX.acts hV hX (fun o ho => by rw [u1_n (by omega), sF o (by omega)]) (by rw [u1_s, pk_us, sF 101 (by omega), a1, nI_1]) (by rw [u1_s, pk_un (by decide), sF 101 (by omega), a2]) (fun y hy => ?_))
  by_cases e : y = sz
  · subst e
    rw [if_pos rfl]
    exact sN.fr hn (fun o h1 h2 => by rw [u1_n (by omega)])
  · rw [if_neg e]
    exact (a3 y (by omega)).fr hn (fun o h1 h2 => by rw [u1_n (by omega), sF o (by omega)])
theorem C_rem {post : St → Prop} (hV : RV P tn bn nn lg tof tv bv L tp nw sz old ac kb kn) (hX : RX t P tn bn nn lg tof tv bv L tp nw sz old ac kb kn σ) (k : ∀ s, RX t P tn bn nn lg tof tv bv L tp nw (remS sz) (remO sz old) (remA sz ac nw) kb kn s → post s) : wX0_remember 101 86 σ post := by
  have hn := hV.2.1.1
  have hs := hV.2.2.2.2.1.1
  have ho := hV.2.2.2.2.1.2.1
  obtain ⟨a1, a2, a3⟩ := hX.2.2.2.2.1
  unfold wX0_remember
  rw [a1, a2, show (12 : Int32) = nI 12 from rfl, nI_eq (by omega) (by decide)]
  refine ⟨fun e => c_rem32 hV hX (by omega) (fun s hs => k s ?_), fun e => ?_⟩
  · unfold remS remO remA
    simp only [if_neg e]
    exact hs
  · subst e
    rw [nI_1, pk_rem (by omega) (by decide) (by decide)]
    rintro _ rfl _ rfl
    rw [u1_s, pk_un (by decide), a1, show nI 12 - (1 : Int32) = nI 11 from rfl]
    have hV' : RV P tn bn nn lg tof tv bv L tp nw 11 ((old + 1) % 12) (fun k => ac (k + 1)) kb kn := by
      obtain ⟨v1, v2, v3, v4, ⟨v5, v6, v7⟩, v8⟩ := hV
      exact ⟨v1, v2, v3, v4, ⟨by omega, by omega, fun k hk => v7 _ (by omega)⟩, v8⟩
    have hX' : RX t P tn bn nn lg tof tv bv L tp nw 11 ((old + 1) % 12) (fun k => ac (k + 1)) kb kn (u1 (u1 σ 101 1 (nI ((old + 1) % 12))) 101 0 (nI 11)) := by
      refine RX.acts hV hX (fun o ho => by rw [u1_n (by omega), u1_n (by omega)]) (by rw [u1_s, pk_us]) (by rw [u1_s, pk_un (by decide), u1_s, pk_us]) (fun y hy => ?_)
      have e : ((old + 1) % 12 + y) % 12 = (old + (y + 1)) % 12 := by omega
      rw [e]
      exact (a3 (y + 1) (by omega)).fr hn (fun o h1 h2 => by rw [u1_n (by omega), u1_n (by omega)])
    refine c_rem32 hV' hX' (by omega) (fun s hs => k s ?_)
    unfold remS remO remA
    simp only [if_true]
    exact hs
theorem m_keep49 {post : St → Prop} (hV : RV P tn bn nn lg tof tv bv L tp nw sz old ac kb kn) (hM : RM P tn bn nn lg tof tv bv L tp nw sz ac kb kn τ) (hs : sz < 12) (k : ∀ s, RM P tn bn nn lg tof tv bv L tp nw (sz + 1) (fun k => if k = sz then nw else ac k) kb kn s → post s) : wX11_keeps_49 post 0 τ := by
  have hn := hV.2.1.1
  have hw := hV.2.2.2.1.1
  obtain ⟨a1, a2⟩ := hM.2.2.2.2.1
  unfold wX11_keeps_49
  refine loop_0 (fun j i (s : St) => wX11_keeps_51 post j 0 (nI i) s) (fun i s => (∀ o, o ≠ 17 → s.1 o = τ.1 o) ∧ (∀ x, (x < 117 * sz ∨ 117 * sz + i ≤ x) → s.1 17 x = τ.1 17 x) ∧ (∀ x, x < i → s.1 17 (117 * sz + x) = τ.1 16 x)) 117 τ ⟨fun _ _ => rfl, fun _ _ => rfl, fun x hx => by omega⟩ ?_ ?_
  · rintro j s ⟨i1, i2, i3⟩
    unfold wX11_keeps_51
    refine ⟨fun _ => ?_, fun q => absurd (nI_le (Nat.le_refl _) (by decide)) q⟩
    rintro _ rfl
    refine k _ (RM.acts hM (fun j hj => by rw [u1_s, pk_un (by omega), i1 0 (by decide)]) (fun o h1 h2 h3 => by rw [u1_n (by omega), i1 o h3]) (by rw [u1_s, pk_us, i1 0 (by decide), a1, nI_1]) (fun y hy => ?_))
    by_cases e : y = sz
    · subst e
      rw [if_pos rfl]
      exact hM.2.2.2.1.cg hn hV.hl hw (fun i hi => by rw [u1_n (by decide)]; exact i3 i hi)
    · rw [if_neg e]
      exact (a2 y (by omega)).cg hn hV.hl (hV.2.2.2.2.1.2.2 y (by omega)).1 (fun i hi => by rw [u1_n (by decide)]; exact i2 _ (by omega))
  · rintro j i s hi ⟨i1, i2, i3⟩ ih
    unfold wX11_keeps_51
    simp only [Nat.zero_add]
    rw [i1 0 (by decide), a1, show (117 : Int32) = nI 117 from rfl, pk_mul, nI_add]
    refine ⟨fun q => absurd q (nI_ge hi (by omega)), fun _ => ⟨vp_in_nI (by omega) (by decide), vp_in_nI (by omega) (by decide), ?_⟩⟩
    rintro _ rfl _ rfl
    rw [nI_1, nI_clamp (by omega), nI_clamp (by omega), i1 16 (by decide)]
    refine ih _ ⟨fun o ho => by rw [u1_n ho, i1 o ho], fun x hx => by rw [u1_s, pk_un (by omega)]; exact i2 x (by omega), fun x hx => ?_⟩
    rw [u1_s]
    by_cases e : x = i
    · subst e; rw [pk_us]
    · rw [pk_un (by omega)]; exact i3 x (by omega)
theorem M_rem {post : St → Prop} (hV : RV P tn bn nn lg tof tv bv L tp nw sz old ac kb kn) (hM : RM P tn bn nn lg tof tv bv L tp nw sz ac kb kn τ) (k : ∀ s, RM P tn bn nn lg tof tv bv L tp nw (remS sz) (remA sz ac nw) kb kn s → post s) : wX11_keeps 0 τ post := by
  have hn := hV.2.1.1
  have hs := hV.2.2.2.2.1.1
  obtain ⟨a1, a2⟩ := hM.2.2.2.2.1
  unfold wX11_keeps
  rw [a1, show (12 : Int32) = nI 12 from rfl, nI_eq (by omega) (by decide)]
  refine ⟨fun e => m_keep49 hV hM (by omega) (fun s hs => k s ?_), fun e => ?_⟩
  · unfold remS remA
    simp only [if_neg e]
    exact hs
  · subst e
    refine loop_0 (fun j i (s : St) => wX11_keeps_11 post j 0 (nI i) s) (fun i s => (∀ o, o ≠ 17 → s.1 o = τ.1 o) ∧ (∀ x, i ≤ x → s.1 17 x = τ.1 17 x) ∧ (∀ x, x < i → s.1 17 x = τ.1 17 (x + 117))) 1287 τ ⟨fun _ _ => rfl, fun _ _ => rfl, fun x hx => by omega⟩ ?_ ?_
    · rintro j s ⟨i1, i2, i3⟩
      unfold wX11_keeps_11
      refine ⟨fun _ => ?_, fun q => absurd (nI_le (Nat.le_refl _) (by decide)) q⟩
      rintro _ rfl
      rw [i1 0 (by decide), a1, show nI 12 - (1 : Int32) = nI 11 from rfl]
      have hV' : RV P tn bn nn lg tof tv bv L tp nw 11 ((old + 1) % 12) (fun k => ac (k + 1)) kb kn := by
        obtain ⟨v1, v2, v3, v4, ⟨v5, v6, v7⟩, v8⟩ := hV
        exact ⟨v1, v2, v3, v4, ⟨by omega, by omega, fun k hk => v7 _ (by omega)⟩, v8⟩
      have hM' : RM P tn bn nn lg tof tv bv L tp nw 11 (fun k => ac (k + 1)) kb kn (u1 s 0 32 (nI 11)) := by
        refine RM.acts hM (fun j hj => by rw [u1_s, pk_un (by omega), i1 0 (by decide)]) (fun o h1 h2 h3 => by rw [u1_n (by omega), i1 o h3]) (by rw [u1_s, pk_us]) (fun y hy => ?_)
        refine (a2 (y + 1) (by omega)).cg hn hV.hl (hV.2.2.2.2.1.2.2 _ (by omega)).1 (fun i hi => ?_)
        rw [u1_n (by decide), i3 _ (by omega)]
        rw [show 117 * y + i + 117 = 117 * (y + 1) + i by omega]
      refine m_keep49 hV' hM' (by omega) (fun s hs => k s ?_)
      unfold remS remA
      simp only [if_true]
      exact hs
    · rintro j i s hi ⟨i1, i2, i3⟩ ih
      unfold wX11_keeps_11
      simp only [Nat.zero_add]
      rw [show (117 : Int32) = nI 117 from rfl, nI_add]
      refine ⟨fun q => absurd q (nI_ge hi (by decide)), fun _ => ?_⟩
      rintro _ rfl
      refine ⟨vp_in_nI (by omega) (by decide), vp_in_nI (by omega) (by decide), ?_⟩
      rintro _ rfl _ rfl
      rw [nI_1, nI_clamp (by omega), nI_clamp (by omega), i2 (i + 117) (by omega)]
      refine ih _ ⟨fun o ho => by rw [u1_n ho, i1 o ho], fun x hx => by rw [u1_s, pk_un (by omega)]; exact i2 x (by omega), fun x hx => ?_⟩
      rw [u1_s]
      by_cases e : x = i
      · subst e; rw [pk_us]
      · rw [pk_un (by omega)]; exact i3 x (by omega)
end RG
