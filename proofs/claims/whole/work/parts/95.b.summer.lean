/-! the class goes through the settings -/
def prF (P some : Nat) (val : Nat → Int32) : Nat → Int32
  | 0 => 1
  | n + 1 => if some.testBit n then md (prF P some val n * val n) P else prF P some val n
theorem md_0 {P : Nat} (h : 0 < P) (x : Int32) : md (0 * x) P = 0 := by
  rw [Int32.zero_mul]
  exact md_same ⟨by decide, by show (0 : Int) < _; omega⟩
theorem prF_0 {P some : Nat} {val : Nat → Int32} {n : Nat} (h : 0 < P) (e : prF P some val n = 0) : ∀ d, prF P some val (n + d) = 0
  | 0 => e
  | d + 1 => by
    rw [← Nat.add_assoc, prF, prF_0 h e d, md_0 h]
    split <;> rfl
theorem prF_Sm {P some : Nat} {val : Nat → Int32} (h : 2 ≤ P) (hP : P < 2 ^ 31) : ∀ n, Sm P (prF P some val n)
  | 0 => Sm_nI (k := 1) (by omega) hP
  | n + 1 => by
    rw [prF]
    split
    · exact md_Sm (by omega) hP
    · exact prF_Sm h hP n
theorem prF_cg {P some : Nat} {val val' : Nat → Int32} : ∀ {n : Nat}, (∀ j, j < n → some.testBit j = true → val j = val' j) → prF P some val n = prF P some val' n
  | 0, _ => rfl
  | n + 1, h => by
    rw [prF, prF, prF_cg (fun j hj => h j (by omega))]
    by_cases e : some.testBit n = true
    · rw [if_pos e, if_pos e, h n (by omega) e]
    · rw [if_neg e, if_neg e]
theorem sh_b : ∀ b, b < 2 → ∀ l, l < 4 → nI b <<< (nI l &&& 31) = nI (if b = 1 then 2 ^ l else 0) := by decide +kernel
theorem or_if {a b l : Nat} {f : Bool} (h : b = f.toNat) : nI a ||| nI (if b = 1 then 2 ^ l else 0) = nI (a ||| (if f then 2 ^ l else 0)) := by
  rw [fa_or, h]
  cases f <;> rfl
def inF (en : Nat → Nat) (some v : Nat) : Bool := some.testBit (en (2 * v) / 4) && some.testBit (en (2 * v + 1) / 4)
section SU
variable {t P tn bn nn : Nat} {lg tof : Nat → Nat} {tv bv : Nat → Nat → Int32} {L L' : Nat} {tp tp' : Nat → Int32} {nw nw' : NetT} {sz old sz' old' : Nat} {ac ac' : Nat → NetT} {kb kb' : Nat → Bool} {kn kn' : Nat → NetT} {σ τ σ' τ' : St} {nl : Nat → Nat} {w : NetT} {N j : Nat}
theorem opC_end {i : Nat} (h4 : nl i ≤ 4) : opC nn nl w (4 * i + nl i) = opC nn nl w (4 * (i + 1)) := by
  have hno : ∀ x, 4 * i + nl i ≤ x → x < 4 * (i + 1) → opX nn nl w x = false := fun x h1 h2 => by
    unfold opX
    have e1 : x / 4 = i := by omega
    have e2 : ¬ x % 4 < nl i := by omega
    simp [e1, e2]
  have he : ∀ m, m ≤ 4 - nl i → opC nn nl w (4 * i + nl i + m) = opC nn nl w (4 * i + nl i) := by
    intro m
    induction m with
    | zero => intro _; rfl
    | succ m ihm =>
      intro hm
      rw [← ihm (by omega)]
      unfold opC
      rw [← Nat.add_assoc, fb_ct_succ, hno _ (by omega) (by omega)]
      rfl
  rw [← he (4 - nl i) (Nat.le_refl _), show 4 * i + nl i + (4 - nl i) = 4 * (i + 1) by omega]
def ogF (nn : Nat) (nl : Nat → Nat) (w : NetT) (ix : Nat) (x : Nat) : Bool := ix.testBit (opC nn nl w x)
def IxX (nn : Nat) (nl : Nat → Nat) (f : Nat → Bool) (σ : St) : Prop := ∀ n, n < nn → σ.1 292 n = nI (ixF f n (nl n))
theorem c_setOpen {ix : Nat} {post : St → Prop} (h : NetX nn nl w 86 σ) (hV : NetV P nn nl w) (hn : nn ≤ 6) (hl : ∀ j, j < nn → nl j ≤ 4) (hix : ix < 2 ^ 24) (k : ∀ s, (∀ o, o ≠ 292 → s.1 o = σ.1 o) → IxX nn nl (stF w.2.1 w.1 (ogF nn nl w ix) 0) s → post s) : wX8_setOpenLegs 291 86 (nI ix) σ post := by
  have hlt : ∀ e, e < 2 * w.1 → w.2.1 e < 2 ^ 31 := fun e he => by have := hV.lt hn he; omega
  unfold wX8_setOpenLegs
  have hb : ∀ c, ix / 2 ^ c < 2 ^ 31 := fun c => Nat.lt_of_le_of_lt (Nat.div_le_self _ _) (by omega)
  rw [show nI ix = nI (ix / 2 ^ opC nn nl w (4 * 0)) from by rw [show opC nn nl w (4 * 0) = 0 from rfl, Nat.pow_zero, Nat.div_one]]
  refine loop_0 (fun j i (s : St) => wX8_setOpenLegs_5 post j 291 86 (nI (ix / 2 ^ opC nn nl w (4 * i))) (nI i) s) (fun i s => (∀ o, o ≠ 292 → s.1 o = σ.1 o) ∧ (∀ n, n < i → s.1 292 n = nI (ixF (stF w.2.1 w.1 (ogF nn nl w ix) 0) n (nl n)))) nn σ ⟨fun _ _ => rfl, fun n hn => by omega⟩ ?_ ?_
  · rintro j s ⟨i1, i2⟩
    unfold wX8_setOpenLegs_5
    rw [i1 86 (by decide), h.1]
    exact ⟨fun _ => k s i1 i2, fun q => absurd (nI_le (Nat.le_refl _) (by omega)) q⟩
  · rintro j i s hi ⟨i1, i2⟩ ih
    have h4 := hl i hi
    unfold wX8_setOpenLegs_5
    rw [i1 86 (by decide), h.1]
    refine ⟨fun q => absurd q (nI_ge hi (by omega)), fun _ => ⟨vp_in_nI (by omega) (by decide), ?_⟩⟩
    rintro _ rfl
    rw [nI_clamp (by omega)]
    refine loop_0 (fun y l (r : St) => wX8_setOpenLegs_25 post (wX8_setOpenLegs_5 post j) y 291 86 (nI (ix / 2 ^ opC nn nl w (4 * i + l))) (nI i) (nI l) r) (fun l r => (∀ o, o ≠ 292 → r.1 o = σ.1 o) ∧ (∀ n, n < i → r.1 292 n = nI (ixF (stF w.2.1 w.1 (ogF nn nl w ix) 0) n (nl n))) ∧ r.1 292 i = nI (ixF (stF w.2.1 w.1 (ogF nn nl w ix) 0) i l)) (nl i) _ ⟨fun o ho => by rw [u1_n ho, i1 o ho], fun n hn => by rw [u1_s, pk_un (by omega)]; exact i2 n hn, by rw [u1_s, pk_us]; rfl⟩ ?_ ?_
    · rintro y r ⟨g1, g2, g3⟩
      unfold wX8_setOpenLegs_25
      rw [nI_clamp (by omega), g1 _ (by omega), (h.2.2.2 i hi).1]
      refine ⟨vp_in_nI (by omega) (by decide), fun _ => ?_, fun q => absurd (nI_le (Nat.le_refl _) (by omega)) q⟩
      rintro _ rfl
      rw [nI_1, opC_end h4]
      refine ih r ⟨g1, fun n hn => ?_⟩
      by_cases e : n = i
      · subst e; exact g3
      · exact g2 n (by omega)
    · rintro y l r hl2 ⟨g1, g2, g3⟩ ih2
      have hr : NetX nn nl w 86 r := h.fr hn (fun o h1 h2 => g1 o (by omega))
      have e1 : (4 * i + l) / 4 = i := by omega
      have e2 : (4 * i + l) % 4 = l := by omega
      unfold wX8_setOpenLegs_25
      rw [nI_clamp (by omega), (hr.2.2.2 i hi).1, show (4 : Int32) = nI 4 from rfl, pk_mul, nI_add, nI_1]
      refine ⟨vp_in_nI (by omega) (by decide), fun q => absurd q (nI_ge hl2 (by omega)), fun _ => c_wired hr hV.1 hlt (by omega) ⟨fun q => ?_, fun q => ⟨vp_in_nI (by omega) (by decide), vp_in_nI (by omega) (by decide), ?_⟩⟩⟩
      · rintro _ rfl
        have ho : opX nn nl w (4 * i + l) = false := by unfold opX; rw [q]; simp
        have ec : opC nn nl w (4 * i + (l + 1)) = opC nn nl w (4 * i + l) := by
          unfold opC
          rw [← Nat.add_assoc, fb_ct_succ, ho]; rfl
        have hf : stF w.2.1 w.1 (ogF nn nl w ix) 0 (4 * i + l) = false := by
          unfold stF
          rw [if_pos q, Nat.zero_testBit]
        have ih2 := ih2 r ⟨g1, g2, by rw [g3, ixF, hf]; simp⟩
        rw [ec] at ih2
        rw [nI_1]
        exact ih2
      · have ho : opX nn nl w (4 * i + l) = true := by unfold opX; rw [q, e1, e2]; simp [hi, hl2]
        have ec : opC nn nl w (4 * i + (l + 1)) = opC nn nl w (4 * i + l) + 1 := by
          unfold opC
          rw [← Nat.add_assoc, fb_ct_succ, ho]; rfl
        have hf : stF w.2.1 w.1 (ogF nn nl w ix) 0 (4 * i + l) = ix.testBit (opC nn nl w (4 * i + l)) := stF_op q
        have hm : (ix / 2 ^ opC nn nl w (4 * i + l)) % 2 = (ix.testBit (opC nn nl w (4 * i + l))).toNat := by
          rw [Nat.testBit_eq_decide_div_mod_eq]
          by_cases c : ix / 2 ^ opC nn nl w (4 * i + l) % 2 = 1
          · simp [c]
          · simp [show ix / 2 ^ opC nn nl w (4 * i + l) % 2 = 0 by omega]
        rw [g3, show nI (ix / 2 ^ opC nn nl w (4 * i + l)) &&& (1 : Int32) = nI ((ix / 2 ^ opC nn nl w (4 * i + l)) % 2) from by rw [show (1 : Int32) = nI 1 from rfl, fa_and, Nat.and_one_is_mod], sh_b _ (by omega) _ (by omega), or_if hm]
        rintro _ rfl
        rw [show (1 : Int32) &&& 31 = nI 1 &&& 31 from rfl, sr_nI (hb _) (by decide), Nat.pow_one, Nat.div_div_eq_div_mul, ← Nat.pow_succ]
        rintro _ rfl _ rfl
        have ih2 := ih2 (u1 r 292 i (nI (ixF (stF w.2.1 w.1 (ogF nn nl w ix) 0) i l ||| (if ix.testBit (opC nn nl w (4 * i + l)) then 2 ^ l else 0)))) ⟨fun o ho => by rw [u1_n ho, g1 o ho], fun n hn => by rw [u1_s, pk_un (by omega)]; exact g2 n hn, by rw [u1_s, pk_us, ixF, hf]⟩
        rw [ec] at ih2
        rw [nI_1]
        exact ih2
theorem c_between {some v : Nat} {post : Bool → St → Prop} (h : NetX nn nl w N σ) (hV : NetV P nn nl w) (hn : nn ≤ 6) (hs : some < 2 ^ 31) (hv : v < w.1) (k : post (inF w.2.1 some v) σ) : wX4_isBetween N (nI v) (nI some) σ post := by
  have hw := hV.1
  have l1 := hV.lt hn (e := 2 * v) (by omega)
  have l2 := hV.lt hn (e := 2 * v + 1) (by omega)
  have e : ∀ r, inF w.2.1 some v = r → post r σ := fun r hr => by rw [← hr]; exact k
  unfold inF at e
  unfold wX4_isBetween
  rw [show (2 : Int32) = nI 2 from rfl, pk_mul, nI_1]
  rintro _ rfl
  refine ⟨vp_in_nI (by omega) (by decide), ?_⟩
  rw [nI_clamp (by omega), h.2.2.1 _ (by omega), show (4 : Int32) = nI 4 from rfl, pk_div (by omega) (by decide) (by decide)]
  rintro _ rfl _ rfl
  refine ⟨vp_in_nI (by omega) (by decide), ?_⟩
  rw [nI_clamp (by omega), h.2.2.1 _ (by omega), pk_div (by omega) (by decide) (by decide)]
  rintro _ rfl
  rw [sr_b1 hs (by omega), sr_b1 hs (by omega)]
  refine ⟨fun q => e _ (by simp [q]), fun q => ⟨fun q2 => e _ (by simp [q2]), fun q2 => e _ (by simp [q, q2])⟩⟩
theorem c_choose {some : Nat} {post : St → Prop} (h : NetX nn nl w N σ) (hV : NetV P nn nl w) (hn : nn ≤ 6) (hN : N + 15 ≤ 291 ∨ 294 ≤ N) (hs : some < 2 ^ 31) (k : ∀ s, (∀ o, o ≠ 291 → o ≠ 293 → s.1 o = σ.1 o) → s.1 291 3 = nI (fb_ct (inF w.2.1 some) w.1) → (∀ v, v < w.1 → inF w.2.1 some v = true → s.1 293 (fb_ct (inF w.2.1 some) v) = nI v) → post s) : wX8_chooseWires 291 N (nI some) σ post := by
  have hw := hV.1
  unfold wX8_chooseWires
  rintro _ rfl
  refine loop_0 (fun j i (s : St) => wX8_chooseWires_7 post j 291 N (nI some) (nI i) s) (fun i s => (∀ o, o ≠ 291 → o ≠ 293 → s.1 o = σ.1 o) ∧ s.1 291 3 = nI (fb_ct (inF w.2.1 some) i) ∧ (∀ v, v < i → inF w.2.1 some v = true → s.1 293 (fb_ct (inF w.2.1 some) v) = nI v)) w.1 _ ⟨fun o h1 h2 => by rw [u1_n h1], by rw [u1_s, pk_us]; rfl, fun v hv => by omega⟩ ?_ ?_
  · rintro j s ⟨i1, i2, i3⟩
    unfold wX8_chooseWires_7
    rw [i1 N (by omega) (by omega), h.2.1]
    exact ⟨fun _ => k s i1 i2 i3, fun q => absurd (nI_le (Nat.le_refl _) (by omega)) q⟩
  · rintro j i s hi ⟨i1, i2, i3⟩ ih
    have hr : NetX nn nl w N s := h.fr hn (fun o h1 h2 => i1 o (by omega) (by omega))
    have hc : fb_ct (inF w.2.1 some) i ≤ i := fb_ct_le _ _
    unfold wX8_chooseWires_7
    rw [hr.2.1]
    refine ⟨fun q => absurd q (nI_ge hi (by omega)), fun _ => c_between hr hV hn hs hi ⟨fun q => ?_, fun q => ?_⟩⟩
    · rintro _ rfl
      rw [nI_1]
      have ec : fb_ct (inF w.2.1 some) (i + 1) = fb_ct (inF w.2.1 some) i := by rw [fb_ct_succ, q]; rfl
      refine ih s ⟨i1, by rw [ec]; exact i2, fun v hv h1 => ?_⟩
      by_cases e : v = i
      · rw [e, q] at h1; exact absurd h1 (by decide)
      · exact i3 v (by omega) h1
    · have ec : fb_ct (inF w.2.1 some) (i + 1) = fb_ct (inF w.2.1 some) i + 1 := by rw [fb_ct_succ, q]; rfl
      rw [i2]
      refine ⟨vp_in_nI (by omega) (by decide), ?_⟩
      rintro _ rfl
      rw [u1_n (o' := 291) (by decide), i2, nI_1, nI_1, nI_clamp (by omega)]
      rintro _ rfl _ rfl
      refine ih _ ⟨fun o h1 h2 => by rw [u1_n h1, u1_n h2, i1 o h1 h2], by rw [u1_s, pk_us, ec], fun v hv h1 => ?_⟩
      rw [u1_n (by decide), u1_s]
      by_cases e : v = i
      · rw [e, pk_us]
      · rw [pk_un, i3 v (by omega) h1]
        intro q2
        exact e (fb_ct_kth_one h1 q q2)
theorem c_turnLeg {x : Nat} {f : Nat → Bool} {post : St → Prop} (hn : nn ≤ 6) (hl : ∀ j, j < nn → nl j ≤ 4) (hx : x / 4 < nn ∧ x % 4 < nl (x / 4)) (hI : IxX nn nl f σ) (k : ∀ s, (∀ o, o ≠ 292 → s.1 o = σ.1 o) → IxX nn nl (fun z => f z ^^ decide (z = x)) s → post s) : wX8_turnLeg 291 (nI x) σ post := by
  unfold wX8_turnLeg
  rw [show (4 : Int32) = nI 4 from rfl, pk_rem (by omega) (by decide) (by decide), pk_div (by omega) (by decide) (by decide)]
  rintro _ rfl
  refine ⟨vp_in_nI (by omega) (by decide), vp_in_nI (by omega) (by decide), ?_⟩
  rw [nI_clamp (by omega), sh1 _ (by omega), hI _ hx.1, fb_xorI]
  rintro _ rfl
  refine k _ (fun o ho => u1_n ho) (fun n hn2 => ?_)
  rw [ixF_flip (fun e => by rw [e]; exact hx.2) (hl n hn2), u1_s]
  by_cases e : n = x / 4
  · rw [if_pos e, e, pk_us]
  · rw [if_neg e, pk_un e]; exact hI n hn2
theorem c_turnWire {v c m : Nat} {f : Nat → Bool} {post : St → Prop} (h : NetX nn nl w N σ) (hV : NetV P nn nl w) (hn : nn ≤ 6) (hl : ∀ j, j < nn → nl j ≤ 4) (hN : N + 15 ≤ 291 ∨ 294 ≤ N) (hI : IxX nn nl f σ) (hm : σ.1 291 3 = nI m) (hm10 : m ≤ 10) (hc : c < m) (hv : v < w.1) (hch : σ.1 293 c = nI v) (k : ∀ s, (∀ o, o ≠ 292 → s.1 o = σ.1 o) → IxX nn nl (fun z => (f z ^^ decide (z = w.2.1 (2 * v))) ^^ decide (z = w.2.1 (2 * v + 1))) s → post s) : wX8_turnWire 291 N (nI c) σ post := by
  have hw := hV.1
  have v1 := hV.2.1 (2 * v) (by omega)
  have v2 := hV.2.1 (2 * v + 1) (by omega)
  unfold wX8_turnWire
  rw [hm]
  refine ⟨fun q => absurd q (nI_pos (by omega)), fun _ => ⟨fun q => absurd q (nI_ge hc (by omega)), fun _ => ⟨vp_in_nI (by omega) (by decide), ?_⟩⟩⟩
  rw [nI_clamp (by omega), show σ.1 (291 + 2) c = nI v from hch, show (2 : Int32) = nI 2 from rfl, pk_mul]
  rintro _ rfl
  refine ⟨vp_in_nI (by omega) (by decide), ?_⟩
  rw [nI_clamp (by omega), h.2.2.1 _ (by omega)]
  refine c_turnLeg hn hl v1 hI (fun s f1 hI1 => ⟨vp_in_nI (by omega) (by decide), ?_⟩)
  rw [show s.1 (291 + 2) c = nI v from by rw [f1 _ (by decide)]; exact hch, pk_mul, nI_1]
  rintro _ rfl
  refine ⟨vp_in_nI (by omega) (by decide), ?_⟩
  rw [nI_clamp (by omega), f1 (N + 2) (by omega), h.2.2.1 _ (by omega)]
  exact c_turnLeg hn hl v2 hI1 (fun s' f2 hI2 => k s' (fun o ho => by rw [f2 o ho, f1 o ho]) hI2)
def vlC (nl : Nat → Nat) (w : NetT) (f : Nat → Bool) (n : Nat) : Int32 := w.2.2 n (ixF f n (nl n))
theorem c_product {some : Nat} {f : Nat → Bool} {post : Int32 → St → Prop} (h : NetX nn nl w N σ) (hn : nn ≤ 6) (hl : ∀ j, j < nn → nl j ≤ 4) (hs : some < 2 ^ 31) (hI : IxX nn nl f σ) (h0 : 0 < P) (hP : P < 2 ^ 31) (k : post (prF P some (vlC nl w f) nn) σ) : wX8_productHere 291 N (nI some) (nI P) σ post := by
  unfold wX8_productHere
  refine loop_0 (fun j i (_ : Unit) => wX8_productHere_6 post j 291 N (nI some) (nI P) (prF P some (vlC nl w f) i) (nI i) σ) (fun _ _ => True) nn () trivial ?_ ?_
  · rintro j _ _
    unfold wX8_productHere_6
    rw [h.1]
    exact ⟨fun _ => k, fun q => absurd (nI_le (Nat.le_refl _) (by omega)) q⟩
  · rintro j i _ hi _ ih
    have ih := ih () trivial
    have h4 := hl i hi
    have h16 := p2le h4
    have hx := ixF_lt f i (nl i)
    rw [prF] at ih
    unfold wX8_productHere_6
    rw [h.1, sr_b1 hs (by omega)]
    refine ⟨fun q => absurd q (nI_ge hi (by omega)), fun _ => ⟨fun q => ?_, fun q => ⟨fun q2 => ?_, fun q2 => ⟨vp_in_nI (by omega) (by decide), vp_in_nI (by omega) (by decide), ?_⟩⟩⟩⟩
    · have := prF_0 h0 q (nn - i)
      rw [show i + (nn - i) = nn by omega] at this
      rw [q]
      rw [this] at k
      exact k
    · rintro _ rfl
      rw [nI_1]
      rw [if_neg q2] at ih
      exact ih
    · rw [nI_clamp (by omega), show σ.1 (291 + 1) i = nI (ixF f i (nl i)) from hI i hi]
      rintro _ rfl
      refine ⟨vp_in_nI (by omega) (by decide), ?_⟩
      rw [nI_clamp (by omega), (h.2.2.2 i hi).2 _ hx]
      refine c_mod h0 hP ?_
      rintro _ rfl
      rw [nI_1]
      rw [if_pos q2] at ih
      exact ih
theorem c_go {some : Nat} {g : Nat → Bool} {post : St → Prop} (h : NetX nn nl w N σ) (hV : NetV P nn nl w) (hn : nn ≤ 6) (hl : ∀ j, j < nn → nl j ≤ 4) (hN : N + 15 ≤ 291 ∨ 294 ≤ N) (hs : some < 2 ^ 31) (h2 : 2 ≤ P) (h97 : P ≤ 97) (hI : IxX nn nl (stF w.2.1 w.1 g 0) σ) (k : ∀ s, (∀ o, o ≠ 291 → o ≠ 292 → o ≠ 293 → s.1 o = σ.1 o) → (s.1 291 0).toInt = fb_si (fun y => if sbB (inF w.2.1 some) w.1 y then (prF P some (vlC nl w (stF w.2.1 w.1 g y)) nn).toInt else 0) (2 ^ w.1) % (P : Int) → (s.1 291 1).toInt = fb_si (fun y => if sbB (inF w.2.1 some) w.1 y then (if prF P some (vlC nl w (stF w.2.1 w.1 g y)) nn = 0 then 0 else 1) else 0) (2 ^ w.1) → post s) : wX8_goThroughSettings 291 N (nI some) (nI P) σ post := by
  have hw := hV.1
  have hmW : fb_ct (inF w.2.1 some) w.1 ≤ w.1 := fb_ct_le _ _
  have h1024 := p2_10 (m := fb_ct (inF w.2.1 some) w.1) (by omega)
  unfold wX8_goThroughSettings
  refine c_choose h hV hn hN hs (fun s1 f1 c1 c2 => ?_)
  rintro _ rfl _ rfl
  rw [← exW_perm (G := fun y => (prF P some (vlC nl w (stF w.2.1 w.1 g y)) nn).toInt) hw, ← exW_perm (G := fun y => if prF P some (vlC nl w (stF w.2.1 w.1 g y)) nn = 0 then 0 else 1) hw] at k
  refine loop_0 (fun j i (s : St) => wX8_goThroughSettings_19 post j 291 N (nI some) (nI P) (nI i) s) (fun i s => (∀ o, o ≠ 291 → o ≠ 292 → s.1 o = s1.1 o) ∧ s.1 291 3 = nI (fb_ct (inF w.2.1 some) w.1) ∧ (Sm P (s.1 291 0) ∧ (s.1 291 0).toInt = fb_si (fun t => (prF P some (vlC nl w (stF w.2.1 w.1 g (exW (inF w.2.1 some) w.1 t))) nn).toInt) i % (P : Int)) ∧ ((s.1 291 1).toInt = fb_si (fun t => if prF P some (vlC nl w (stF w.2.1 w.1 g (exW (inF w.2.1 some) w.1 t))) nn = 0 then 0 else 1) i ∧ 0 ≤ (s.1 291 1).toInt ∧ (s.1 291 1).toInt ≤ i) ∧ IxX nn nl (stF w.2.1 w.1 g (exW (inF w.2.1 some) w.1 (i - 1))) s) (2 ^ fb_ct (inF w.2.1 some) w.1) _ ⟨fun o h1 h2 => by rw [u1_n h1, u1_n h1], by rw [u1_s, pk_un (by decide), u1_s, pk_un (by decide)]; exact c1, ⟨by rw [u1_s, pk_un (by decide), u1_s, pk_us]; exact Sm_nI (k := 0) (by omega) (by omega), by rw [u1_s, pk_un (by decide), u1_s, pk_us]; show (0 : Int) = 0 % _; rw [Int.zero_emod]⟩, ⟨by rw [u1_s, pk_us]; rfl, by rw [u1_s, pk_us]; exact Int.le_refl _, by rw [u1_s, pk_us]; exact Int.le_refl _⟩, fun n hn => by rw [u1_n (by decide), u1_n (by decide), f1 292 (by decide) (by decide), show exW (inF w.2.1 some) w.1 (0 - 1) = 0 from exW_0 _ _]; exact hI n hn⟩ ?_ ?_
  · rintro j s ⟨i1, i2, i3, i4, i5⟩
    unfold wX8_goThroughSettings_19
    rw [i2, sh1 _ (by omega)]
    exact ⟨fun _ => k s (fun o h1 h2 h3 => by rw [i1 o h1 h2, f1 o h1 h3]) i3.2 i4.1, fun q => absurd (nI_le (Nat.le_refl _) (by omega)) q⟩
  · rintro j i s hi ⟨i1, i2, i3, i4, i5⟩ ih
    have hr : NetX nn nl w N s := h.fr hn (fun o h1 h2 => by rw [i1 o (by omega) (by omega), f1 o (by omega) (by omega)])
    have body : ∀ s', (∀ o, o ≠ 292 → s'.1 o = s.1 o) → IxX nn nl (stF w.2.1 w.1 g (exW (inF w.2.1 some) w.1 i)) s' → wX8_goThroughSettings_45 post (wX8_goThroughSettings_19 post j) 291 N (nI some) (nI P) (nI i) s' := by
      intro s' g1 g2
      have hr' : NetX nn nl w N s' := hr.fr hn (fun o h1 h2 => g1 o (by omega))
      have sp : Sm P (prF P some (vlC nl w (stF w.2.1 w.1 g (exW (inF w.2.1 some) w.1 i))) nn) := prF_Sm h2 (by omega) nn
      unfold wX8_goThroughSettings_45
      refine c_product hr' hn hl hs g2 (by omega) (by omega) (c_mod (by omega) (by omega) ?_)
      rintro _ rfl
      rw [g1 291 (by decide)]
      have e0 : ((s.1 291 0) + prF P some (vlC nl w (stF w.2.1 w.1 g (exW (inF w.2.1 some) w.1 i))) nn).toInt % (P : Int) = fb_si (fun t => (prF P some (vlC nl w (stF w.2.1 w.1 g (exW (inF w.2.1 some) w.1 t))) nn).toInt) (i + 1) % (P : Int) := by
        obtain ⟨a1, a2⟩ := i3.1
        obtain ⟨b1, b2⟩ := sp
        rw [fb_addI (by omega) (by omega), fb_si_succ]
        refine cg_add ?_ rfl
        rw [i3.2, Int.emod_emod]
      have fin : ∀ b : Int32, b.toInt = (if prF P some (vlC nl w (stF w.2.1 w.1 g (exW (inF w.2.1 some) w.1 i))) nn = 0 then 0 else 1) → wX8_goThroughSettings_84 post (wX8_goThroughSettings_19 post j) 291 N (nI some) (nI P) (nI i) 291 ((u1 s' 291 0 (md ((s.1 291 0) + prF P some (vlC nl w (stF w.2.1 w.1 g (exW (inF w.2.1 some) w.1 i))) nn) P)).1 291 1) b (u1 s' 291 0 (md ((s.1 291 0) + prF P some (vlC nl w (stF w.2.1 w.1 g (exW (inF w.2.1 some) w.1 i))) nn) P)) := by
        intro b hb
        have hb2 : 0 ≤ b.toInt ∧ b.toInt ≤ 1 := by rw [hb]; split <;> omega
        unfold wX8_goThroughSettings_84
        rintro _ rfl _ rfl
        rw [nI_1]
        have ea : (u1 s' 291 0 (md ((s.1 291 0) + prF P some (vlC nl w (stF w.2.1 w.1 g (exW (inF w.2.1 some) w.1 i))) nn) P)).1 291 1 = s.1 291 1 := by rw [u1_s, pk_un (by decide), g1 291 (by decide)]
        rw [ea]
        have eb : ((s.1 291 1) + b).toInt = (s.1 291 1).toInt + b.toInt := fb_addI (by omega) (by omega)
        refine ih _ ⟨fun o h1 h2 => by rw [u1_n h1, u1_n h1, g1 o h2, i1 o h1 h2], ?_, ⟨?_, ?_⟩, ⟨?_, ?_, ?_⟩, fun n hn => ?_⟩
        · rw [u1_s, pk_un (by decide), u1_s, pk_un (by decide), g1 291 (by decide)]; exact i2
        · rw [u1_s, pk_un (by decide), u1_s, pk_us]; exact md_Sm (by omega) (by omega)
        · rw [u1_s, pk_un (by decide), u1_s, pk_us, md_toInt (by omega) (by omega)]; exact e0
        · rw [u1_s, pk_us, eb, fb_si_succ, i4.1, hb]
        · rw [u1_s, pk_us, eb]; omega
        · rw [u1_s, pk_us, eb]; omega
        · rw [u1_n (by decide), u1_n (by decide), Nat.add_sub_cancel]; exact g2 n hn
      exact ⟨fun q => fin 1 (by rw [if_neg q]; rfl), fun q => fin 0 (by rw [if_pos q]; rfl)⟩
    unfold wX8_goThroughSettings_19
    rw [i2, sh1 _ (by omega)]
    refine ⟨fun q => absurd q (nI_ge hi (by omega)), fun _ => ⟨fun q => ?_, fun q => ?_⟩⟩
    · have e : i = 0 := by
        have := (nI_leI (a := i) (b := 0) (by omega) (by decide)).mp q
        omega
      subst e
      exact body s (fun _ _ => rfl) i5
    · have e : i ≠ 0 := fun e => q (by rw [e]; decide)
      obtain ⟨t1, t2, t3⟩ := gr_step i (by omega) e
      have hc : tzF i < fb_ct (inF w.2.1 some) w.1 := by
        apply Nat.lt_of_not_le
        intro hge
        have := Nat.pow_le_pow_right (n := 2) (by decide) hge
        omega
      obtain ⟨v, v1, v2, v3⟩ := fb_ct_kth hc
      refine c_ntz (by omega) e (c_turnWire hr hV hn hl hN i5 i2 (by omega) hc v1 ?_ (fun s' g1 g2 => body s' g1 (fun n hn => ?_)))
      · rw [i1 293 (by decide) (by decide), ← v3]
        exact c2 v v1 v2
      · rw [g2 n hn]
        congr 1
        refine ixF_cg (fun l hl => ?_)
        rw [stF_flip hV.2.2.1 v1 (fun u hu => exW_step (by omega) e v1 v2 v3 hu)]
end SU
