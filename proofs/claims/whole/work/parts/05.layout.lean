/-! truth values, switches -/
def b2i (b : Bool) : Int32 := if b then 1 else 0
theorem b2i_f {b : Bool} (h : b2i b = 0) : b = false := by cases b with | false => rfl | true => exact absurd h (by decide)
theorem b2i_t {b : Bool} (h : ¬ b2i b = 0) : b = true := by cases b with | true => rfl | false => exact absurd (by decide) h
theorem vp_lt {i : Int32} {n : Nat} (h : vp_in i n) : i.toNatClampNeg < n := Nat.lt_of_not_le fun q => h (Or.inr q)
def Qz (post : Bool → St → Prop) (D : va_G) (cy : Nat → ClassId) (B : Nat) (ks : List Nat) (n : Nat) : Array Value → State → Outcome → State → Prop := va_Qi (fun r σ => ∃ b : Bool, r = b2i b ∧ post b σ) (BW D cy B ks) (AW B n)
section RK2
variable {p : Program} {l : Launch} {e : Env} {R : Room} {s : State} {m : MethodId} {args : Array Value} {below : List Frame} {meth : Method} {c : Code} {H : Heap} {locs : List Loc} {cells slots : Nat} {Q : State → Prop}
variable {cc : ByteArray} {pc nL : Nat} {ls : Array Slot} {rest : List Value} {D : va_G} {cy : Nat → ClassId} {B : Nat} {ks : List Nat} {σ : St} {A : Nat → Prop} {H0 : Heap} {ret : Option FieldType} {Ts : List Cond} {own : String}
theorem rk_callz {post : Bool → St → Prop} {n : Nat} {a : Array Value} {st0 : List Value} (run : va_Run p l e R s m args below meth c H locs cells slots 0 0 (F0 m pc ls st0) rest (Qz post D cy B ks n a) (AW B n)) (hS : va_S A H0 H locs) (hA : ∀ q, AW B n q → A q)
    (kk : ∀ (r : Bool) (σ' : St) (H : Heap) (locs : List Loc), post r σ' → va_P D vwCl (wW cy B ks σ') H → va_S A H0 H locs → W p l e R s m args below meth c H locs cells slots Q (F0 m (pc + 3) ls (.int (b2i r) :: rest))) : W p l e R s m args below meth c H locs cells slots Q (F0 m pc ls st0) :=
  rk_calli (post := fun r σ => ∃ b : Bool, r = b2i b ∧ post b σ) run hS hA (fun r σ' H1 locs1 hp hP1 hS1 => by
    obtain ⟨b, rfl, hp⟩ := hp
    exact kk b σ' H1 locs1 hp hP1 hS1)
theorem rk_zret {post : Bool → St → Prop} {n : Nat} (X : kC p s m args meth c cc nL (some .boolean) Ts own D cy (AW B n)) (hn0 : ks.length = n) (b : Bool) (h : post b σ) (hP : va_P D vwCl (wW cy B ks σ) H) (hS : va_S (AW B n) s.heap H locs) (hdg : decode cc pc = .ok (.ireturn, 1)) : W p l e R s m args below meth c H locs cells slots (MQ below (Qz post D cy B ks n) args s cells slots (AW B n)) (F0 m pc ls [.int (b2i b)]) :=
  rk_iret (post := fun r σ => ∃ b : Bool, r = b2i b ∧ post b σ) X (by cases b <;> rfl) hn0 ⟨b, rfl, h⟩ hP hS hdg
theorem lv_room12 {st : List Value} (h : (st.map fun v => v.category).sum ≤ 12) : 2 * (F0 m pc ls rest).monitorRoom + (st.map fun v => v.category).sum ≤ 12 := by
  have h0 : (F0 m pc ls rest).monitorRoom = 0 := rfl
  rw [h0]
  omega
theorem va_runV12 {y : MethodName} {bytes : ByteArray} {maxL mc ms n index : Nat} {ws : List Cond} {rm : Room} {Pc : Array Value → State → Prop} {Qc : Array Value → State → Outcome → State → Prop} {free : Addr → Prop} {C : String} {b : Addr} {As : List Value} {g : JFrame} (S : CallFix p m c cc nL s args Ts own) (hM : Met l y ws rm Pc Qc mc ms free) (cw : CallW R s args own C index y bytes maxL ret ws rm mc ms n) (h12 : 12 + (maxL + 11) + rm.locals ≤ R.locals) (hp : PreV s H C b Pc As)
    (hg : g.method = m) (hn : As.length = n) (hsize : g.locals.size = nL) (hstack : g.stack = As.reverse ++ .ref b :: rest) (hW : 2 * g.monitorRoom + (rest.map fun v => v.category).sum ≤ 12) (hdg : decode cc g.pc = .ok (.invokevirtual index, 3)) (hf : cells + mc ≤ R.cells ∧ slots + ms ≤ R.slots) :
    va_Run p l e R s m args below meth c H locs cells slots mc ms g rest (Qc (Value.ref b :: As).toArray) (free) := by
  obtain ⟨⟨hrc, hrs, hfr, hlo, hws, hcw, hcode, hini, hy, hlen, hl⟩, hin, hse⟩ := cw
  have hK : Back l R p e below s args y 3 12 (PreOf R mc ms Pc) (PostOf Qc mc ms free) := back_of (bytes := bytes) (maxL := maxL) (ret := ret) hM hp.1 hrc hrs hfr h12 hws hcw (fun a' U hW => word_at hW (Or.inl (by first | rfl | simp [Cond.onTables, Cond.keeps, Cond.steady])) hini)
  obtain ⟨hx, hb, hml, ho, -⟩ := S
  obtain ⟨-, ⟨cellB, hcB, hoB, hclB⟩, hPc⟩ := hp
  intro T hT X
  obtain ⟨v, vm₁, ⟨U', l2, c2, s2⟩, hW₁, X', ⟨g', mk, t, L, e1, e2, hq, h1, hL, h2, h3⟩, st⟩ := callV X hx (C := C) (bytes := bytes) (maxL := maxL) (ret := ret) ho hl hin hse hcode hy hK (by rw [hT]; exact hcB) hoB hclB hg (hsize.trans hml.symm) (argsL := As) (rest := rest) (fun sig h => hn.trans (hlen sig h)) hstack hW (by rw [hb]; exact hdg)
    (fun vm₁ hW₁ => ⟨hf.1, hf.2, hPc (T.setVm vm₁) hT hW₁⟩)
  dsimp only [Pt.U, Pt.locs, Pt.cells, Pt.slots] at X' e1 e2 h1 h2 h3 st
  subst h1; subst h2; subst h3
  exact ⟨v, (T.setVm vm₁).calling g' mk (Value.ref b :: As).toArray, t, U', L, hT, X', hL, e1, e2, hq, st⟩
end RK2
theorem sw_out (x : Int32) (lo n : Nat) (h : ∀ k, k < n → x ≠ nI (lo + k)) (hn : lo + n < 2 ^ 31) : x.toInt < lo ∨ ((lo + n : Nat) : Int) - 1 < x.toInt := by
  by_cases h1 : x.toInt < lo
  · exact Or.inl h1
  · by_cases h2 : ((lo + n : Nat) : Int) - 1 < x.toInt
    · exact Or.inr h2
    · exfalso
      have h3 : ¬ x < 0 := fun q => by
        have := Int32.lt_iff_toInt_lt.mp q
        simp at this
        omega
      obtain ⟨j, hj, rfl⟩ := nI_of h3
      rw [nI_toInt hj] at h1 h2
      exact h (j - lo) (by omega) (by rw [show lo + (j - lo) = j by omega])
theorem sw_out8 {x : Int32} (c0 : ¬ x = 0) (c1 : ¬ x = 1) (c2 : ¬ x = 2) (c3 : ¬ x = 3) (c4 : ¬ x = 4) (c5 : ¬ x = 5) (c6 : ¬ x = 6) (c7 : ¬ x = 7) : x.toInt < 0 ∨ 7 < x.toInt :=
  sw_out x 0 8 (fun k hk => by
    match k, hk with
    | 0, _ => exact c0
    | 1, _ => exact c1
    | 2, _ => exact c2
    | 3, _ => exact c3
    | 4, _ => exact c4
    | 5, _ => exact c5
    | 6, _ => exact c6
    | 7, _ => exact c7) (by decide)
theorem sw_out5 {x : Int32} (c0 : ¬ x = 0) (c1 : ¬ x = 1) (c2 : ¬ x = 2) (c3 : ¬ x = 3) (c4 : ¬ x = 4) : x.toInt < 0 ∨ 4 < x.toInt :=
  sw_out x 0 5 (fun k hk => by
    match k, hk with
    | 0, _ => exact c0
    | 1, _ => exact c1
    | 2, _ => exact c2
    | 3, _ => exact c3
    | 4, _ => exact c4) (by decide)
theorem sw_out1_5 {x : Int32} (c1 : ¬ x = 1) (c2 : ¬ x = 2) (c3 : ¬ x = 3) (c4 : ¬ x = 4) (c5 : ¬ x = 5) : x.toInt < 1 ∨ 5 < x.toInt :=
  sw_out x 1 5 (fun k hk => by
    match k, hk with
    | 0, _ => exact c1
    | 1, _ => exact c2
    | 2, _ => exact c3
    | 3, _ => exact c4
    | 4, _ => exact c5) (by decide)
theorem kM_lt {o kd : Nat} (h : kM[o]? = some kd) : o < 26 := by rw [← kM_len]; exact (List.getElem?_eq_some_iff.mp h).1
theorem klX_X0_20 : ∀ o, o < 346 → kX[o]? = some 0 → kX[o + 1]? = some 15 := by decide +kernel
theorem klX_X0_2 {o : Nat} (h : kX[o]? = some 0) : kX[o + 1]? = some 15 := klX_X0_20 o (kX_lt h) h
theorem klX_X2_20 : ∀ o, o < 346 → kX[o]? = some 2 → kX[o + 1]? = some 10012 := by decide +kernel
theorem klX_X2_2 {o : Nat} (h : kX[o]? = some 2) : kX[o + 1]? = some 10012 := klX_X2_20 o (kX_lt h) h
theorem klX_X2_30 : ∀ o, o < 346 → kX[o]? = some 2 → kX[o + 2]? = some 10012 := by decide +kernel
theorem klX_X2_3 {o : Nat} (h : kX[o]? = some 2) : kX[o + 2]? = some 10012 := klX_X2_30 o (kX_lt h) h
theorem klX_X2_40 : ∀ o, o < 346 → kX[o]? = some 2 → kX[o + 3]? = some 10256 := by decide +kernel
theorem klX_X2_4 {o : Nat} (h : kX[o]? = some 2) : kX[o + 3]? = some 10256 := klX_X2_40 o (kX_lt h) h
theorem klX_X3_20 : ∀ o, o < 346 → kX[o]? = some 3 → kX[o + 1]? = some 10016 := by decide +kernel
theorem klX_X3_2 {o : Nat} (h : kX[o]? = some 3) : kX[o + 1]? = some 10016 := klX_X3_20 o (kX_lt h) h
theorem klX_X4_20 : ∀ o, o < 346 → kX[o]? = some 4 → kX[o + 1]? = some 14 := by decide +kernel
theorem klX_X4_2 {o : Nat} (h : kX[o]? = some 4) : kX[o + 1]? = some 14 := klX_X4_20 o (kX_lt h) h
theorem klX_X4_30 : ∀ o, o < 346 → kX[o]? = some 4 → kX[o + 2]? = some 10020 := by decide +kernel
theorem klX_X4_3 {o : Nat} (h : kX[o]? = some 4) : kX[o + 2]? = some 10020 := klX_X4_30 o (kX_lt h) h
theorem klX_X5_00 : ∀ o, o < 346 → kX[o]? = some 5 → kX[o + 1]? = some 10064 := by decide +kernel
theorem klX_X5_0 {o : Nat} (h : kX[o]? = some 5) : kX[o + 1]? = some 10064 := klX_X5_00 o (kX_lt h) h
theorem klX_X6_00 : ∀ o, o < 346 → kX[o]? = some 6 → kX[o + 1]? = some 2 := by decide +kernel
theorem klX_X6_0 {o : Nat} (h : kX[o]? = some 6) : kX[o + 1]? = some 2 := klX_X6_00 o (kX_lt h) h
theorem klX_X6_10 : ∀ o, o < 346 → kX[o]? = some 6 → kX[o + 5]? = some 10006 := by decide +kernel
theorem klX_X6_1 {o : Nat} (h : kX[o]? = some 6) : kX[o + 5]? = some 10006 := klX_X6_10 o (kX_lt h) h
theorem klX_X7_10 : ∀ o, o < 346 → kX[o]? = some 7 → kX[o + 1]? = some 10016 := by decide +kernel
theorem klX_X7_1 {o : Nat} (h : kX[o]? = some 7) : kX[o + 1]? = some 10016 := klX_X7_10 o (kX_lt h) h
theorem klX_X8_20 : ∀ o, o < 346 → kX[o]? = some 8 → kX[o + 1]? = some 10006 := by decide +kernel
theorem klX_X8_2 {o : Nat} (h : kX[o]? = some 8) : kX[o + 1]? = some 10006 := klX_X8_20 o (kX_lt h) h
theorem klX_X8_40 : ∀ o, o < 346 → kX[o]? = some 8 → kX[o + 2]? = some 10010 := by decide +kernel
theorem klX_X8_4 {o : Nat} (h : kX[o]? = some 8) : kX[o + 2]? = some 10010 := klX_X8_40 o (kX_lt h) h
theorem klX_X8_50 : ∀ o, o < 346 → kX[o]? = some 8 → kX[o + 3]? = some 4 := by decide +kernel
theorem klX_X8_5 {o : Nat} (h : kX[o]? = some 8) : kX[o + 3]? = some 4 := klX_X8_50 o (kX_lt h) h
theorem klX_X9_20 : ∀ o, o < 346 → kX[o]? = some 9 → kX[o + 1]? = some 12 := by decide +kernel
theorem klX_X9_2 {o : Nat} (h : kX[o]? = some 9) : kX[o + 1]? = some 12 := klX_X9_20 o (kX_lt h) h
theorem klX_X9_40 : ∀ o, o < 346 → kX[o]? = some 9 → kX[o + 2]? = some 13 := by decide +kernel
theorem klX_X9_4 {o : Nat} (h : kX[o]? = some 9) : kX[o + 2]? = some 13 := klX_X9_40 o (kX_lt h) h
theorem klX_X9_50 : ∀ o, o < 346 → kX[o]? = some 9 → kX[o + 3]? = some 4 := by decide +kernel
theorem klX_X9_5 {o : Nat} (h : kX[o]? = some 9) : kX[o + 3]? = some 4 := klX_X9_50 o (kX_lt h) h
theorem klX_X9_70 : ∀ o, o < 346 → kX[o]? = some 9 → kX[o + 18]? = some 10019 := by decide +kernel
theorem klX_X9_7 {o : Nat} (h : kX[o]? = some 9) : kX[o + 18]? = some 10019 := klX_X9_70 o (kX_lt h) h
theorem klX_X9_80 : ∀ o, o < 346 → kX[o]? = some 9 → kX[o + 19]? = some 10019 := by decide +kernel
theorem klX_X9_8 {o : Nat} (h : kX[o]? = some 9) : kX[o + 19]? = some 10019 := klX_X9_80 o (kX_lt h) h
theorem klX_X9_90 : ∀ o, o < 346 → kX[o]? = some 9 → kX[o + 20]? = some 10019 := by decide +kernel
theorem klX_X9_9 {o : Nat} (h : kX[o]? = some 9) : kX[o + 20]? = some 10019 := klX_X9_90 o (kX_lt h) h
theorem klX_X10_00 : ∀ o, o < 346 → kX[o]? = some 10 → kX[o + 1]? = some 20700 := by decide +kernel
theorem klX_X10_0 {o : Nat} (h : kX[o]? = some 10) : kX[o + 1]? = some 20700 := klX_X10_00 o (kX_lt h) h
theorem klX_X10_40 : ∀ o, o < 346 → kX[o]? = some 10 → kX[o + 86]? = some 4 := by decide +kernel
theorem klX_X10_4 {o : Nat} (h : kX[o]? = some 10) : kX[o + 86]? = some 4 := klX_X10_40 o (kX_lt h) h
theorem klX_X10_50 : ∀ o, o < 346 → kX[o]? = some 10 → kX[o + 101]? = some 0 := by decide +kernel
theorem klX_X10_5 {o : Nat} (h : kX[o]? = some 10) : kX[o + 101]? = some 0 := klX_X10_50 o (kX_lt h) h
theorem klX_X10_60 : ∀ o, o < 346 → kX[o]? = some 10 → kX[o + 283]? = some 16 := by decide +kernel
theorem klX_X10_6 {o : Nat} (h : kX[o]? = some 10) : kX[o + 283]? = some 16 := klX_X10_60 o (kX_lt h) h
theorem klX_X10_70 : ∀ o, o < 346 → kX[o]? = some 10 → kX[o + 284]? = some 30002 := by decide +kernel
theorem klX_X10_7 {o : Nat} (h : kX[o]? = some 10) : kX[o + 284]? = some 30002 := klX_X10_70 o (kX_lt h) h
theorem klX_X10_80 : ∀ o, o < 346 → kX[o]? = some 10 → kX[o + 285]? = some 6 := by decide +kernel
theorem klX_X10_8 {o : Nat} (h : kX[o]? = some 10) : kX[o + 285]? = some 6 := klX_X10_80 o (kX_lt h) h
theorem klX_X10_90 : ∀ o, o < 346 → kX[o]? = some 10 → kX[o + 291]? = some 8 := by decide +kernel
theorem klX_X10_9 {o : Nat} (h : kX[o]? = some 10) : kX[o + 291]? = some 8 := klX_X10_90 o (kX_lt h) h
theorem klX_X10_100 : ∀ o, o < 346 → kX[o]? = some 10 → kX[o + 309]? = some 5 := by decide +kernel
theorem klX_X10_10 {o : Nat} (h : kX[o]? = some 10) : kX[o + 309]? = some 5 := klX_X10_100 o (kX_lt h) h
theorem klX_X10_110 : ∀ o, o < 346 → kX[o]? = some 10 → kX[o + 311]? = some 3 := by decide +kernel
theorem klX_X10_11 {o : Nat} (h : kX[o]? = some 10) : kX[o + 311]? = some 3 := klX_X10_110 o (kX_lt h) h
theorem klX_X10_120 : ∀ o, o < 346 → kX[o]? = some 10 → kX[o + 313]? = some 7 := by decide +kernel
theorem klX_X10_12 {o : Nat} (h : kX[o]? = some 10) : kX[o + 313]? = some 7 := klX_X10_120 o (kX_lt h) h
theorem klX_X10_130 : ∀ o, o < 346 → kX[o]? = some 10 → kX[o + 315]? = some 1 := by decide +kernel
theorem klX_X10_13 {o : Nat} (h : kX[o]? = some 10) : kX[o + 315]? = some 1 := klX_X10_130 o (kX_lt h) h
theorem klX_120 : ∀ o, o < 346 → kX[o]? = some 12 → ∀ j, j < 8 → kX[o + 20 + 2 * j]? = some 7 := by decide +kernel
theorem klX_12 {o j : Nat} (h : kX[o]? = some 12) (hj : j < 8) : kX[o + 20 + 2 * j]? = some 7 := klX_120 o (kX_lt h) h j hj
theorem klX_130 : ∀ o, o < 346 → kX[o]? = some 13 → ∀ j, j < 5 → kX[o + 35 + 1 * j]? = some 1 := by decide +kernel
theorem klX_13 {o j : Nat} (h : kX[o]? = some 13) (hj : j < 5) : kX[o + 35 + 1 * j]? = some 1 := klX_130 o (kX_lt h) h j hj
theorem klX_140 : ∀ o, o < 346 → kX[o]? = some 14 → ∀ j, j < 6 → kX[o + 2 + 2 * j]? = some 7 := by decide +kernel
theorem klX_14 {o j : Nat} (h : kX[o]? = some 14) (hj : j < 6) : kX[o + 2 + 2 * j]? = some 7 := klX_140 o (kX_lt h) h j hj
theorem klX_150 : ∀ o, o < 346 → kX[o]? = some 15 → ∀ j, j < 12 → kX[o + 1 + 15 * j]? = some 4 := by decide +kernel
theorem klX_15 {o j : Nat} (h : kX[o]? = some 15) (hj : j < 12) : kX[o + 1 + 15 * j]? = some 4 := klX_150 o (kX_lt h) h j hj
theorem klX_160 : ∀ o, o < 346 → kX[o]? = some 16 → ∀ j, j < 2 → kX[o + 33 + 15 * j]? = some 4 := by decide +kernel
theorem klX_16 {o j : Nat} (h : kX[o]? = some 16) (hj : j < 2) : kX[o + 33 + 15 * j]? = some 4 := klX_160 o (kX_lt h) h j hj
theorem klM_X11_10 : ∀ o, o < 26 → kM[o]? = some 11 → kM[o + 1]? = some 20700 := by decide +kernel
theorem klM_X11_1 {o : Nat} (h : kM[o]? = some 11) : kM[o + 1]? = some 20700 := klM_X11_10 o (kM_lt h) h
theorem klM_X11_130 : ∀ o, o < 26 → kM[o]? = some 11 → kM[o + 2]? = some 10002 := by decide +kernel
theorem klM_X11_13 {o : Nat} (h : kM[o]? = some 11) : kM[o + 2]? = some 10002 := klM_X11_130 o (kM_lt h) h
theorem klM_X11_140 : ∀ o, o < 26 → kM[o]? = some 11 → kM[o + 3]? = some 10002 := by decide +kernel
theorem klM_X11_14 {o : Nat} (h : kM[o]? = some 11) : kM[o + 3]? = some 10002 := klM_X11_140 o (kM_lt h) h
theorem klM_X11_150 : ∀ o, o < 26 → kM[o]? = some 11 → kM[o + 4]? = some 10002 := by decide +kernel
theorem klM_X11_15 {o : Nat} (h : kM[o]? = some 11) : kM[o + 4]? = some 10002 := klM_X11_150 o (kM_lt h) h
theorem klM_X11_160 : ∀ o, o < 26 → kM[o]? = some 11 → kM[o + 5]? = some 10002 := by decide +kernel
theorem klM_X11_16 {o : Nat} (h : kM[o]? = some 11) : kM[o + 5]? = some 10002 := klM_X11_160 o (kM_lt h) h
theorem klM_X11_170 : ∀ o, o < 26 → kM[o]? = some 11 → kM[o + 6]? = some 40016 := by decide +kernel
theorem klM_X11_17 {o : Nat} (h : kM[o]? = some 11) : kM[o + 6]? = some 40016 := klM_X11_170 o (kM_lt h) h
theorem klM_X11_180 : ∀ o, o < 26 → kM[o]? = some 11 → kM[o + 7]? = some 40010 := by decide +kernel
theorem klM_X11_18 {o : Nat} (h : kM[o]? = some 11) : kM[o + 7]? = some 40010 := klM_X11_180 o (kM_lt h) h
theorem klM_X11_190 : ∀ o, o < 26 → kM[o]? = some 11 → kM[o + 8]? = some 40012 := by decide +kernel
theorem klM_X11_19 {o : Nat} (h : kM[o]? = some 11) : kM[o + 8]? = some 40012 := klM_X11_190 o (kM_lt h) h
theorem klM_X11_200 : ∀ o, o < 26 → kM[o]? = some 11 → kM[o + 9]? = some 10016 := by decide +kernel
theorem klM_X11_20 {o : Nat} (h : kM[o]? = some 11) : kM[o + 9]? = some 10016 := klM_X11_200 o (kM_lt h) h
theorem klM_X11_210 : ∀ o, o < 26 → kM[o]? = some 11 → kM[o + 10]? = some 10256 := by decide +kernel
theorem klM_X11_21 {o : Nat} (h : kM[o]? = some 11) : kM[o + 10]? = some 10256 := klM_X11_210 o (kM_lt h) h
theorem klM_X11_220 : ∀ o, o < 26 → kM[o]? = some 11 → kM[o + 11]? = some 10040 := by decide +kernel
theorem klM_X11_22 {o : Nat} (h : kM[o]? = some 11) : kM[o + 11]? = some 10040 := klM_X11_220 o (kM_lt h) h
theorem klM_X11_230 : ∀ o, o < 26 → kM[o]? = some 11 → kM[o + 12]? = some 10012 := by decide +kernel
theorem klM_X11_23 {o : Nat} (h : kM[o]? = some 11) : kM[o + 12]? = some 10012 := klM_X11_230 o (kM_lt h) h
theorem klM_X11_250 : ∀ o, o < 26 → kM[o]? = some 11 → kM[o + 13]? = some 10020 := by decide +kernel
theorem klM_X11_25 {o : Nat} (h : kM[o]? = some 11) : kM[o + 13]? = some 10020 := klM_X11_250 o (kM_lt h) h
theorem klM_X11_270 : ∀ o, o < 26 → kM[o]? = some 11 → kM[o + 14]? = some 10064 := by decide +kernel
theorem klM_X11_27 {o : Nat} (h : kM[o]? = some 11) : kM[o + 14]? = some 10064 := klM_X11_270 o (kM_lt h) h
theorem klM_X11_280 : ∀ o, o < 26 → kM[o]? = some 11 → kM[o + 15]? = some 10256 := by decide +kernel
theorem klM_X11_28 {o : Nat} (h : kM[o]? = some 11) : kM[o + 15]? = some 10256 := klM_X11_280 o (kM_lt h) h
theorem klM_X11_300 : ∀ o, o < 26 → kM[o]? = some 11 → kM[o + 16]? = some 10117 := by decide +kernel
theorem klM_X11_30 {o : Nat} (h : kM[o]? = some 11) : kM[o + 16]? = some 10117 := klM_X11_300 o (kM_lt h) h
theorem klM_X11_310 : ∀ o, o < 26 → kM[o]? = some 11 → kM[o + 17]? = some 11404 := by decide +kernel
theorem klM_X11_31 {o : Nat} (h : kM[o]? = some 11) : kM[o + 17]? = some 11404 := klM_X11_310 o (kM_lt h) h
theorem klM_X11_330 : ∀ o, o < 26 → kM[o]? = some 11 → kM[o + 18]? = some 10234 := by decide +kernel
theorem klM_X11_33 {o : Nat} (h : kM[o]? = some 11) : kM[o + 18]? = some 10234 := klM_X11_330 o (kM_lt h) h
theorem klM_X11_340 : ∀ o, o < 26 → kM[o]? = some 11 → kM[o + 19]? = some 30002 := by decide +kernel
theorem klM_X11_34 {o : Nat} (h : kM[o]? = some 11) : kM[o + 19]? = some 30002 := klM_X11_340 o (kM_lt h) h
theorem klM_X11_350 : ∀ o, o < 26 → kM[o]? = some 11 → kM[o + 20]? = some 10016 := by decide +kernel
theorem klM_X11_35 {o : Nat} (h : kM[o]? = some 11) : kM[o + 20]? = some 10016 := klM_X11_350 o (kM_lt h) h
theorem klM_X11_370 : ∀ o, o < 26 → kM[o]? = some 11 → kM[o + 21]? = some 10256 := by decide +kernel
theorem klM_X11_37 {o : Nat} (h : kM[o]? = some 11) : kM[o + 21]? = some 10256 := klM_X11_370 o (kM_lt h) h
theorem klM_X11_380 : ∀ o, o < 26 → kM[o]? = some 11 → kM[o + 22]? = some 10024 := by decide +kernel
theorem klM_X11_38 {o : Nat} (h : kM[o]? = some 11) : kM[o + 22]? = some 10024 := klM_X11_380 o (kM_lt h) h
theorem klM_X11_400 : ∀ o, o < 26 → kM[o]? = some 11 → kM[o + 23]? = some 10024 := by decide +kernel
theorem klM_X11_40 {o : Nat} (h : kM[o]? = some 11) : kM[o + 23]? = some 10024 := klM_X11_400 o (kM_lt h) h
theorem klM_X11_410 : ∀ o, o < 26 → kM[o]? = some 11 → kM[o + 24]? = some 10006 := by decide +kernel
theorem klM_X11_41 {o : Nat} (h : kM[o]? = some 11) : kM[o + 24]? = some 10006 := klM_X11_410 o (kM_lt h) h
theorem klM_X11_420 : ∀ o, o < 26 → kM[o]? = some 11 → kM[o + 25]? = some 10006 := by decide +kernel
theorem klM_X11_42 {o : Nat} (h : kM[o]? = some 11) : kM[o + 25]? = some 10006 := klM_X11_420 o (kM_lt h) h
