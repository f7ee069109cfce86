/-! the world: a region of cells that lie one behind the other, and a flat store of their numbers -/
abbrev St : Type := (Nat → Nat → Int32) × (Nat → Nat → Int64)
def rs {α : Type} (f : Nat → Nat → α) (o : Nat) (g : Nat → α) : Nat → Nat → α := fun q => if q = o then g else f q
def u1 (σ : St) (o k : Nat) (x : Int32) : St := (rs σ.1 o (upd (σ.1 o) k x), σ.2)
def u2 (σ : St) (o k : Nat) (x : Int64) : St := (σ.1, rs σ.2 o (vp_updL (σ.2 o) k x))
def r1 (σ : St) (o : Nat) (g : Nat → Int32) : St := (rs σ.1 o g, σ.2)
abbrev tysW (cy : Nat → ClassId) : List (ClassId × FieldType) := [(cy 0, .byte), (cy 1, .int), (cy 2, .long), (cy 3, .boolean), (cy 4, .object RX1), (cy 5, .object RX4), (cy 6, .object RX7)]
def eW (cy : Nat → ClassId) (B : Nat) (f : Nat → Int32) (g : Nat → Int64) (o kd : Nat) : va_E := match kd with
  | 0 => .inr (0, [.int (f 0), .int (f 1), .ref (B + (o + 1))])
  | 1 => .inr (1, [.int (f 0), .int (f 1), .int (f 2), .int (f 3)])
  | 2 => .inr (2, [.int (f 0), .int (f 1), .ref (B + (o + 1)), .ref (B + (o + 2)), .ref (B + (o + 3))])
  | 3 => .inr (3, [.int (f 0), .int (f 1), .ref (B + (o + 1))])
  | 4 => .inr (4, [.int (f 0), .int (f 1), .ref (B + (o + 1)), .ref (B + (o + 2))])
  | 5 => .inr (5, [.ref (B + (o + 1))])
  | 6 => .inr (6, [.ref (B + (o + 1)), .ref (B + (o + 5)), .int (f 2), .int (f 3), .int (f 4), .int (f 5), .int (f 6), .int (f 7)])
  | 7 => .inr (7, [.int (f 0), .ref (B + (o + 1))])
  | 8 => .inr (8, [.int (f 0), .int (f 1), .ref (B + (o + 1)), .int (f 3), .ref (B + (o + 2)), .ref (B + (o + 3))])
  | 9 => .inr (9, [.int (f 0), .int (f 1), .ref (B + (o + 1)), .int (f 3), .ref (B + (o + 2)), .ref (B + (o + 3)), .int (f 6), .ref (B + (o + 18)), .ref (B + (o + 19)), .ref (B + (o + 20))])
  | 10 => .inr (10, [.ref (B + (o + 1)), .int (f 1), .ref (B + (f 2).toNatClampNeg), .ref (B + (f 3).toNatClampNeg), .ref (B + (o + 86)), .ref (B + (o + 101)), .ref (B + (o + 283)), .ref (B + (o + 284)), .ref (B + (o + 285)), .ref (B + (o + 291)), .ref (B + (o + 309)), .ref (B + (o + 311)), .ref (B + (o + 313)), .ref (B + (o + 315))])
  | 11 => .inr (11, [.int (f 0), .ref (B + (o + 1)), .int (f 2), .int (f 3), .int (f 4), .int (f 5), .int (f 6), .int (f 7), .long (g 8), .int (f 9), .int (f 10), .int (f 11), .int (f 12), .ref (B + (o + 2)), .ref (B + (o + 3)), .ref (B + (o + 4)), .ref (B + (o + 5)), .ref (B + (o + 6)), .ref (B + (o + 7)), .ref (B + (o + 8)), .ref (B + (o + 9)), .ref (B + (o + 10)), .ref (B + (o + 11)), .ref (B + (o + 12)), .int (f 24), .ref (B + (o + 13)), .long (g 26), .ref (B + (o + 14)), .ref (B + (o + 15)), .int (f 29), .ref (B + (o + 16)), .ref (B + (o + 17)), .int (f 32), .ref (B + (o + 18)), .ref (B + (o + 19)), .ref (B + (o + 20)), .int (f 36), .ref (B + (o + 21)), .ref (B + (o + 22)), .int (f 39), .ref (B + (o + 23)), .ref (B + (o + 24)), .ref (B + (o + 25)), .int (f 43)])
  | 12 => .inl (cy 6, 8, .inr (.inr (.inr (.inr (fun j => some (B + (o + 20 + 2 * j)))))))
  | 13 => .inl (cy 4, 5, .inr (.inr (.inr (.inr (fun j => some (B + (o + 35 + 1 * j)))))))
  | 14 => .inl (cy 6, 6, .inr (.inr (.inr (.inr (fun j => some (B + (o + 2 + 2 * j)))))))
  | 15 => .inl (cy 5, 12, .inr (.inr (.inr (.inr (fun j => some (B + (o + 1 + 15 * j)))))))
  | 16 => .inl (cy 5, 2, .inr (.inr (.inr (.inr (fun j => some (B + (o + 33 + 15 * j)))))))
  | n => if n < 20000 then .inl (cy 1, n - 10000, .inl f) else if n < 30000 then .inl (cy 0, n - 20000, .inl f) else if n < 40000 then .inl (cy 3, n - 30000, .inl f) else .inl (cy 2, n - 40000, .inr (.inl g))
def kX : List Nat := [10, 20700, 9, 12, 13, 4, 14, 10020, 7, 10016, 7, 10016, 7, 10016, 7, 10016, 7, 10016, 7, 10016, 10019, 10019, 10019, 7, 10016, 7, 10016, 7, 10016, 7, 10016, 7, 10016, 7, 10016, 7, 10016, 7, 10016, 1, 1, 1, 1, 1, 9, 12, 13, 4, 14, 10020, 7, 10016, 7, 10016, 7, 10016, 7, 10016, 7, 10016, 7, 10016, 10019, 10019, 10019, 7, 10016, 7, 10016, 7, 10016, 7, 10016, 7, 10016, 7, 10016, 7, 10016, 7, 10016, 1, 1, 1, 1, 1, 4, 14, 10020, 7, 10016, 7, 10016, 7, 10016, 7, 10016, 7, 10016, 7, 10016, 0, 15, 4, 14, 10020, 7, 10016, 7, 10016, 7, 10016, 7, 10016, 7, 10016, 7, 10016, 4, 14, 10020, 7, 10016, 7, 10016, 7, 10016, 7, 10016, 7, 10016, 7, 10016, 4, 14, 10020, 7, 10016, 7, 10016, 7, 10016, 7, 10016, 7, 10016, 7, 10016, 4, 14, 10020, 7, 10016, 7, 10016, 7, 10016, 7, 10016, 7, 10016, 7, 10016, 4, 14, 10020, 7, 10016, 7, 10016, 7, 10016, 7, 10016, 7, 10016, 7, 10016, 4, 14, 10020, 7, 10016, 7, 10016, 7, 10016, 7, 10016, 7, 10016, 7, 10016, 4, 14, 10020, 7, 10016, 7, 10016, 7, 10016, 7, 10016, 7, 10016, 7, 10016, 4, 14, 10020, 7, 10016, 7, 10016, 7, 10016, 7, 10016, 7, 10016, 7, 10016, 4, 14, 10020, 7, 10016, 7, 10016, 7, 10016, 7, 10016, 7, 10016, 7, 10016, 4, 14, 10020, 7, 10016, 7, 10016, 7, 10016, 7, 10016, 7, 10016, 7, 10016, 4, 14, 10020, 7, 10016, 7, 10016, 7, 10016, 7, 10016, 7, 10016, 7, 10016, 4, 14, 10020, 7, 10016, 7, 10016, 7, 10016, 7, 10016, 7, 10016, 7, 10016, 16, 30002, 6, 2, 10012, 10012, 10256, 10006, 8, 10006, 10010, 4, 14, 10020, 7, 10016, 7, 10016, 7, 10016, 7, 10016, 7, 10016, 7, 10016, 5, 10064, 3, 10016, 7, 10016, 1, 4, 14, 10020, 7, 10016, 7, 10016, 7, 10016, 7, 10016, 7, 10016, 7, 10016, 4, 14, 10020, 7, 10016, 7, 10016, 7, 10016, 7, 10016, 7, 10016, 7, 10016]
def kM : List Nat := [11, 20700, 10002, 10002, 10002, 10002, 40016, 40010, 40012, 10016, 10256, 10040, 10012, 10020, 10064, 10256, 10117, 11404, 10234, 30002, 10016, 10256, 10024, 10024, 10006, 10006]
def wW (cy : Nat → ClassId) (B : Nat) (ks : List Nat) (σ : St) : va_W := (List.range ks.length).map fun o => (B + o, eW cy B (σ.1 o) (σ.2 o) o (ks.getD o 0))
theorem rs_self {α : Type} (f : Nat → Nat → α) (o : Nat) (g : Nat → α) : rs f o g o = g := by simp [rs]
theorem rs_ne {α : Type} (f : Nat → Nat → α) {o q : Nat} (g : Nat → α) (h : q ≠ o) : rs f o g q = f q := by simp [rs, h]
theorem wW_len (cy : Nat → ClassId) (B : Nat) (ks : List Nat) (σ : St) : (wW cy B ks σ).length = ks.length := by simp [wW]
theorem wW_at {cy : Nat → ClassId} {B : Nat} {ks : List Nat} {σ : St} {o kd : Nat} (h : ks[o]? = some kd) : (wW cy B ks σ)[o]? = some (B + o, eW cy B (σ.1 o) (σ.2 o) o kd) := by
  obtain ⟨hl, hk⟩ := List.getElem?_eq_some_iff.mp h
  simp [wW, hl, hk]
theorem wW_put {cy : Nat → ClassId} {B : Nat} {ks : List Nat} {σ σ' : St} {o kd : Nat} {e : va_E} (h : ks[o]? = some kd) (he : eW cy B (σ'.1 o) (σ'.2 o) o kd = e) (hne : ∀ q, q ≠ o → σ'.1 q = σ.1 q ∧ σ'.2 q = σ.2 q) : (wW cy B ks σ).set o (B + o, e) = wW cy B ks σ' := by
  have hl : o < ks.length := (List.getElem?_eq_some_iff.mp h).1
  refine List.ext_getElem? fun k => ?_
  by_cases hk : k = o
  · subst hk
    rw [List.getElem?_set_self (by rw [wW_len]; exact hl), wW_at h, he]
  · rw [List.getElem?_set_ne (Ne.symm hk)]
    by_cases hkl : k < ks.length
    · have hg : ks[k]? = some (ks.getD k 0) := by simp [hkl]
      rw [wW_at hg, wW_at hg, (hne k hk).1, (hne k hk).2]
    · rw [List.getElem?_eq_none (by rw [wW_len]; omega), List.getElem?_eq_none (by rw [wW_len]; omega)]
theorem wW_D {cy : Nat → ClassId} {B : Nat} {ks : List Nat} {A : Nat → Prop} (hA : ∀ o, o < ks.length → A (B + o)) (σ : St) : va_D A (wW cy B ks σ) := by
  have key : ∀ (k : Nat) (q : Nat × va_E), (wW cy B ks σ)[k]? = some q → k < ks.length ∧ q.1 = B + k := by
    intro k q hq
    have hl : k < (wW cy B ks σ).length := (List.getElem?_eq_some_iff.mp hq).1
    rw [wW_len] at hl
    have hg : ks[k]? = some (ks.getD k 0) := by simp [hl]
    rw [wW_at hg] at hq
    cases hq
    exact ⟨hl, rfl⟩
  refine ⟨fun i j p q hi hj hpq => ?_, fun k q hk => ?_⟩
  · have h1 := (key i p hi).2
    have h2 := (key j q hj).2
    omega
  · obtain ⟨h1, h2⟩ := key k q hk
    rw [h2]
    exact hA k h1
/-- the links to private methods of nest mates -/
def NW (U : State) : Prop := va_Nw (.methodLinkNest RX1 22 yX10_mod RX10) U ∧ va_Nw (.methodLinkNest RX2 41 yX10_mod RX10) U ∧ va_Nw (.methodLinkNest RX3 52 yX10_mod RX10) U ∧ va_Nw (.methodLinkNest RX7 35 yX10_mod RX10) U ∧ va_Nw (.methodLinkNest RX8 93 yX10_mod RX10) U
theorem NW.same {u U : State} (h : u.vm = U.vm) (hN : NW u) : NW U := ⟨hN.1.same rfl h, hN.2.1.same rfl h, hN.2.2.1.same rfl h, hN.2.2.2.1.same rfl h, hN.2.2.2.2.same rfl h⟩
theorem NW.warm {s U : State} (hW : s.WarmedH U.vm) (hN : NW s) : NW U := ⟨va_Nw.warmM hW hN.1, va_Nw.warmM hW hN.2.1, va_Nw.warmM hW hN.2.2.1, va_Nw.warmM hW hN.2.2.2.1, va_Nw.warmM hW hN.2.2.2.2⟩
/-- the String constants, which no region holds -/
def sTx (i : Nat) : String := ["field", "table", "gate", "base", "node", "wire"].getD i ""
def sLen : List Nat := [5, 5, 4, 4, 4, 4]
def sByt : List (List Int32) := [[102, 105, 101, 108, 100], [116, 97, 98, 108, 101], [103, 97, 116, 101], [98, 97, 115, 101], [110, 111, 100, 101], [119, 105, 114, 101]]
def sIx (i : Nat) : Nat := [156, 162, 164, 166, 167, 169].getD i 0
def sIy (i : Nat) : Nat := [18, 24, 26, 28, 30, 32].getD i 0
def SWa (A : Nat → Prop) (U : State) : Prop := ∃ adK adV : Nat → Nat, vk_S 6 sLen sByt adK adV A U U.heap ∧ (∀ i, i < 6 → vk_R RX11 (sIx i) (sTx i) (adK i) U ∧ vk_R RX6 (sIy i) (sTx i) (adK i) U) ∧ (∃ a, vk_R RX10 161 "no such base" a U) ∧ (∃ a, vk_R RX10 185 "a base has no such part" a U) ∧ (∃ a, vk_R RX10 218 "no such wire, or no such part of it" a U) ∧ va_Z "java/lang/String" "COMPACT_STRINGS" "Z" (.int 1) A U U.heap ∧ va_Zq "jdk/internal/util/Preconditions" "SIOOBE_FORMATTER" "Ljava/util/function/BiFunction;" A U U.heap
theorem SWa.keep {A : Nat → Prop} {s U : State} (hW : s.WarmedH U.vm) (hq : ∀ a : Nat, a < s.heap.size → ¬ A a → U.heap[a]? = s.heap[a]?) (h : SWa A s) : SWa A U := by
  obtain ⟨adK, adV, h1, h2, ⟨a3, h3⟩, ⟨a4, h4⟩, ⟨a5, h5⟩, h6, h7⟩ := h
  exact ⟨adK, adV, (h1.moved hW.alike).kept hq, fun i hi => ⟨(h2 i hi).1.warm hW, (h2 i hi).2.warm hW⟩, ⟨a3, h3.warm hW⟩, ⟨a4, h4.warm hW⟩, ⟨a5, h5.warm hW⟩, (h6.moved hW.alike).kept hq, (h7.moved hW.alike).kept hq⟩
theorem SWa.same {A : Nat → Prop} {u U : State} (hv : U.vm = u.vm) (hh : U.heap = u.heap) (h : SWa A u) : SWa A U := by
  obtain ⟨adK, adV, h1, h2, ⟨a3, h3⟩, ⟨a4, h4⟩, ⟨a5, h5⟩, h6, h7⟩ := h
  have hvm : u.vm.Alike U.vm := by rw [hv]; exact Vm.Alike.refl u.vm
  exact ⟨adK, adV, (h1.moved hvm).kept (fun a _ _ => by rw [hh]), fun i hi => ⟨(h2 i hi).1.same hv, (h2 i hi).2.same hv⟩, ⟨a3, h3.same hv⟩, ⟨a4, h4.same hv⟩, ⟨a5, h5.same hv⟩, (h6.moved hvm).kept (fun a _ _ => by rw [hh]), (h7.moved hvm).kept (fun a _ _ => by rw [hh])⟩
theorem SWa.narrow {A B : Nat → Prop} {U : State} (hAB : ∀ q, B q → A q) (h : SWa A U) : SWa B U := by
  obtain ⟨adK, adV, h1, h2, h3, h4, h5, h6, h7⟩ := h
  exact ⟨adK, adV, h1.narrow hAB, h2, h3, h4, h5, h6.narrow hAB, h7.narrow hAB⟩
def AW (B n : Nat) : Nat → Prop := fun q => B ≤ q ∧ q < B + n
/-- a region's world at a state -/
def BW (D : va_G) (cy : Nat → ClassId) (B : Nat) (ks : List Nat) : St → State → Prop := fun σ t => va_P D vwCl (wW cy B ks σ) t.heap ∧ va_K D vwCl (tysW cy) t ∧ NW t ∧ SWa (AW B ks.length) t
def PcW (D : va_G) (cy : Nat → ClassId) (B : Nat) (ks : List Nat) (σ : St) (av : List Value) : Array Value → State → Prop := va_Pc av (BW D cy B ks σ)
abbrev rmD (d : Nat) : Room := { frames := d, cells := 0, slots := 0, locals := 40 * d }
theorem BW.blind {D : va_G} {cy : Nat → ClassId} {B : Nat} {ks : List Nat} {σ : St} {av : List Value} : FrameBlind (PcW D cy B ks σ av) := by
  intro a U g mk q
  obtain ⟨q0, qP, qK, qN, qS⟩ := q
  exact ⟨q0, qP, va_K.moved (u := U) (U := U.calling g mk a) (Vm.Alike.refl U.vm) qK, qN.same rfl, qS.same rfl rfl⟩
/-- what a walk of a method holds on to -/
def kC (p : Program) (s : State) (m : MethodId) (args : Array Value) (meth : Method) (c : Code) (cc : ByteArray) (nL : Nat) (ret : Option FieldType) (Ts : List Cond) (own : String) (D : va_G) (cy : Nat → ClassId) (A : Nat → Prop) : Prop :=
  (p.tables.exec = Jvm.exec ∧ c.code = cc ∧ c.maxLocals = nL ∧ s.vm.findClass own = some m.cls ∧ ∀ w ∈ Ts, w.before args s = true) ∧ meth.sig.returnType = ret ∧ meth.locks = false ∧ va_K D vwCl (tysW cy) s ∧ NW s ∧ SWa A s
section RK
variable {p : Program} {l : Launch} {e : Env} {R : Room} {s : State} {m : MethodId} {args : Array Value} {below : List Frame} {meth : Method} {c : Code} {H : Heap} {locs : List Loc} {cells slots : Nat} {Q : State → Prop}
variable {cc : ByteArray} {pc nL : Nat} {ls : Array Slot} {rest : List Value} {D : va_G} {cy : Nat → ClassId} {B : Nat} {ks : List Nat} {σ : St} {A AX : Nat → Prop} {H0 : Heap} {ret : Option FieldType} {Ts : List Cond} {own : String}
theorem rk_get (X : kC p s m args meth c cc nL ret Ts own D cy AX) (hP : va_P D vwCl (wW cy B ks σ) H) {ref C : String} {T : u_T} {N ci index o kd : Nat} (hin : ∀ w ∈ u_ws C T N, w ∈ Ts) (ho : ks[o]? = some kd) {fs : List Value} (he : eW cy B (σ.1 o) (σ.2 o) o kd = .inr (ci, fs)) (hc : vwCl[ci]? = some (C, T, N)) (k : Nat) (hk : k < N) (hlink : Cond.fieldLink own index ref (T k).2.1 (T k).2.2.1 ∈ Ts) (hsame : (T k).1 = ref) {v : Value} (hv : fs[k]? = some v) (hdg : decode cc pc = .ok (.getfield index, 3))
    (kk : W p l e R s m args below meth c H locs cells slots Q (F0 m (pc + 3) ls (v :: rest))) : W p l e R s m args below meth c H locs cells slots Q (F0 m pc ls (.ref (B + o) :: rest)) := by
  obtain ⟨⟨hx, hb, hml, hown, hts⟩, hr, hlk, hK, hN, hZ⟩ := X
  subst hsame
  exact va_get (D := D) (ci := ci) (v := v) hx hb hts hin hown hK hP o (by rw [wW_at ho, he]) hc k hk (hts _ hlink) (fun _ h => h) hv hdg kk
theorem rk_puti (X : kC p s m args meth c cc nL ret Ts own D cy AX) (hP : va_P D vwCl (wW cy B ks σ) H) (hD : ∀ σ, va_D A (wW cy B ks σ)) (hS : va_S A H0 H locs) {ref C : String} {T : u_T} {N ci index o kd : Nat} (hin : ∀ w ∈ u_ws C T N, w ∈ Ts) (ho : ks[o]? = some kd) {fs : List Value} (he : eW cy B (σ.1 o) (σ.2 o) o kd = .inr (ci, fs)) (hc : vwCl[ci]? = some (C, T, N)) (ty0 : Nat → FieldType) (hty : ∀ k, k < N → parseFieldDescriptor (T k).2.2.1 = some (ty0 k)) (hnm : ∀ a, a < N → ∀ b, b < N → a ≠ b → (T a).2.1 ≠ (T b).2.1) (k : Nat) (hk : k < N) (hlink : Cond.fieldLink own index ref (T k).2.1 (T k).2.2.1 ∈ Ts) (hsame : (T k).1 = ref) (hfin : (T k).2.2.2 = false) (hd : parseFieldDescriptor (T k).2.2.1 = some .int) {x : Int32} (hl : k < fs.length) (he' : eW cy B (upd (σ.1 o) k x) (σ.2 o) o kd = .inr (ci, fs.set k (.int x))) (hdg : decode cc pc = .ok (.putfield index, 3))
    (kk : ∀ (H : Heap) (locs : List Loc), va_P D vwCl (wW cy B ks (u1 σ o k x)) H → va_S A H0 H locs → W p l e R s m args below meth c H locs cells slots Q (F0 m (pc + 3) ls rest)) : W p l e R s m args below meth c H locs cells slots Q (F0 m pc ls (.int x :: .ref (B + o) :: rest)) := by
  obtain ⟨⟨hx, hb, hml, hown, hts⟩, hr, hlk, hK, hN, hZ⟩ := X
  subst hsame
  refine va_put (D := D) (ci := ci) (v := .int x) (ty := .int) hx hb hts hin ty0 hty hnm hown hK hP (hD _) hS o (by rw [wW_at ho, he]) hc k hk (hts _ hlink) (fun _ h => h) hfin hd rfl rfl hl hdg (fun H1 locs1 hP1 _ hS1 => ?_)
  rw [wW_put (σ := σ) (σ' := u1 σ o k x) ho (by rw [← he']; simp [u1, rs_self]) (fun q hq => ⟨rs_ne _ _ hq, rfl⟩)] at hP1
  exact kk H1 locs1 hP1 hS1
theorem rk_putl (X : kC p s m args meth c cc nL ret Ts own D cy AX) (hP : va_P D vwCl (wW cy B ks σ) H) (hD : ∀ σ, va_D A (wW cy B ks σ)) (hS : va_S A H0 H locs) {ref C : String} {T : u_T} {N ci index o kd : Nat} (hin : ∀ w ∈ u_ws C T N, w ∈ Ts) (ho : ks[o]? = some kd) {fs : List Value} (he : eW cy B (σ.1 o) (σ.2 o) o kd = .inr (ci, fs)) (hc : vwCl[ci]? = some (C, T, N)) (ty0 : Nat → FieldType) (hty : ∀ k, k < N → parseFieldDescriptor (T k).2.2.1 = some (ty0 k)) (hnm : ∀ a, a < N → ∀ b, b < N → a ≠ b → (T a).2.1 ≠ (T b).2.1) (k : Nat) (hk : k < N) (hlink : Cond.fieldLink own index ref (T k).2.1 (T k).2.2.1 ∈ Ts) (hsame : (T k).1 = ref) (hfin : (T k).2.2.2 = false) (hd : parseFieldDescriptor (T k).2.2.1 = some .long) {x : Int64} (hl : k < fs.length) (he' : eW cy B (σ.1 o) (vp_updL (σ.2 o) k x) o kd = .inr (ci, fs.set k (.long x))) (hdg : decode cc pc = .ok (.putfield index, 3))
    (kk : ∀ (H : Heap) (locs : List Loc), va_P D vwCl (wW cy B ks (u2 σ o k x)) H → va_S A H0 H locs → W p l e R s m args below meth c H locs cells slots Q (F0 m (pc + 3) ls rest)) : W p l e R s m args below meth c H locs cells slots Q (F0 m pc ls (.long x :: .ref (B + o) :: rest)) := by
  obtain ⟨⟨hx, hb, hml, hown, hts⟩, hr, hlk, hK, hN, hZ⟩ := X
  subst hsame
  refine va_put (D := D) (ci := ci) (v := .long x) (ty := .long) hx hb hts hin ty0 hty hnm hown hK hP (hD _) hS o (by rw [wW_at ho, he]) hc k hk (hts _ hlink) (fun _ h => h) hfin hd rfl rfl hl hdg (fun H1 locs1 hP1 _ hS1 => ?_)
  rw [wW_put (σ := σ) (σ' := u2 σ o k x) ho (by rw [← he']; simp [u2, rs_self]) (fun q hq => ⟨rfl, rs_ne _ _ hq⟩)] at hP1
  exact kk H1 locs1 hP1 hS1
/-- a reference that moves: its place is held as a number -/
theorem rk_putr (X : kC p s m args meth c cc nL ret Ts own D cy AX) (hP : va_P D vwCl (wW cy B ks σ) H) (hD : ∀ σ, va_D A (wW cy B ks σ)) (hS : va_S A H0 H locs) {ref C : String} {T : u_T} {N ci index o kd : Nat} (hin : ∀ w ∈ u_ws C T N, w ∈ Ts) (ho : ks[o]? = some kd) {fs : List Value} (he : eW cy B (σ.1 o) (σ.2 o) o kd = .inr (ci, fs)) (hc : vwCl[ci]? = some (C, T, N)) (ty0 : Nat → FieldType) (hty : ∀ k, k < N → parseFieldDescriptor (T k).2.2.1 = some (ty0 k)) (hnm : ∀ a, a < N → ∀ b, b < N → a ≠ b → (T a).2.1 ≠ (T b).2.1) (k : Nat) (hk : k < N) (hlink : Cond.fieldLink own index ref (T k).2.1 (T k).2.2.1 ∈ Ts) (hsame : (T k).1 = ref) (hfin : (T k).2.2.2 = false) {E : String} (hd : parseFieldDescriptor (T k).2.2.1 = some (.object E)) {t : Nat} (hl : k < fs.length) (he' : eW cy B (upd (σ.1 o) k (nI t)) (σ.2 o) o kd = .inr (ci, fs.set k (.ref (B + (nI t).toNatClampNeg)))) (ht : t < 2 ^ 31) (hdg : decode cc pc = .ok (.putfield index, 3))
    (kk : ∀ (H : Heap) (locs : List Loc), va_P D vwCl (wW cy B ks (u1 σ o k (nI t))) H → va_S A H0 H locs → W p l e R s m args below meth c H locs cells slots Q (F0 m (pc + 3) ls rest)) : W p l e R s m args below meth c H locs cells slots Q (F0 m pc ls (.ref (B + t) :: .ref (B + o) :: rest)) := by
  obtain ⟨⟨hx, hb, hml, hown, hts⟩, hr, hlk, hK, hN, hZ⟩ := X
  subst hsame
  rw [nI_clamp ht] at he'
  refine va_put (D := D) (ci := ci) (v := .ref (B + t)) (ty := .object E) hx hb hts hin ty0 hty hnm hown hK hP (hD _) hS o (by rw [wW_at ho, he]) hc k hk (hts _ hlink) (fun _ h => h) hfin hd rfl rfl hl hdg (fun H1 locs1 hP1 _ hS1 => ?_)
  rw [wW_put (σ := σ) (σ' := u1 σ o k (nI t)) ho (by rw [← he']; simp [u1, rs_self]) (fun q hq => ⟨rs_ne _ _ hq, rfl⟩)] at hP1
  exact kk H1 locs1 hP1 hS1
theorem eW_I (cy : Nat → ClassId) (B : Nat) (f : Nat → Int32) (g : Nat → Int64) (o n : Nat) (hn : n < 10000) : eW cy B f g o (10000 + n) = .inl (cy 1, n, .inl f) := by
  obtain ⟨k, hk⟩ : ∃ k, 10000 + n = k + 17 := ⟨9983 + n, by omega⟩
  have h1 : k + 17 < 20000 := by omega
  rw [hk]
  show (if k + 17 < 20000 then _ else _) = _
  rw [if_pos h1, ← hk]
  simp
theorem rk_iald (X : kC p s m args meth c cc nL ret Ts own D cy AX) (hP : va_P D vwCl (wW cy B ks σ) H) {o kd n : Nat} (ho : ks[o]? = some kd) (he : ∀ f g, eW cy B f g o kd = .inl (cy 1, n, .inl f)) {i : Int32} (hi : vp_in i n) (hdg : decode cc pc = .ok (.iaload, 1))
    (kk : W p l e R s m args below meth c H locs cells slots Q (F0 m (pc + 1) ls (.int (σ.1 o i.toNatClampNeg) :: rest))) : W p l e R s m args below meth c H locs cells slots Q (F0 m pc ls (.int i :: .ref (B + o) :: rest)) := by
  obtain ⟨⟨hx, hb, hml, hown, hts⟩, hr, hlk, hK, hN, hZ⟩ := X
  exact va_iald hx hb hK hP o 1 (by rw [wW_at ho, he]) rfl hi hdg kk
theorem rk_bald (X : kC p s m args meth c cc nL ret Ts own D cy AX) (hP : va_P D vwCl (wW cy B ks σ) H) {o kd n : Nat} (ho : ks[o]? = some kd) (he : ∀ f g, eW cy B f g o kd = .inl (cy 0, n, .inl f)) {i : Int32} (hi : vp_in i n) (hdg : decode cc pc = .ok (.baload, 1))
    (kk : W p l e R s m args below meth c H locs cells slots Q (F0 m (pc + 1) ls (.int (σ.1 o i.toNatClampNeg) :: rest))) : W p l e R s m args below meth c H locs cells slots Q (F0 m pc ls (.int i :: .ref (B + o) :: rest)) := by
  obtain ⟨⟨hx, hb, hml, hown, hts⟩, hr, hlk, hK, hN, hZ⟩ := X
  exact va_bald hx hb hK hP o 0 (by rw [wW_at ho, he]) rfl hi hdg kk
theorem rk_zald (X : kC p s m args meth c cc nL ret Ts own D cy AX) (hP : va_P D vwCl (wW cy B ks σ) H) {o kd n : Nat} (ho : ks[o]? = some kd) (he : ∀ f g, eW cy B f g o kd = .inl (cy 3, n, .inl f)) {i : Int32} (hi : vp_in i n) (hdg : decode cc pc = .ok (.baload, 1))
    (kk : W p l e R s m args below meth c H locs cells slots Q (F0 m (pc + 1) ls (.int (σ.1 o i.toNatClampNeg) :: rest))) : W p l e R s m args below meth c H locs cells slots Q (F0 m pc ls (.int i :: .ref (B + o) :: rest)) := by
  obtain ⟨⟨hx, hb, hml, hown, hts⟩, hr, hlk, hK, hN, hZ⟩ := X
  exact va_zald hx hb hK hP o 3 (by rw [wW_at ho, he]) rfl hi hdg kk
theorem rk_lald (X : kC p s m args meth c cc nL ret Ts own D cy AX) (hP : va_P D vwCl (wW cy B ks σ) H) {o kd n : Nat} (ho : ks[o]? = some kd) (he : ∀ f g, eW cy B f g o kd = .inl (cy 2, n, .inr (.inl g))) {i : Int32} (hi : vp_in i n) (hdg : decode cc pc = .ok (.laload, 1))
    (kk : W p l e R s m args below meth c H locs cells slots Q (F0 m (pc + 1) ls (.long (σ.2 o i.toNatClampNeg) :: rest))) : W p l e R s m args below meth c H locs cells slots Q (F0 m pc ls (.int i :: .ref (B + o) :: rest)) := by
  obtain ⟨⟨hx, hb, hml, hown, hts⟩, hr, hlk, hK, hN, hZ⟩ := X
  exact va_lald hx hb hK hP o 2 (by rw [wW_at ho, he]) rfl hi hdg kk
theorem rk_aald (X : kC p s m args meth c cc nL ret Ts own D cy AX) (hP : va_P D vwCl (wW cy B ks σ) H) {o kd n t0 d r : Nat} {C : String} (ho : ks[o]? = some kd) (he : ∀ f g, eW cy B f g o kd = .inl (cy t0, n, .inr (.inr (.inr (.inr (fun j => some (B + (o + d + r * j)))))))) (ht : (tysW cy)[t0]? = some (cy t0, .object C)) {i : Int32} (hi : vp_in i n) (hdg : decode cc pc = .ok (.aaload, 1))
    (kk : W p l e R s m args below meth c H locs cells slots Q (F0 m (pc + 1) ls (.ref (B + (o + d + r * i.toNatClampNeg)) :: rest))) : W p l e R s m args below meth c H locs cells slots Q (F0 m pc ls (.int i :: .ref (B + o) :: rest)) := by
  obtain ⟨⟨hx, hb, hml, hown, hts⟩, hr, hlk, hK, hN, hZ⟩ := X
  exact va_aldq (n := n) (f := fun j => some (B + (o + d + r * j))) hx hb hK hP o t0 (by rw [wW_at ho, he]) ht hi hdg kk
theorem rk_iast (X : kC p s m args meth c cc nL ret Ts own D cy AX) (hP : va_P D vwCl (wW cy B ks σ) H) (hD : ∀ σ, va_D A (wW cy B ks σ)) (hS : va_S A H0 H locs) {o kd n : Nat} (ho : ks[o]? = some kd) (he : ∀ f g, eW cy B f g o kd = .inl (cy 1, n, .inl f)) {i x : Int32} (hi : vp_in i n) (hdg : decode cc pc = .ok (.iastore, 1))
    (kk : ∀ (H : Heap) (locs : List Loc), va_P D vwCl (wW cy B ks (u1 σ o i.toNatClampNeg x)) H → va_S A H0 H locs → W p l e R s m args below meth c H locs cells slots Q (F0 m (pc + 1) ls rest)) : W p l e R s m args below meth c H locs cells slots Q (F0 m pc ls (.int x :: .int i :: .ref (B + o) :: rest)) := by
  obtain ⟨⟨hx, hb, hml, hown, hts⟩, hr, hlk, hK, hN, hZ⟩ := X
  refine va_iast hx hb hK hP (hD _) hS o 1 (by rw [wW_at ho, he]) rfl hi hdg (fun H1 locs1 hP1 _ hS1 => ?_)
  rw [wW_put (σ := σ) (σ' := u1 σ o i.toNatClampNeg x) ho (by rw [he]; simp [u1, rs_self]) (fun q hq => ⟨rs_ne _ _ hq, rfl⟩)] at hP1
  exact kk H1 locs1 hP1 hS1
theorem rk_bast (X : kC p s m args meth c cc nL ret Ts own D cy AX) (hP : va_P D vwCl (wW cy B ks σ) H) (hD : ∀ σ, va_D A (wW cy B ks σ)) (hS : va_S A H0 H locs) {o kd n : Nat} (ho : ks[o]? = some kd) (he : ∀ f g, eW cy B f g o kd = .inl (cy 0, n, .inl f)) {i x : Int32} (hi : vp_in i n) (hdg : decode cc pc = .ok (.bastore, 1))
    (kk : ∀ (H : Heap) (locs : List Loc), va_P D vwCl (wW cy B ks (u1 σ o i.toNatClampNeg (vp_nar .byte x))) H → va_S A H0 H locs → W p l e R s m args below meth c H locs cells slots Q (F0 m (pc + 1) ls rest)) : W p l e R s m args below meth c H locs cells slots Q (F0 m pc ls (.int x :: .int i :: .ref (B + o) :: rest)) := by
  obtain ⟨⟨hx, hb, hml, hown, hts⟩, hr, hlk, hK, hN, hZ⟩ := X
  refine va_bast hx hb hK hP (hD _) hS o 0 (by rw [wW_at ho, he]) rfl hi hdg (fun H1 locs1 hP1 _ hS1 => ?_)
  rw [wW_put (σ := σ) (σ' := u1 σ o i.toNatClampNeg (vp_nar .byte x)) ho (by rw [he]; simp [u1, rs_self]) (fun q hq => ⟨rs_ne _ _ hq, rfl⟩)] at hP1
  exact kk H1 locs1 hP1 hS1
theorem rk_zast (X : kC p s m args meth c cc nL ret Ts own D cy AX) (hP : va_P D vwCl (wW cy B ks σ) H) (hD : ∀ σ, va_D A (wW cy B ks σ)) (hS : va_S A H0 H locs) {o kd n : Nat} (ho : ks[o]? = some kd) (he : ∀ f g, eW cy B f g o kd = .inl (cy 3, n, .inl f)) {i x : Int32} (hi : vp_in i n) (hdg : decode cc pc = .ok (.bastore, 1))
    (kk : ∀ (H : Heap) (locs : List Loc), va_P D vwCl (wW cy B ks (u1 σ o i.toNatClampNeg (vp_nar .boolean x))) H → va_S A H0 H locs → W p l e R s m args below meth c H locs cells slots Q (F0 m (pc + 1) ls rest)) : W p l e R s m args below meth c H locs cells slots Q (F0 m pc ls (.int x :: .int i :: .ref (B + o) :: rest)) := by
  obtain ⟨⟨hx, hb, hml, hown, hts⟩, hr, hlk, hK, hN, hZ⟩ := X
  refine va_zast hx hb hK hP (hD _) hS o 3 (by rw [wW_at ho, he]) rfl hi hdg (fun H1 locs1 hP1 _ hS1 => ?_)
  rw [wW_put (σ := σ) (σ' := u1 σ o i.toNatClampNeg (vp_nar .boolean x)) ho (by rw [he]; simp [u1, rs_self]) (fun q hq => ⟨rs_ne _ _ hq, rfl⟩)] at hP1
  exact kk H1 locs1 hP1 hS1
theorem rk_last (X : kC p s m args meth c cc nL ret Ts own D cy AX) (hP : va_P D vwCl (wW cy B ks σ) H) (hD : ∀ σ, va_D A (wW cy B ks σ)) (hS : va_S A H0 H locs) {o kd n : Nat} (ho : ks[o]? = some kd) (he : ∀ f g, eW cy B f g o kd = .inl (cy 2, n, .inr (.inl g))) {i : Int32} {x : Int64} (hi : vp_in i n) (hdg : decode cc pc = .ok (.lastore, 1))
    (kk : ∀ (H : Heap) (locs : List Loc), va_P D vwCl (wW cy B ks (u2 σ o i.toNatClampNeg x)) H → va_S A H0 H locs → W p l e R s m args below meth c H locs cells slots Q (F0 m (pc + 1) ls rest)) : W p l e R s m args below meth c H locs cells slots Q (F0 m pc ls (.long x :: .int i :: .ref (B + o) :: rest)) := by
  obtain ⟨⟨hx, hb, hml, hown, hts⟩, hr, hlk, hK, hN, hZ⟩ := X
  refine va_last hx hb hK hP (hD _) hS o 2 (by rw [wW_at ho, he]) rfl hi hdg (fun H1 locs1 hP1 _ hS1 => ?_)
  rw [wW_put (σ := σ) (σ' := u2 σ o i.toNatClampNeg x) ho (by rw [he]; simp [u2, rs_self]) (fun q hq => ⟨rfl, rs_ne _ _ hq⟩)] at hP1
  exact kk H1 locs1 hP1 hS1
theorem rk_alen (X : kC p s m args meth c cc nL ret Ts own D cy AX) (hP : va_P D vwCl (wW cy B ks σ) H) {o kd n t0 : Nat} {x : (Nat → Int32) ⊕ (Nat → Int64) ⊕ (Nat → UInt32) ⊕ (Nat → UInt64) ⊕ (Nat → Option Nat)} {ty : FieldType} (ho : ks[o]? = some kd) (he : eW cy B (σ.1 o) (σ.2 o) o kd = .inl (cy t0, n, x)) (ht : (tysW cy)[t0]? = some (cy t0, ty)) (hdg : decode cc pc = .ok (.arraylength, 1))
    (kk : W p l e R s m args below meth c H locs cells slots Q (F0 m (pc + 1) ls (.int (nI n) :: rest))) : W p l e R s m args below meth c H locs cells slots Q (F0 m pc ls (.ref (B + o) :: rest)) := by
  obtain ⟨⟨hx, hb, hml, hown, hts⟩, hr, hlk, hK, hN, hZ⟩ := X
  exact va_alen (x := (n, x)) hx hb hK hP o t0 (by rw [wW_at ho, he]) ht rfl hdg kk
theorem rk_copyi (X : kC p s m args meth c cc nL ret Ts own D cy AX) (hls : ls.size = nL) (hP : va_P D vwCl (wW cy B ks σ) H) (hD : ∀ σ, va_D A (wW cy B ks σ)) (hS : va_S A H0 H locs) {index : Nat} (hlink : Cond.methodLink own index arraycopyName ∈ Ts) (hnat : Cond.native arraycopyName ∈ Ts) (hstat : Cond.static arraycopyName ∈ Ts) (hini : Cond.initialized "java/lang/System" ∈ Ts) {o0 o1 kd0 kd1 n0 n1 : Nat} (ho0 : ks[o0]? = some kd0) (he0 : ∀ f g, eW cy B f g o0 kd0 = .inl (cy 1, n0, .inl f)) (ho1 : ks[o1]? = some kd1) (he1 : ∀ f g, eW cy B f g o1 kd1 = .inl (cy 1, n1, .inl f)) {sp dp n : Int32} (h : (¬ sp < 0) ∧ (¬ dp < 0) ∧ (¬ n < 0) ∧ sp.toNatClampNeg + n.toNatClampNeg ≤ n0 ∧ dp.toNatClampNeg + n.toNatClampNeg ≤ n1)
    (hframes : 1 ≤ R.frames) (hlocals : (rest.map fun v => v.category).sum + (nativeFrameWords "java/lang/System" "arraycopy" 5 + 11) ≤ R.locals) (hdg : decode cc pc = .ok (.invokestatic index, 3))
    (kk : ∀ (H : Heap) (locs : List Loc), va_P D vwCl (wW cy B ks (r1 σ o1 (va_cpy (σ.1 o0) (σ.1 o1) sp.toNatClampNeg dp.toNatClampNeg n.toNatClampNeg))) H → va_S A H0 H locs → W p l e R s m args below meth c H locs cells slots Q (F0 m (pc + 3) ls rest)) : W p l e R s m args below meth c H locs cells slots Q (F0 m pc ls (.int n :: .int dp :: .ref (B + o1) :: .int sp :: .ref (B + o0) :: rest)) := by
  obtain ⟨⟨hx, hb, hml, hown, hts⟩, hr, hlk, hK, hN, hZ⟩ := X
  obtain ⟨h1, h2, h3, h4, h5⟩ := h
  refine va_copyi hx hb (hml.trans hls.symm) hown (hts _ hlink) (hts _ hnat) (hts _ hstat) (hts _ hini) hK hP (hD _) hS o0 o1 1 1 (ty := .int) (by rw [wW_at ho0, he0]) (by rw [wW_at ho1, he1]) rfl rfl rfl h1 h2 h3 h4 h5 (fun _ _ => rfl) hframes hlocals hdg (fun H1 locs1 hP1 _ hS1 => ?_)
  rw [wW_put (σ := σ) (σ' := r1 σ o1 (va_cpy (σ.1 o0) (σ.1 o1) sp.toNatClampNeg dp.toNatClampNeg n.toNatClampNeg)) ho1 (by rw [he1]; simp [r1, rs_self]) (fun q hq => ⟨rs_ne _ _ hq, rfl⟩)] at hP1
  exact kk H1 locs1 hP1 hS1
theorem rk_preV (X : kC p s m args meth c cc nL ret Ts own D cy (AW B ks.length)) (hS : va_S (AW B ks.length) s.heap H locs) (hP : va_P D vwCl (wW cy B ks σ) H) {C : String} {T : u_T} {N ci o kd : Nat} (ho : ks[o]? = some kd) {fs : List Value} (he : eW cy B (σ.1 o) (σ.2 o) o kd = .inr (ci, fs)) (hc : vwCl[ci]? = some (C, T, N)) (As : List Value) : PreV s H C (B + o) (PcW D cy B ks σ (.ref (B + o) :: As)) As := by
  obtain ⟨⟨hx, hb, hml, hown, hts⟩, hr, hlk, hK, hN, hZ⟩ := X
  refine ⟨BW.blind, va_recv hK hP (ci := ci) (q := (C, T, N)) (q0 := o) hc (by rw [wW_at ho, he]), fun U hU hW => ⟨rfl, by rw [hU]; exact hP, va_K.moved hW.alike hK, hN.warm hW, hZ.keep hW (fun a h1 h2 => by rw [hU]; exact hS.2.1 a h1 h2)⟩⟩
theorem rk_preS (X : kC p s m args meth c cc nL ret Ts own D cy (AW B ks.length)) (hS : va_S (AW B ks.length) s.heap H locs) (hP : va_P D vwCl (wW cy B ks σ) H) (As : List Value) : PreS s H (PcW D cy B ks σ As) As := by
  obtain ⟨⟨hx, hb, hml, hown, hts⟩, hr, hlk, hK, hN, hZ⟩ := X
  exact ⟨BW.blind, fun U hU hW => ⟨rfl, by rw [hU]; exact hP, va_K.moved hW.alike hK, hN.warm hW, hZ.keep hW (fun a h1 h2 => by rw [hU]; exact hS.2.1 a h1 h2)⟩⟩
theorem rk_calli {post : Int32 → St → Prop} {n : Nat} {a : Array Value} {st0 : List Value} (run : va_Run p l e R s m args below meth c H locs cells slots 0 0 (F0 m pc ls st0) rest (va_Qi post (BW D cy B ks) (AW B n) a) (AW B n)) (hS : va_S A H0 H locs) (hA : ∀ q, AW B n q → A q)
    (kk : ∀ (r : Int32) (σ' : St) (H : Heap) (locs : List Loc), post r σ' → va_P D vwCl (wW cy B ks σ') H → va_S A H0 H locs → W p l e R s m args below meth c H locs cells slots Q (F0 m (pc + 3) ls (.int r :: rest))) : W p l e R s m args below meth c H locs cells slots Q (F0 m pc ls st0) :=
  va_calli run hS (fun q _ h => hA q h) hA (fun r u t H1 locs1 ht hvm hp hB _ _ hS1 => kk r u H1 locs1 hp (by rw [← ht]; exact hB.1) hS1)
theorem rk_calll {post : Int64 → St → Prop} {n : Nat} {a : Array Value} {st0 : List Value} (run : va_Run p l e R s m args below meth c H locs cells slots 0 0 (F0 m pc ls st0) rest (va_Ql post (BW D cy B ks) (AW B n) a) (AW B n)) (hS : va_S A H0 H locs) (hA : ∀ q, AW B n q → A q)
    (kk : ∀ (r : Int64) (σ' : St) (H : Heap) (locs : List Loc), post r σ' → va_P D vwCl (wW cy B ks σ') H → va_S A H0 H locs → W p l e R s m args below meth c H locs cells slots Q (F0 m (pc + 3) ls (.long r :: rest))) : W p l e R s m args below meth c H locs cells slots Q (F0 m pc ls st0) :=
  va_calll run hS (fun q _ h => hA q h) hA (fun r u t H1 locs1 ht hvm hp hB _ _ hS1 => kk r u H1 locs1 hp (by rw [← ht]; exact hB.1) hS1)
theorem rk_callv {post : St → Prop} {n : Nat} {a : Array Value} {st0 : List Value} (run : va_Run p l e R s m args below meth c H locs cells slots 0 0 (F0 m pc ls st0) rest (va_Qv post (BW D cy B ks) (AW B n) a) (AW B n)) (hS : va_S A H0 H locs) (hA : ∀ q, AW B n q → A q)
    (kk : ∀ (σ' : St) (H : Heap) (locs : List Loc), post σ' → va_P D vwCl (wW cy B ks σ') H → va_S A H0 H locs → W p l e R s m args below meth c H locs cells slots Q (F0 m (pc + 3) ls rest)) : W p l e R s m args below meth c H locs cells slots Q (F0 m pc ls st0) :=
  va_callv run hS (fun q _ h => hA q h) hA (fun u t H1 locs1 ht hvm hp hB _ _ hS1 => kk u H1 locs1 hp (by rw [← ht]; exact hB.1) hS1)
theorem rk_iret {post : Int32 → St → Prop} {n : Nat} {v : Int32} {ty : FieldType} (X : kC p s m args meth c cc nL (some ty) Ts own D cy (AW B n)) (hn : narrow ty (.int v) = .int v) (hn0 : ks.length = n) (h : post v σ) (hP : va_P D vwCl (wW cy B ks σ) H) (hS : va_S (AW B n) s.heap H locs) (hdg : decode cc pc = .ok (.ireturn, 1)) : W p l e R s m args below meth c H locs cells slots (MQ below (va_Qi post (BW D cy B ks) (AW B n)) args s cells slots (AW B n)) (F0 m pc ls [.int v]) := by
  obtain ⟨⟨hx, hb, hml, hown, hts⟩, hr, hlk, hK, hN, hZ⟩ := X
  exact W.zret hx hb hr hn (fun t ht hW => ⟨⟨v, σ, rfl, h, by rw [ht]; exact hP, va_K.moved hW.alike hK, hN.warm hW, by subst hn0; exact hZ.keep hW (fun a h1 h2 => by rw [ht]; exact hS.2.1 a h1 h2)⟩, hS.F ht⟩) hS.2.2 hdg
theorem rk_lret {post : Int64 → St → Prop} {n : Nat} {v : Int64} (X : kC p s m args meth c cc nL (some .long) Ts own D cy (AW B n)) (hn0 : ks.length = n) (h : post v σ) (hP : va_P D vwCl (wW cy B ks σ) H) (hS : va_S (AW B n) s.heap H locs) (hdg : decode cc pc = .ok (.lreturn, 1)) : W p l e R s m args below meth c H locs cells slots (MQ below (va_Ql post (BW D cy B ks) (AW B n)) args s cells slots (AW B n)) (F0 m pc ls [.long v]) := by
  obtain ⟨⟨hx, hb, hml, hown, hts⟩, hr, hlk, hK, hN, hZ⟩ := X
  exact W.lret hx hb hr (fun t ht hW => ⟨⟨v, σ, rfl, h, by rw [ht]; exact hP, va_K.moved hW.alike hK, hN.warm hW, by subst hn0; exact hZ.keep hW (fun a h1 h2 => by rw [ht]; exact hS.2.1 a h1 h2)⟩, hS.F ht⟩) hS.2.2 hdg
theorem rk_vret {post : St → Prop} {n : Nat} (X : kC p s m args meth c cc nL none Ts own D cy (AW B n)) (hn0 : ks.length = n) (h : post σ) (hP : va_P D vwCl (wW cy B ks σ) H) (hS : va_S (AW B n) s.heap H locs) (hdg : decode cc pc = .ok (.return_, 1)) : W p l e R s m args below meth c H locs cells slots (MQ below (va_Qv post (BW D cy B ks) (AW B n)) args s cells slots (AW B n)) (F0 m pc ls []) := by
  obtain ⟨⟨hx, hb, hml, hown, hts⟩, hr, hlk, hK, hN, hZ⟩ := X
  exact W.vret hx hb hr (fun t ht hW => ⟨⟨σ, rfl, h, by rw [ht]; exact hP, va_K.moved hW.alike hK, hN.warm hW, by subst hn0; exact hZ.keep hW (fun a h1 h2 => by rw [ht]; exact hS.2.1 a h1 h2)⟩, hS.F ht⟩) hS.2.2 hdg
end RK
theorem AW_D {cy : Nat → ClassId} {B : Nat} {ks : List Nat} {n : Nat} (hn : ks.length = n) (σ : St) : va_D (AW B n) (wW cy B ks σ) := wW_D (fun o ho => ⟨by omega, by omega⟩) σ
theorem kX_len : kX.length = 346 := by decide +kernel
theorem kM_len : kM.length = 26 := by decide +kernel
theorem kX_lt {o kd : Nat} (h : kX[o]? = some kd) : o < 346 := by rw [← kX_len]; exact (List.getElem?_eq_some_iff.mp h).1
theorem Met.ofWF {l : Launch} {y : MethodName} {ws ws' : List Cond} {rm : Room} {Pc : Array Value → State → Prop} {Qc : Array Value → State → Outcome → State → Prop} {mc ms : Nat} {free : Addr → Prop} {cc : ByteArray} {maxL : Nat} {ret : Option FieldType}
    (hy : plainFor y = true) (hw : ws = Cond.code y cc maxL ret :: ws')
    (body : ∀ p e s m args below meth c s₁, BodyLoose p l y (headSpec ws rm) cc maxL ret e s m args below meth c s₁ → c.maxLocals = maxL → Pc args s →
      W p l e (headSpec ws rm).room s m args below meth c s.heap [] 0 0 (MQ below Qc args s mc ms free) (entryFrame m args maxL)) : Met l y ws rm Pc Qc mc ms free := by
  refine MetFree.of_bodySF (code := cc) (maxLocals := maxL) (ret := ret) hy ?_ ?_
  · intro args s m h hn
    obtain ⟨meth, c, h1, h2, h3, h4, h5, h6, -, -⟩ := Cond.code_spec hn (atoms_spec (ws := ws) h _ (by rw [hw]; exact List.mem_cons_self))
    exact ⟨meth, c, h1, h2, h3, h4, h5, h6⟩
  · intro p e s m args below meth c s₁ B hml hP _
    have hh0 : s₁.heap = s.heap := by rw [B.state]; rfl
    obtain ⟨t, a1, o, b1, b2, b3⟩ := body p e s m args below meth c s₁ B hml hP s₁ hh0 (Stand.of_body B)
    exact ⟨t, o, a1, b1, b2, ⟨b3.1, b3.2⟩⟩
/-- a method's body begins: the walk's holdings, the start's world, the locals -/
theorem Met.ofK {l : Launch} {y : MethodName} {ws : List Cond} {d n : Nat} {Qc : Array Value → State → Outcome → State → Prop} {cc : ByteArray} {maxL : Nat} {ret : Option FieldType} {D : va_G} {cy : Nat → ClassId} {B : Nat} {ks : List Nat} {σ : St} {av : List Value}
    (hy : plainFor y = true) (hw : ws = Cond.code y cc maxL ret :: WALL) (hn0 : ks.length = n)
    (body : ∀ p e s m below meth c, kC p s m av.toArray meth c cc maxL ret WALL y.cls D cy (AW B n) → va_P D vwCl (wW cy B ks σ) s.heap →
      W p l e (rmD d) s m av.toArray below meth c s.heap [] 0 0 (MQ below Qc av.toArray s 0 0 (AW B n)) (entryFrame m av.toArray maxL)) : Met l y ws (rmD d) (PcW D cy B ks σ av) Qc 0 0 (AW B n) := by
  refine Met.ofWF hy hw ?_
  intro p e s m args below meth c s₁ B0 hml hv
  obtain ⟨rfl, hP, hK, hN, hZ⟩ := hv
  rw [hn0] at hZ
  exact body p e s m below meth c ⟨⟨B0.exec, B0.bytes, hml, findClass_of_methodNamed B0.named, fun w h => atoms_spec (ws := ws) B0.pre w (by rw [hw]; exact List.mem_cons_of_mem _ h)⟩, B0.returns, B0.notSynchronized, hK, hN, hZ⟩ hP
theorem gW_C {y : MethodName} {bytes : ByteArray} {maxL : Nat} {ret : Option FieldType} (h5 : Cond.code y bytes maxL ret ∈ WALL) : GoodIn WALL (Cond.code y bytes maxL ret :: WALL) := fun w h => by
  have hw : w ∈ WALL := by
    rcases List.mem_cons.mp h with rfl | h
    · exact h5
    · exact h
  exact ⟨hw, good_of_word (WALL_good w hw)⟩
theorem gW_V {own C : String} {idx : Nat} {y : MethodName} {bytes : ByteArray} {maxL : Nat} {ret : Option FieldType} (h1 : Cond.methodLink own idx y ∈ WALL) (h2 : Cond.instanceMethod y ∈ WALL) (h3 : Cond.selects C y y ∈ WALL) (h4 : Cond.initialized C ∈ WALL) (h5 : Cond.code y bytes maxL ret ∈ WALL) : GoodIn WALL (wsV own idx C y (Cond.code y bytes maxL ret :: WALL)) := by
  refine goodIn_app (fun w h => ?_) (gW_C h5)
  have hw : w ∈ WALL := by
    simp only [List.mem_cons, List.not_mem_nil, or_false] at h
    rcases h with rfl | rfl | rfl | rfl
    · exact h1
    · exact h2
    · exact h3
    · exact h4
  exact ⟨hw, good_of_word (WALL_good w hw)⟩
theorem gW_S {own : String} {idx : Nat} {y : MethodName} {bytes : ByteArray} {maxL : Nat} {ret : Option FieldType} (h1 : Cond.methodLink own idx y ∈ WALL) (h2 : Cond.static y ∈ WALL) (h4 : Cond.initialized y.cls ∈ WALL) (h5 : Cond.code y bytes maxL ret ∈ WALL) : GoodIn WALL (va_wsS own idx y (Cond.code y bytes maxL ret :: WALL)) := by
  refine goodIn_app (fun w h => ?_) (gW_C h5)
  have hw : w ∈ WALL := by
    simp only [List.mem_cons, List.not_mem_nil, or_false] at h
    rcases h with rfl | rfl | rfl
    · exact h1
    · exact h2
    · exact h4
  exact ⟨hw, good_of_word (WALL_good w hw)⟩

